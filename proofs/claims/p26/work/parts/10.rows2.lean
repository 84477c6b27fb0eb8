/-! ===== rows of the methods, printed by wip/whole/gen2.py ===== -/
section ZU2
variable {sc : Nat × (Nat → Int32)} {h : zA} {Q : Option Value → zA → Prop} {p : Nat → Option Nat} {iv : Nat → Nat → Int32} {l0 l1 l2 l3 l4 l5 l6 l7 l8 l9 l10 l11 t0 t1 t2 t3 t4 t5 t6 v1 v2 : Value} {x x1 x2 z0 z1 z2 z3 : Int32} {j1 j2 : Int64} {a b0 b1 b2 : Nat}
/-! method 76: FieldMixtures.isPart(I)Z -/
theorem dz76_0 : decode (z_code 76) 0 = .ok (.iload_n 0, 1) := by decide +kernel
theorem u76_0 : zEv sc 76 0 [.int x] [] h Q ↔ zEv sc 76 1 [.int x] [.int x] h Q := zE_pure (q := (1, [.int x], [.int x])) dz76_0 rfl rfl rfl
theorem dz76_1 : decode (z_code 76) 1 = .ok (.iconst 0, 1) := by decide +kernel
theorem u76_1 : zEv sc 76 1 [l0] [t0] h Q ↔ zEv sc 76 2 [l0] [.int 0, t0] h Q := zE_iconst dz76_1 (by decide +kernel)
theorem dz76_2 : decode (z_code 76) 2 = .ok (.iconst 1, 1) := by decide +kernel
theorem u76_2 : zEv sc 76 2 [l0] [t0, t1] h Q ↔ zEv sc 76 3 [l0] [.int 1, t0, t1] h Q := zE_iconst dz76_2 (by decide +kernel)
theorem dz76_3 : decode (z_code 76) 3 = .ok (.invokestatic 67, 3) := by decide +kernel
theorem u76_3 : zEv sc 76 3 [l0] [.int z2, .int z1, .int z0] h Q ↔ zEv sc 15 0 [.int z0, .int z1, .int z2] [] h (fun r h9 => zEv sc 76 6 [l0] (r.toList ++ []) h9 Q) := zE_call (kd := 1) (na := 3) (nr := 0) (as := [.int z0, .int z1, .int z2]) (rest := []) (Or.inr ⟨rfl, rfl⟩) dz76_3 (by decide +kernel : z_lk2 zCT (z_cls 76) 67 = some (15, 0, 304)) (fun _ => ⟨by decide +kernel, by decide +kernel⟩) rfl rfl rfl (by decide +kernel) rfl rfl (Or.inl rfl)
theorem dz76_6 : decode (z_code 76) 6 = .ok (.ireturn, 1) := by decide +kernel
theorem u76_6 : zEv sc 76 6 [l0] [.int x] h Q ↔ ((x = 0 ∨ x = 1) ∧ Q (some (.int x)) h) := zE_rz dz76_6 (by decide +kernel)
/-! method 77: FieldMixtures.mean(III)I -/
theorem dz77_0 : decode (z_code 77) 0 = .ok (.iload_n 1, 1) := by decide +kernel
theorem u77_0 : zEv sc 77 0 [l0, .int x, l2, l3, l4, l5, l6] [] h Q ↔ zEv sc 77 1 [l0, .int x, l2, l3, l4, l5, l6] [.int x] h Q := zE_pure (q := (1, [l0, .int x, l2, l3, l4, l5, l6], [.int x])) dz77_0 rfl rfl rfl
theorem dz77_1 : decode (z_code 77) 1 = .ok (.invokestatic 92, 3) := by decide +kernel
theorem u77_1 : zEv sc 77 1 [l0, l1, l2, l3, l4, l5, l6] [.int z0] h Q ↔ zEv sc 47 0 [.int z0] [] h (fun r h9 => zEv sc 77 4 [l0, l1, l2, l3, l4, l5, l6] (r.toList ++ []) h9 Q) := zE_call (kd := 1) (na := 1) (nr := 0) (as := [.int z0]) (rest := []) (Or.inr ⟨rfl, rfl⟩) dz77_1 (by decide +kernel : z_lk2 zCT (z_cls 77) 92 = some (47, 0, 359)) (fun _ => ⟨by decide +kernel, by decide +kernel⟩) rfl rfl rfl (by decide +kernel) rfl rfl (Or.inl rfl)
theorem dz77_4 : decode (z_code 77) 4 = .ok (.ifCond .eq 21, 3) := by decide +kernel
theorem u77_4 : zEv sc 77 4 [l0, l1, l2, l3, l4, l5, l6] [.int x] h Q ↔ (if x = 0 then zEv sc 77 25 [l0, l1, l2, l3, l4, l5, l6] [] h Q else zEv sc 77 7 [l0, l1, l2, l3, l4, l5, l6] [] h Q) := zE_ifP (P := x = 0) inferInstance 25 dz77_4 rfl rfl
theorem dz77_7 : decode (z_code 77) 7 = .ok (.aload_n 0, 1) := by decide +kernel
theorem u77_7 : zEv sc 77 7 [.ref a, l1, l2, l3, l4, l5, l6] [] h Q ↔ zEv sc 77 8 [.ref a, l1, l2, l3, l4, l5, l6] [.ref a] h Q := zE_pure (q := (8, [.ref a, l1, l2, l3, l4, l5, l6], [.ref a])) dz77_7 rfl rfl rfl
theorem dz77_8 : decode (z_code 77) 8 = .ok (.getfield 10, 3) := by decide +kernel
theorem u77_8 (ho : zO a 9) : zEv sc 77 8 [l0, l1, l2, l3, l4, l5, l6] [.ref a] (zst p iv) Q ↔ zRef (zRV p a 0) (fun j => zEv sc 77 11 [l0, l1, l2, l3, l4, l5, l6] [.ref j] (zst p iv) Q) := zE_gfR dz77_8 (by decide +kernel : z_lk3 zFT (z_cls 77) 10 = some (9, 0, 0, 269)) (by decide +kernel) ho
theorem dz77_11 : decode (z_code 77) 11 = .ok (.iload_n 2, 1) := by decide +kernel
theorem u77_11 : zEv sc 77 11 [l0, l1, .int x, l3, l4, l5, l6] [t0] h Q ↔ zEv sc 77 12 [l0, l1, .int x, l3, l4, l5, l6] [.int x, t0] h Q := zE_pure (q := (12, [l0, l1, .int x, l3, l4, l5, l6], [.int x, t0])) dz77_11 rfl rfl rfl
theorem dz77_12 : decode (z_code 77) 12 = .ok (.invokevirtual 84, 3) := by decide +kernel
theorem u77_12 (ho : zO a 2) : zEv sc 77 12 [l0, l1, l2, l3, l4, l5, l6] [.int z0, .ref a] (zst p iv) Q ↔ zEv sc 16 0 [.ref a, .int z0] [] (zst p iv) (fun r h9 => zEv sc 77 15 [l0, l1, l2, l3, l4, l5, l6] (r.toList ++ []) h9 Q) := zE_call (kd := 0) (na := 2) (nr := 0) (as := [.ref a, .int z0]) (rest := []) (Or.inl ⟨rfl, rfl⟩) dz77_12 (by decide +kernel : z_lk2 zCT (z_cls 77) 84 = some (16, 1, 421)) (fun z => by cases z) rfl rfl rfl (by decide +kernel) rfl rfl (Or.inr (zE_rc ho))
theorem dz77_15 : decode (z_code 77) 15 = .ok (.ifCond .eq 10, 3) := by decide +kernel
theorem u77_15 : zEv sc 77 15 [l0, l1, l2, l3, l4, l5, l6] [.int x] h Q ↔ (if x = 0 then zEv sc 77 25 [l0, l1, l2, l3, l4, l5, l6] [] h Q else zEv sc 77 18 [l0, l1, l2, l3, l4, l5, l6] [] h Q) := zE_ifP (P := x = 0) inferInstance 25 dz77_15 rfl rfl
theorem dz77_18 : decode (z_code 77) 18 = .ok (.iload_n 3, 1) := by decide +kernel
theorem u77_18 : zEv sc 77 18 [l0, l1, l2, .int x, l4, l5, l6] [] h Q ↔ zEv sc 77 19 [l0, l1, l2, .int x, l4, l5, l6] [.int x] h Q := zE_pure (q := (19, [l0, l1, l2, .int x, l4, l5, l6], [.int x])) dz77_18 rfl rfl rfl
theorem dz77_19 : decode (z_code 77) 19 = .ok (.invokestatic 200, 3) := by decide +kernel
theorem u77_19 : zEv sc 77 19 [l0, l1, l2, l3, l4, l5, l6] [.int z0] h Q ↔ zEv sc 76 0 [.int z0] [] h (fun r h9 => zEv sc 77 22 [l0, l1, l2, l3, l4, l5, l6] (r.toList ++ []) h9 Q) := zE_call (kd := 1) (na := 1) (nr := 0) (as := [.int z0]) (rest := []) (Or.inr ⟨rfl, rfl⟩) dz77_19 (by decide +kernel : z_lk2 zCT (z_cls 77) 200 = some (76, 0, 426)) (fun _ => ⟨by decide +kernel, by decide +kernel⟩) rfl rfl rfl (by decide +kernel) rfl rfl (Or.inl rfl)
theorem dz77_22 : decode (z_code 77) 22 = .ok (.ifCond .ne 6, 3) := by decide +kernel
theorem u77_22 : zEv sc 77 22 [l0, l1, l2, l3, l4, l5, l6] [.int x] h Q ↔ (if ¬ x = 0 then zEv sc 77 28 [l0, l1, l2, l3, l4, l5, l6] [] h Q else zEv sc 77 25 [l0, l1, l2, l3, l4, l5, l6] [] h Q) := zE_ifP (P := ¬ x = 0) inferInstance 28 dz77_22 rfl rfl
theorem dz77_28 : decode (z_code 77) 28 = .ok (.aload_n 0, 1) := by decide +kernel
theorem u77_28 : zEv sc 77 28 [.ref a, l1, l2, l3, l4, l5, l6] [] h Q ↔ zEv sc 77 29 [.ref a, l1, l2, l3, l4, l5, l6] [.ref a] h Q := zE_pure (q := (29, [.ref a, l1, l2, l3, l4, l5, l6], [.ref a])) dz77_28 rfl rfl rfl
theorem dz77_29 : decode (z_code 77) 29 = .ok (.getfield 10, 3) := by decide +kernel
theorem u77_29 (ho : zO a 9) : zEv sc 77 29 [l0, l1, l2, l3, l4, l5, l6] [.ref a] (zst p iv) Q ↔ zRef (zRV p a 0) (fun j => zEv sc 77 32 [l0, l1, l2, l3, l4, l5, l6] [.ref j] (zst p iv) Q) := zE_gfR dz77_29 (by decide +kernel : z_lk3 zFT (z_cls 77) 10 = some (9, 0, 0, 269)) (by decide +kernel) ho
theorem dz77_32 : decode (z_code 77) 32 = .ok (.iload_n 1, 1) := by decide +kernel
theorem u77_32 : zEv sc 77 32 [l0, .int x, l2, l3, l4, l5, l6] [t0] h Q ↔ zEv sc 77 33 [l0, .int x, l2, l3, l4, l5, l6] [.int x, t0] h Q := zE_pure (q := (33, [l0, .int x, l2, l3, l4, l5, l6], [.int x, t0])) dz77_32 rfl rfl rfl
theorem dz77_33 : decode (z_code 77) 33 = .ok (.invokevirtual 95, 3) := by decide +kernel
theorem u77_33 (ho : zO a 2) : zEv sc 77 33 [l0, l1, l2, l3, l4, l5, l6] [.int z0, .ref a] (zst p iv) Q ↔ zEv sc 14 0 [.ref a, .int z0] [] (zst p iv) (fun r h9 => zEv sc 77 36 [l0, l1, l2, l3, l4, l5, l6] (r.toList ++ []) h9 Q) := zE_call (kd := 0) (na := 2) (nr := 0) (as := [.ref a, .int z0]) (rest := []) (Or.inl ⟨rfl, rfl⟩) dz77_33 (by decide +kernel : z_lk2 zCT (z_cls 77) 95 = some (14, 1, 307)) (fun z => by cases z) rfl rfl rfl (by decide +kernel) rfl rfl (Or.inr (zE_rc ho))
theorem dz77_36 : decode (z_code 77) 36 = .ok (.getfield 107, 3) := by decide +kernel
theorem u77_36 (ho : zO a 6) : zEv sc 77 36 [l0, l1, l2, l3, l4, l5, l6] [.ref a] (zst p iv) Q ↔ zRef (zRV p a 2) (fun j => zEv sc 77 39 [l0, l1, l2, l3, l4, l5, l6] [.ref j] (zst p iv) Q) := zE_gfR dz77_36 (by decide +kernel : z_lk3 zFT (z_cls 77) 107 = some (6, 2, 1, 114)) (by decide +kernel) ho
theorem dz77_39 : decode (z_code 77) 39 = .ok (.astore 4, 2) := by decide +kernel
theorem u77_39 : zEv sc 77 39 [l0, l1, l2, l3, l4, l5, l6] [.ref a] h Q ↔ zEv sc 77 41 [l0, l1, l2, l3, .ref a, l5, l6] [] h Q := zE_pure (q := (41, [l0, l1, l2, l3, .ref a, l5, l6], [])) dz77_39 rfl rfl rfl
theorem dz77_41 : decode (z_code 77) 41 = .ok (.aload 4, 2) := by decide +kernel
theorem u77_41 : zEv sc 77 41 [l0, l1, l2, l3, .ref a, l5, l6] [] h Q ↔ zEv sc 77 43 [l0, l1, l2, l3, .ref a, l5, l6] [.ref a] h Q := zE_pure (q := (43, [l0, l1, l2, l3, .ref a, l5, l6], [.ref a])) dz77_41 rfl rfl rfl
theorem dz77_43 : decode (z_code 77) 43 = .ok (.getfield 111, 3) := by decide +kernel
theorem u77_43 (ho : zO a 4) : zEv sc 77 43 [l0, l1, l2, l3, l4, l5, l6] [.ref a] (zst p iv) Q ↔ zEv sc 77 46 [l0, l1, l2, l3, l4, l5, l6] [.int (iv a 0)] (zst p iv) Q := zE_gfI dz77_43 (by decide +kernel : z_lk3 zFT (z_cls 77) 111 = some (4, 0, 1, 88)) (by decide +kernel) ho
theorem dz77_46 : decode (z_code 77) 46 = .ok (.ifCond .ne 6, 3) := by decide +kernel
theorem u77_46 : zEv sc 77 46 [l0, l1, l2, l3, l4, l5, l6] [.int x] h Q ↔ (if ¬ x = 0 then zEv sc 77 52 [l0, l1, l2, l3, l4, l5, l6] [] h Q else zEv sc 77 49 [l0, l1, l2, l3, l4, l5, l6] [] h Q) := zE_ifP (P := ¬ x = 0) inferInstance 52 dz77_46 rfl rfl
theorem dz77_49 : decode (z_code 77) 49 = .ok (.ldc 155, 2) := by decide +kernel
theorem u77_49 : zEv sc 77 49 [l0, l1, l2, l3, l4, l5, l6] [] h Q ↔ zEv sc 77 51 [l0, l1, l2, l3, l4, l5, l6] [.int (-1000002)] h Q := zE_ldc (by decide +kernel : z_lkK zKT (z_cls 77) 155 = some ((-1000002), 324)) dz77_49
theorem dz77_51 : decode (z_code 77) 51 = .ok (.ireturn, 1) := by decide +kernel
theorem u77_51 : zEv sc 77 51 [l0, l1, l2, l3, l4, l5, l6] [.int x] h Q ↔ Q (some (.int x)) h := zE_ri dz77_51 (by decide +kernel)
theorem dz77_52 : decode (z_code 77) 52 = .ok (.iconst 0, 1) := by decide +kernel
theorem u77_52 : zEv sc 77 52 [l0, l1, l2, l3, l4, l5, l6] [] h Q ↔ zEv sc 77 53 [l0, l1, l2, l3, l4, l5, l6] [.int 0] h Q := zE_iconst dz77_52 (by decide +kernel)
theorem dz77_53 : decode (z_code 77) 53 = .ok (.istore 5, 2) := by decide +kernel
theorem u77_53 : zEv sc 77 53 [l0, l1, l2, l3, l4, l5, l6] [.int x] h Q ↔ zEv sc 77 55 [l0, l1, l2, l3, l4, .int x, l6] [] h Q := zE_pure (q := (55, [l0, l1, l2, l3, l4, .int x, l6], [])) dz77_53 rfl rfl rfl
theorem dz77_55 : decode (z_code 77) 55 = .ok (.iconst 0, 1) := by decide +kernel
theorem u77_55 : zEv sc 77 55 [l0, l1, l2, l3, l4, l5, l6] [] h Q ↔ zEv sc 77 56 [l0, l1, l2, l3, l4, l5, l6] [.int 0] h Q := zE_iconst dz77_55 (by decide +kernel)
theorem dz77_56 : decode (z_code 77) 56 = .ok (.istore 6, 2) := by decide +kernel
theorem u77_56 : zEv sc 77 56 [l0, l1, l2, l3, l4, l5, l6] [.int x] h Q ↔ zEv sc 77 58 [l0, l1, l2, l3, l4, l5, .int x] [] h Q := zE_pure (q := (58, [l0, l1, l2, l3, l4, l5, .int x], [])) dz77_56 rfl rfl rfl
theorem dz77_58 : decode (z_code 77) 58 = .ok (.iload 6, 2) := by decide +kernel
theorem u77_58 : zEv sc 77 58 [l0, l1, l2, l3, l4, l5, .int x] [] h Q ↔ zEv sc 77 60 [l0, l1, l2, l3, l4, l5, .int x] [.int x] h Q := zE_pure (q := (60, [l0, l1, l2, l3, l4, l5, .int x], [.int x])) dz77_58 rfl rfl rfl
theorem dz77_60 : decode (z_code 77) 60 = .ok (.aload 4, 2) := by decide +kernel
theorem u77_60 : zEv sc 77 60 [l0, l1, l2, l3, .ref a, l5, l6] [t0] h Q ↔ zEv sc 77 62 [l0, l1, l2, l3, .ref a, l5, l6] [.ref a, t0] h Q := zE_pure (q := (62, [l0, l1, l2, l3, .ref a, l5, l6], [.ref a, t0])) dz77_60 rfl rfl rfl
theorem dz77_62 : decode (z_code 77) 62 = .ok (.getfield 111, 3) := by decide +kernel
theorem u77_62 (ho : zO a 4) : zEv sc 77 62 [l0, l1, l2, l3, l4, l5, l6] [.ref a, t0] (zst p iv) Q ↔ zEv sc 77 65 [l0, l1, l2, l3, l4, l5, l6] [.int (iv a 0), t0] (zst p iv) Q := zE_gfI dz77_62 (by decide +kernel : z_lk3 zFT (z_cls 77) 111 = some (4, 0, 1, 88)) (by decide +kernel) ho
theorem dz77_65 : decode (z_code 77) 65 = .ok (.if_icmp .ge 39, 3) := by decide +kernel
theorem u77_65 : zEv sc 77 65 [l0, l1, l2, l3, l4, l5, l6] [.int x2, .int x1] h Q ↔ (if x2 ≤ x1 then zEv sc 77 104 [l0, l1, l2, l3, l4, l5, l6] [] h Q else zEv sc 77 68 [l0, l1, l2, l3, l4, l5, l6] [] h Q) := zE_icP (P := x2 ≤ x1) inferInstance 104 dz77_65 rfl rfl
theorem dz77_68 : decode (z_code 77) 68 = .ok (.iload 5, 2) := by decide +kernel
theorem u77_68 : zEv sc 77 68 [l0, l1, l2, l3, l4, .int x, l6] [] h Q ↔ zEv sc 77 70 [l0, l1, l2, l3, l4, .int x, l6] [.int x] h Q := zE_pure (q := (70, [l0, l1, l2, l3, l4, .int x, l6], [.int x])) dz77_68 rfl rfl rfl
theorem dz77_70 : decode (z_code 77) 70 = .ok (.aload 4, 2) := by decide +kernel
theorem u77_70 : zEv sc 77 70 [l0, l1, l2, l3, .ref a, l5, l6] [t0] h Q ↔ zEv sc 77 72 [l0, l1, l2, l3, .ref a, l5, l6] [.ref a, t0] h Q := zE_pure (q := (72, [l0, l1, l2, l3, .ref a, l5, l6], [.ref a, t0])) dz77_70 rfl rfl rfl
theorem dz77_72 : decode (z_code 77) 72 = .ok (.getfield 180, 3) := by decide +kernel
theorem u77_72 (ho : zO a 4) : zEv sc 77 72 [l0, l1, l2, l3, l4, l5, l6] [.ref a, t0] (zst p iv) Q ↔ zRef (zRV p a 2) (fun j => zEv sc 77 75 [l0, l1, l2, l3, l4, l5, l6] [.ref j, t0] (zst p iv) Q) := zE_gfR dz77_72 (by decide +kernel : z_lk3 zFT (z_cls 77) 180 = some (4, 2, 1, 96)) (by decide +kernel) ho
theorem dz77_75 : decode (z_code 77) 75 = .ok (.iload 6, 2) := by decide +kernel
theorem u77_75 : zEv sc 77 75 [l0, l1, l2, l3, l4, l5, .int x] [t0, t1] h Q ↔ zEv sc 77 77 [l0, l1, l2, l3, l4, l5, .int x] [.int x, t0, t1] h Q := zE_pure (q := (77, [l0, l1, l2, l3, l4, l5, .int x], [.int x, t0, t1])) dz77_75 rfl rfl rfl
theorem dz77_77 : decode (z_code 77) 77 = .ok (.iaload, 1) := by decide +kernel
theorem u77_77 (ho : zO a 100) : zEv sc 77 77 [l0, l1, l2, l3, l4, l5, l6] [.int x, .ref a, t0] (zst p iv) Q ↔ (vp_in x (zLn a) ∧ zEv sc 77 78 [l0, l1, l2, l3, l4, l5, l6] [.int (iv a x.toNatClampNeg), t0] (zst p iv) Q) := zE_ald (Or.inl ⟨rfl, rfl⟩) dz77_77 ho
theorem dz77_78 : decode (z_code 77) 78 = .ok (.aload_n 0, 1) := by decide +kernel
theorem u77_78 : zEv sc 77 78 [.ref a, l1, l2, l3, l4, l5, l6] [t0, t1] h Q ↔ zEv sc 77 79 [.ref a, l1, l2, l3, l4, l5, l6] [.ref a, t0, t1] h Q := zE_pure (q := (79, [.ref a, l1, l2, l3, l4, l5, l6], [.ref a, t0, t1])) dz77_78 rfl rfl rfl
theorem dz77_79 : decode (z_code 77) 79 = .ok (.getfield 10, 3) := by decide +kernel
theorem u77_79 (ho : zO a 9) : zEv sc 77 79 [l0, l1, l2, l3, l4, l5, l6] [.ref a, t0, t1] (zst p iv) Q ↔ zRef (zRV p a 0) (fun j => zEv sc 77 82 [l0, l1, l2, l3, l4, l5, l6] [.ref j, t0, t1] (zst p iv) Q) := zE_gfR dz77_79 (by decide +kernel : z_lk3 zFT (z_cls 77) 10 = some (9, 0, 0, 269)) (by decide +kernel) ho
theorem dz77_82 : decode (z_code 77) 82 = .ok (.iload_n 2, 1) := by decide +kernel
theorem u77_82 : zEv sc 77 82 [l0, l1, .int x, l3, l4, l5, l6] [t0, t1, t2] h Q ↔ zEv sc 77 83 [l0, l1, .int x, l3, l4, l5, l6] [.int x, t0, t1, t2] h Q := zE_pure (q := (83, [l0, l1, .int x, l3, l4, l5, l6], [.int x, t0, t1, t2])) dz77_82 rfl rfl rfl
theorem dz77_83 : decode (z_code 77) 83 = .ok (.aload 4, 2) := by decide +kernel
theorem u77_83 : zEv sc 77 83 [l0, l1, l2, l3, .ref a, l5, l6] [t0, t1, t2, t3] h Q ↔ zEv sc 77 85 [l0, l1, l2, l3, .ref a, l5, l6] [.ref a, t0, t1, t2, t3] h Q := zE_pure (q := (85, [l0, l1, l2, l3, .ref a, l5, l6], [.ref a, t0, t1, t2, t3])) dz77_83 rfl rfl rfl
theorem dz77_85 : decode (z_code 77) 85 = .ok (.getfield 177, 3) := by decide +kernel
theorem u77_85 (ho : zO a 4) : zEv sc 77 85 [l0, l1, l2, l3, l4, l5, l6] [.ref a, t0, t1, t2, t3] (zst p iv) Q ↔ zRef (zRV p a 1) (fun j => zEv sc 77 88 [l0, l1, l2, l3, l4, l5, l6] [.ref j, t0, t1, t2, t3] (zst p iv) Q) := zE_gfR dz77_85 (by decide +kernel : z_lk3 zFT (z_cls 77) 177 = some (4, 1, 1, 93)) (by decide +kernel) ho
theorem dz77_88 : decode (z_code 77) 88 = .ok (.iload 6, 2) := by decide +kernel
theorem u77_88 : zEv sc 77 88 [l0, l1, l2, l3, l4, l5, .int x] [t0, t1, t2, t3, t4] h Q ↔ zEv sc 77 90 [l0, l1, l2, l3, l4, l5, .int x] [.int x, t0, t1, t2, t3, t4] h Q := zE_pure (q := (90, [l0, l1, l2, l3, l4, l5, .int x], [.int x, t0, t1, t2, t3, t4])) dz77_88 rfl rfl rfl
theorem dz77_90 : decode (z_code 77) 90 = .ok (.iaload, 1) := by decide +kernel
theorem u77_90 (ho : zO a 100) : zEv sc 77 90 [l0, l1, l2, l3, l4, l5, l6] [.int x, .ref a, t0, t1, t2, t3] (zst p iv) Q ↔ (vp_in x (zLn a) ∧ zEv sc 77 91 [l0, l1, l2, l3, l4, l5, l6] [.int (iv a x.toNatClampNeg), t0, t1, t2, t3] (zst p iv) Q) := zE_ald (Or.inl ⟨rfl, rfl⟩) dz77_90 ho
theorem dz77_91 : decode (z_code 77) 91 = .ok (.invokevirtual 196, 3) := by decide +kernel
theorem u77_91 (ho : zO a 2) : zEv sc 77 91 [l0, l1, l2, l3, l4, l5, l6] [.int z1, .int z0, .ref a, t0, t1] (zst p iv) Q ↔ zEv sc 21 0 [.ref a, .int z0, .int z1, .null, .null] [] (zst p iv) (fun r h9 => zEv sc 77 94 [l0, l1, l2, l3, l4, l5, l6] (r.toList ++ [t0, t1]) h9 Q) := zE_call (kd := 0) (na := 3) (nr := 2) (as := [.ref a, .int z0, .int z1]) (rest := [t0, t1]) (Or.inl ⟨rfl, rfl⟩) dz77_91 (by decide +kernel : z_lk2 zCT (z_cls 77) 196 = some (21, 1, 429)) (fun z => by cases z) rfl rfl rfl (by decide +kernel) rfl rfl (Or.inr (zE_rc ho))
theorem dz77_94 : decode (z_code 77) 94 = .ok (.imul, 1) := by decide +kernel
theorem u77_94 : zEv sc 77 94 [l0, l1, l2, l3, l4, l5, l6] [.int x2, .int x1, t0] h Q ↔ zEv sc 77 95 [l0, l1, l2, l3, l4, l5, l6] [.int (x1 * x2), t0] h Q := zE_pure (q := (95, [l0, l1, l2, l3, l4, l5, l6], [.int (x1 * x2), t0])) dz77_94 rfl rfl rfl
theorem dz77_95 : decode (z_code 77) 95 = .ok (.iadd, 1) := by decide +kernel
theorem u77_95 : zEv sc 77 95 [l0, l1, l2, l3, l4, l5, l6] [.int x2, .int x1] h Q ↔ zEv sc 77 96 [l0, l1, l2, l3, l4, l5, l6] [.int (x1 + x2)] h Q := zE_pure (q := (96, [l0, l1, l2, l3, l4, l5, l6], [.int (x1 + x2)])) dz77_95 rfl rfl rfl
theorem dz77_96 : decode (z_code 77) 96 = .ok (.istore 5, 2) := by decide +kernel
theorem u77_96 : zEv sc 77 96 [l0, l1, l2, l3, l4, l5, l6] [.int x] h Q ↔ zEv sc 77 98 [l0, l1, l2, l3, l4, .int x, l6] [] h Q := zE_pure (q := (98, [l0, l1, l2, l3, l4, .int x, l6], [])) dz77_96 rfl rfl rfl
theorem dz77_98 : decode (z_code 77) 98 = .ok (.iinc 6 1, 3) := by decide +kernel
theorem u77_98 : zEv sc 77 98 [l0, l1, l2, l3, l4, l5, .int x] [] h Q ↔ zEv sc 77 101 [l0, l1, l2, l3, l4, l5, .int (x + 1)] [] h Q := zE_iinc (ls2 := [l0, l1, l2, l3, l4, l5, .int (x + 1)]) dz77_98 (by decide +kernel) rfl (by simp) rfl
theorem dz77_101 : decode (z_code 77) 101 = .ok (.goto (-43), 3) := by decide +kernel
theorem u77_101 : zEv sc 77 101 [l0, l1, l2, l3, l4, l5, l6] [] h Q ↔ zEv sc 77 58 [l0, l1, l2, l3, l4, l5, l6] [] h Q := zE_go 58 dz77_101 rfl
theorem dz77_104 : decode (z_code 77) 104 = .ok (.iload_n 3, 1) := by decide +kernel
theorem u77_104 : zEv sc 77 104 [l0, l1, l2, .int x, l4, l5, l6] [] h Q ↔ zEv sc 77 105 [l0, l1, l2, .int x, l4, l5, l6] [.int x] h Q := zE_pure (q := (105, [l0, l1, l2, .int x, l4, l5, l6], [.int x])) dz77_104 rfl rfl rfl
theorem dz77_105 : decode (z_code 77) 105 = .ok (.iload 5, 2) := by decide +kernel
theorem u77_105 : zEv sc 77 105 [l0, l1, l2, l3, l4, .int x, l6] [t0] h Q ↔ zEv sc 77 107 [l0, l1, l2, l3, l4, .int x, l6] [.int x, t0] h Q := zE_pure (q := (107, [l0, l1, l2, l3, l4, .int x, l6], [.int x, t0])) dz77_105 rfl rfl rfl
theorem dz77_107 : decode (z_code 77) 107 = .ok (.aload 4, 2) := by decide +kernel
theorem u77_107 : zEv sc 77 107 [l0, l1, l2, l3, .ref a, l5, l6] [t0, t1] h Q ↔ zEv sc 77 109 [l0, l1, l2, l3, .ref a, l5, l6] [.ref a, t0, t1] h Q := zE_pure (q := (109, [l0, l1, l2, l3, .ref a, l5, l6], [.ref a, t0, t1])) dz77_107 rfl rfl rfl
theorem dz77_109 : decode (z_code 77) 109 = .ok (.invokevirtual 203, 3) := by decide +kernel
theorem u77_109 (ho : zO a 4) : zEv sc 77 109 [l0, l1, l2, l3, l4, l5, l6] [.ref a, t0, t1] (zst p iv) Q ↔ zEv sc 36 0 [.ref a, .null, .null] [] (zst p iv) (fun r h9 => zEv sc 77 112 [l0, l1, l2, l3, l4, l5, l6] (r.toList ++ [t0, t1]) h9 Q) := zE_call (kd := 0) (na := 1) (nr := 2) (as := [.ref a]) (rest := [t0, t1]) (Or.inl ⟨rfl, rfl⟩) dz77_109 (by decide +kernel : z_lk2 zCT (z_cls 77) 203 = some (36, 1, 315)) (fun z => by cases z) rfl rfl rfl (by decide +kernel) rfl rfl (Or.inr (zE_rc ho))
theorem dz77_112 : decode (z_code 77) 112 = .ok (.invokestatic 193, 3) := by decide +kernel
theorem u77_112 : zEv sc 77 112 [l0, l1, l2, l3, l4, l5, l6] [.int z2, .int z1, .int z0] h Q ↔ zEv sc 73 0 [.int z0, .int z1, .int z2, .null] [] h (fun r h9 => zEv sc 77 115 [l0, l1, l2, l3, l4, l5, l6] (r.toList ++ []) h9 Q) := zE_call (kd := 1) (na := 3) (nr := 0) (as := [.int z0, .int z1, .int z2]) (rest := []) (Or.inr ⟨rfl, rfl⟩) dz77_112 (by decide +kernel : z_lk2 zCT (z_cls 77) 193 = some (73, 0, 384)) (fun _ => ⟨by decide +kernel, by decide +kernel⟩) rfl rfl rfl (by decide +kernel) rfl rfl (Or.inl rfl)
theorem dz77_115 : decode (z_code 77) 115 = .ok (.ireturn, 1) := by decide +kernel
theorem u77_115 : zEv sc 77 115 [l0, l1, l2, l3, l4, l5, l6] [.int x] h Q ↔ Q (some (.int x)) h := zE_ri dz77_115 (by decide +kernel)
theorem dz77_25 : decode (z_code 77) 25 = .ok (.ldc 71, 2) := by decide +kernel
theorem u77_25 : zEv sc 77 25 [l0, l1, l2, l3, l4, l5, l6] [] h Q ↔ zEv sc 77 27 [l0, l1, l2, l3, l4, l5, l6] [.int (-1000001)] h Q := zE_ldc (by decide +kernel : z_lkK zKT (z_cls 77) 71 = some ((-1000001), 319)) dz77_25
theorem dz77_27 : decode (z_code 77) 27 = .ok (.ireturn, 1) := by decide +kernel
theorem u77_27 : zEv sc 77 27 [l0, l1, l2, l3, l4, l5, l6] [.int x] h Q ↔ Q (some (.int x)) h := zE_ri dz77_27 (by decide +kernel)
/-! method 78: FieldMixtures.expected(I)I -/
theorem dz78_0 : decode (z_code 78) 0 = .ok (.iload_n 1, 1) := by decide +kernel
theorem u78_0 : zEv sc 78 0 [l0, .int x, l2] [] h Q ↔ zEv sc 78 1 [l0, .int x, l2] [.int x] h Q := zE_pure (q := (1, [l0, .int x, l2], [.int x])) dz78_0 rfl rfl rfl
theorem dz78_1 : decode (z_code 78) 1 = .ok (.invokestatic 200, 3) := by decide +kernel
theorem u78_1 : zEv sc 78 1 [l0, l1, l2] [.int z0] h Q ↔ zEv sc 76 0 [.int z0] [] h (fun r h9 => zEv sc 78 4 [l0, l1, l2] (r.toList ++ []) h9 Q) := zE_call (kd := 1) (na := 1) (nr := 0) (as := [.int z0]) (rest := []) (Or.inr ⟨rfl, rfl⟩) dz78_1 (by decide +kernel : z_lk2 zCT (z_cls 78) 200 = some (76, 0, 426)) (fun _ => ⟨by decide +kernel, by decide +kernel⟩) rfl rfl rfl (by decide +kernel) rfl rfl (Or.inl rfl)
theorem dz78_4 : decode (z_code 78) 4 = .ok (.ifCond .ne 6, 3) := by decide +kernel
theorem u78_4 : zEv sc 78 4 [l0, l1, l2] [.int x] h Q ↔ (if ¬ x = 0 then zEv sc 78 10 [l0, l1, l2] [] h Q else zEv sc 78 7 [l0, l1, l2] [] h Q) := zE_ifP (P := ¬ x = 0) inferInstance 10 dz78_4 rfl rfl
theorem dz78_7 : decode (z_code 78) 7 = .ok (.ldc 71, 2) := by decide +kernel
theorem u78_7 : zEv sc 78 7 [l0, l1, l2] [] h Q ↔ zEv sc 78 9 [l0, l1, l2] [.int (-1000001)] h Q := zE_ldc (by decide +kernel : z_lkK zKT (z_cls 78) 71 = some ((-1000001), 319)) dz78_7
theorem dz78_9 : decode (z_code 78) 9 = .ok (.ireturn, 1) := by decide +kernel
theorem u78_9 : zEv sc 78 9 [l0, l1, l2] [.int x] h Q ↔ Q (some (.int x)) h := zE_ri dz78_9 (by decide +kernel)
theorem dz78_10 : decode (z_code 78) 10 = .ok (.aload_n 0, 1) := by decide +kernel
theorem u78_10 : zEv sc 78 10 [.ref a, l1, l2] [] h Q ↔ zEv sc 78 11 [.ref a, l1, l2] [.ref a] h Q := zE_pure (q := (11, [.ref a, l1, l2], [.ref a])) dz78_10 rfl rfl rfl
theorem dz78_11 : decode (z_code 78) 11 = .ok (.getfield 10, 3) := by decide +kernel
theorem u78_11 (ho : zO a 9) : zEv sc 78 11 [l0, l1, l2] [.ref a] (zst p iv) Q ↔ zRef (zRV p a 0) (fun j => zEv sc 78 14 [l0, l1, l2] [.ref j] (zst p iv) Q) := zE_gfR dz78_11 (by decide +kernel : z_lk3 zFT (z_cls 78) 10 = some (9, 0, 0, 269)) (by decide +kernel) ho
theorem dz78_14 : decode (z_code 78) 14 = .ok (.invokevirtual 159, 3) := by decide +kernel
theorem u78_14 (ho : zO a 2) : zEv sc 78 14 [l0, l1, l2] [.ref a] (zst p iv) Q ↔ zEv sc 18 0 [.ref a] [] (zst p iv) (fun r h9 => zEv sc 78 17 [l0, l1, l2] (r.toList ++ []) h9 Q) := zE_call (kd := 0) (na := 1) (nr := 0) (as := [.ref a]) (rest := []) (Or.inl ⟨rfl, rfl⟩) dz78_14 (by decide +kernel : z_lk2 zCT (z_cls 78) 159 = some (18, 1, 454)) (fun z => by cases z) rfl rfl rfl (by decide +kernel) rfl rfl (Or.inr (zE_rc ho))
theorem dz78_17 : decode (z_code 78) 17 = .ok (.ifCond .eq 6, 3) := by decide +kernel
theorem u78_17 : zEv sc 78 17 [l0, l1, l2] [.int x] h Q ↔ (if x = 0 then zEv sc 78 23 [l0, l1, l2] [] h Q else zEv sc 78 20 [l0, l1, l2] [] h Q) := zE_ifP (P := x = 0) inferInstance 23 dz78_17 rfl rfl
theorem dz78_20 : decode (z_code 78) 20 = .ok (.ldc 155, 2) := by decide +kernel
theorem u78_20 : zEv sc 78 20 [l0, l1, l2] [] h Q ↔ zEv sc 78 22 [l0, l1, l2] [.int (-1000002)] h Q := zE_ldc (by decide +kernel : z_lkK zKT (z_cls 78) 155 = some ((-1000002), 324)) dz78_20
theorem dz78_22 : decode (z_code 78) 22 = .ok (.ireturn, 1) := by decide +kernel
theorem u78_22 : zEv sc 78 22 [l0, l1, l2] [.int x] h Q ↔ Q (some (.int x)) h := zE_ri dz78_22 (by decide +kernel)
theorem dz78_23 : decode (z_code 78) 23 = .ok (.aload_n 0, 1) := by decide +kernel
theorem u78_23 : zEv sc 78 23 [.ref a, l1, l2] [] h Q ↔ zEv sc 78 24 [.ref a, l1, l2] [.ref a] h Q := zE_pure (q := (24, [.ref a, l1, l2], [.ref a])) dz78_23 rfl rfl rfl
theorem dz78_24 : decode (z_code 78) 24 = .ok (.getfield 10, 3) := by decide +kernel
theorem u78_24 (ho : zO a 9) : zEv sc 78 24 [l0, l1, l2] [.ref a] (zst p iv) Q ↔ zRef (zRV p a 0) (fun j => zEv sc 78 27 [l0, l1, l2] [.ref j] (zst p iv) Q) := zE_gfR dz78_24 (by decide +kernel : z_lk3 zFT (z_cls 78) 10 = some (9, 0, 0, 269)) (by decide +kernel) ho
theorem dz78_27 : decode (z_code 78) 27 = .ok (.iconst 0, 1) := by decide +kernel
theorem u78_27 : zEv sc 78 27 [l0, l1, l2] [t0] h Q ↔ zEv sc 78 28 [l0, l1, l2] [.int 0, t0] h Q := zE_iconst dz78_27 (by decide +kernel)
theorem dz78_28 : decode (z_code 78) 28 = .ok (.invokevirtual 95, 3) := by decide +kernel
theorem u78_28 (ho : zO a 2) : zEv sc 78 28 [l0, l1, l2] [.int z0, .ref a] (zst p iv) Q ↔ zEv sc 14 0 [.ref a, .int z0] [] (zst p iv) (fun r h9 => zEv sc 78 31 [l0, l1, l2] (r.toList ++ []) h9 Q) := zE_call (kd := 0) (na := 2) (nr := 0) (as := [.ref a, .int z0]) (rest := []) (Or.inl ⟨rfl, rfl⟩) dz78_28 (by decide +kernel : z_lk2 zCT (z_cls 78) 95 = some (14, 1, 307)) (fun z => by cases z) rfl rfl rfl (by decide +kernel) rfl rfl (Or.inr (zE_rc ho))
theorem dz78_31 : decode (z_code 78) 31 = .ok (.getfield 107, 3) := by decide +kernel
theorem u78_31 (ho : zO a 6) : zEv sc 78 31 [l0, l1, l2] [.ref a] (zst p iv) Q ↔ zRef (zRV p a 2) (fun j => zEv sc 78 34 [l0, l1, l2] [.ref j] (zst p iv) Q) := zE_gfR dz78_31 (by decide +kernel : z_lk3 zFT (z_cls 78) 107 = some (6, 2, 1, 114)) (by decide +kernel) ho
theorem dz78_34 : decode (z_code 78) 34 = .ok (.astore_n 2, 1) := by decide +kernel
theorem u78_34 : zEv sc 78 34 [l0, l1, l2] [.ref a] h Q ↔ zEv sc 78 35 [l0, l1, .ref a] [] h Q := zE_pure (q := (35, [l0, l1, .ref a], [])) dz78_34 rfl rfl rfl
theorem dz78_35 : decode (z_code 78) 35 = .ok (.aload_n 0, 1) := by decide +kernel
theorem u78_35 : zEv sc 78 35 [.ref a, l1, l2] [] h Q ↔ zEv sc 78 36 [.ref a, l1, l2] [.ref a] h Q := zE_pure (q := (36, [.ref a, l1, l2], [.ref a])) dz78_35 rfl rfl rfl
theorem dz78_36 : decode (z_code 78) 36 = .ok (.getfield 39, 3) := by decide +kernel
theorem u78_36 (ho : zO a 9) : zEv sc 78 36 [l0, l1, l2] [.ref a] (zst p iv) Q ↔ zRef (zRV p a 5) (fun j => zEv sc 78 39 [l0, l1, l2] [.ref j] (zst p iv) Q) := zE_gfR dz78_36 (by decide +kernel : z_lk3 zFT (z_cls 78) 39 = some (9, 5, 0, 274)) (by decide +kernel) ho
theorem dz78_39 : decode (z_code 78) 39 = .ok (.aload_n 0, 1) := by decide +kernel
theorem u78_39 : zEv sc 78 39 [.ref a, l1, l2] [t0] h Q ↔ zEv sc 78 40 [.ref a, l1, l2] [.ref a, t0] h Q := zE_pure (q := (40, [.ref a, l1, l2], [.ref a, t0])) dz78_39 rfl rfl rfl
theorem dz78_40 : decode (z_code 78) 40 = .ok (.getfield 10, 3) := by decide +kernel
theorem u78_40 (ho : zO a 9) : zEv sc 78 40 [l0, l1, l2] [.ref a, t0] (zst p iv) Q ↔ zRef (zRV p a 0) (fun j => zEv sc 78 43 [l0, l1, l2] [.ref j, t0] (zst p iv) Q) := zE_gfR dz78_40 (by decide +kernel : z_lk3 zFT (z_cls 78) 10 = some (9, 0, 0, 269)) (by decide +kernel) ho
theorem dz78_43 : decode (z_code 78) 43 = .ok (.iconst 0, 1) := by decide +kernel
theorem u78_43 : zEv sc 78 43 [l0, l1, l2] [t0, t1] h Q ↔ zEv sc 78 44 [l0, l1, l2] [.int 0, t0, t1] h Q := zE_iconst dz78_43 (by decide +kernel)
theorem dz78_44 : decode (z_code 78) 44 = .ok (.invokevirtual 183, 3) := by decide +kernel
theorem u78_44 (ho : zO a 5) : zEv sc 78 44 [l0, l1, l2] [.int z0, .ref b0, .ref a] (zst p iv) Q ↔ zEv sc 39 0 [.ref a, .ref b0, .int z0, .null, .null, .null] [] (zst p iv) (fun r h9 => zEv sc 78 47 [l0, l1, l2] (r.toList ++ []) h9 Q) := zE_call (kd := 0) (na := 3) (nr := 0) (as := [.ref a, .ref b0, .int z0]) (rest := []) (Or.inl ⟨rfl, rfl⟩) dz78_44 (by decide +kernel : z_lk2 zCT (z_cls 78) 183 = some (39, 1, 363)) (fun z => by cases z) rfl rfl rfl (by decide +kernel) rfl rfl (Or.inr (zE_rc ho))
theorem dz78_47 : decode (z_code 78) 47 = .ok (.iload_n 1, 1) := by decide +kernel
theorem u78_47 : zEv sc 78 47 [l0, .int x, l2] [] h Q ↔ zEv sc 78 48 [l0, .int x, l2] [.int x] h Q := zE_pure (q := (48, [l0, .int x, l2], [.int x])) dz78_47 rfl rfl rfl
theorem dz78_48 : decode (z_code 78) 48 = .ok (.aload_n 0, 1) := by decide +kernel
theorem u78_48 : zEv sc 78 48 [.ref a, l1, l2] [t0] h Q ↔ zEv sc 78 49 [.ref a, l1, l2] [.ref a, t0] h Q := zE_pure (q := (49, [.ref a, l1, l2], [.ref a, t0])) dz78_48 rfl rfl rfl
theorem dz78_49 : decode (z_code 78) 49 = .ok (.getfield 39, 3) := by decide +kernel
theorem u78_49 (ho : zO a 9) : zEv sc 78 49 [l0, l1, l2] [.ref a, t0] (zst p iv) Q ↔ zRef (zRV p a 5) (fun j => zEv sc 78 52 [l0, l1, l2] [.ref j, t0] (zst p iv) Q) := zE_gfR dz78_49 (by decide +kernel : z_lk3 zFT (z_cls 78) 39 = some (9, 5, 0, 274)) (by decide +kernel) ho
theorem dz78_52 : decode (z_code 78) 52 = .ok (.aload_n 2, 1) := by decide +kernel
theorem u78_52 : zEv sc 78 52 [l0, l1, .ref a] [t0, t1] h Q ↔ zEv sc 78 53 [l0, l1, .ref a] [.ref a, t0, t1] h Q := zE_pure (q := (53, [l0, l1, .ref a], [.ref a, t0, t1])) dz78_52 rfl rfl rfl
theorem dz78_53 : decode (z_code 78) 53 = .ok (.invokevirtual 205, 3) := by decide +kernel
theorem u78_53 (ho : zO a 5) : zEv sc 78 53 [l0, l1, l2] [.ref b0, .ref a, t0] (zst p iv) Q ↔ zEv sc 40 0 [.ref a, .ref b0, .null, .null] [] (zst p iv) (fun r h9 => zEv sc 78 56 [l0, l1, l2] (r.toList ++ [t0]) h9 Q) := zE_call (kd := 0) (na := 2) (nr := 1) (as := [.ref a, .ref b0]) (rest := [t0]) (Or.inl ⟨rfl, rfl⟩) dz78_53 (by decide +kernel : z_lk2 zCT (z_cls 78) 205 = some (40, 1, 458)) (fun z => by cases z) rfl rfl rfl (by decide +kernel) rfl rfl (Or.inr (zE_rc ho))
theorem dz78_56 : decode (z_code 78) 56 = .ok (.aload_n 0, 1) := by decide +kernel
theorem u78_56 : zEv sc 78 56 [.ref a, l1, l2] [t0, t1] h Q ↔ zEv sc 78 57 [.ref a, l1, l2] [.ref a, t0, t1] h Q := zE_pure (q := (57, [.ref a, l1, l2], [.ref a, t0, t1])) dz78_56 rfl rfl rfl
theorem dz78_57 : decode (z_code 78) 57 = .ok (.getfield 39, 3) := by decide +kernel
theorem u78_57 (ho : zO a 9) : zEv sc 78 57 [l0, l1, l2] [.ref a, t0, t1] (zst p iv) Q ↔ zRef (zRV p a 5) (fun j => zEv sc 78 60 [l0, l1, l2] [.ref j, t0, t1] (zst p iv) Q) := zE_gfR dz78_57 (by decide +kernel : z_lk3 zFT (z_cls 78) 39 = some (9, 5, 0, 274)) (by decide +kernel) ho
theorem dz78_60 : decode (z_code 78) 60 = .ok (.getfield 190, 3) := by decide +kernel
theorem u78_60 (ho : zO a 5) : zEv sc 78 60 [l0, l1, l2] [.ref a, t0, t1] (zst p iv) Q ↔ zEv sc 78 63 [l0, l1, l2] [.int (iv a 1), t0, t1] (zst p iv) Q := zE_gfI dz78_60 (by decide +kernel : z_lk3 zFT (z_cls 78) 190 = some (5, 1, 1, 196)) (by decide +kernel) ho
theorem dz78_63 : decode (z_code 78) 63 = .ok (.aload_n 2, 1) := by decide +kernel
theorem u78_63 : zEv sc 78 63 [l0, l1, .ref a] [t0, t1, t2] h Q ↔ zEv sc 78 64 [l0, l1, .ref a] [.ref a, t0, t1, t2] h Q := zE_pure (q := (64, [l0, l1, .ref a], [.ref a, t0, t1, t2])) dz78_63 rfl rfl rfl
theorem dz78_64 : decode (z_code 78) 64 = .ok (.invokevirtual 203, 3) := by decide +kernel
theorem u78_64 (ho : zO a 4) : zEv sc 78 64 [l0, l1, l2] [.ref a, t0, t1, t2] (zst p iv) Q ↔ zEv sc 36 0 [.ref a, .null, .null] [] (zst p iv) (fun r h9 => zEv sc 78 67 [l0, l1, l2] (r.toList ++ [t0, t1, t2]) h9 Q) := zE_call (kd := 0) (na := 1) (nr := 3) (as := [.ref a]) (rest := [t0, t1, t2]) (Or.inl ⟨rfl, rfl⟩) dz78_64 (by decide +kernel : z_lk2 zCT (z_cls 78) 203 = some (36, 1, 315)) (fun z => by cases z) rfl rfl rfl (by decide +kernel) rfl rfl (Or.inr (zE_rc ho))
theorem dz78_67 : decode (z_code 78) 67 = .ok (.imul, 1) := by decide +kernel
theorem u78_67 : zEv sc 78 67 [l0, l1, l2] [.int x2, .int x1, t0, t1] h Q ↔ zEv sc 78 68 [l0, l1, l2] [.int (x1 * x2), t0, t1] h Q := zE_pure (q := (68, [l0, l1, l2], [.int (x1 * x2), t0, t1])) dz78_67 rfl rfl rfl
theorem dz78_68 : decode (z_code 78) 68 = .ok (.invokestatic 193, 3) := by decide +kernel
theorem u78_68 : zEv sc 78 68 [l0, l1, l2] [.int z2, .int z1, .int z0] h Q ↔ zEv sc 73 0 [.int z0, .int z1, .int z2, .null] [] h (fun r h9 => zEv sc 78 71 [l0, l1, l2] (r.toList ++ []) h9 Q) := zE_call (kd := 1) (na := 3) (nr := 0) (as := [.int z0, .int z1, .int z2]) (rest := []) (Or.inr ⟨rfl, rfl⟩) dz78_68 (by decide +kernel : z_lk2 zCT (z_cls 78) 193 = some (73, 0, 384)) (fun _ => ⟨by decide +kernel, by decide +kernel⟩) rfl rfl rfl (by decide +kernel) rfl rfl (Or.inl rfl)
theorem dz78_71 : decode (z_code 78) 71 = .ok (.ireturn, 1) := by decide +kernel
theorem u78_71 : zEv sc 78 71 [l0, l1, l2] [.int x] h Q ↔ Q (some (.int x)) h := zE_ri dz78_71 (by decide +kernel)
/-! method 81: FieldMixtures.count(I)I -/
theorem dz81_0 : decode (z_code 81) 0 = .ok (.iload_n 1, 1) := by decide +kernel
theorem u81_0 : zEv sc 81 0 [l0, .int x] [] h Q ↔ zEv sc 81 1 [l0, .int x] [.int x] h Q := zE_pure (q := (1, [l0, .int x], [.int x])) dz81_0 rfl rfl rfl
theorem dz81_1 : decode (z_code 81) 1 = .ok (.bipush 20, 2) := by decide +kernel
theorem u81_1 : zEv sc 81 1 [l0, l1] [t0] h Q ↔ zEv sc 81 3 [l0, l1] [.int 20, t0] h Q := zE_bipush dz81_1 (by decide +kernel)
theorem dz81_3 : decode (z_code 81) 3 = .ok (.bipush 19, 2) := by decide +kernel
theorem u81_3 : zEv sc 81 3 [l0, l1] [t0, t1] h Q ↔ zEv sc 81 5 [l0, l1] [.int 19, t0, t1] h Q := zE_bipush dz81_3 (by decide +kernel)
theorem dz81_5 : decode (z_code 81) 5 = .ok (.aload_n 0, 1) := by decide +kernel
theorem u81_5 : zEv sc 81 5 [.ref a, l1] [t0, t1, t2] h Q ↔ zEv sc 81 6 [.ref a, l1] [.ref a, t0, t1, t2] h Q := zE_pure (q := (6, [.ref a, l1], [.ref a, t0, t1, t2])) dz81_5 rfl rfl rfl
theorem dz81_6 : decode (z_code 81) 6 = .ok (.getfield 10, 3) := by decide +kernel
theorem u81_6 (ho : zO a 9) : zEv sc 81 6 [l0, l1] [.ref a, t0, t1, t2] (zst p iv) Q ↔ zRef (zRV p a 0) (fun j => zEv sc 81 9 [l0, l1] [.ref j, t0, t1, t2] (zst p iv) Q) := zE_gfR dz81_6 (by decide +kernel : z_lk3 zFT (z_cls 81) 10 = some (9, 0, 0, 269)) (by decide +kernel) ho
theorem dz81_9 : decode (z_code 81) 9 = .ok (.getfield 72, 3) := by decide +kernel
theorem u81_9 (ho : zO a 2) : zEv sc 81 9 [l0, l1] [.ref a, t0, t1, t2] (zst p iv) Q ↔ zEv sc 81 12 [l0, l1] [.int (iv a 0), t0, t1, t2] (zst p iv) Q := zE_gfI dz81_9 (by decide +kernel : z_lk3 zFT (z_cls 81) 72 = some (2, 0, 1, 132)) (by decide +kernel) ho
theorem dz81_12 : decode (z_code 81) 12 = .ok (.iadd, 1) := by decide +kernel
theorem u81_12 : zEv sc 81 12 [l0, l1] [.int x2, .int x1, t0, t1] h Q ↔ zEv sc 81 13 [l0, l1] [.int (x1 + x2), t0, t1] h Q := zE_pure (q := (13, [l0, l1], [.int (x1 + x2), t0, t1])) dz81_12 rfl rfl rfl
theorem dz81_13 : decode (z_code 81) 13 = .ok (.invokestatic 67, 3) := by decide +kernel
theorem u81_13 : zEv sc 81 13 [l0, l1] [.int z2, .int z1, .int z0] h Q ↔ zEv sc 15 0 [.int z0, .int z1, .int z2] [] h (fun r h9 => zEv sc 81 16 [l0, l1] (r.toList ++ []) h9 Q) := zE_call (kd := 1) (na := 3) (nr := 0) (as := [.int z0, .int z1, .int z2]) (rest := []) (Or.inr ⟨rfl, rfl⟩) dz81_13 (by decide +kernel : z_lk2 zCT (z_cls 81) 67 = some (15, 0, 304)) (fun _ => ⟨by decide +kernel, by decide +kernel⟩) rfl rfl rfl (by decide +kernel) rfl rfl (Or.inl rfl)
theorem dz81_16 : decode (z_code 81) 16 = .ok (.ifCond .eq 16, 3) := by decide +kernel
theorem u81_16 : zEv sc 81 16 [l0, l1] [.int x] h Q ↔ (if x = 0 then zEv sc 81 32 [l0, l1] [] h Q else zEv sc 81 19 [l0, l1] [] h Q) := zE_ifP (P := x = 0) inferInstance 32 dz81_16 rfl rfl
theorem dz81_19 : decode (z_code 81) 19 = .ok (.aload_n 0, 1) := by decide +kernel
theorem u81_19 : zEv sc 81 19 [.ref a, l1] [] h Q ↔ zEv sc 81 20 [.ref a, l1] [.ref a] h Q := zE_pure (q := (20, [.ref a, l1], [.ref a])) dz81_19 rfl rfl rfl
theorem dz81_20 : decode (z_code 81) 20 = .ok (.getfield 10, 3) := by decide +kernel
theorem u81_20 (ho : zO a 9) : zEv sc 81 20 [l0, l1] [.ref a] (zst p iv) Q ↔ zRef (zRV p a 0) (fun j => zEv sc 81 23 [l0, l1] [.ref j] (zst p iv) Q) := zE_gfR dz81_20 (by decide +kernel : z_lk3 zFT (z_cls 81) 10 = some (9, 0, 0, 269)) (by decide +kernel) ho
theorem dz81_23 : decode (z_code 81) 23 = .ok (.getfield 88, 3) := by decide +kernel
theorem u81_23 (ho : zO a 2) : zEv sc 81 23 [l0, l1] [.ref a] (zst p iv) Q ↔ zRef (zRV p a 2) (fun j => zEv sc 81 26 [l0, l1] [.ref j] (zst p iv) Q) := zE_gfR dz81_23 (by decide +kernel : z_lk3 zFT (z_cls 81) 88 = some (2, 2, 1, 138)) (by decide +kernel) ho
theorem dz81_26 : decode (z_code 81) 26 = .ok (.iload_n 1, 1) := by decide +kernel
theorem u81_26 : zEv sc 81 26 [l0, .int x] [t0] h Q ↔ zEv sc 81 27 [l0, .int x] [.int x, t0] h Q := zE_pure (q := (27, [l0, .int x], [.int x, t0])) dz81_26 rfl rfl rfl
theorem dz81_27 : decode (z_code 81) 27 = .ok (.bipush 20, 2) := by decide +kernel
theorem u81_27 : zEv sc 81 27 [l0, l1] [t0, t1] h Q ↔ zEv sc 81 29 [l0, l1] [.int 20, t0, t1] h Q := zE_bipush dz81_27 (by decide +kernel)
theorem dz81_29 : decode (z_code 81) 29 = .ok (.isub, 1) := by decide +kernel
theorem u81_29 : zEv sc 81 29 [l0, l1] [.int x2, .int x1, t0] h Q ↔ zEv sc 81 30 [l0, l1] [.int (x1 - x2), t0] h Q := zE_pure (q := (30, [l0, l1], [.int (x1 - x2), t0])) dz81_29 rfl rfl rfl
theorem dz81_30 : decode (z_code 81) 30 = .ok (.iaload, 1) := by decide +kernel
theorem u81_30 (ho : zO a 100) : zEv sc 81 30 [l0, l1] [.int x, .ref a] (zst p iv) Q ↔ (vp_in x (zLn a) ∧ zEv sc 81 31 [l0, l1] [.int (iv a x.toNatClampNeg)] (zst p iv) Q) := zE_ald (Or.inl ⟨rfl, rfl⟩) dz81_30 ho
theorem dz81_31 : decode (z_code 81) 31 = .ok (.ireturn, 1) := by decide +kernel
theorem u81_31 : zEv sc 81 31 [l0, l1] [.int x] h Q ↔ Q (some (.int x)) h := zE_ri dz81_31 (by decide +kernel)
theorem dz81_32 : decode (z_code 81) 32 = .ok (.iload_n 1, 1) := by decide +kernel
theorem u81_32 : zEv sc 81 32 [l0, .int x] [] h Q ↔ zEv sc 81 33 [l0, .int x] [.int x] h Q := zE_pure (q := (33, [l0, .int x], [.int x])) dz81_32 rfl rfl rfl
theorem dz81_33 : decode (z_code 81) 33 = .ok (.bipush 30, 2) := by decide +kernel
theorem u81_33 : zEv sc 81 33 [l0, l1] [t0] h Q ↔ zEv sc 81 35 [l0, l1] [.int 30, t0] h Q := zE_bipush dz81_33 (by decide +kernel)
theorem dz81_35 : decode (z_code 81) 35 = .ok (.bipush 29, 2) := by decide +kernel
theorem u81_35 : zEv sc 81 35 [l0, l1] [t0, t1] h Q ↔ zEv sc 81 37 [l0, l1] [.int 29, t0, t1] h Q := zE_bipush dz81_35 (by decide +kernel)
theorem dz81_37 : decode (z_code 81) 37 = .ok (.aload_n 0, 1) := by decide +kernel
theorem u81_37 : zEv sc 81 37 [.ref a, l1] [t0, t1, t2] h Q ↔ zEv sc 81 38 [.ref a, l1] [.ref a, t0, t1, t2] h Q := zE_pure (q := (38, [.ref a, l1], [.ref a, t0, t1, t2])) dz81_37 rfl rfl rfl
theorem dz81_38 : decode (z_code 81) 38 = .ok (.getfield 10, 3) := by decide +kernel
theorem u81_38 (ho : zO a 9) : zEv sc 81 38 [l0, l1] [.ref a, t0, t1, t2] (zst p iv) Q ↔ zRef (zRV p a 0) (fun j => zEv sc 81 41 [l0, l1] [.ref j, t0, t1, t2] (zst p iv) Q) := zE_gfR dz81_38 (by decide +kernel : z_lk3 zFT (z_cls 81) 10 = some (9, 0, 0, 269)) (by decide +kernel) ho
theorem dz81_41 : decode (z_code 81) 41 = .ok (.getfield 72, 3) := by decide +kernel
theorem u81_41 (ho : zO a 2) : zEv sc 81 41 [l0, l1] [.ref a, t0, t1, t2] (zst p iv) Q ↔ zEv sc 81 44 [l0, l1] [.int (iv a 0), t0, t1, t2] (zst p iv) Q := zE_gfI dz81_41 (by decide +kernel : z_lk3 zFT (z_cls 81) 72 = some (2, 0, 1, 132)) (by decide +kernel) ho
theorem dz81_44 : decode (z_code 81) 44 = .ok (.iadd, 1) := by decide +kernel
theorem u81_44 : zEv sc 81 44 [l0, l1] [.int x2, .int x1, t0, t1] h Q ↔ zEv sc 81 45 [l0, l1] [.int (x1 + x2), t0, t1] h Q := zE_pure (q := (45, [l0, l1], [.int (x1 + x2), t0, t1])) dz81_44 rfl rfl rfl
theorem dz81_45 : decode (z_code 81) 45 = .ok (.invokestatic 67, 3) := by decide +kernel
theorem u81_45 : zEv sc 81 45 [l0, l1] [.int z2, .int z1, .int z0] h Q ↔ zEv sc 15 0 [.int z0, .int z1, .int z2] [] h (fun r h9 => zEv sc 81 48 [l0, l1] (r.toList ++ []) h9 Q) := zE_call (kd := 1) (na := 3) (nr := 0) (as := [.int z0, .int z1, .int z2]) (rest := []) (Or.inr ⟨rfl, rfl⟩) dz81_45 (by decide +kernel : z_lk2 zCT (z_cls 81) 67 = some (15, 0, 304)) (fun _ => ⟨by decide +kernel, by decide +kernel⟩) rfl rfl rfl (by decide +kernel) rfl rfl (Or.inl rfl)
theorem dz81_48 : decode (z_code 81) 48 = .ok (.ifCond .eq 20, 3) := by decide +kernel
theorem u81_48 : zEv sc 81 48 [l0, l1] [.int x] h Q ↔ (if x = 0 then zEv sc 81 68 [l0, l1] [] h Q else zEv sc 81 51 [l0, l1] [] h Q) := zE_ifP (P := x = 0) inferInstance 68 dz81_48 rfl rfl
theorem dz81_51 : decode (z_code 81) 51 = .ok (.aload_n 0, 1) := by decide +kernel
theorem u81_51 : zEv sc 81 51 [.ref a, l1] [] h Q ↔ zEv sc 81 52 [.ref a, l1] [.ref a] h Q := zE_pure (q := (52, [.ref a, l1], [.ref a])) dz81_51 rfl rfl rfl
theorem dz81_52 : decode (z_code 81) 52 = .ok (.getfield 10, 3) := by decide +kernel
theorem u81_52 (ho : zO a 9) : zEv sc 81 52 [l0, l1] [.ref a] (zst p iv) Q ↔ zRef (zRV p a 0) (fun j => zEv sc 81 55 [l0, l1] [.ref j] (zst p iv) Q) := zE_gfR dz81_52 (by decide +kernel : z_lk3 zFT (z_cls 81) 10 = some (9, 0, 0, 269)) (by decide +kernel) ho
theorem dz81_55 : decode (z_code 81) 55 = .ok (.iconst 0, 1) := by decide +kernel
theorem u81_55 : zEv sc 81 55 [l0, l1] [t0] h Q ↔ zEv sc 81 56 [l0, l1] [.int 0, t0] h Q := zE_iconst dz81_55 (by decide +kernel)
theorem dz81_56 : decode (z_code 81) 56 = .ok (.invokevirtual 95, 3) := by decide +kernel
theorem u81_56 (ho : zO a 2) : zEv sc 81 56 [l0, l1] [.int z0, .ref a] (zst p iv) Q ↔ zEv sc 14 0 [.ref a, .int z0] [] (zst p iv) (fun r h9 => zEv sc 81 59 [l0, l1] (r.toList ++ []) h9 Q) := zE_call (kd := 0) (na := 2) (nr := 0) (as := [.ref a, .int z0]) (rest := []) (Or.inl ⟨rfl, rfl⟩) dz81_56 (by decide +kernel : z_lk2 zCT (z_cls 81) 95 = some (14, 1, 307)) (fun z => by cases z) rfl rfl rfl (by decide +kernel) rfl rfl (Or.inr (zE_rc ho))
theorem dz81_59 : decode (z_code 81) 59 = .ok (.getfield 116, 3) := by decide +kernel
theorem u81_59 (ho : zO a 6) : zEv sc 81 59 [l0, l1] [.ref a] (zst p iv) Q ↔ zRef (zRV p a 1) (fun j => zEv sc 81 62 [l0, l1] [.ref j] (zst p iv) Q) := zE_gfR dz81_59 (by decide +kernel : z_lk3 zFT (z_cls 81) 116 = some (6, 1, 1, 109)) (by decide +kernel) ho
theorem dz81_62 : decode (z_code 81) 62 = .ok (.iload_n 1, 1) := by decide +kernel
theorem u81_62 : zEv sc 81 62 [l0, .int x] [t0] h Q ↔ zEv sc 81 63 [l0, .int x] [.int x, t0] h Q := zE_pure (q := (63, [l0, .int x], [.int x, t0])) dz81_62 rfl rfl rfl
theorem dz81_63 : decode (z_code 81) 63 = .ok (.bipush 30, 2) := by decide +kernel
theorem u81_63 : zEv sc 81 63 [l0, l1] [t0, t1] h Q ↔ zEv sc 81 65 [l0, l1] [.int 30, t0, t1] h Q := zE_bipush dz81_63 (by decide +kernel)
theorem dz81_65 : decode (z_code 81) 65 = .ok (.isub, 1) := by decide +kernel
theorem u81_65 : zEv sc 81 65 [l0, l1] [.int x2, .int x1, t0] h Q ↔ zEv sc 81 66 [l0, l1] [.int (x1 - x2), t0] h Q := zE_pure (q := (66, [l0, l1], [.int (x1 - x2), t0])) dz81_65 rfl rfl rfl
theorem dz81_66 : decode (z_code 81) 66 = .ok (.iaload, 1) := by decide +kernel
theorem u81_66 (ho : zO a 100) : zEv sc 81 66 [l0, l1] [.int x, .ref a] (zst p iv) Q ↔ (vp_in x (zLn a) ∧ zEv sc 81 67 [l0, l1] [.int (iv a x.toNatClampNeg)] (zst p iv) Q) := zE_ald (Or.inl ⟨rfl, rfl⟩) dz81_66 ho
theorem dz81_67 : decode (z_code 81) 67 = .ok (.ireturn, 1) := by decide +kernel
theorem u81_67 : zEv sc 81 67 [l0, l1] [.int x] h Q ↔ Q (some (.int x)) h := zE_ri dz81_67 (by decide +kernel)
theorem dz81_68 : decode (z_code 81) 68 = .ok (.iload_n 1, 1) := by decide +kernel
theorem u81_68 : zEv sc 81 68 [l0, .int x] [] h Q ↔ zEv sc 81 69 [l0, .int x] [.int x] h Q := zE_pure (q := (69, [l0, .int x], [.int x])) dz81_68 rfl rfl rfl
theorem dz81_69 : decode (z_code 81) 69 = .ok (.bipush 40, 2) := by decide +kernel
theorem u81_69 : zEv sc 81 69 [l0, l1] [t0] h Q ↔ zEv sc 81 71 [l0, l1] [.int 40, t0] h Q := zE_bipush dz81_69 (by decide +kernel)
theorem dz81_71 : decode (z_code 81) 71 = .ok (.bipush 39, 2) := by decide +kernel
theorem u81_71 : zEv sc 81 71 [l0, l1] [t0, t1] h Q ↔ zEv sc 81 73 [l0, l1] [.int 39, t0, t1] h Q := zE_bipush dz81_71 (by decide +kernel)
theorem dz81_73 : decode (z_code 81) 73 = .ok (.aload_n 0, 1) := by decide +kernel
theorem u81_73 : zEv sc 81 73 [.ref a, l1] [t0, t1, t2] h Q ↔ zEv sc 81 74 [.ref a, l1] [.ref a, t0, t1, t2] h Q := zE_pure (q := (74, [.ref a, l1], [.ref a, t0, t1, t2])) dz81_73 rfl rfl rfl
theorem dz81_74 : decode (z_code 81) 74 = .ok (.getfield 10, 3) := by decide +kernel
theorem u81_74 (ho : zO a 9) : zEv sc 81 74 [l0, l1] [.ref a, t0, t1, t2] (zst p iv) Q ↔ zRef (zRV p a 0) (fun j => zEv sc 81 77 [l0, l1] [.ref j, t0, t1, t2] (zst p iv) Q) := zE_gfR dz81_74 (by decide +kernel : z_lk3 zFT (z_cls 81) 10 = some (9, 0, 0, 269)) (by decide +kernel) ho
theorem dz81_77 : decode (z_code 81) 77 = .ok (.getfield 72, 3) := by decide +kernel
theorem u81_77 (ho : zO a 2) : zEv sc 81 77 [l0, l1] [.ref a, t0, t1, t2] (zst p iv) Q ↔ zEv sc 81 80 [l0, l1] [.int (iv a 0), t0, t1, t2] (zst p iv) Q := zE_gfI dz81_77 (by decide +kernel : z_lk3 zFT (z_cls 81) 72 = some (2, 0, 1, 132)) (by decide +kernel) ho
theorem dz81_80 : decode (z_code 81) 80 = .ok (.iadd, 1) := by decide +kernel
theorem u81_80 : zEv sc 81 80 [l0, l1] [.int x2, .int x1, t0, t1] h Q ↔ zEv sc 81 81 [l0, l1] [.int (x1 + x2), t0, t1] h Q := zE_pure (q := (81, [l0, l1], [.int (x1 + x2), t0, t1])) dz81_80 rfl rfl rfl
theorem dz81_81 : decode (z_code 81) 81 = .ok (.invokestatic 67, 3) := by decide +kernel
theorem u81_81 : zEv sc 81 81 [l0, l1] [.int z2, .int z1, .int z0] h Q ↔ zEv sc 15 0 [.int z0, .int z1, .int z2] [] h (fun r h9 => zEv sc 81 84 [l0, l1] (r.toList ++ []) h9 Q) := zE_call (kd := 1) (na := 3) (nr := 0) (as := [.int z0, .int z1, .int z2]) (rest := []) (Or.inr ⟨rfl, rfl⟩) dz81_81 (by decide +kernel : z_lk2 zCT (z_cls 81) 67 = some (15, 0, 304)) (fun _ => ⟨by decide +kernel, by decide +kernel⟩) rfl rfl rfl (by decide +kernel) rfl rfl (Or.inl rfl)
theorem dz81_84 : decode (z_code 81) 84 = .ok (.ifCond .eq 20, 3) := by decide +kernel
theorem u81_84 : zEv sc 81 84 [l0, l1] [.int x] h Q ↔ (if x = 0 then zEv sc 81 104 [l0, l1] [] h Q else zEv sc 81 87 [l0, l1] [] h Q) := zE_ifP (P := x = 0) inferInstance 104 dz81_84 rfl rfl
theorem dz81_87 : decode (z_code 81) 87 = .ok (.aload_n 0, 1) := by decide +kernel
theorem u81_87 : zEv sc 81 87 [.ref a, l1] [] h Q ↔ zEv sc 81 88 [.ref a, l1] [.ref a] h Q := zE_pure (q := (88, [.ref a, l1], [.ref a])) dz81_87 rfl rfl rfl
theorem dz81_88 : decode (z_code 81) 88 = .ok (.getfield 10, 3) := by decide +kernel
theorem u81_88 (ho : zO a 9) : zEv sc 81 88 [l0, l1] [.ref a] (zst p iv) Q ↔ zRef (zRV p a 0) (fun j => zEv sc 81 91 [l0, l1] [.ref j] (zst p iv) Q) := zE_gfR dz81_88 (by decide +kernel : z_lk3 zFT (z_cls 81) 10 = some (9, 0, 0, 269)) (by decide +kernel) ho
theorem dz81_91 : decode (z_code 81) 91 = .ok (.iconst 1, 1) := by decide +kernel
theorem u81_91 : zEv sc 81 91 [l0, l1] [t0] h Q ↔ zEv sc 81 92 [l0, l1] [.int 1, t0] h Q := zE_iconst dz81_91 (by decide +kernel)
theorem dz81_92 : decode (z_code 81) 92 = .ok (.invokevirtual 95, 3) := by decide +kernel
theorem u81_92 (ho : zO a 2) : zEv sc 81 92 [l0, l1] [.int z0, .ref a] (zst p iv) Q ↔ zEv sc 14 0 [.ref a, .int z0] [] (zst p iv) (fun r h9 => zEv sc 81 95 [l0, l1] (r.toList ++ []) h9 Q) := zE_call (kd := 0) (na := 2) (nr := 0) (as := [.ref a, .int z0]) (rest := []) (Or.inl ⟨rfl, rfl⟩) dz81_92 (by decide +kernel : z_lk2 zCT (z_cls 81) 95 = some (14, 1, 307)) (fun z => by cases z) rfl rfl rfl (by decide +kernel) rfl rfl (Or.inr (zE_rc ho))
theorem dz81_95 : decode (z_code 81) 95 = .ok (.getfield 116, 3) := by decide +kernel
theorem u81_95 (ho : zO a 6) : zEv sc 81 95 [l0, l1] [.ref a] (zst p iv) Q ↔ zRef (zRV p a 1) (fun j => zEv sc 81 98 [l0, l1] [.ref j] (zst p iv) Q) := zE_gfR dz81_95 (by decide +kernel : z_lk3 zFT (z_cls 81) 116 = some (6, 1, 1, 109)) (by decide +kernel) ho
theorem dz81_98 : decode (z_code 81) 98 = .ok (.iload_n 1, 1) := by decide +kernel
theorem u81_98 : zEv sc 81 98 [l0, .int x] [t0] h Q ↔ zEv sc 81 99 [l0, .int x] [.int x, t0] h Q := zE_pure (q := (99, [l0, .int x], [.int x, t0])) dz81_98 rfl rfl rfl
theorem dz81_99 : decode (z_code 81) 99 = .ok (.bipush 40, 2) := by decide +kernel
theorem u81_99 : zEv sc 81 99 [l0, l1] [t0, t1] h Q ↔ zEv sc 81 101 [l0, l1] [.int 40, t0, t1] h Q := zE_bipush dz81_99 (by decide +kernel)
theorem dz81_101 : decode (z_code 81) 101 = .ok (.isub, 1) := by decide +kernel
theorem u81_101 : zEv sc 81 101 [l0, l1] [.int x2, .int x1, t0] h Q ↔ zEv sc 81 102 [l0, l1] [.int (x1 - x2), t0] h Q := zE_pure (q := (102, [l0, l1], [.int (x1 - x2), t0])) dz81_101 rfl rfl rfl
theorem dz81_102 : decode (z_code 81) 102 = .ok (.iaload, 1) := by decide +kernel
theorem u81_102 (ho : zO a 100) : zEv sc 81 102 [l0, l1] [.int x, .ref a] (zst p iv) Q ↔ (vp_in x (zLn a) ∧ zEv sc 81 103 [l0, l1] [.int (iv a x.toNatClampNeg)] (zst p iv) Q) := zE_ald (Or.inl ⟨rfl, rfl⟩) dz81_102 ho
theorem dz81_103 : decode (z_code 81) 103 = .ok (.ireturn, 1) := by decide +kernel
theorem u81_103 : zEv sc 81 103 [l0, l1] [.int x] h Q ↔ Q (some (.int x)) h := zE_ri dz81_103 (by decide +kernel)
theorem dz81_104 : decode (z_code 81) 104 = .ok (.iload_n 1, 1) := by decide +kernel
theorem u81_104 : zEv sc 81 104 [l0, .int x] [] h Q ↔ zEv sc 81 105 [l0, .int x] [.int x] h Q := zE_pure (q := (105, [l0, .int x], [.int x])) dz81_104 rfl rfl rfl
theorem dz81_105 : decode (z_code 81) 105 = .ok (.tableswitch 148 0 10 #[59, 67, 75, 83, 83, 97, 97, 114, 114, 132, 140], 59) := by decide +kernel
theorem u81_105_0 : zEv sc 81 105 [l0, l1] [.int 0] h Q ↔ zEv sc 81 164 [l0, l1] [] h Q := zE_tab (v := 0) (off := 59) 164 dz81_105 (by decide +kernel) (by decide +kernel) (by decide +kernel) rfl
theorem u81_105_1 : zEv sc 81 105 [l0, l1] [.int 1] h Q ↔ zEv sc 81 172 [l0, l1] [] h Q := zE_tab (v := 1) (off := 67) 172 dz81_105 (by decide +kernel) (by decide +kernel) (by decide +kernel) rfl
theorem u81_105_2 : zEv sc 81 105 [l0, l1] [.int 2] h Q ↔ zEv sc 81 180 [l0, l1] [] h Q := zE_tab (v := 2) (off := 75) 180 dz81_105 (by decide +kernel) (by decide +kernel) (by decide +kernel) rfl
theorem u81_105_3 : zEv sc 81 105 [l0, l1] [.int 3] h Q ↔ zEv sc 81 188 [l0, l1] [] h Q := zE_tab (v := 3) (off := 83) 188 dz81_105 (by decide +kernel) (by decide +kernel) (by decide +kernel) rfl
theorem u81_105_4 : zEv sc 81 105 [l0, l1] [.int 4] h Q ↔ zEv sc 81 188 [l0, l1] [] h Q := zE_tab (v := 4) (off := 83) 188 dz81_105 (by decide +kernel) (by decide +kernel) (by decide +kernel) rfl
theorem u81_105_5 : zEv sc 81 105 [l0, l1] [.int 5] h Q ↔ zEv sc 81 202 [l0, l1] [] h Q := zE_tab (v := 5) (off := 97) 202 dz81_105 (by decide +kernel) (by decide +kernel) (by decide +kernel) rfl
theorem u81_105_6 : zEv sc 81 105 [l0, l1] [.int 6] h Q ↔ zEv sc 81 202 [l0, l1] [] h Q := zE_tab (v := 6) (off := 97) 202 dz81_105 (by decide +kernel) (by decide +kernel) (by decide +kernel) rfl
theorem u81_105_7 : zEv sc 81 105 [l0, l1] [.int 7] h Q ↔ zEv sc 81 219 [l0, l1] [] h Q := zE_tab (v := 7) (off := 114) 219 dz81_105 (by decide +kernel) (by decide +kernel) (by decide +kernel) rfl
theorem u81_105_8 : zEv sc 81 105 [l0, l1] [.int 8] h Q ↔ zEv sc 81 219 [l0, l1] [] h Q := zE_tab (v := 8) (off := 114) 219 dz81_105 (by decide +kernel) (by decide +kernel) (by decide +kernel) rfl
theorem u81_105_9 : zEv sc 81 105 [l0, l1] [.int 9] h Q ↔ zEv sc 81 237 [l0, l1] [] h Q := zE_tab (v := 9) (off := 132) 237 dz81_105 (by decide +kernel) (by decide +kernel) (by decide +kernel) rfl
theorem u81_105_10 : zEv sc 81 105 [l0, l1] [.int 10] h Q ↔ zEv sc 81 245 [l0, l1] [] h Q := zE_tab (v := 10) (off := 140) 245 dz81_105 (by decide +kernel) (by decide +kernel) (by decide +kernel) rfl
theorem u81_105_d (hx : x.toInt < 0 ∨ 10 < x.toInt) : zEv sc 81 105 [l0, l1] [.int x] h Q ↔ zEv sc 81 253 [l0, l1] [] h Q := zE_tabD 253 dz81_105 hx rfl
theorem dz81_253 : decode (z_code 81) 253 = .ok (.ldc 71, 2) := by decide +kernel
theorem u81_253 : zEv sc 81 253 [l0, l1] [] h Q ↔ zEv sc 81 255 [l0, l1] [.int (-1000001)] h Q := zE_ldc (by decide +kernel : z_lkK zKT (z_cls 81) 71 = some ((-1000001), 319)) dz81_253
theorem dz81_255 : decode (z_code 81) 255 = .ok (.ireturn, 1) := by decide +kernel
theorem u81_255 : zEv sc 81 255 [l0, l1] [.int x] h Q ↔ Q (some (.int x)) h := zE_ri dz81_255 (by decide +kernel)
theorem dz81_245 : decode (z_code 81) 245 = .ok (.aload_n 0, 1) := by decide +kernel
theorem u81_245 : zEv sc 81 245 [.ref a, l1] [] h Q ↔ zEv sc 81 246 [.ref a, l1] [.ref a] h Q := zE_pure (q := (246, [.ref a, l1], [.ref a])) dz81_245 rfl rfl rfl
theorem dz81_246 : decode (z_code 81) 246 = .ok (.getfield 56, 3) := by decide +kernel
theorem u81_246 (ho : zO a 9) : zEv sc 81 246 [l0, l1] [.ref a] (zst p iv) Q ↔ zRef (zRV p a 8) (fun j => zEv sc 81 249 [l0, l1] [.ref j] (zst p iv) Q) := zE_gfR dz81_246 (by decide +kernel : z_lk3 zFT (z_cls 81) 56 = some (9, 8, 0, 277)) (by decide +kernel) ho
theorem dz81_249 : decode (z_code 81) 249 = .ok (.getfield 226, 3) := by decide +kernel
theorem u81_249 (ho : zO a 7) : zEv sc 81 249 [l0, l1] [.ref a] (zst p iv) Q ↔ zEv sc 81 252 [l0, l1] [.int (iv a 0)] (zst p iv) Q := zE_gfI dz81_249 (by decide +kernel : z_lk3 zFT (z_cls 81) 226 = some (7, 0, 1, 230)) (by decide +kernel) ho
theorem dz81_252 : decode (z_code 81) 252 = .ok (.ireturn, 1) := by decide +kernel
theorem u81_252 : zEv sc 81 252 [l0, l1] [.int x] h Q ↔ Q (some (.int x)) h := zE_ri dz81_252 (by decide +kernel)
theorem dz81_237 : decode (z_code 81) 237 = .ok (.aload_n 0, 1) := by decide +kernel
theorem u81_237 : zEv sc 81 237 [.ref a, l1] [] h Q ↔ zEv sc 81 238 [.ref a, l1] [.ref a] h Q := zE_pure (q := (238, [.ref a, l1], [.ref a])) dz81_237 rfl rfl rfl
theorem dz81_238 : decode (z_code 81) 238 = .ok (.getfield 22, 3) := by decide +kernel
theorem u81_238 (ho : zO a 9) : zEv sc 81 238 [l0, l1] [.ref a] (zst p iv) Q ↔ zRef (zRV p a 2) (fun j => zEv sc 81 241 [l0, l1] [.ref j] (zst p iv) Q) := zE_gfR dz81_238 (by decide +kernel : z_lk3 zFT (z_cls 81) 22 = some (9, 2, 0, 271)) (by decide +kernel) ho
theorem dz81_241 : decode (z_code 81) 241 = .ok (.getfield 225, 3) := by decide +kernel
theorem u81_241 (ho : zO a 3) : zEv sc 81 241 [l0, l1] [.ref a] (zst p iv) Q ↔ zEv sc 81 244 [l0, l1] [.int (iv a 0)] (zst p iv) Q := zE_gfI dz81_241 (by decide +kernel : z_lk3 zFT (z_cls 81) 225 = some (3, 0, 1, 162)) (by decide +kernel) ho
theorem dz81_244 : decode (z_code 81) 244 = .ok (.ireturn, 1) := by decide +kernel
theorem u81_244 : zEv sc 81 244 [l0, l1] [.int x] h Q ↔ Q (some (.int x)) h := zE_ri dz81_244 (by decide +kernel)
theorem dz81_219 : decode (z_code 81) 219 = .ok (.aload_n 0, 1) := by decide +kernel
theorem u81_219 : zEv sc 81 219 [.ref a, l1] [] h Q ↔ zEv sc 81 220 [.ref a, l1] [.ref a] h Q := zE_pure (q := (220, [.ref a, l1], [.ref a])) dz81_219 rfl rfl rfl
theorem dz81_220 : decode (z_code 81) 220 = .ok (.getfield 10, 3) := by decide +kernel
theorem u81_220 (ho : zO a 9) : zEv sc 81 220 [l0, l1] [.ref a] (zst p iv) Q ↔ zRef (zRV p a 0) (fun j => zEv sc 81 223 [l0, l1] [.ref j] (zst p iv) Q) := zE_gfR dz81_220 (by decide +kernel : z_lk3 zFT (z_cls 81) 10 = some (9, 0, 0, 269)) (by decide +kernel) ho
theorem dz81_223 : decode (z_code 81) 223 = .ok (.iload_n 1, 1) := by decide +kernel
theorem u81_223 : zEv sc 81 223 [l0, .int x] [t0] h Q ↔ zEv sc 81 224 [l0, .int x] [.int x, t0] h Q := zE_pure (q := (224, [l0, .int x], [.int x, t0])) dz81_223 rfl rfl rfl
theorem dz81_224 : decode (z_code 81) 224 = .ok (.bipush 7, 2) := by decide +kernel
theorem u81_224 : zEv sc 81 224 [l0, l1] [t0, t1] h Q ↔ zEv sc 81 226 [l0, l1] [.int 7, t0, t1] h Q := zE_bipush dz81_224 (by decide +kernel)
theorem dz81_226 : decode (z_code 81) 226 = .ok (.isub, 1) := by decide +kernel
theorem u81_226 : zEv sc 81 226 [l0, l1] [.int x2, .int x1, t0] h Q ↔ zEv sc 81 227 [l0, l1] [.int (x1 - x2), t0] h Q := zE_pure (q := (227, [l0, l1], [.int (x1 - x2), t0])) dz81_226 rfl rfl rfl
theorem dz81_227 : decode (z_code 81) 227 = .ok (.invokevirtual 95, 3) := by decide +kernel
theorem u81_227 (ho : zO a 2) : zEv sc 81 227 [l0, l1] [.int z0, .ref a] (zst p iv) Q ↔ zEv sc 14 0 [.ref a, .int z0] [] (zst p iv) (fun r h9 => zEv sc 81 230 [l0, l1] (r.toList ++ []) h9 Q) := zE_call (kd := 0) (na := 2) (nr := 0) (as := [.ref a, .int z0]) (rest := []) (Or.inl ⟨rfl, rfl⟩) dz81_227 (by decide +kernel : z_lk2 zCT (z_cls 81) 95 = some (14, 1, 307)) (fun z => by cases z) rfl rfl rfl (by decide +kernel) rfl rfl (Or.inr (zE_rc ho))
theorem dz81_230 : decode (z_code 81) 230 = .ok (.getfield 107, 3) := by decide +kernel
theorem u81_230 (ho : zO a 6) : zEv sc 81 230 [l0, l1] [.ref a] (zst p iv) Q ↔ zRef (zRV p a 2) (fun j => zEv sc 81 233 [l0, l1] [.ref j] (zst p iv) Q) := zE_gfR dz81_230 (by decide +kernel : z_lk3 zFT (z_cls 81) 107 = some (6, 2, 1, 114)) (by decide +kernel) ho
theorem dz81_233 : decode (z_code 81) 233 = .ok (.invokevirtual 203, 3) := by decide +kernel
theorem u81_233 (ho : zO a 4) : zEv sc 81 233 [l0, l1] [.ref a] (zst p iv) Q ↔ zEv sc 36 0 [.ref a, .null, .null] [] (zst p iv) (fun r h9 => zEv sc 81 236 [l0, l1] (r.toList ++ []) h9 Q) := zE_call (kd := 0) (na := 1) (nr := 0) (as := [.ref a]) (rest := []) (Or.inl ⟨rfl, rfl⟩) dz81_233 (by decide +kernel : z_lk2 zCT (z_cls 81) 203 = some (36, 1, 315)) (fun z => by cases z) rfl rfl rfl (by decide +kernel) rfl rfl (Or.inr (zE_rc ho))
theorem dz81_236 : decode (z_code 81) 236 = .ok (.ireturn, 1) := by decide +kernel
theorem u81_236 : zEv sc 81 236 [l0, l1] [.int x] h Q ↔ Q (some (.int x)) h := zE_ri dz81_236 (by decide +kernel)
theorem dz81_202 : decode (z_code 81) 202 = .ok (.aload_n 0, 1) := by decide +kernel
theorem u81_202 : zEv sc 81 202 [.ref a, l1] [] h Q ↔ zEv sc 81 203 [.ref a, l1] [.ref a] h Q := zE_pure (q := (203, [.ref a, l1], [.ref a])) dz81_202 rfl rfl rfl
theorem dz81_203 : decode (z_code 81) 203 = .ok (.getfield 10, 3) := by decide +kernel
theorem u81_203 (ho : zO a 9) : zEv sc 81 203 [l0, l1] [.ref a] (zst p iv) Q ↔ zRef (zRV p a 0) (fun j => zEv sc 81 206 [l0, l1] [.ref j] (zst p iv) Q) := zE_gfR dz81_203 (by decide +kernel : z_lk3 zFT (z_cls 81) 10 = some (9, 0, 0, 269)) (by decide +kernel) ho
theorem dz81_206 : decode (z_code 81) 206 = .ok (.iload_n 1, 1) := by decide +kernel
theorem u81_206 : zEv sc 81 206 [l0, .int x] [t0] h Q ↔ zEv sc 81 207 [l0, .int x] [.int x, t0] h Q := zE_pure (q := (207, [l0, .int x], [.int x, t0])) dz81_206 rfl rfl rfl
theorem dz81_207 : decode (z_code 81) 207 = .ok (.iconst 5, 1) := by decide +kernel
theorem u81_207 : zEv sc 81 207 [l0, l1] [t0, t1] h Q ↔ zEv sc 81 208 [l0, l1] [.int 5, t0, t1] h Q := zE_iconst dz81_207 (by decide +kernel)
theorem dz81_208 : decode (z_code 81) 208 = .ok (.isub, 1) := by decide +kernel
theorem u81_208 : zEv sc 81 208 [l0, l1] [.int x2, .int x1, t0] h Q ↔ zEv sc 81 209 [l0, l1] [.int (x1 - x2), t0] h Q := zE_pure (q := (209, [l0, l1], [.int (x1 - x2), t0])) dz81_208 rfl rfl rfl
theorem dz81_209 : decode (z_code 81) 209 = .ok (.invokevirtual 95, 3) := by decide +kernel
theorem u81_209 (ho : zO a 2) : zEv sc 81 209 [l0, l1] [.int z0, .ref a] (zst p iv) Q ↔ zEv sc 14 0 [.ref a, .int z0] [] (zst p iv) (fun r h9 => zEv sc 81 212 [l0, l1] (r.toList ++ []) h9 Q) := zE_call (kd := 0) (na := 2) (nr := 0) (as := [.ref a, .int z0]) (rest := []) (Or.inl ⟨rfl, rfl⟩) dz81_209 (by decide +kernel : z_lk2 zCT (z_cls 81) 95 = some (14, 1, 307)) (fun z => by cases z) rfl rfl rfl (by decide +kernel) rfl rfl (Or.inr (zE_rc ho))
theorem dz81_212 : decode (z_code 81) 212 = .ok (.getfield 107, 3) := by decide +kernel
theorem u81_212 (ho : zO a 6) : zEv sc 81 212 [l0, l1] [.ref a] (zst p iv) Q ↔ zRef (zRV p a 2) (fun j => zEv sc 81 215 [l0, l1] [.ref j] (zst p iv) Q) := zE_gfR dz81_212 (by decide +kernel : z_lk3 zFT (z_cls 81) 107 = some (6, 2, 1, 114)) (by decide +kernel) ho
theorem dz81_215 : decode (z_code 81) 215 = .ok (.getfield 111, 3) := by decide +kernel
theorem u81_215 (ho : zO a 4) : zEv sc 81 215 [l0, l1] [.ref a] (zst p iv) Q ↔ zEv sc 81 218 [l0, l1] [.int (iv a 0)] (zst p iv) Q := zE_gfI dz81_215 (by decide +kernel : z_lk3 zFT (z_cls 81) 111 = some (4, 0, 1, 88)) (by decide +kernel) ho
theorem dz81_218 : decode (z_code 81) 218 = .ok (.ireturn, 1) := by decide +kernel
theorem u81_218 : zEv sc 81 218 [l0, l1] [.int x] h Q ↔ Q (some (.int x)) h := zE_ri dz81_218 (by decide +kernel)
theorem dz81_188 : decode (z_code 81) 188 = .ok (.aload_n 0, 1) := by decide +kernel
theorem u81_188 : zEv sc 81 188 [.ref a, l1] [] h Q ↔ zEv sc 81 189 [.ref a, l1] [.ref a] h Q := zE_pure (q := (189, [.ref a, l1], [.ref a])) dz81_188 rfl rfl rfl
theorem dz81_189 : decode (z_code 81) 189 = .ok (.getfield 10, 3) := by decide +kernel
theorem u81_189 (ho : zO a 9) : zEv sc 81 189 [l0, l1] [.ref a] (zst p iv) Q ↔ zRef (zRV p a 0) (fun j => zEv sc 81 192 [l0, l1] [.ref j] (zst p iv) Q) := zE_gfR dz81_189 (by decide +kernel : z_lk3 zFT (z_cls 81) 10 = some (9, 0, 0, 269)) (by decide +kernel) ho
theorem dz81_192 : decode (z_code 81) 192 = .ok (.iload_n 1, 1) := by decide +kernel
theorem u81_192 : zEv sc 81 192 [l0, .int x] [t0] h Q ↔ zEv sc 81 193 [l0, .int x] [.int x, t0] h Q := zE_pure (q := (193, [l0, .int x], [.int x, t0])) dz81_192 rfl rfl rfl
theorem dz81_193 : decode (z_code 81) 193 = .ok (.iconst 3, 1) := by decide +kernel
theorem u81_193 : zEv sc 81 193 [l0, l1] [t0, t1] h Q ↔ zEv sc 81 194 [l0, l1] [.int 3, t0, t1] h Q := zE_iconst dz81_193 (by decide +kernel)
theorem dz81_194 : decode (z_code 81) 194 = .ok (.isub, 1) := by decide +kernel
theorem u81_194 : zEv sc 81 194 [l0, l1] [.int x2, .int x1, t0] h Q ↔ zEv sc 81 195 [l0, l1] [.int (x1 - x2), t0] h Q := zE_pure (q := (195, [l0, l1], [.int (x1 - x2), t0])) dz81_194 rfl rfl rfl
theorem dz81_195 : decode (z_code 81) 195 = .ok (.invokevirtual 95, 3) := by decide +kernel
theorem u81_195 (ho : zO a 2) : zEv sc 81 195 [l0, l1] [.int z0, .ref a] (zst p iv) Q ↔ zEv sc 14 0 [.ref a, .int z0] [] (zst p iv) (fun r h9 => zEv sc 81 198 [l0, l1] (r.toList ++ []) h9 Q) := zE_call (kd := 0) (na := 2) (nr := 0) (as := [.ref a, .int z0]) (rest := []) (Or.inl ⟨rfl, rfl⟩) dz81_195 (by decide +kernel : z_lk2 zCT (z_cls 81) 95 = some (14, 1, 307)) (fun z => by cases z) rfl rfl rfl (by decide +kernel) rfl rfl (Or.inr (zE_rc ho))
theorem dz81_198 : decode (z_code 81) 198 = .ok (.getfield 99, 3) := by decide +kernel
theorem u81_198 (ho : zO a 6) : zEv sc 81 198 [l0, l1] [.ref a] (zst p iv) Q ↔ zEv sc 81 201 [l0, l1] [.int (iv a 0)] (zst p iv) Q := zE_gfI dz81_198 (by decide +kernel : z_lk3 zFT (z_cls 81) 99 = some (6, 0, 1, 107)) (by decide +kernel) ho
theorem dz81_201 : decode (z_code 81) 201 = .ok (.ireturn, 1) := by decide +kernel
theorem u81_201 : zEv sc 81 201 [l0, l1] [.int x] h Q ↔ Q (some (.int x)) h := zE_ri dz81_201 (by decide +kernel)
theorem dz81_180 : decode (z_code 81) 180 = .ok (.aload_n 0, 1) := by decide +kernel
theorem u81_180 : zEv sc 81 180 [.ref a, l1] [] h Q ↔ zEv sc 81 181 [.ref a, l1] [.ref a] h Q := zE_pure (q := (181, [.ref a, l1], [.ref a])) dz81_180 rfl rfl rfl
theorem dz81_181 : decode (z_code 81) 181 = .ok (.getfield 10, 3) := by decide +kernel
theorem u81_181 (ho : zO a 9) : zEv sc 81 181 [l0, l1] [.ref a] (zst p iv) Q ↔ zRef (zRV p a 0) (fun j => zEv sc 81 184 [l0, l1] [.ref j] (zst p iv) Q) := zE_gfR dz81_181 (by decide +kernel : z_lk3 zFT (z_cls 81) 10 = some (9, 0, 0, 269)) (by decide +kernel) ho
theorem dz81_184 : decode (z_code 81) 184 = .ok (.getfield 119, 3) := by decide +kernel
theorem u81_184 (ho : zO a 2) : zEv sc 81 184 [l0, l1] [.ref a] (zst p iv) Q ↔ zEv sc 81 187 [l0, l1] [.int (iv a 1)] (zst p iv) Q := zE_gfI dz81_184 (by decide +kernel : z_lk3 zFT (z_cls 81) 119 = some (2, 1, 1, 135)) (by decide +kernel) ho
theorem dz81_187 : decode (z_code 81) 187 = .ok (.ireturn, 1) := by decide +kernel
theorem u81_187 : zEv sc 81 187 [l0, l1] [.int x] h Q ↔ Q (some (.int x)) h := zE_ri dz81_187 (by decide +kernel)
theorem dz81_172 : decode (z_code 81) 172 = .ok (.aload_n 0, 1) := by decide +kernel
theorem u81_172 : zEv sc 81 172 [.ref a, l1] [] h Q ↔ zEv sc 81 173 [.ref a, l1] [.ref a] h Q := zE_pure (q := (173, [.ref a, l1], [.ref a])) dz81_172 rfl rfl rfl
theorem dz81_173 : decode (z_code 81) 173 = .ok (.getfield 10, 3) := by decide +kernel
theorem u81_173 (ho : zO a 9) : zEv sc 81 173 [l0, l1] [.ref a] (zst p iv) Q ↔ zRef (zRV p a 0) (fun j => zEv sc 81 176 [l0, l1] [.ref j] (zst p iv) Q) := zE_gfR dz81_173 (by decide +kernel : z_lk3 zFT (z_cls 81) 10 = some (9, 0, 0, 269)) (by decide +kernel) ho
theorem dz81_176 : decode (z_code 81) 176 = .ok (.invokevirtual 222, 3) := by decide +kernel
theorem u81_176 (ho : zO a 2) : zEv sc 81 176 [l0, l1] [.ref a] (zst p iv) Q ↔ zEv sc 20 0 [.ref a, .null, .null] [] (zst p iv) (fun r h9 => zEv sc 81 179 [l0, l1] (r.toList ++ []) h9 Q) := zE_call (kd := 0) (na := 1) (nr := 0) (as := [.ref a]) (rest := []) (Or.inl ⟨rfl, rfl⟩) dz81_176 (by decide +kernel : z_lk2 zCT (z_cls 81) 222 = some (20, 1, 311)) (fun z => by cases z) rfl rfl rfl (by decide +kernel) rfl rfl (Or.inr (zE_rc ho))
theorem dz81_179 : decode (z_code 81) 179 = .ok (.ireturn, 1) := by decide +kernel
theorem u81_179 : zEv sc 81 179 [l0, l1] [.int x] h Q ↔ Q (some (.int x)) h := zE_ri dz81_179 (by decide +kernel)
theorem dz81_164 : decode (z_code 81) 164 = .ok (.aload_n 0, 1) := by decide +kernel
theorem u81_164 : zEv sc 81 164 [.ref a, l1] [] h Q ↔ zEv sc 81 165 [.ref a, l1] [.ref a] h Q := zE_pure (q := (165, [.ref a, l1], [.ref a])) dz81_164 rfl rfl rfl
theorem dz81_165 : decode (z_code 81) 165 = .ok (.getfield 10, 3) := by decide +kernel
theorem u81_165 (ho : zO a 9) : zEv sc 81 165 [l0, l1] [.ref a] (zst p iv) Q ↔ zRef (zRV p a 0) (fun j => zEv sc 81 168 [l0, l1] [.ref j] (zst p iv) Q) := zE_gfR dz81_165 (by decide +kernel : z_lk3 zFT (z_cls 81) 10 = some (9, 0, 0, 269)) (by decide +kernel) ho
theorem dz81_168 : decode (z_code 81) 168 = .ok (.getfield 72, 3) := by decide +kernel
theorem u81_168 (ho : zO a 2) : zEv sc 81 168 [l0, l1] [.ref a] (zst p iv) Q ↔ zEv sc 81 171 [l0, l1] [.int (iv a 0)] (zst p iv) Q := zE_gfI dz81_168 (by decide +kernel : z_lk3 zFT (z_cls 81) 72 = some (2, 0, 1, 132)) (by decide +kernel) ho
theorem dz81_171 : decode (z_code 81) 171 = .ok (.ireturn, 1) := by decide +kernel
theorem u81_171 : zEv sc 81 171 [l0, l1] [.int x] h Q ↔ Q (some (.int x)) h := zE_ri dz81_171 (by decide +kernel)
/-! method 82: FieldMixtures.undo()I -/
theorem dz82_0 : decode (z_code 82) 0 = .ok (.aload_n 0, 1) := by decide +kernel
theorem u82_0 : zEv sc 82 0 [.ref a] [] h Q ↔ zEv sc 82 1 [.ref a] [.ref a] h Q := zE_pure (q := (1, [.ref a], [.ref a])) dz82_0 rfl rfl rfl
theorem dz82_1 : decode (z_code 82) 1 = .ok (.getfield 22, 3) := by decide +kernel
theorem u82_1 (ho : zO a 9) : zEv sc 82 1 [l0] [.ref a] (zst p iv) Q ↔ zRef (zRV p a 2) (fun j => zEv sc 82 4 [l0] [.ref j] (zst p iv) Q) := zE_gfR dz82_1 (by decide +kernel : z_lk3 zFT (z_cls 82) 22 = some (9, 2, 0, 271)) (by decide +kernel) ho
theorem dz82_4 : decode (z_code 82) 4 = .ok (.getfield 225, 3) := by decide +kernel
theorem u82_4 (ho : zO a 3) : zEv sc 82 4 [l0] [.ref a] (zst p iv) Q ↔ zEv sc 82 7 [l0] [.int (iv a 0)] (zst p iv) Q := zE_gfI dz82_4 (by decide +kernel : z_lk3 zFT (z_cls 82) 225 = some (3, 0, 1, 162)) (by decide +kernel) ho
theorem dz82_7 : decode (z_code 82) 7 = .ok (.ifCond .ne 6, 3) := by decide +kernel
theorem u82_7 : zEv sc 82 7 [l0] [.int x] h Q ↔ (if ¬ x = 0 then zEv sc 82 13 [l0] [] h Q else zEv sc 82 10 [l0] [] h Q) := zE_ifP (P := ¬ x = 0) inferInstance 13 dz82_7 rfl rfl
theorem dz82_10 : decode (z_code 82) 10 = .ok (.ldc 155, 2) := by decide +kernel
theorem u82_10 : zEv sc 82 10 [l0] [] h Q ↔ zEv sc 82 12 [l0] [.int (-1000002)] h Q := zE_ldc (by decide +kernel : z_lkK zKT (z_cls 82) 155 = some ((-1000002), 324)) dz82_10
theorem dz82_12 : decode (z_code 82) 12 = .ok (.ireturn, 1) := by decide +kernel
theorem u82_12 : zEv sc 82 12 [l0] [.int x] h Q ↔ Q (some (.int x)) h := zE_ri dz82_12 (by decide +kernel)
theorem dz82_13 : decode (z_code 82) 13 = .ok (.aload_n 0, 1) := by decide +kernel
theorem u82_13 : zEv sc 82 13 [.ref a] [] h Q ↔ zEv sc 82 14 [.ref a] [.ref a] h Q := zE_pure (q := (14, [.ref a], [.ref a])) dz82_13 rfl rfl rfl
theorem dz82_14 : decode (z_code 82) 14 = .ok (.getfield 22, 3) := by decide +kernel
theorem u82_14 (ho : zO a 9) : zEv sc 82 14 [l0] [.ref a] (zst p iv) Q ↔ zRef (zRV p a 2) (fun j => zEv sc 82 17 [l0] [.ref j] (zst p iv) Q) := zE_gfR dz82_14 (by decide +kernel : z_lk3 zFT (z_cls 82) 22 = some (9, 2, 0, 271)) (by decide +kernel) ho
theorem dz82_17 : decode (z_code 82) 17 = .ok (.aload_n 0, 1) := by decide +kernel
theorem u82_17 : zEv sc 82 17 [.ref a] [t0] h Q ↔ zEv sc 82 18 [.ref a] [.ref a, t0] h Q := zE_pure (q := (18, [.ref a], [.ref a, t0])) dz82_17 rfl rfl rfl
theorem dz82_18 : decode (z_code 82) 18 = .ok (.getfield 10, 3) := by decide +kernel
theorem u82_18 (ho : zO a 9) : zEv sc 82 18 [l0] [.ref a, t0] (zst p iv) Q ↔ zRef (zRV p a 0) (fun j => zEv sc 82 21 [l0] [.ref j, t0] (zst p iv) Q) := zE_gfR dz82_18 (by decide +kernel : z_lk3 zFT (z_cls 82) 10 = some (9, 0, 0, 269)) (by decide +kernel) ho
theorem dz82_21 : decode (z_code 82) 21 = .ok (.invokevirtual 229, 3) := by decide +kernel
theorem u82_21 (ho : zO a 3) : zEv sc 82 21 [l0] [.ref b0, .ref a] (zst p iv) Q ↔ zEv sc 27 0 [.ref a, .ref b0] [] (zst p iv) (fun r h9 => zEv sc 82 24 [l0] (r.toList ++ []) h9 Q) := zE_call (kd := 0) (na := 2) (nr := 0) (as := [.ref a, .ref b0]) (rest := []) (Or.inl ⟨rfl, rfl⟩) dz82_21 (by decide +kernel : z_lk2 zCT (z_cls 82) 229 = some (27, 1, 325)) (fun z => by cases z) rfl rfl rfl (by decide +kernel) rfl rfl (Or.inr (zE_rc ho))
theorem dz82_24 : decode (z_code 82) 24 = .ok (.aload_n 0, 1) := by decide +kernel
theorem u82_24 : zEv sc 82 24 [.ref a] [] h Q ↔ zEv sc 82 25 [.ref a] [.ref a] h Q := zE_pure (q := (25, [.ref a], [.ref a])) dz82_24 rfl rfl rfl
theorem dz82_25 : decode (z_code 82) 25 = .ok (.getfield 22, 3) := by decide +kernel
theorem u82_25 (ho : zO a 9) : zEv sc 82 25 [l0] [.ref a] (zst p iv) Q ↔ zRef (zRV p a 2) (fun j => zEv sc 82 28 [l0] [.ref j] (zst p iv) Q) := zE_gfR dz82_25 (by decide +kernel : z_lk3 zFT (z_cls 82) 22 = some (9, 2, 0, 271)) (by decide +kernel) ho
theorem dz82_28 : decode (z_code 82) 28 = .ok (.getfield 225, 3) := by decide +kernel
theorem u82_28 (ho : zO a 3) : zEv sc 82 28 [l0] [.ref a] (zst p iv) Q ↔ zEv sc 82 31 [l0] [.int (iv a 0)] (zst p iv) Q := zE_gfI dz82_28 (by decide +kernel : z_lk3 zFT (z_cls 82) 225 = some (3, 0, 1, 162)) (by decide +kernel) ho
theorem dz82_31 : decode (z_code 82) 31 = .ok (.ireturn, 1) := by decide +kernel
theorem u82_31 : zEv sc 82 31 [l0] [.int x] h Q ↔ Q (some (.int x)) h := zE_ri dz82_31 (by decide +kernel)
/-! method 83: FieldMixtures.type(I)I -/
theorem dz83_0 : decode (z_code 83) 0 = .ok (.iload_n 1, 1) := by decide +kernel
theorem u83_0 : zEv sc 83 0 [l0, .int x] [] h Q ↔ zEv sc 83 1 [l0, .int x] [.int x] h Q := zE_pure (q := (1, [l0, .int x], [.int x])) dz83_0 rfl rfl rfl
theorem dz83_1 : decode (z_code 83) 1 = .ok (.bipush 32, 2) := by decide +kernel
theorem u83_1 : zEv sc 83 1 [l0, l1] [t0] h Q ↔ zEv sc 83 3 [l0, l1] [.int 32, t0] h Q := zE_bipush dz83_1 (by decide +kernel)
theorem dz83_3 : decode (z_code 83) 3 = .ok (.bipush 126, 2) := by decide +kernel
theorem u83_3 : zEv sc 83 3 [l0, l1] [t0, t1] h Q ↔ zEv sc 83 5 [l0, l1] [.int 126, t0, t1] h Q := zE_bipush dz83_3 (by decide +kernel)
theorem dz83_5 : decode (z_code 83) 5 = .ok (.invokestatic 67, 3) := by decide +kernel
theorem u83_5 : zEv sc 83 5 [l0, l1] [.int z2, .int z1, .int z0] h Q ↔ zEv sc 15 0 [.int z0, .int z1, .int z2] [] h (fun r h9 => zEv sc 83 8 [l0, l1] (r.toList ++ []) h9 Q) := zE_call (kd := 1) (na := 3) (nr := 0) (as := [.int z0, .int z1, .int z2]) (rest := []) (Or.inr ⟨rfl, rfl⟩) dz83_5 (by decide +kernel : z_lk2 zCT (z_cls 83) 67 = some (15, 0, 304)) (fun _ => ⟨by decide +kernel, by decide +kernel⟩) rfl rfl rfl (by decide +kernel) rfl rfl (Or.inl rfl)
theorem dz83_8 : decode (z_code 83) 8 = .ok (.ifCond .ne 6, 3) := by decide +kernel
theorem u83_8 : zEv sc 83 8 [l0, l1] [.int x] h Q ↔ (if ¬ x = 0 then zEv sc 83 14 [l0, l1] [] h Q else zEv sc 83 11 [l0, l1] [] h Q) := zE_ifP (P := ¬ x = 0) inferInstance 14 dz83_8 rfl rfl
theorem dz83_11 : decode (z_code 83) 11 = .ok (.ldc 71, 2) := by decide +kernel
theorem u83_11 : zEv sc 83 11 [l0, l1] [] h Q ↔ zEv sc 83 13 [l0, l1] [.int (-1000001)] h Q := zE_ldc (by decide +kernel : z_lkK zKT (z_cls 83) 71 = some ((-1000001), 319)) dz83_11
theorem dz83_13 : decode (z_code 83) 13 = .ok (.ireturn, 1) := by decide +kernel
theorem u83_13 : zEv sc 83 13 [l0, l1] [.int x] h Q ↔ Q (some (.int x)) h := zE_ri dz83_13 (by decide +kernel)
theorem dz83_14 : decode (z_code 83) 14 = .ok (.aload_n 0, 1) := by decide +kernel
theorem u83_14 : zEv sc 83 14 [.ref a, l1] [] h Q ↔ zEv sc 83 15 [.ref a, l1] [.ref a] h Q := zE_pure (q := (15, [.ref a, l1], [.ref a])) dz83_14 rfl rfl rfl
theorem dz83_15 : decode (z_code 83) 15 = .ok (.getfield 56, 3) := by decide +kernel
theorem u83_15 (ho : zO a 9) : zEv sc 83 15 [l0, l1] [.ref a] (zst p iv) Q ↔ zRef (zRV p a 8) (fun j => zEv sc 83 18 [l0, l1] [.ref j] (zst p iv) Q) := zE_gfR dz83_15 (by decide +kernel : z_lk3 zFT (z_cls 83) 56 = some (9, 8, 0, 277)) (by decide +kernel) ho
theorem dz83_18 : decode (z_code 83) 18 = .ok (.getfield 226, 3) := by decide +kernel
theorem u83_18 (ho : zO a 7) : zEv sc 83 18 [l0, l1] [.ref a] (zst p iv) Q ↔ zEv sc 83 21 [l0, l1] [.int (iv a 0)] (zst p iv) Q := zE_gfI dz83_18 (by decide +kernel : z_lk3 zFT (z_cls 83) 226 = some (7, 0, 1, 230)) (by decide +kernel) ho
theorem dz83_21 : decode (z_code 83) 21 = .ok (.bipush 80, 2) := by decide +kernel
theorem u83_21 : zEv sc 83 21 [l0, l1] [t0] h Q ↔ zEv sc 83 23 [l0, l1] [.int 80, t0] h Q := zE_bipush dz83_21 (by decide +kernel)
theorem dz83_23 : decode (z_code 83) 23 = .ok (.if_icmp .lt 6, 3) := by decide +kernel
theorem u83_23 : zEv sc 83 23 [l0, l1] [.int x2, .int x1] h Q ↔ (if x1 < x2 then zEv sc 83 29 [l0, l1] [] h Q else zEv sc 83 26 [l0, l1] [] h Q) := zE_icP (P := x1 < x2) inferInstance 29 dz83_23 rfl rfl
theorem dz83_26 : decode (z_code 83) 26 = .ok (.ldc 146, 2) := by decide +kernel
theorem u83_26 : zEv sc 83 26 [l0, l1] [] h Q ↔ zEv sc 83 28 [l0, l1] [.int (-1000003)] h Q := zE_ldc (by decide +kernel : z_lkK zKT (z_cls 83) 146 = some ((-1000003), 486)) dz83_26
theorem dz83_28 : decode (z_code 83) 28 = .ok (.ireturn, 1) := by decide +kernel
theorem u83_28 : zEv sc 83 28 [l0, l1] [.int x] h Q ↔ Q (some (.int x)) h := zE_ri dz83_28 (by decide +kernel)
theorem dz83_29 : decode (z_code 83) 29 = .ok (.aload_n 0, 1) := by decide +kernel
theorem u83_29 : zEv sc 83 29 [.ref a, l1] [] h Q ↔ zEv sc 83 30 [.ref a, l1] [.ref a] h Q := zE_pure (q := (30, [.ref a, l1], [.ref a])) dz83_29 rfl rfl rfl
theorem dz83_30 : decode (z_code 83) 30 = .ok (.getfield 56, 3) := by decide +kernel
theorem u83_30 (ho : zO a 9) : zEv sc 83 30 [l0, l1] [.ref a] (zst p iv) Q ↔ zRef (zRV p a 8) (fun j => zEv sc 83 33 [l0, l1] [.ref j] (zst p iv) Q) := zE_gfR dz83_30 (by decide +kernel : z_lk3 zFT (z_cls 83) 56 = some (9, 8, 0, 277)) (by decide +kernel) ho
theorem dz83_33 : decode (z_code 83) 33 = .ok (.iload_n 1, 1) := by decide +kernel
theorem u83_33 : zEv sc 83 33 [l0, .int x] [t0] h Q ↔ zEv sc 83 34 [l0, .int x] [.int x, t0] h Q := zE_pure (q := (34, [l0, .int x], [.int x, t0])) dz83_33 rfl rfl rfl
theorem dz83_34 : decode (z_code 83) 34 = .ok (.invokevirtual 232, 3) := by decide +kernel
theorem u83_34 (ho : zO a 7) : zEv sc 83 34 [l0, l1] [.int z0, .ref a] (zst p iv) Q ↔ zEv sc 43 0 [.ref a, .int z0] [] (zst p iv) (fun r h9 => zEv sc 83 37 [l0, l1] (r.toList ++ []) h9 Q) := zE_call (kd := 0) (na := 2) (nr := 0) (as := [.ref a, .int z0]) (rest := []) (Or.inl ⟨rfl, rfl⟩) dz83_34 (by decide +kernel : z_lk2 zCT (z_cls 83) 232 = some (43, 1, 584)) (fun z => by cases z) rfl rfl rfl (by decide +kernel) rfl rfl (Or.inr (zE_rc ho))
theorem dz83_37 : decode (z_code 83) 37 = .ok (.aload_n 0, 1) := by decide +kernel
theorem u83_37 : zEv sc 83 37 [.ref a, l1] [] h Q ↔ zEv sc 83 38 [.ref a, l1] [.ref a] h Q := zE_pure (q := (38, [.ref a, l1], [.ref a])) dz83_37 rfl rfl rfl
theorem dz83_38 : decode (z_code 83) 38 = .ok (.getfield 56, 3) := by decide +kernel
theorem u83_38 (ho : zO a 9) : zEv sc 83 38 [l0, l1] [.ref a] (zst p iv) Q ↔ zRef (zRV p a 8) (fun j => zEv sc 83 41 [l0, l1] [.ref j] (zst p iv) Q) := zE_gfR dz83_38 (by decide +kernel : z_lk3 zFT (z_cls 83) 56 = some (9, 8, 0, 277)) (by decide +kernel) ho
theorem dz83_41 : decode (z_code 83) 41 = .ok (.getfield 226, 3) := by decide +kernel
theorem u83_41 (ho : zO a 7) : zEv sc 83 41 [l0, l1] [.ref a] (zst p iv) Q ↔ zEv sc 83 44 [l0, l1] [.int (iv a 0)] (zst p iv) Q := zE_gfI dz83_41 (by decide +kernel : z_lk3 zFT (z_cls 83) 226 = some (7, 0, 1, 230)) (by decide +kernel) ho
theorem dz83_44 : decode (z_code 83) 44 = .ok (.ireturn, 1) := by decide +kernel
theorem u83_44 : zEv sc 83 44 [l0, l1] [.int x] h Q ↔ Q (some (.int x)) h := zE_ri dz83_44 (by decide +kernel)
/-! method 84: FieldMixtures.clearText()I -/
theorem dz84_0 : decode (z_code 84) 0 = .ok (.aload_n 0, 1) := by decide +kernel
theorem u84_0 : zEv sc 84 0 [.ref a, l1] [] h Q ↔ zEv sc 84 1 [.ref a, l1] [.ref a] h Q := zE_pure (q := (1, [.ref a, l1], [.ref a])) dz84_0 rfl rfl rfl
theorem dz84_1 : decode (z_code 84) 1 = .ok (.getfield 56, 3) := by decide +kernel
theorem u84_1 (ho : zO a 9) : zEv sc 84 1 [l0, l1] [.ref a] (zst p iv) Q ↔ zRef (zRV p a 8) (fun j => zEv sc 84 4 [l0, l1] [.ref j] (zst p iv) Q) := zE_gfR dz84_1 (by decide +kernel : z_lk3 zFT (z_cls 84) 56 = some (9, 8, 0, 277)) (by decide +kernel) ho
theorem dz84_4 : decode (z_code 84) 4 = .ok (.getfield 226, 3) := by decide +kernel
theorem u84_4 (ho : zO a 7) : zEv sc 84 4 [l0, l1] [.ref a] (zst p iv) Q ↔ zEv sc 84 7 [l0, l1] [.int (iv a 0)] (zst p iv) Q := zE_gfI dz84_4 (by decide +kernel : z_lk3 zFT (z_cls 84) 226 = some (7, 0, 1, 230)) (by decide +kernel) ho
theorem dz84_7 : decode (z_code 84) 7 = .ok (.istore_n 1, 1) := by decide +kernel
theorem u84_7 : zEv sc 84 7 [l0, l1] [.int x] h Q ↔ zEv sc 84 8 [l0, .int x] [] h Q := zE_pure (q := (8, [l0, .int x], [])) dz84_7 rfl rfl rfl
theorem dz84_8 : decode (z_code 84) 8 = .ok (.aload_n 0, 1) := by decide +kernel
theorem u84_8 : zEv sc 84 8 [.ref a, l1] [] h Q ↔ zEv sc 84 9 [.ref a, l1] [.ref a] h Q := zE_pure (q := (9, [.ref a, l1], [.ref a])) dz84_8 rfl rfl rfl
theorem dz84_9 : decode (z_code 84) 9 = .ok (.getfield 56, 3) := by decide +kernel
theorem u84_9 (ho : zO a 9) : zEv sc 84 9 [l0, l1] [.ref a] (zst p iv) Q ↔ zRef (zRV p a 8) (fun j => zEv sc 84 12 [l0, l1] [.ref j] (zst p iv) Q) := zE_gfR dz84_9 (by decide +kernel : z_lk3 zFT (z_cls 84) 56 = some (9, 8, 0, 277)) (by decide +kernel) ho
theorem dz84_12 : decode (z_code 84) 12 = .ok (.invokevirtual 235, 3) := by decide +kernel
theorem u84_12 (ho : zO a 7) : zEv sc 84 12 [l0, l1] [.ref a] (zst p iv) Q ↔ zEv sc 44 0 [.ref a] [] (zst p iv) (fun r h9 => zEv sc 84 15 [l0, l1] (r.toList ++ []) h9 Q) := zE_call (kd := 0) (na := 1) (nr := 0) (as := [.ref a]) (rest := []) (Or.inl ⟨rfl, rfl⟩) dz84_12 (by decide +kernel : z_lk2 zCT (z_cls 84) 235 = some (44, 1, 576)) (fun z => by cases z) rfl rfl rfl (by decide +kernel) rfl rfl (Or.inr (zE_rc ho))
theorem dz84_15 : decode (z_code 84) 15 = .ok (.iload_n 1, 1) := by decide +kernel
theorem u84_15 : zEv sc 84 15 [l0, .int x] [] h Q ↔ zEv sc 84 16 [l0, .int x] [.int x] h Q := zE_pure (q := (16, [l0, .int x], [.int x])) dz84_15 rfl rfl rfl
theorem dz84_16 : decode (z_code 84) 16 = .ok (.ireturn, 1) := by decide +kernel
theorem u84_16 : zEv sc 84 16 [l0, l1] [.int x] h Q ↔ Q (some (.int x)) h := zE_ri dz84_16 (by decide +kernel)
/-! method 85: FieldMixtures.fault(I)I -/
theorem dz85_0 : decode (z_code 85) 0 = .ok (.iload_n 1, 1) := by decide +kernel
theorem u85_0 : zEv sc 85 0 [l0, .int x] [] h Q ↔ zEv sc 85 1 [l0, .int x] [.int x] h Q := zE_pure (q := (1, [l0, .int x], [.int x])) dz85_0 rfl rfl rfl
theorem dz85_1 : decode (z_code 85) 1 = .ok (.iconst 0, 1) := by decide +kernel
theorem u85_1 : zEv sc 85 1 [l0, l1] [t0] h Q ↔ zEv sc 85 2 [l0, l1] [.int 0, t0] h Q := zE_iconst dz85_1 (by decide +kernel)
theorem dz85_2 : decode (z_code 85) 2 = .ok (.iconst 2, 1) := by decide +kernel
theorem u85_2 : zEv sc 85 2 [l0, l1] [t0, t1] h Q ↔ zEv sc 85 3 [l0, l1] [.int 2, t0, t1] h Q := zE_iconst dz85_2 (by decide +kernel)
theorem dz85_3 : decode (z_code 85) 3 = .ok (.invokestatic 67, 3) := by decide +kernel
theorem u85_3 : zEv sc 85 3 [l0, l1] [.int z2, .int z1, .int z0] h Q ↔ zEv sc 15 0 [.int z0, .int z1, .int z2] [] h (fun r h9 => zEv sc 85 6 [l0, l1] (r.toList ++ []) h9 Q) := zE_call (kd := 1) (na := 3) (nr := 0) (as := [.int z0, .int z1, .int z2]) (rest := []) (Or.inr ⟨rfl, rfl⟩) dz85_3 (by decide +kernel : z_lk2 zCT (z_cls 85) 67 = some (15, 0, 304)) (fun _ => ⟨by decide +kernel, by decide +kernel⟩) rfl rfl rfl (by decide +kernel) rfl rfl (Or.inl rfl)
theorem dz85_6 : decode (z_code 85) 6 = .ok (.ifCond .ne 6, 3) := by decide +kernel
theorem u85_6 : zEv sc 85 6 [l0, l1] [.int x] h Q ↔ (if ¬ x = 0 then zEv sc 85 12 [l0, l1] [] h Q else zEv sc 85 9 [l0, l1] [] h Q) := zE_ifP (P := ¬ x = 0) inferInstance 12 dz85_6 rfl rfl
theorem dz85_9 : decode (z_code 85) 9 = .ok (.ldc 71, 2) := by decide +kernel
theorem u85_9 : zEv sc 85 9 [l0, l1] [] h Q ↔ zEv sc 85 11 [l0, l1] [.int (-1000001)] h Q := zE_ldc (by decide +kernel : z_lkK zKT (z_cls 85) 71 = some ((-1000001), 319)) dz85_9
theorem dz85_11 : decode (z_code 85) 11 = .ok (.ireturn, 1) := by decide +kernel
theorem u85_11 : zEv sc 85 11 [l0, l1] [.int x] h Q ↔ Q (some (.int x)) h := zE_ri dz85_11 (by decide +kernel)
theorem dz85_12 : decode (z_code 85) 12 = .ok (.aload_n 0, 1) := by decide +kernel
theorem u85_12 : zEv sc 85 12 [.ref a, l1] [] h Q ↔ zEv sc 85 13 [.ref a, l1] [.ref a] h Q := zE_pure (q := (13, [.ref a, l1], [.ref a])) dz85_12 rfl rfl rfl
theorem dz85_13 : decode (z_code 85) 13 = .ok (.getfield 16, 3) := by decide +kernel
theorem u85_13 (ho : zO a 9) : zEv sc 85 13 [l0, l1] [.ref a] (zst p iv) Q ↔ zRef (zRV p a 1) (fun j => zEv sc 85 16 [l0, l1] [.ref j] (zst p iv) Q) := zE_gfR dz85_13 (by decide +kernel : z_lk3 zFT (z_cls 85) 16 = some (9, 1, 0, 270)) (by decide +kernel) ho
theorem dz85_16 : decode (z_code 85) 16 = .ok (.aload_n 0, 1) := by decide +kernel
theorem u85_16 : zEv sc 85 16 [.ref a, l1] [t0] h Q ↔ zEv sc 85 17 [.ref a, l1] [.ref a, t0] h Q := zE_pure (q := (17, [.ref a, l1], [.ref a, t0])) dz85_16 rfl rfl rfl
theorem dz85_17 : decode (z_code 85) 17 = .ok (.getfield 10, 3) := by decide +kernel
theorem u85_17 (ho : zO a 9) : zEv sc 85 17 [l0, l1] [.ref a, t0] (zst p iv) Q ↔ zRef (zRV p a 0) (fun j => zEv sc 85 20 [l0, l1] [.ref j, t0] (zst p iv) Q) := zE_gfR dz85_17 (by decide +kernel : z_lk3 zFT (z_cls 85) 10 = some (9, 0, 0, 269)) (by decide +kernel) ho
theorem dz85_20 : decode (z_code 85) 20 = .ok (.invokevirtual 163, 3) := by decide +kernel
theorem u85_20 (ho : zO a 2) : zEv sc 85 20 [l0, l1] [.ref b0, .ref a] (zst p iv) Q ↔ zEv sc 13 0 [.ref a, .ref b0, .null] [] (zst p iv) (fun r h9 => zEv sc 85 23 [l0, l1] (r.toList ++ []) h9 Q) := zE_call (kd := 0) (na := 2) (nr := 0) (as := [.ref a, .ref b0]) (rest := []) (Or.inl ⟨rfl, rfl⟩) dz85_20 (by decide +kernel : z_lk2 zCT (z_cls 85) 163 = some (13, 1, 518)) (fun z => by cases z) rfl rfl rfl (by decide +kernel) rfl rfl (Or.inr (zE_rc ho))
theorem dz85_23 : decode (z_code 85) 23 = .ok (.aload_n 0, 1) := by decide +kernel
theorem u85_23 : zEv sc 85 23 [.ref a, l1] [] h Q ↔ zEv sc 85 24 [.ref a, l1] [.ref a] h Q := zE_pure (q := (24, [.ref a, l1], [.ref a])) dz85_23 rfl rfl rfl
theorem dz85_24 : decode (z_code 85) 24 = .ok (.getfield 63, 3) := by decide +kernel
theorem u85_24 (ho : zO a 9) : zEv sc 85 24 [l0, l1] [.ref a] (zst p iv) Q ↔ zRef (zRV p a 9) (fun j => zEv sc 85 27 [l0, l1] [.ref j] (zst p iv) Q) := zE_gfR dz85_24 (by decide +kernel : z_lk3 zFT (z_cls 85) 63 = some (9, 9, 0, 278)) (by decide +kernel) ho
theorem dz85_27 : decode (z_code 85) 27 = .ok (.aload_n 0, 1) := by decide +kernel
theorem u85_27 : zEv sc 85 27 [.ref a, l1] [t0] h Q ↔ zEv sc 85 28 [.ref a, l1] [.ref a, t0] h Q := zE_pure (q := (28, [.ref a, l1], [.ref a, t0])) dz85_27 rfl rfl rfl
theorem dz85_28 : decode (z_code 85) 28 = .ok (.getfield 16, 3) := by decide +kernel
theorem u85_28 (ho : zO a 9) : zEv sc 85 28 [l0, l1] [.ref a, t0] (zst p iv) Q ↔ zRef (zRV p a 1) (fun j => zEv sc 85 31 [l0, l1] [.ref j, t0] (zst p iv) Q) := zE_gfR dz85_28 (by decide +kernel : z_lk3 zFT (z_cls 85) 16 = some (9, 1, 0, 270)) (by decide +kernel) ho
theorem dz85_31 : decode (z_code 85) 31 = .ok (.aload_n 0, 1) := by decide +kernel
theorem u85_31 : zEv sc 85 31 [.ref a, l1] [t0, t1] h Q ↔ zEv sc 85 32 [.ref a, l1] [.ref a, t0, t1] h Q := zE_pure (q := (32, [.ref a, l1], [.ref a, t0, t1])) dz85_31 rfl rfl rfl
theorem dz85_32 : decode (z_code 85) 32 = .ok (.getfield 56, 3) := by decide +kernel
theorem u85_32 (ho : zO a 9) : zEv sc 85 32 [l0, l1] [.ref a, t0, t1] (zst p iv) Q ↔ zRef (zRV p a 8) (fun j => zEv sc 85 35 [l0, l1] [.ref j, t0, t1] (zst p iv) Q) := zE_gfR dz85_32 (by decide +kernel : z_lk3 zFT (z_cls 85) 56 = some (9, 8, 0, 277)) (by decide +kernel) ho
theorem dz85_35 : decode (z_code 85) 35 = .ok (.invokevirtual 238, 3) := by decide +kernel
theorem u85_35 (ho : zO a 8) : zEv sc 85 35 [l0, l1] [.ref b1, .ref b0, .ref a] (zst p iv) Q ↔ zEv sc 55 0 [.ref a, .ref b0, .ref b1, .null] [] (zst p iv) (fun r h9 => zEv sc 85 38 [l0, l1] (r.toList ++ []) h9 Q) := zE_call (kd := 0) (na := 3) (nr := 0) (as := [.ref a, .ref b0, .ref b1]) (rest := []) (Or.inl ⟨rfl, rfl⟩) dz85_35 (by decide +kernel : z_lk2 zCT (z_cls 85) 238 = some (55, 1, 595)) (fun z => by cases z) rfl rfl rfl (by decide +kernel) rfl rfl (Or.inr (zE_rc ho))
theorem dz85_38 : decode (z_code 85) 38 = .ok (.aload_n 0, 1) := by decide +kernel
theorem u85_38 : zEv sc 85 38 [.ref a, l1] [] h Q ↔ zEv sc 85 39 [.ref a, l1] [.ref a] h Q := zE_pure (q := (39, [.ref a, l1], [.ref a])) dz85_38 rfl rfl rfl
theorem dz85_39 : decode (z_code 85) 39 = .ok (.getfield 63, 3) := by decide +kernel
theorem u85_39 (ho : zO a 9) : zEv sc 85 39 [l0, l1] [.ref a] (zst p iv) Q ↔ zRef (zRV p a 9) (fun j => zEv sc 85 42 [l0, l1] [.ref j] (zst p iv) Q) := zE_gfR dz85_39 (by decide +kernel : z_lk3 zFT (z_cls 85) 63 = some (9, 9, 0, 278)) (by decide +kernel) ho
theorem dz85_42 : decode (z_code 85) 42 = .ok (.getfield 242, 3) := by decide +kernel
theorem u85_42 (ho : zO a 8) : zEv sc 85 42 [l0, l1] [.ref a] (zst p iv) Q ↔ zEv sc 85 45 [l0, l1] [.int (iv a 1)] (zst p iv) Q := zE_gfI dz85_42 (by decide +kernel : z_lk3 zFT (z_cls 85) 242 = some (8, 1, 1, 247)) (by decide +kernel) ho
theorem dz85_45 : decode (z_code 85) 45 = .ok (.ifCond .ne 6, 3) := by decide +kernel
theorem u85_45 : zEv sc 85 45 [l0, l1] [.int x] h Q ↔ (if ¬ x = 0 then zEv sc 85 51 [l0, l1] [] h Q else zEv sc 85 48 [l0, l1] [] h Q) := zE_ifP (P := ¬ x = 0) inferInstance 51 dz85_45 rfl rfl
theorem dz85_48 : decode (z_code 85) 48 = .ok (.ldc 130, 2) := by decide +kernel
theorem u85_48 : zEv sc 85 48 [l0, l1] [] h Q ↔ zEv sc 85 50 [l0, l1] [.int (-1000004)] h Q := zE_ldc (by decide +kernel : z_lkK zKT (z_cls 85) 130 = some ((-1000004), 362)) dz85_48
theorem dz85_50 : decode (z_code 85) 50 = .ok (.ireturn, 1) := by decide +kernel
theorem u85_50 : zEv sc 85 50 [l0, l1] [.int x] h Q ↔ Q (some (.int x)) h := zE_ri dz85_50 (by decide +kernel)
theorem dz85_51 : decode (z_code 85) 51 = .ok (.iload_n 1, 1) := by decide +kernel
theorem u85_51 : zEv sc 85 51 [l0, .int x] [] h Q ↔ zEv sc 85 52 [l0, .int x] [.int x] h Q := zE_pure (q := (52, [l0, .int x], [.int x])) dz85_51 rfl rfl rfl
theorem dz85_52 : decode (z_code 85) 52 = .ok (.lookupswitch 44 #[(0, 28), (1, 36)], 28) := by decide +kernel
theorem u85_52_0 : zEv sc 85 52 [l0, l1] [.int 0] h Q ↔ zEv sc 85 80 [l0, l1] [] h Q := zE_swi (off := 28) 80 dz85_52 (by decide +kernel) (by decide +kernel) rfl
theorem u85_52_1 : zEv sc 85 52 [l0, l1] [.int 1] h Q ↔ zEv sc 85 88 [l0, l1] [] h Q := zE_swi (off := 36) 88 dz85_52 (by decide +kernel) (by decide +kernel) rfl
theorem u85_52_d (h0 : ¬ x = 0) (h1 : ¬ x = 1) : zEv sc 85 52 [l0, l1] [.int x] h Q ↔ zEv sc 85 96 [l0, l1] [] h Q := zE_swi (off := 44) 96 dz85_52 (by decide +kernel) ((lv_osw (k := 0) (a := 0) (o := 28) h0 rfl).trans ((lv_osw (k := 1) (a := 1) (o := 36) h1 rfl).trans (rfl))) rfl
theorem dz85_96 : decode (z_code 85) 96 = .ok (.aload_n 0, 1) := by decide +kernel
theorem u85_96 : zEv sc 85 96 [.ref a, l1] [] h Q ↔ zEv sc 85 97 [.ref a, l1] [.ref a] h Q := zE_pure (q := (97, [.ref a, l1], [.ref a])) dz85_96 rfl rfl rfl
theorem dz85_97 : decode (z_code 85) 97 = .ok (.getfield 63, 3) := by decide +kernel
theorem u85_97 (ho : zO a 9) : zEv sc 85 97 [l0, l1] [.ref a] (zst p iv) Q ↔ zRef (zRV p a 9) (fun j => zEv sc 85 100 [l0, l1] [.ref j] (zst p iv) Q) := zE_gfR dz85_97 (by decide +kernel : z_lk3 zFT (z_cls 85) 63 = some (9, 9, 0, 278)) (by decide +kernel) ho
theorem dz85_100 : decode (z_code 85) 100 = .ok (.getfield 242, 3) := by decide +kernel
theorem u85_100 (ho : zO a 8) : zEv sc 85 100 [l0, l1] [.ref a] (zst p iv) Q ↔ zEv sc 85 103 [l0, l1] [.int (iv a 1)] (zst p iv) Q := zE_gfI dz85_100 (by decide +kernel : z_lk3 zFT (z_cls 85) 242 = some (8, 1, 1, 247)) (by decide +kernel) ho
theorem dz85_103 : decode (z_code 85) 103 = .ok (.iconst 1, 1) := by decide +kernel
theorem u85_103 : zEv sc 85 103 [l0, l1] [t0] h Q ↔ zEv sc 85 104 [l0, l1] [.int 1, t0] h Q := zE_iconst dz85_103 (by decide +kernel)
theorem dz85_104 : decode (z_code 85) 104 = .ok (.if_icmp .ne 13, 3) := by decide +kernel
theorem u85_104 : zEv sc 85 104 [l0, l1] [.int x2, .int x1] h Q ↔ (if ¬ x1 = x2 then zEv sc 85 117 [l0, l1] [] h Q else zEv sc 85 107 [l0, l1] [] h Q) := zE_icP (P := ¬ x1 = x2) inferInstance 117 dz85_104 rfl rfl
theorem dz85_107 : decode (z_code 85) 107 = .ok (.aload_n 0, 1) := by decide +kernel
theorem u85_107 : zEv sc 85 107 [.ref a, l1] [] h Q ↔ zEv sc 85 108 [.ref a, l1] [.ref a] h Q := zE_pure (q := (108, [.ref a, l1], [.ref a])) dz85_107 rfl rfl rfl
theorem dz85_108 : decode (z_code 85) 108 = .ok (.getfield 63, 3) := by decide +kernel
theorem u85_108 (ho : zO a 9) : zEv sc 85 108 [l0, l1] [.ref a] (zst p iv) Q ↔ zRef (zRV p a 9) (fun j => zEv sc 85 111 [l0, l1] [.ref j] (zst p iv) Q) := zE_gfR dz85_108 (by decide +kernel : z_lk3 zFT (z_cls 85) 63 = some (9, 9, 0, 278)) (by decide +kernel) ho
theorem dz85_111 : decode (z_code 85) 111 = .ok (.getfield 248, 3) := by decide +kernel
theorem u85_111 (ho : zO a 8) : zEv sc 85 111 [l0, l1] [.ref a] (zst p iv) Q ↔ zEv sc 85 114 [l0, l1] [.int (iv a 2)] (zst p iv) Q := zE_gfI dz85_111 (by decide +kernel : z_lk3 zFT (z_cls 85) 248 = some (8, 2, 1, 249)) (by decide +kernel) ho
theorem dz85_114 : decode (z_code 85) 114 = .ok (.goto 5, 3) := by decide +kernel
theorem u85_114 : zEv sc 85 114 [l0, l1] [t0] h Q ↔ zEv sc 85 119 [l0, l1] [t0] h Q := zE_go 119 dz85_114 rfl
theorem dz85_119 : decode (z_code 85) 119 = .ok (.ireturn, 1) := by decide +kernel
theorem u85_119 : zEv sc 85 119 [l0, l1] [.int x] h Q ↔ Q (some (.int x)) h := zE_ri dz85_119 (by decide +kernel)
theorem dz85_117 : decode (z_code 85) 117 = .ok (.ldc 130, 2) := by decide +kernel
theorem u85_117 : zEv sc 85 117 [l0, l1] [] h Q ↔ zEv sc 85 119 [l0, l1] [.int (-1000004)] h Q := zE_ldc (by decide +kernel : z_lkK zKT (z_cls 85) 130 = some ((-1000004), 362)) dz85_117
theorem dz85_88 : decode (z_code 85) 88 = .ok (.aload_n 0, 1) := by decide +kernel
theorem u85_88 : zEv sc 85 88 [.ref a, l1] [] h Q ↔ zEv sc 85 89 [.ref a, l1] [.ref a] h Q := zE_pure (q := (89, [.ref a, l1], [.ref a])) dz85_88 rfl rfl rfl
theorem dz85_89 : decode (z_code 85) 89 = .ok (.getfield 63, 3) := by decide +kernel
theorem u85_89 (ho : zO a 9) : zEv sc 85 89 [l0, l1] [.ref a] (zst p iv) Q ↔ zRef (zRV p a 9) (fun j => zEv sc 85 92 [l0, l1] [.ref j] (zst p iv) Q) := zE_gfR dz85_89 (by decide +kernel : z_lk3 zFT (z_cls 85) 63 = some (9, 9, 0, 278)) (by decide +kernel) ho
theorem dz85_92 : decode (z_code 85) 92 = .ok (.getfield 242, 3) := by decide +kernel
theorem u85_92 (ho : zO a 8) : zEv sc 85 92 [l0, l1] [.ref a] (zst p iv) Q ↔ zEv sc 85 95 [l0, l1] [.int (iv a 1)] (zst p iv) Q := zE_gfI dz85_92 (by decide +kernel : z_lk3 zFT (z_cls 85) 242 = some (8, 1, 1, 247)) (by decide +kernel) ho
theorem dz85_95 : decode (z_code 85) 95 = .ok (.ireturn, 1) := by decide +kernel
theorem u85_95 : zEv sc 85 95 [l0, l1] [.int x] h Q ↔ Q (some (.int x)) h := zE_ri dz85_95 (by decide +kernel)
theorem dz85_80 : decode (z_code 85) 80 = .ok (.aload_n 0, 1) := by decide +kernel
theorem u85_80 : zEv sc 85 80 [.ref a, l1] [] h Q ↔ zEv sc 85 81 [.ref a, l1] [.ref a] h Q := zE_pure (q := (81, [.ref a, l1], [.ref a])) dz85_80 rfl rfl rfl
theorem dz85_81 : decode (z_code 85) 81 = .ok (.getfield 63, 3) := by decide +kernel
theorem u85_81 (ho : zO a 9) : zEv sc 85 81 [l0, l1] [.ref a] (zst p iv) Q ↔ zRef (zRV p a 9) (fun j => zEv sc 85 84 [l0, l1] [.ref j] (zst p iv) Q) := zE_gfR dz85_81 (by decide +kernel : z_lk3 zFT (z_cls 85) 63 = some (9, 9, 0, 278)) (by decide +kernel) ho
theorem dz85_84 : decode (z_code 85) 84 = .ok (.getfield 245, 3) := by decide +kernel
theorem u85_84 (ho : zO a 8) : zEv sc 85 84 [l0, l1] [.ref a] (zst p iv) Q ↔ zEv sc 85 87 [l0, l1] [.int (iv a 0)] (zst p iv) Q := zE_gfI dz85_84 (by decide +kernel : z_lk3 zFT (z_cls 85) 245 = some (8, 0, 1, 245)) (by decide +kernel) ho
theorem dz85_87 : decode (z_code 85) 87 = .ok (.ireturn, 1) := by decide +kernel
theorem u85_87 : zEv sc 85 87 [l0, l1] [.int x] h Q ↔ Q (some (.int x)) h := zE_ri dz85_87 (by decide +kernel)
/-! method 86: FieldMixtures.read()I -/
theorem dz86_0 : decode (z_code 86) 0 = .ok (.aload_n 0, 1) := by decide +kernel
theorem u86_0 : zEv sc 86 0 [.ref a] [] h Q ↔ zEv sc 86 1 [.ref a] [.ref a] h Q := zE_pure (q := (1, [.ref a], [.ref a])) dz86_0 rfl rfl rfl
theorem dz86_1 : decode (z_code 86) 1 = .ok (.getfield 16, 3) := by decide +kernel
theorem u86_1 (ho : zO a 9) : zEv sc 86 1 [l0] [.ref a] (zst p iv) Q ↔ zRef (zRV p a 1) (fun j => zEv sc 86 4 [l0] [.ref j] (zst p iv) Q) := zE_gfR dz86_1 (by decide +kernel : z_lk3 zFT (z_cls 86) 16 = some (9, 1, 0, 270)) (by decide +kernel) ho
theorem dz86_4 : decode (z_code 86) 4 = .ok (.aload_n 0, 1) := by decide +kernel
theorem u86_4 : zEv sc 86 4 [.ref a] [t0] h Q ↔ zEv sc 86 5 [.ref a] [.ref a, t0] h Q := zE_pure (q := (5, [.ref a], [.ref a, t0])) dz86_4 rfl rfl rfl
theorem dz86_5 : decode (z_code 86) 5 = .ok (.getfield 10, 3) := by decide +kernel
theorem u86_5 (ho : zO a 9) : zEv sc 86 5 [l0] [.ref a, t0] (zst p iv) Q ↔ zRef (zRV p a 0) (fun j => zEv sc 86 8 [l0] [.ref j, t0] (zst p iv) Q) := zE_gfR dz86_5 (by decide +kernel : z_lk3 zFT (z_cls 86) 10 = some (9, 0, 0, 269)) (by decide +kernel) ho
theorem dz86_8 : decode (z_code 86) 8 = .ok (.invokevirtual 163, 3) := by decide +kernel
theorem u86_8 (ho : zO a 2) : zEv sc 86 8 [l0] [.ref b0, .ref a] (zst p iv) Q ↔ zEv sc 13 0 [.ref a, .ref b0, .null] [] (zst p iv) (fun r h9 => zEv sc 86 11 [l0] (r.toList ++ []) h9 Q) := zE_call (kd := 0) (na := 2) (nr := 0) (as := [.ref a, .ref b0]) (rest := []) (Or.inl ⟨rfl, rfl⟩) dz86_8 (by decide +kernel : z_lk2 zCT (z_cls 86) 163 = some (13, 1, 518)) (fun z => by cases z) rfl rfl rfl (by decide +kernel) rfl rfl (Or.inr (zE_rc ho))
theorem dz86_11 : decode (z_code 86) 11 = .ok (.aload_n 0, 1) := by decide +kernel
theorem u86_11 : zEv sc 86 11 [.ref a] [] h Q ↔ zEv sc 86 12 [.ref a] [.ref a] h Q := zE_pure (q := (12, [.ref a], [.ref a])) dz86_11 rfl rfl rfl
theorem dz86_12 : decode (z_code 86) 12 = .ok (.getfield 63, 3) := by decide +kernel
theorem u86_12 (ho : zO a 9) : zEv sc 86 12 [l0] [.ref a] (zst p iv) Q ↔ zRef (zRV p a 9) (fun j => zEv sc 86 15 [l0] [.ref j] (zst p iv) Q) := zE_gfR dz86_12 (by decide +kernel : z_lk3 zFT (z_cls 86) 63 = some (9, 9, 0, 278)) (by decide +kernel) ho
theorem dz86_15 : decode (z_code 86) 15 = .ok (.aload_n 0, 1) := by decide +kernel
theorem u86_15 : zEv sc 86 15 [.ref a] [t0] h Q ↔ zEv sc 86 16 [.ref a] [.ref a, t0] h Q := zE_pure (q := (16, [.ref a], [.ref a, t0])) dz86_15 rfl rfl rfl
theorem dz86_16 : decode (z_code 86) 16 = .ok (.getfield 16, 3) := by decide +kernel
theorem u86_16 (ho : zO a 9) : zEv sc 86 16 [l0] [.ref a, t0] (zst p iv) Q ↔ zRef (zRV p a 1) (fun j => zEv sc 86 19 [l0] [.ref j, t0] (zst p iv) Q) := zE_gfR dz86_16 (by decide +kernel : z_lk3 zFT (z_cls 86) 16 = some (9, 1, 0, 270)) (by decide +kernel) ho
theorem dz86_19 : decode (z_code 86) 19 = .ok (.aload_n 0, 1) := by decide +kernel
theorem u86_19 : zEv sc 86 19 [.ref a] [t0, t1] h Q ↔ zEv sc 86 20 [.ref a] [.ref a, t0, t1] h Q := zE_pure (q := (20, [.ref a], [.ref a, t0, t1])) dz86_19 rfl rfl rfl
theorem dz86_20 : decode (z_code 86) 20 = .ok (.getfield 56, 3) := by decide +kernel
theorem u86_20 (ho : zO a 9) : zEv sc 86 20 [l0] [.ref a, t0, t1] (zst p iv) Q ↔ zRef (zRV p a 8) (fun j => zEv sc 86 23 [l0] [.ref j, t0, t1] (zst p iv) Q) := zE_gfR dz86_20 (by decide +kernel : z_lk3 zFT (z_cls 86) 56 = some (9, 8, 0, 277)) (by decide +kernel) ho
theorem dz86_23 : decode (z_code 86) 23 = .ok (.invokevirtual 238, 3) := by decide +kernel
theorem u86_23 (ho : zO a 8) : zEv sc 86 23 [l0] [.ref b1, .ref b0, .ref a] (zst p iv) Q ↔ zEv sc 55 0 [.ref a, .ref b0, .ref b1, .null] [] (zst p iv) (fun r h9 => zEv sc 86 26 [l0] (r.toList ++ []) h9 Q) := zE_call (kd := 0) (na := 3) (nr := 0) (as := [.ref a, .ref b0, .ref b1]) (rest := []) (Or.inl ⟨rfl, rfl⟩) dz86_23 (by decide +kernel : z_lk2 zCT (z_cls 86) 238 = some (55, 1, 595)) (fun z => by cases z) rfl rfl rfl (by decide +kernel) rfl rfl (Or.inr (zE_rc ho))
theorem dz86_26 : decode (z_code 86) 26 = .ok (.aload_n 0, 1) := by decide +kernel
theorem u86_26 : zEv sc 86 26 [.ref a] [] h Q ↔ zEv sc 86 27 [.ref a] [.ref a] h Q := zE_pure (q := (27, [.ref a], [.ref a])) dz86_26 rfl rfl rfl
theorem dz86_27 : decode (z_code 86) 27 = .ok (.getfield 63, 3) := by decide +kernel
theorem u86_27 (ho : zO a 9) : zEv sc 86 27 [l0] [.ref a] (zst p iv) Q ↔ zRef (zRV p a 9) (fun j => zEv sc 86 30 [l0] [.ref j] (zst p iv) Q) := zE_gfR dz86_27 (by decide +kernel : z_lk3 zFT (z_cls 86) 63 = some (9, 9, 0, 278)) (by decide +kernel) ho
theorem dz86_30 : decode (z_code 86) 30 = .ok (.getfield 242, 3) := by decide +kernel
theorem u86_30 (ho : zO a 8) : zEv sc 86 30 [l0] [.ref a] (zst p iv) Q ↔ zEv sc 86 33 [l0] [.int (iv a 1)] (zst p iv) Q := zE_gfI dz86_30 (by decide +kernel : z_lk3 zFT (z_cls 86) 242 = some (8, 1, 1, 247)) (by decide +kernel) ho
theorem dz86_33 : decode (z_code 86) 33 = .ok (.ifCond .eq 6, 3) := by decide +kernel
theorem u86_33 : zEv sc 86 33 [l0] [.int x] h Q ↔ (if x = 0 then zEv sc 86 39 [l0] [] h Q else zEv sc 86 36 [l0] [] h Q) := zE_ifP (P := x = 0) inferInstance 39 dz86_33 rfl rfl
theorem dz86_36 : decode (z_code 86) 36 = .ok (.ldc 155, 2) := by decide +kernel
theorem u86_36 : zEv sc 86 36 [l0] [] h Q ↔ zEv sc 86 38 [l0] [.int (-1000002)] h Q := zE_ldc (by decide +kernel : z_lkK zKT (z_cls 86) 155 = some ((-1000002), 324)) dz86_36
theorem dz86_38 : decode (z_code 86) 38 = .ok (.ireturn, 1) := by decide +kernel
theorem u86_38 : zEv sc 86 38 [l0] [.int x] h Q ↔ Q (some (.int x)) h := zE_ri dz86_38 (by decide +kernel)
theorem dz86_39 : decode (z_code 86) 39 = .ok (.aload_n 0, 1) := by decide +kernel
theorem u86_39 : zEv sc 86 39 [.ref a] [] h Q ↔ zEv sc 86 40 [.ref a] [.ref a] h Q := zE_pure (q := (40, [.ref a], [.ref a])) dz86_39 rfl rfl rfl
theorem dz86_40 : decode (z_code 86) 40 = .ok (.invokevirtual 170, 3) := by decide +kernel
theorem u86_40 (ho : zO a 9) : zEv sc 86 40 [l0] [.ref a] (zst p iv) Q ↔ zEv sc 70 0 [.ref a] [] (zst p iv) (fun r h9 => zEv sc 86 43 [l0] (r.toList ++ []) h9 Q) := zE_call (kd := 0) (na := 1) (nr := 0) (as := [.ref a]) (rest := []) (Or.inl ⟨rfl, rfl⟩) dz86_40 (by decide +kernel : z_lk2 zCT (z_cls 86) 170 = some (70, 0, 534)) (fun z => by cases z) rfl rfl rfl (by decide +kernel) rfl rfl (Or.inr (zE_rc ho))
theorem dz86_43 : decode (z_code 86) 43 = .ok (.aload_n 0, 1) := by decide +kernel
theorem u86_43 : zEv sc 86 43 [.ref a] [] h Q ↔ zEv sc 86 44 [.ref a] [.ref a] h Q := zE_pure (q := (44, [.ref a], [.ref a])) dz86_43 rfl rfl rfl
theorem dz86_44 : decode (z_code 86) 44 = .ok (.getfield 10, 3) := by decide +kernel
theorem u86_44 (ho : zO a 9) : zEv sc 86 44 [l0] [.ref a] (zst p iv) Q ↔ zRef (zRV p a 0) (fun j => zEv sc 86 47 [l0] [.ref j] (zst p iv) Q) := zE_gfR dz86_44 (by decide +kernel : z_lk3 zFT (z_cls 86) 10 = some (9, 0, 0, 269)) (by decide +kernel) ho
theorem dz86_47 : decode (z_code 86) 47 = .ok (.invokevirtual 173, 3) := by decide +kernel
theorem u86_47 (ho : zO a 2) : zEv sc 86 47 [l0] [.ref a] (zst p iv) Q ↔ zEv sc 19 0 [.ref a] [] (zst p iv) (fun r h9 => zEv sc 86 50 [l0] (r.toList ++ []) h9 Q) := zE_call (kd := 0) (na := 1) (nr := 0) (as := [.ref a]) (rest := []) (Or.inl ⟨rfl, rfl⟩) dz86_47 (by decide +kernel : z_lk2 zCT (z_cls 86) 173 = some (19, 1, 538)) (fun z => by cases z) rfl rfl rfl (by decide +kernel) rfl rfl (Or.inr (zE_rc ho))
theorem dz86_50 : decode (z_code 86) 50 = .ok (.ireturn, 1) := by decide +kernel
theorem u86_50 : zEv sc 86 50 [l0] [.int x] h Q ↔ Q (some (.int x)) h := zE_ri dz86_50 (by decide +kernel)
/-! method 87: FieldMixturesLaw.low(II)I -/
theorem dz87_0 : decode (z_code 87) 0 = .ok (.iload_n 0, 1) := by decide +kernel
theorem u87_0 : zEv sc 87 0 [.int x, l1] [] h Q ↔ zEv sc 87 1 [.int x, l1] [.int x] h Q := zE_pure (q := (1, [.int x, l1], [.int x])) dz87_0 rfl rfl rfl
theorem dz87_1 : decode (z_code 87) 1 = .ok (.ldc 8, 2) := by decide +kernel
theorem u87_1 : zEv sc 87 1 [l0, l1] [t0] h Q ↔ zEv sc 87 3 [l0, l1] [.int 2147483647, t0] h Q := zE_ldc (by decide +kernel : z_lkK zKT (z_cls 87) 8 = some (2147483647, 348)) dz87_1
theorem dz87_3 : decode (z_code 87) 3 = .ok (.iand, 1) := by decide +kernel
theorem u87_3 : zEv sc 87 3 [l0, l1] [.int x2, .int x1] h Q ↔ zEv sc 87 4 [l0, l1] [.int (x1 &&& x2)] h Q := zE_pure (q := (4, [l0, l1], [.int (x1 &&& x2)])) dz87_3 rfl rfl rfl
theorem dz87_4 : decode (z_code 87) 4 = .ok (.iload_n 1, 1) := by decide +kernel
theorem u87_4 : zEv sc 87 4 [l0, .int x] [t0] h Q ↔ zEv sc 87 5 [l0, .int x] [.int x, t0] h Q := zE_pure (q := (5, [l0, .int x], [.int x, t0])) dz87_4 rfl rfl rfl
theorem dz87_5 : decode (z_code 87) 5 = .ok (.irem, 1) := by decide +kernel
theorem u87_5 : zEv sc 87 5 [l0, l1] [.int x2, .int x1] h Q ↔ (¬ x2 = 0 ∧ zEv sc 87 6 [l0, l1] [.int (x1 - x1 / x2 * x2)] h Q) := zE_rem dz87_5
theorem dz87_6 : decode (z_code 87) 6 = .ok (.ireturn, 1) := by decide +kernel
theorem u87_6 : zEv sc 87 6 [l0, l1] [.int x] h Q ↔ Q (some (.int x)) h := zE_ri dz87_6 (by decide +kernel)
/-! method 88: FieldMixturesLaw.digest(LFieldMixtures;)J -/
theorem dz88_0 : decode (z_code 88) 0 = .ok (.ldc2_w 9, 3) := by decide +kernel
theorem u88_0 : zEv sc 88 0 [l0, l1, l2, l3, l4] [] h Q ↔ zEv sc 88 3 [l0, l1, l2, l3, l4] [.long 47] h Q := zE_ldc2 (by decide +kernel : z_lkL zLT (z_cls 88) 9 = some (47, 352)) dz88_0
theorem dz88_3 : decode (z_code 88) 3 = .ok (.lstore_n 1, 1) := by decide +kernel
theorem u88_3 : zEv sc 88 3 [l0, l1, l2, l3, l4] [.long j1] h Q ↔ zEv sc 88 4 [l0, .long j1, .float 0, l3, l4] [] h Q := zE_pure (q := (4, [l0, .long j1, .float 0, l3, l4], [])) dz88_3 rfl rfl rfl
theorem dz88_4 : decode (z_code 88) 4 = .ok (.iconst 0, 1) := by decide +kernel
theorem u88_4 : zEv sc 88 4 [l0, l1, l2, l3, l4] [] h Q ↔ zEv sc 88 5 [l0, l1, l2, l3, l4] [.int 0] h Q := zE_iconst dz88_4 (by decide +kernel)
theorem dz88_5 : decode (z_code 88) 5 = .ok (.istore_n 3, 1) := by decide +kernel
theorem u88_5 : zEv sc 88 5 [l0, l1, l2, l3, l4] [.int x] h Q ↔ zEv sc 88 6 [l0, l1, l2, .int x, l4] [] h Q := zE_pure (q := (6, [l0, l1, l2, .int x, l4], [])) dz88_5 rfl rfl rfl
theorem dz88_6 : decode (z_code 88) 6 = .ok (.iload_n 3, 1) := by decide +kernel
theorem u88_6 : zEv sc 88 6 [l0, l1, l2, .int x, l4] [] h Q ↔ zEv sc 88 7 [l0, l1, l2, .int x, l4] [.int x] h Q := zE_pure (q := (7, [l0, l1, l2, .int x, l4], [.int x])) dz88_6 rfl rfl rfl
theorem dz88_7 : decode (z_code 88) 7 = .ok (.bipush 50, 2) := by decide +kernel
theorem u88_7 : zEv sc 88 7 [l0, l1, l2, l3, l4] [t0] h Q ↔ zEv sc 88 9 [l0, l1, l2, l3, l4] [.int 50, t0] h Q := zE_bipush dz88_7 (by decide +kernel)
theorem dz88_9 : decode (z_code 88) 9 = .ok (.if_icmp .ge 50, 3) := by decide +kernel
theorem u88_9 : zEv sc 88 9 [l0, l1, l2, l3, l4] [.int x2, .int x1] h Q ↔ (if x2 ≤ x1 then zEv sc 88 59 [l0, l1, l2, l3, l4] [] h Q else zEv sc 88 12 [l0, l1, l2, l3, l4] [] h Q) := zE_icP (P := x2 ≤ x1) inferInstance 59 dz88_9 rfl rfl
theorem dz88_12 : decode (z_code 88) 12 = .ok (.ldc2_w 11, 3) := by decide +kernel
theorem u88_12 : zEv sc 88 12 [l0, l1, l2, l3, l4] [] h Q ↔ zEv sc 88 15 [l0, l1, l2, l3, l4] [.long 31] h Q := zE_ldc2 (by decide +kernel : z_lkL zLT (z_cls 88) 11 = some (31, 353)) dz88_12
theorem dz88_15 : decode (z_code 88) 15 = .ok (.lload_n 1, 1) := by decide +kernel
theorem u88_15 : zEv sc 88 15 [l0, .long j1, .float 0, l3, l4] [t0] h Q ↔ zEv sc 88 16 [l0, .long j1, .float 0, l3, l4] [.long j1, t0] h Q := zE_pure (q := (16, [l0, .long j1, .float 0, l3, l4], [.long j1, t0])) dz88_15 rfl rfl rfl
theorem dz88_16 : decode (z_code 88) 16 = .ok (.lmul, 1) := by decide +kernel
theorem u88_16 : zEv sc 88 16 [l0, l1, l2, l3, l4] [.long j2, .long j1] h Q ↔ zEv sc 88 17 [l0, l1, l2, l3, l4] [.long (j1 * j2)] h Q := zE_pure (q := (17, [l0, l1, l2, l3, l4], [.long (j1 * j2)])) dz88_16 rfl rfl rfl
theorem dz88_17 : decode (z_code 88) 17 = .ok (.iload_n 3, 1) := by decide +kernel
theorem u88_17 : zEv sc 88 17 [l0, l1, l2, .int x, l4] [t0] h Q ↔ zEv sc 88 18 [l0, l1, l2, .int x, l4] [.int x, t0] h Q := zE_pure (q := (18, [l0, l1, l2, .int x, l4], [.int x, t0])) dz88_17 rfl rfl rfl
theorem dz88_18 : decode (z_code 88) 18 = .ok (.bipush 9, 2) := by decide +kernel
theorem u88_18 : zEv sc 88 18 [l0, l1, l2, l3, l4] [t0, t1] h Q ↔ zEv sc 88 20 [l0, l1, l2, l3, l4] [.int 9, t0, t1] h Q := zE_bipush dz88_18 (by decide +kernel)
theorem dz88_20 : decode (z_code 88) 20 = .ok (.if_icmp .eq 21, 3) := by decide +kernel
theorem u88_20 : zEv sc 88 20 [l0, l1, l2, l3, l4] [.int x2, .int x1, t0] h Q ↔ (if x1 = x2 then zEv sc 88 41 [l0, l1, l2, l3, l4] [t0] h Q else zEv sc 88 23 [l0, l1, l2, l3, l4] [t0] h Q) := zE_icP (P := x1 = x2) inferInstance 41 dz88_20 rfl rfl
theorem dz88_23 : decode (z_code 88) 23 = .ok (.iload_n 3, 1) := by decide +kernel
theorem u88_23 : zEv sc 88 23 [l0, l1, l2, .int x, l4] [t0] h Q ↔ zEv sc 88 24 [l0, l1, l2, .int x, l4] [.int x, t0] h Q := zE_pure (q := (24, [l0, l1, l2, .int x, l4], [.int x, t0])) dz88_23 rfl rfl rfl
theorem dz88_24 : decode (z_code 88) 24 = .ok (.bipush 10, 2) := by decide +kernel
theorem u88_24 : zEv sc 88 24 [l0, l1, l2, l3, l4] [t0, t1] h Q ↔ zEv sc 88 26 [l0, l1, l2, l3, l4] [.int 10, t0, t1] h Q := zE_bipush dz88_24 (by decide +kernel)
theorem dz88_26 : decode (z_code 88) 26 = .ok (.if_icmp .eq 15, 3) := by decide +kernel
theorem u88_26 : zEv sc 88 26 [l0, l1, l2, l3, l4] [.int x2, .int x1, t0] h Q ↔ (if x1 = x2 then zEv sc 88 41 [l0, l1, l2, l3, l4] [t0] h Q else zEv sc 88 29 [l0, l1, l2, l3, l4] [t0] h Q) := zE_icP (P := x1 = x2) inferInstance 41 dz88_26 rfl rfl
theorem dz88_29 : decode (z_code 88) 29 = .ok (.iload_n 3, 1) := by decide +kernel
theorem u88_29 : zEv sc 88 29 [l0, l1, l2, .int x, l4] [t0] h Q ↔ zEv sc 88 30 [l0, l1, l2, .int x, l4] [.int x, t0] h Q := zE_pure (q := (30, [l0, l1, l2, .int x, l4], [.int x, t0])) dz88_29 rfl rfl rfl
theorem dz88_30 : decode (z_code 88) 30 = .ok (.bipush 10, 2) := by decide +kernel
theorem u88_30 : zEv sc 88 30 [l0, l1, l2, l3, l4] [t0, t1] h Q ↔ zEv sc 88 32 [l0, l1, l2, l3, l4] [.int 10, t0, t1] h Q := zE_bipush dz88_30 (by decide +kernel)
theorem dz88_32 : decode (z_code 88) 32 = .ok (.if_icmp .le 13, 3) := by decide +kernel
theorem u88_32 : zEv sc 88 32 [l0, l1, l2, l3, l4] [.int x2, .int x1, t0] h Q ↔ (if x1 ≤ x2 then zEv sc 88 45 [l0, l1, l2, l3, l4] [t0] h Q else zEv sc 88 35 [l0, l1, l2, l3, l4] [t0] h Q) := zE_icP (P := x1 ≤ x2) inferInstance 45 dz88_32 rfl rfl
theorem dz88_35 : decode (z_code 88) 35 = .ok (.iload_n 3, 1) := by decide +kernel
theorem u88_35 : zEv sc 88 35 [l0, l1, l2, .int x, l4] [t0] h Q ↔ zEv sc 88 36 [l0, l1, l2, .int x, l4] [.int x, t0] h Q := zE_pure (q := (36, [l0, l1, l2, .int x, l4], [.int x, t0])) dz88_35 rfl rfl rfl
theorem dz88_36 : decode (z_code 88) 36 = .ok (.bipush 20, 2) := by decide +kernel
theorem u88_36 : zEv sc 88 36 [l0, l1, l2, l3, l4] [t0, t1] h Q ↔ zEv sc 88 38 [l0, l1, l2, l3, l4] [.int 20, t0, t1] h Q := zE_bipush dz88_36 (by decide +kernel)
theorem dz88_38 : decode (z_code 88) 38 = .ok (.if_icmp .ge 7, 3) := by decide +kernel
theorem u88_38 : zEv sc 88 38 [l0, l1, l2, l3, l4] [.int x2, .int x1, t0] h Q ↔ (if x2 ≤ x1 then zEv sc 88 45 [l0, l1, l2, l3, l4] [t0] h Q else zEv sc 88 41 [l0, l1, l2, l3, l4] [t0] h Q) := zE_icP (P := x2 ≤ x1) inferInstance 45 dz88_38 rfl rfl
theorem dz88_45 : decode (z_code 88) 45 = .ok (.aload_n 0, 1) := by decide +kernel
theorem u88_45 : zEv sc 88 45 [.ref a, l1, l2, l3, l4] [t0] h Q ↔ zEv sc 88 46 [.ref a, l1, l2, l3, l4] [.ref a, t0] h Q := zE_pure (q := (46, [.ref a, l1, l2, l3, l4], [.ref a, t0])) dz88_45 rfl rfl rfl
theorem dz88_46 : decode (z_code 88) 46 = .ok (.iload_n 3, 1) := by decide +kernel
theorem u88_46 : zEv sc 88 46 [l0, l1, l2, .int x, l4] [t0, t1] h Q ↔ zEv sc 88 47 [l0, l1, l2, .int x, l4] [.int x, t0, t1] h Q := zE_pure (q := (47, [l0, l1, l2, .int x, l4], [.int x, t0, t1])) dz88_46 rfl rfl rfl
theorem dz88_47 : decode (z_code 88) 47 = .ok (.invokevirtual 13, 3) := by decide +kernel
theorem u88_47 (ho : zO a 9) : zEv sc 88 47 [l0, l1, l2, l3, l4] [.int z0, .ref a, t0] (zst p iv) Q ↔ zEv sc 81 0 [.ref a, .int z0] [] (zst p iv) (fun r h9 => zEv sc 88 50 [l0, l1, l2, l3, l4] (r.toList ++ [t0]) h9 Q) := zE_call (kd := 0) (na := 2) (nr := 1) (as := [.ref a, .int z0]) (rest := [t0]) (Or.inl ⟨rfl, rfl⟩) dz88_47 (by decide +kernel : z_lk2 zCT (z_cls 88) 13 = some (81, 0, 300)) (fun z => by cases z) rfl rfl rfl (by decide +kernel) rfl rfl (Or.inr (zE_rc ho))
theorem dz88_50 : decode (z_code 88) 50 = .ok (.i2l, 1) := by decide +kernel
theorem u88_50 : zEv sc 88 50 [l0, l1, l2, l3, l4] [.int x, t0] h Q ↔ zEv sc 88 51 [l0, l1, l2, l3, l4] [.long x.toInt64, t0] h Q := zE_pure (q := (51, [l0, l1, l2, l3, l4], [.long x.toInt64, t0])) dz88_50 rfl rfl rfl
theorem dz88_51 : decode (z_code 88) 51 = .ok (.ladd, 1) := by decide +kernel
theorem u88_51 : zEv sc 88 51 [l0, l1, l2, l3, l4] [.long j2, .long j1] h Q ↔ zEv sc 88 52 [l0, l1, l2, l3, l4] [.long (j1 + j2)] h Q := zE_pure (q := (52, [l0, l1, l2, l3, l4], [.long (j1 + j2)])) dz88_51 rfl rfl rfl
theorem dz88_52 : decode (z_code 88) 52 = .ok (.lstore_n 1, 1) := by decide +kernel
theorem u88_52 : zEv sc 88 52 [l0, l1, l2, l3, l4] [.long j1] h Q ↔ zEv sc 88 53 [l0, .long j1, .float 0, l3, l4] [] h Q := zE_pure (q := (53, [l0, .long j1, .float 0, l3, l4], [])) dz88_52 rfl rfl rfl
theorem dz88_53 : decode (z_code 88) 53 = .ok (.iinc 3 1, 3) := by decide +kernel
theorem u88_53 : zEv sc 88 53 [l0, l1, l2, .int x, l4] [] h Q ↔ zEv sc 88 56 [l0, l1, l2, .int (x + 1), l4] [] h Q := zE_iinc (ls2 := [l0, l1, l2, .int (x + 1), l4]) dz88_53 (by decide +kernel) rfl (by simp) rfl
theorem dz88_56 : decode (z_code 88) 56 = .ok (.goto (-50), 3) := by decide +kernel
theorem u88_56 : zEv sc 88 56 [l0, l1, l2, l3, l4] [] h Q ↔ zEv sc 88 6 [l0, l1, l2, l3, l4] [] h Q := zE_go 6 dz88_56 rfl
theorem dz88_41 : decode (z_code 88) 41 = .ok (.iconst 0, 1) := by decide +kernel
theorem u88_41 : zEv sc 88 41 [l0, l1, l2, l3, l4] [t0] h Q ↔ zEv sc 88 42 [l0, l1, l2, l3, l4] [.int 0, t0] h Q := zE_iconst dz88_41 (by decide +kernel)
theorem dz88_42 : decode (z_code 88) 42 = .ok (.goto 8, 3) := by decide +kernel
theorem u88_42 : zEv sc 88 42 [l0, l1, l2, l3, l4] [t0, t1] h Q ↔ zEv sc 88 50 [l0, l1, l2, l3, l4] [t0, t1] h Q := zE_go 50 dz88_42 rfl
theorem dz88_59 : decode (z_code 88) 59 = .ok (.iconst 0, 1) := by decide +kernel
theorem u88_59 : zEv sc 88 59 [l0, l1, l2, l3, l4] [] h Q ↔ zEv sc 88 60 [l0, l1, l2, l3, l4] [.int 0] h Q := zE_iconst dz88_59 (by decide +kernel)
theorem dz88_60 : decode (z_code 88) 60 = .ok (.istore_n 3, 1) := by decide +kernel
theorem u88_60 : zEv sc 88 60 [l0, l1, l2, l3, l4] [.int x] h Q ↔ zEv sc 88 61 [l0, l1, l2, .int x, l4] [] h Q := zE_pure (q := (61, [l0, l1, l2, .int x, l4], [])) dz88_60 rfl rfl rfl
theorem dz88_61 : decode (z_code 88) 61 = .ok (.iload_n 3, 1) := by decide +kernel
theorem u88_61 : zEv sc 88 61 [l0, l1, l2, .int x, l4] [] h Q ↔ zEv sc 88 62 [l0, l1, l2, .int x, l4] [.int x] h Q := zE_pure (q := (62, [l0, l1, l2, .int x, l4], [.int x])) dz88_61 rfl rfl rfl
theorem dz88_62 : decode (z_code 88) 62 = .ok (.iconst 2, 1) := by decide +kernel
theorem u88_62 : zEv sc 88 62 [l0, l1, l2, l3, l4] [t0] h Q ↔ zEv sc 88 63 [l0, l1, l2, l3, l4] [.int 2, t0] h Q := zE_iconst dz88_62 (by decide +kernel)
theorem dz88_63 : decode (z_code 88) 63 = .ok (.if_icmp .ge 60, 3) := by decide +kernel
theorem u88_63 : zEv sc 88 63 [l0, l1, l2, l3, l4] [.int x2, .int x1] h Q ↔ (if x2 ≤ x1 then zEv sc 88 123 [l0, l1, l2, l3, l4] [] h Q else zEv sc 88 66 [l0, l1, l2, l3, l4] [] h Q) := zE_icP (P := x2 ≤ x1) inferInstance 123 dz88_63 rfl rfl
theorem dz88_66 : decode (z_code 88) 66 = .ok (.iconst 0, 1) := by decide +kernel
theorem u88_66 : zEv sc 88 66 [l0, l1, l2, l3, l4] [] h Q ↔ zEv sc 88 67 [l0, l1, l2, l3, l4] [.int 0] h Q := zE_iconst dz88_66 (by decide +kernel)
theorem dz88_67 : decode (z_code 88) 67 = .ok (.istore 4, 2) := by decide +kernel
theorem u88_67 : zEv sc 88 67 [l0, l1, l2, l3, l4] [.int x] h Q ↔ zEv sc 88 69 [l0, l1, l2, l3, .int x] [] h Q := zE_pure (q := (69, [l0, l1, l2, l3, .int x], [])) dz88_67 rfl rfl rfl
theorem dz88_69 : decode (z_code 88) 69 = .ok (.iload 4, 2) := by decide +kernel
theorem u88_69 : zEv sc 88 69 [l0, l1, l2, l3, .int x] [] h Q ↔ zEv sc 88 71 [l0, l1, l2, l3, .int x] [.int x] h Q := zE_pure (q := (71, [l0, l1, l2, l3, .int x], [.int x])) dz88_69 rfl rfl rfl
theorem dz88_71 : decode (z_code 88) 71 = .ok (.aload_n 0, 1) := by decide +kernel
theorem u88_71 : zEv sc 88 71 [.ref a, l1, l2, l3, l4] [t0] h Q ↔ zEv sc 88 72 [.ref a, l1, l2, l3, l4] [.ref a, t0] h Q := zE_pure (q := (72, [.ref a, l1, l2, l3, l4], [.ref a, t0])) dz88_71 rfl rfl rfl
theorem dz88_72 : decode (z_code 88) 72 = .ok (.iconst 5, 1) := by decide +kernel
theorem u88_72 : zEv sc 88 72 [l0, l1, l2, l3, l4] [t0, t1] h Q ↔ zEv sc 88 73 [l0, l1, l2, l3, l4] [.int 5, t0, t1] h Q := zE_iconst dz88_72 (by decide +kernel)
theorem dz88_73 : decode (z_code 88) 73 = .ok (.iload_n 3, 1) := by decide +kernel
theorem u88_73 : zEv sc 88 73 [l0, l1, l2, .int x, l4] [t0, t1, t2] h Q ↔ zEv sc 88 74 [l0, l1, l2, .int x, l4] [.int x, t0, t1, t2] h Q := zE_pure (q := (74, [l0, l1, l2, .int x, l4], [.int x, t0, t1, t2])) dz88_73 rfl rfl rfl
theorem dz88_74 : decode (z_code 88) 74 = .ok (.iadd, 1) := by decide +kernel
theorem u88_74 : zEv sc 88 74 [l0, l1, l2, l3, l4] [.int x2, .int x1, t0, t1] h Q ↔ zEv sc 88 75 [l0, l1, l2, l3, l4] [.int (x1 + x2), t0, t1] h Q := zE_pure (q := (75, [l0, l1, l2, l3, l4], [.int (x1 + x2), t0, t1])) dz88_74 rfl rfl rfl
theorem dz88_75 : decode (z_code 88) 75 = .ok (.invokevirtual 13, 3) := by decide +kernel
theorem u88_75 (ho : zO a 9) : zEv sc 88 75 [l0, l1, l2, l3, l4] [.int z0, .ref a, t0] (zst p iv) Q ↔ zEv sc 81 0 [.ref a, .int z0] [] (zst p iv) (fun r h9 => zEv sc 88 78 [l0, l1, l2, l3, l4] (r.toList ++ [t0]) h9 Q) := zE_call (kd := 0) (na := 2) (nr := 1) (as := [.ref a, .int z0]) (rest := [t0]) (Or.inl ⟨rfl, rfl⟩) dz88_75 (by decide +kernel : z_lk2 zCT (z_cls 88) 13 = some (81, 0, 300)) (fun z => by cases z) rfl rfl rfl (by decide +kernel) rfl rfl (Or.inr (zE_rc ho))
theorem dz88_78 : decode (z_code 88) 78 = .ok (.if_icmp .ge 39, 3) := by decide +kernel
theorem u88_78 : zEv sc 88 78 [l0, l1, l2, l3, l4] [.int x2, .int x1] h Q ↔ (if x2 ≤ x1 then zEv sc 88 117 [l0, l1, l2, l3, l4] [] h Q else zEv sc 88 81 [l0, l1, l2, l3, l4] [] h Q) := zE_icP (P := x2 ≤ x1) inferInstance 117 dz88_78 rfl rfl
theorem dz88_81 : decode (z_code 88) 81 = .ok (.ldc2_w 11, 3) := by decide +kernel
theorem u88_81 : zEv sc 88 81 [l0, l1, l2, l3, l4] [] h Q ↔ zEv sc 88 84 [l0, l1, l2, l3, l4] [.long 31] h Q := zE_ldc2 (by decide +kernel : z_lkL zLT (z_cls 88) 11 = some (31, 353)) dz88_81
theorem dz88_84 : decode (z_code 88) 84 = .ok (.lload_n 1, 1) := by decide +kernel
theorem u88_84 : zEv sc 88 84 [l0, .long j1, .float 0, l3, l4] [t0] h Q ↔ zEv sc 88 85 [l0, .long j1, .float 0, l3, l4] [.long j1, t0] h Q := zE_pure (q := (85, [l0, .long j1, .float 0, l3, l4], [.long j1, t0])) dz88_84 rfl rfl rfl
theorem dz88_85 : decode (z_code 88) 85 = .ok (.lmul, 1) := by decide +kernel
theorem u88_85 : zEv sc 88 85 [l0, l1, l2, l3, l4] [.long j2, .long j1] h Q ↔ zEv sc 88 86 [l0, l1, l2, l3, l4] [.long (j1 * j2)] h Q := zE_pure (q := (86, [l0, l1, l2, l3, l4], [.long (j1 * j2)])) dz88_85 rfl rfl rfl
theorem dz88_86 : decode (z_code 88) 86 = .ok (.ldc2_w 19, 3) := by decide +kernel
theorem u88_86 : zEv sc 88 86 [l0, l1, l2, l3, l4] [t0] h Q ↔ zEv sc 88 89 [l0, l1, l2, l3, l4] [.long 101, t0] h Q := zE_ldc2 (by decide +kernel : z_lkL zLT (z_cls 88) 19 = some (101, 354)) dz88_86
theorem dz88_89 : decode (z_code 88) 89 = .ok (.aload_n 0, 1) := by decide +kernel
theorem u88_89 : zEv sc 88 89 [.ref a, l1, l2, l3, l4] [t0, t1] h Q ↔ zEv sc 88 90 [.ref a, l1, l2, l3, l4] [.ref a, t0, t1] h Q := zE_pure (q := (90, [.ref a, l1, l2, l3, l4], [.ref a, t0, t1])) dz88_89 rfl rfl rfl
theorem dz88_90 : decode (z_code 88) 90 = .ok (.iload_n 3, 1) := by decide +kernel
theorem u88_90 : zEv sc 88 90 [l0, l1, l2, .int x, l4] [t0, t1, t2] h Q ↔ zEv sc 88 91 [l0, l1, l2, .int x, l4] [.int x, t0, t1, t2] h Q := zE_pure (q := (91, [l0, l1, l2, .int x, l4], [.int x, t0, t1, t2])) dz88_90 rfl rfl rfl
theorem dz88_91 : decode (z_code 88) 91 = .ok (.iload 4, 2) := by decide +kernel
theorem u88_91 : zEv sc 88 91 [l0, l1, l2, l3, .int x] [t0, t1, t2, t3] h Q ↔ zEv sc 88 93 [l0, l1, l2, l3, .int x] [.int x, t0, t1, t2, t3] h Q := zE_pure (q := (93, [l0, l1, l2, l3, .int x], [.int x, t0, t1, t2, t3])) dz88_91 rfl rfl rfl
theorem dz88_93 : decode (z_code 88) 93 = .ok (.iconst 0, 1) := by decide +kernel
theorem u88_93 : zEv sc 88 93 [l0, l1, l2, l3, l4] [t0, t1, t2, t3, t4] h Q ↔ zEv sc 88 94 [l0, l1, l2, l3, l4] [.int 0, t0, t1, t2, t3, t4] h Q := zE_iconst dz88_93 (by decide +kernel)
theorem dz88_94 : decode (z_code 88) 94 = .ok (.invokevirtual 21, 3) := by decide +kernel
theorem u88_94 (ho : zO a 9) : zEv sc 88 94 [l0, l1, l2, l3, l4] [.int z2, .int z1, .int z0, .ref a, t0, t1] (zst p iv) Q ↔ zEv sc 74 0 [.ref a, .int z0, .int z1, .int z2, .null] [] (zst p iv) (fun r h9 => zEv sc 88 97 [l0, l1, l2, l3, l4] (r.toList ++ [t0, t1]) h9 Q) := zE_call (kd := 0) (na := 4) (nr := 2) (as := [.ref a, .int z0, .int z1, .int z2]) (rest := [t0, t1]) (Or.inl ⟨rfl, rfl⟩) dz88_94 (by decide +kernel : z_lk2 zCT (z_cls 88) 21 = some (74, 0, 355)) (fun z => by cases z) rfl rfl rfl (by decide +kernel) rfl rfl (Or.inr (zE_rc ho))
theorem dz88_97 : decode (z_code 88) 97 = .ok (.i2l, 1) := by decide +kernel
theorem u88_97 : zEv sc 88 97 [l0, l1, l2, l3, l4] [.int x, t0, t1] h Q ↔ zEv sc 88 98 [l0, l1, l2, l3, l4] [.long x.toInt64, t0, t1] h Q := zE_pure (q := (98, [l0, l1, l2, l3, l4], [.long x.toInt64, t0, t1])) dz88_97 rfl rfl rfl
theorem dz88_98 : decode (z_code 88) 98 = .ok (.lmul, 1) := by decide +kernel
theorem u88_98 : zEv sc 88 98 [l0, l1, l2, l3, l4] [.long j2, .long j1, t0] h Q ↔ zEv sc 88 99 [l0, l1, l2, l3, l4] [.long (j1 * j2), t0] h Q := zE_pure (q := (99, [l0, l1, l2, l3, l4], [.long (j1 * j2), t0])) dz88_98 rfl rfl rfl
theorem dz88_99 : decode (z_code 88) 99 = .ok (.ladd, 1) := by decide +kernel
theorem u88_99 : zEv sc 88 99 [l0, l1, l2, l3, l4] [.long j2, .long j1] h Q ↔ zEv sc 88 100 [l0, l1, l2, l3, l4] [.long (j1 + j2)] h Q := zE_pure (q := (100, [l0, l1, l2, l3, l4], [.long (j1 + j2)])) dz88_99 rfl rfl rfl
theorem dz88_100 : decode (z_code 88) 100 = .ok (.aload_n 0, 1) := by decide +kernel
theorem u88_100 : zEv sc 88 100 [.ref a, l1, l2, l3, l4] [t0] h Q ↔ zEv sc 88 101 [.ref a, l1, l2, l3, l4] [.ref a, t0] h Q := zE_pure (q := (101, [.ref a, l1, l2, l3, l4], [.ref a, t0])) dz88_100 rfl rfl rfl
theorem dz88_101 : decode (z_code 88) 101 = .ok (.iload_n 3, 1) := by decide +kernel
theorem u88_101 : zEv sc 88 101 [l0, l1, l2, .int x, l4] [t0, t1] h Q ↔ zEv sc 88 102 [l0, l1, l2, .int x, l4] [.int x, t0, t1] h Q := zE_pure (q := (102, [l0, l1, l2, .int x, l4], [.int x, t0, t1])) dz88_101 rfl rfl rfl
theorem dz88_102 : decode (z_code 88) 102 = .ok (.iload 4, 2) := by decide +kernel
theorem u88_102 : zEv sc 88 102 [l0, l1, l2, l3, .int x] [t0, t1, t2] h Q ↔ zEv sc 88 104 [l0, l1, l2, l3, .int x] [.int x, t0, t1, t2] h Q := zE_pure (q := (104, [l0, l1, l2, l3, .int x], [.int x, t0, t1, t2])) dz88_102 rfl rfl rfl
theorem dz88_104 : decode (z_code 88) 104 = .ok (.iconst 1, 1) := by decide +kernel
theorem u88_104 : zEv sc 88 104 [l0, l1, l2, l3, l4] [t0, t1, t2, t3] h Q ↔ zEv sc 88 105 [l0, l1, l2, l3, l4] [.int 1, t0, t1, t2, t3] h Q := zE_iconst dz88_104 (by decide +kernel)
theorem dz88_105 : decode (z_code 88) 105 = .ok (.invokevirtual 21, 3) := by decide +kernel
theorem u88_105 (ho : zO a 9) : zEv sc 88 105 [l0, l1, l2, l3, l4] [.int z2, .int z1, .int z0, .ref a, t0] (zst p iv) Q ↔ zEv sc 74 0 [.ref a, .int z0, .int z1, .int z2, .null] [] (zst p iv) (fun r h9 => zEv sc 88 108 [l0, l1, l2, l3, l4] (r.toList ++ [t0]) h9 Q) := zE_call (kd := 0) (na := 4) (nr := 1) (as := [.ref a, .int z0, .int z1, .int z2]) (rest := [t0]) (Or.inl ⟨rfl, rfl⟩) dz88_105 (by decide +kernel : z_lk2 zCT (z_cls 88) 21 = some (74, 0, 355)) (fun z => by cases z) rfl rfl rfl (by decide +kernel) rfl rfl (Or.inr (zE_rc ho))
theorem dz88_108 : decode (z_code 88) 108 = .ok (.i2l, 1) := by decide +kernel
theorem u88_108 : zEv sc 88 108 [l0, l1, l2, l3, l4] [.int x, t0] h Q ↔ zEv sc 88 109 [l0, l1, l2, l3, l4] [.long x.toInt64, t0] h Q := zE_pure (q := (109, [l0, l1, l2, l3, l4], [.long x.toInt64, t0])) dz88_108 rfl rfl rfl
theorem dz88_109 : decode (z_code 88) 109 = .ok (.ladd, 1) := by decide +kernel
theorem u88_109 : zEv sc 88 109 [l0, l1, l2, l3, l4] [.long j2, .long j1] h Q ↔ zEv sc 88 110 [l0, l1, l2, l3, l4] [.long (j1 + j2)] h Q := zE_pure (q := (110, [l0, l1, l2, l3, l4], [.long (j1 + j2)])) dz88_109 rfl rfl rfl
theorem dz88_110 : decode (z_code 88) 110 = .ok (.lstore_n 1, 1) := by decide +kernel
theorem u88_110 : zEv sc 88 110 [l0, l1, l2, l3, l4] [.long j1] h Q ↔ zEv sc 88 111 [l0, .long j1, .float 0, l3, l4] [] h Q := zE_pure (q := (111, [l0, .long j1, .float 0, l3, l4], [])) dz88_110 rfl rfl rfl
theorem dz88_111 : decode (z_code 88) 111 = .ok (.iinc 4 1, 3) := by decide +kernel
theorem u88_111 : zEv sc 88 111 [l0, l1, l2, l3, .int x] [] h Q ↔ zEv sc 88 114 [l0, l1, l2, l3, .int (x + 1)] [] h Q := zE_iinc (ls2 := [l0, l1, l2, l3, .int (x + 1)]) dz88_111 (by decide +kernel) rfl (by simp) rfl
theorem dz88_114 : decode (z_code 88) 114 = .ok (.goto (-45), 3) := by decide +kernel
theorem u88_114 : zEv sc 88 114 [l0, l1, l2, l3, l4] [] h Q ↔ zEv sc 88 69 [l0, l1, l2, l3, l4] [] h Q := zE_go 69 dz88_114 rfl
theorem dz88_117 : decode (z_code 88) 117 = .ok (.iinc 3 1, 3) := by decide +kernel
theorem u88_117 : zEv sc 88 117 [l0, l1, l2, .int x, l4] [] h Q ↔ zEv sc 88 120 [l0, l1, l2, .int (x + 1), l4] [] h Q := zE_iinc (ls2 := [l0, l1, l2, .int (x + 1), l4]) dz88_117 (by decide +kernel) rfl (by simp) rfl
theorem dz88_120 : decode (z_code 88) 120 = .ok (.goto (-59), 3) := by decide +kernel
theorem u88_120 : zEv sc 88 120 [l0, l1, l2, l3, l4] [] h Q ↔ zEv sc 88 61 [l0, l1, l2, l3, l4] [] h Q := zE_go 61 dz88_120 rfl
theorem dz88_123 : decode (z_code 88) 123 = .ok (.lload_n 1, 1) := by decide +kernel
theorem u88_123 : zEv sc 88 123 [l0, .long j1, .float 0, l3, l4] [] h Q ↔ zEv sc 88 124 [l0, .long j1, .float 0, l3, l4] [.long j1] h Q := zE_pure (q := (124, [l0, .long j1, .float 0, l3, l4], [.long j1])) dz88_123 rfl rfl rfl
theorem dz88_124 : decode (z_code 88) 124 = .ok (.lreturn, 1) := by decide +kernel
theorem u88_124 : zEv sc 88 124 [l0, l1, l2, l3, l4] [.long j1] h Q ↔ Q (some (.long j1)) h := zE_rl dz88_124 (by decide +kernel)
/-! method 89: FieldMixturesLaw.holds(LFieldMixtures;I)Z -/
theorem dz89_0 : decode (z_code 89) 0 = .ok (.iload_n 1, 1) := by decide +kernel
theorem u89_0 : zEv sc 89 0 [l0, .int x, l2, l3, l4, l5, l6, l7, l8, l9, l10, l11] [] h Q ↔ zEv sc 89 1 [l0, .int x, l2, l3, l4, l5, l6, l7, l8, l9, l10, l11] [.int x] h Q := zE_pure (q := (1, [l0, .int x, l2, l3, l4, l5, l6, l7, l8, l9, l10, l11], [.int x])) dz89_0 rfl rfl rfl
theorem dz89_1 : decode (z_code 89) 1 = .ok (.iconst 2, 1) := by decide +kernel
theorem u89_1 : zEv sc 89 1 [l0, l1, l2, l3, l4, l5, l6, l7, l8, l9, l10, l11] [t0] h Q ↔ zEv sc 89 2 [l0, l1, l2, l3, l4, l5, l6, l7, l8, l9, l10, l11] [.int 2, t0] h Q := zE_iconst dz89_1 (by decide +kernel)
theorem dz89_2 : decode (z_code 89) 2 = .ok (.invokestatic 25, 3) := by decide +kernel
theorem u89_2 : zEv sc 89 2 [l0, l1, l2, l3, l4, l5, l6, l7, l8, l9, l10, l11] [.int z1, .int z0] h Q ↔ zEv sc 87 0 [.int z0, .int z1] [] h (fun r h9 => zEv sc 89 5 [l0, l1, l2, l3, l4, l5, l6, l7, l8, l9, l10, l11] (r.toList ++ []) h9 Q) := zE_call (kd := 1) (na := 2) (nr := 0) (as := [.int z0, .int z1]) (rest := []) (Or.inr ⟨rfl, rfl⟩) dz89_2 (by decide +kernel : z_lk2 zCT (z_cls 89) 25 = some (87, 0, 345)) (fun _ => ⟨by decide +kernel, by decide +kernel⟩) rfl rfl rfl (by decide +kernel) rfl rfl (Or.inl rfl)
theorem dz89_5 : decode (z_code 89) 5 = .ok (.istore_n 2, 1) := by decide +kernel
theorem u89_5 : zEv sc 89 5 [l0, l1, l2, l3, l4, l5, l6, l7, l8, l9, l10, l11] [.int x] h Q ↔ zEv sc 89 6 [l0, l1, .int x, l3, l4, l5, l6, l7, l8, l9, l10, l11] [] h Q := zE_pure (q := (6, [l0, l1, .int x, l3, l4, l5, l6, l7, l8, l9, l10, l11], [])) dz89_5 rfl rfl rfl
theorem dz89_6 : decode (z_code 89) 6 = .ok (.aload_n 0, 1) := by decide +kernel
theorem u89_6 : zEv sc 89 6 [.ref a, l1, l2, l3, l4, l5, l6, l7, l8, l9, l10, l11] [] h Q ↔ zEv sc 89 7 [.ref a, l1, l2, l3, l4, l5, l6, l7, l8, l9, l10, l11] [.ref a] h Q := zE_pure (q := (7, [.ref a, l1, l2, l3, l4, l5, l6, l7, l8, l9, l10, l11], [.ref a])) dz89_6 rfl rfl rfl
theorem dz89_7 : decode (z_code 89) 7 = .ok (.iload_n 2, 1) := by decide +kernel
theorem u89_7 : zEv sc 89 7 [l0, l1, .int x, l3, l4, l5, l6, l7, l8, l9, l10, l11] [t0] h Q ↔ zEv sc 89 8 [l0, l1, .int x, l3, l4, l5, l6, l7, l8, l9, l10, l11] [.int x, t0] h Q := zE_pure (q := (8, [l0, l1, .int x, l3, l4, l5, l6, l7, l8, l9, l10, l11], [.int x, t0])) dz89_7 rfl rfl rfl
theorem dz89_8 : decode (z_code 89) 8 = .ok (.iconst (-1), 1) := by decide +kernel
theorem u89_8 : zEv sc 89 8 [l0, l1, l2, l3, l4, l5, l6, l7, l8, l9, l10, l11] [t0, t1] h Q ↔ zEv sc 89 9 [l0, l1, l2, l3, l4, l5, l6, l7, l8, l9, l10, l11] [.int (-1), t0, t1] h Q := zE_iconst dz89_8 (by decide +kernel)
theorem dz89_9 : decode (z_code 89) 9 = .ok (.invokevirtual 31, 3) := by decide +kernel
theorem u89_9 (ho : zO a 9) : zEv sc 89 9 [l0, l1, l2, l3, l4, l5, l6, l7, l8, l9, l10, l11] [.int z1, .int z0, .ref a] (zst p iv) Q ↔ zEv sc 63 0 [.ref a, .int z0, .int z1, .null] [] (zst p iv) (fun r h9 => zEv sc 89 12 [l0, l1, l2, l3, l4, l5, l6, l7, l8, l9, l10, l11] (r.toList ++ []) h9 Q) := zE_call (kd := 0) (na := 3) (nr := 0) (as := [.ref a, .int z0, .int z1]) (rest := []) (Or.inl ⟨rfl, rfl⟩) dz89_9 (by decide +kernel : z_lk2 zCT (z_cls 89) 31 = some (63, 0, 400)) (fun z => by cases z) rfl rfl rfl (by decide +kernel) rfl rfl (Or.inr (zE_rc ho))
theorem dz89_12 : decode (z_code 89) 12 = .ok (.istore_n 3, 1) := by decide +kernel
theorem u89_12 : zEv sc 89 12 [l0, l1, l2, l3, l4, l5, l6, l7, l8, l9, l10, l11] [.int x] h Q ↔ zEv sc 89 13 [l0, l1, l2, .int x, l4, l5, l6, l7, l8, l9, l10, l11] [] h Q := zE_pure (q := (13, [l0, l1, l2, .int x, l4, l5, l6, l7, l8, l9, l10, l11], [])) dz89_12 rfl rfl rfl
theorem dz89_13 : decode (z_code 89) 13 = .ok (.aload_n 0, 1) := by decide +kernel
theorem u89_13 : zEv sc 89 13 [.ref a, l1, l2, l3, l4, l5, l6, l7, l8, l9, l10, l11] [] h Q ↔ zEv sc 89 14 [.ref a, l1, l2, l3, l4, l5, l6, l7, l8, l9, l10, l11] [.ref a] h Q := zE_pure (q := (14, [.ref a, l1, l2, l3, l4, l5, l6, l7, l8, l9, l10, l11], [.ref a])) dz89_13 rfl rfl rfl
theorem dz89_14 : decode (z_code 89) 14 = .ok (.iconst 5, 1) := by decide +kernel
theorem u89_14 : zEv sc 89 14 [l0, l1, l2, l3, l4, l5, l6, l7, l8, l9, l10, l11] [t0] h Q ↔ zEv sc 89 15 [l0, l1, l2, l3, l4, l5, l6, l7, l8, l9, l10, l11] [.int 5, t0] h Q := zE_iconst dz89_14 (by decide +kernel)
theorem dz89_15 : decode (z_code 89) 15 = .ok (.iload_n 2, 1) := by decide +kernel
theorem u89_15 : zEv sc 89 15 [l0, l1, .int x, l3, l4, l5, l6, l7, l8, l9, l10, l11] [t0, t1] h Q ↔ zEv sc 89 16 [l0, l1, .int x, l3, l4, l5, l6, l7, l8, l9, l10, l11] [.int x, t0, t1] h Q := zE_pure (q := (16, [l0, l1, .int x, l3, l4, l5, l6, l7, l8, l9, l10, l11], [.int x, t0, t1])) dz89_15 rfl rfl rfl
theorem dz89_16 : decode (z_code 89) 16 = .ok (.iadd, 1) := by decide +kernel
theorem u89_16 : zEv sc 89 16 [l0, l1, l2, l3, l4, l5, l6, l7, l8, l9, l10, l11] [.int x2, .int x1, t0] h Q ↔ zEv sc 89 17 [l0, l1, l2, l3, l4, l5, l6, l7, l8, l9, l10, l11] [.int (x1 + x2), t0] h Q := zE_pure (q := (17, [l0, l1, l2, l3, l4, l5, l6, l7, l8, l9, l10, l11], [.int (x1 + x2), t0])) dz89_16 rfl rfl rfl
theorem dz89_17 : decode (z_code 89) 17 = .ok (.invokevirtual 13, 3) := by decide +kernel
theorem u89_17 (ho : zO a 9) : zEv sc 89 17 [l0, l1, l2, l3, l4, l5, l6, l7, l8, l9, l10, l11] [.int z0, .ref a] (zst p iv) Q ↔ zEv sc 81 0 [.ref a, .int z0] [] (zst p iv) (fun r h9 => zEv sc 89 20 [l0, l1, l2, l3, l4, l5, l6, l7, l8, l9, l10, l11] (r.toList ++ []) h9 Q) := zE_call (kd := 0) (na := 2) (nr := 0) (as := [.ref a, .int z0]) (rest := []) (Or.inl ⟨rfl, rfl⟩) dz89_17 (by decide +kernel : z_lk2 zCT (z_cls 89) 13 = some (81, 0, 300)) (fun z => by cases z) rfl rfl rfl (by decide +kernel) rfl rfl (Or.inr (zE_rc ho))
theorem dz89_20 : decode (z_code 89) 20 = .ok (.istore 4, 2) := by decide +kernel
theorem u89_20 : zEv sc 89 20 [l0, l1, l2, l3, l4, l5, l6, l7, l8, l9, l10, l11] [.int x] h Q ↔ zEv sc 89 22 [l0, l1, l2, l3, .int x, l5, l6, l7, l8, l9, l10, l11] [] h Q := zE_pure (q := (22, [l0, l1, l2, l3, .int x, l5, l6, l7, l8, l9, l10, l11], [])) dz89_20 rfl rfl rfl
theorem dz89_22 : decode (z_code 89) 22 = .ok (.aload_n 0, 1) := by decide +kernel
theorem u89_22 : zEv sc 89 22 [.ref a, l1, l2, l3, l4, l5, l6, l7, l8, l9, l10, l11] [] h Q ↔ zEv sc 89 23 [.ref a, l1, l2, l3, l4, l5, l6, l7, l8, l9, l10, l11] [.ref a] h Q := zE_pure (q := (23, [.ref a, l1, l2, l3, l4, l5, l6, l7, l8, l9, l10, l11], [.ref a])) dz89_22 rfl rfl rfl
theorem dz89_23 : decode (z_code 89) 23 = .ok (.iconst 0, 1) := by decide +kernel
theorem u89_23 : zEv sc 89 23 [l0, l1, l2, l3, l4, l5, l6, l7, l8, l9, l10, l11] [t0] h Q ↔ zEv sc 89 24 [l0, l1, l2, l3, l4, l5, l6, l7, l8, l9, l10, l11] [.int 0, t0] h Q := zE_iconst dz89_23 (by decide +kernel)
theorem dz89_24 : decode (z_code 89) 24 = .ok (.invokevirtual 13, 3) := by decide +kernel
theorem u89_24 (ho : zO a 9) : zEv sc 89 24 [l0, l1, l2, l3, l4, l5, l6, l7, l8, l9, l10, l11] [.int z0, .ref a] (zst p iv) Q ↔ zEv sc 81 0 [.ref a, .int z0] [] (zst p iv) (fun r h9 => zEv sc 89 27 [l0, l1, l2, l3, l4, l5, l6, l7, l8, l9, l10, l11] (r.toList ++ []) h9 Q) := zE_call (kd := 0) (na := 2) (nr := 0) (as := [.ref a, .int z0]) (rest := []) (Or.inl ⟨rfl, rfl⟩) dz89_24 (by decide +kernel : z_lk2 zCT (z_cls 89) 13 = some (81, 0, 300)) (fun z => by cases z) rfl rfl rfl (by decide +kernel) rfl rfl (Or.inr (zE_rc ho))
theorem dz89_27 : decode (z_code 89) 27 = .ok (.istore 5, 2) := by decide +kernel
theorem u89_27 : zEv sc 89 27 [l0, l1, l2, l3, l4, l5, l6, l7, l8, l9, l10, l11] [.int x] h Q ↔ zEv sc 89 29 [l0, l1, l2, l3, l4, .int x, l6, l7, l8, l9, l10, l11] [] h Q := zE_pure (q := (29, [l0, l1, l2, l3, l4, .int x, l6, l7, l8, l9, l10, l11], [])) dz89_27 rfl rfl rfl
theorem dz89_29 : decode (z_code 89) 29 = .ok (.iload 4, 2) := by decide +kernel
theorem u89_29 : zEv sc 89 29 [l0, l1, l2, l3, .int x, l5, l6, l7, l8, l9, l10, l11] [] h Q ↔ zEv sc 89 31 [l0, l1, l2, l3, .int x, l5, l6, l7, l8, l9, l10, l11] [.int x] h Q := zE_pure (q := (31, [l0, l1, l2, l3, .int x, l5, l6, l7, l8, l9, l10, l11], [.int x])) dz89_29 rfl rfl rfl
theorem dz89_31 : decode (z_code 89) 31 = .ok (.ifCond .ne 7, 3) := by decide +kernel
theorem u89_31 : zEv sc 89 31 [l0, l1, l2, l3, l4, l5, l6, l7, l8, l9, l10, l11] [.int x] h Q ↔ (if ¬ x = 0 then zEv sc 89 38 [l0, l1, l2, l3, l4, l5, l6, l7, l8, l9, l10, l11] [] h Q else zEv sc 89 34 [l0, l1, l2, l3, l4, l5, l6, l7, l8, l9, l10, l11] [] h Q) := zE_ifP (P := ¬ x = 0) inferInstance 38 dz89_31 rfl rfl
theorem dz89_34 : decode (z_code 89) 34 = .ok (.iconst 0, 1) := by decide +kernel
theorem u89_34 : zEv sc 89 34 [l0, l1, l2, l3, l4, l5, l6, l7, l8, l9, l10, l11] [] h Q ↔ zEv sc 89 35 [l0, l1, l2, l3, l4, l5, l6, l7, l8, l9, l10, l11] [.int 0] h Q := zE_iconst dz89_34 (by decide +kernel)
theorem dz89_35 : decode (z_code 89) 35 = .ok (.goto 11, 3) := by decide +kernel
theorem u89_35 : zEv sc 89 35 [l0, l1, l2, l3, l4, l5, l6, l7, l8, l9, l10, l11] [t0] h Q ↔ zEv sc 89 46 [l0, l1, l2, l3, l4, l5, l6, l7, l8, l9, l10, l11] [t0] h Q := zE_go 46 dz89_35 rfl
theorem dz89_46 : decode (z_code 89) 46 = .ok (.istore 6, 2) := by decide +kernel
theorem u89_46 : zEv sc 89 46 [l0, l1, l2, l3, l4, l5, l6, l7, l8, l9, l10, l11] [.int x] h Q ↔ zEv sc 89 48 [l0, l1, l2, l3, l4, l5, .int x, l7, l8, l9, l10, l11] [] h Q := zE_pure (q := (48, [l0, l1, l2, l3, l4, l5, .int x, l7, l8, l9, l10, l11], [])) dz89_46 rfl rfl rfl
theorem dz89_48 : decode (z_code 89) 48 = .ok (.aload_n 0, 1) := by decide +kernel
theorem u89_48 : zEv sc 89 48 [.ref a, l1, l2, l3, l4, l5, l6, l7, l8, l9, l10, l11] [] h Q ↔ zEv sc 89 49 [.ref a, l1, l2, l3, l4, l5, l6, l7, l8, l9, l10, l11] [.ref a] h Q := zE_pure (q := (49, [.ref a, l1, l2, l3, l4, l5, l6, l7, l8, l9, l10, l11], [.ref a])) dz89_48 rfl rfl rfl
theorem dz89_49 : decode (z_code 89) 49 = .ok (.iload_n 2, 1) := by decide +kernel
theorem u89_49 : zEv sc 89 49 [l0, l1, .int x, l3, l4, l5, l6, l7, l8, l9, l10, l11] [t0] h Q ↔ zEv sc 89 50 [l0, l1, .int x, l3, l4, l5, l6, l7, l8, l9, l10, l11] [.int x, t0] h Q := zE_pure (q := (50, [l0, l1, .int x, l3, l4, l5, l6, l7, l8, l9, l10, l11], [.int x, t0])) dz89_49 rfl rfl rfl
theorem dz89_50 : decode (z_code 89) 50 = .ok (.iload 6, 2) := by decide +kernel
theorem u89_50 : zEv sc 89 50 [l0, l1, l2, l3, l4, l5, .int x, l7, l8, l9, l10, l11] [t0, t1] h Q ↔ zEv sc 89 52 [l0, l1, l2, l3, l4, l5, .int x, l7, l8, l9, l10, l11] [.int x, t0, t1] h Q := zE_pure (q := (52, [l0, l1, l2, l3, l4, l5, .int x, l7, l8, l9, l10, l11], [.int x, t0, t1])) dz89_50 rfl rfl rfl
theorem dz89_52 : decode (z_code 89) 52 = .ok (.iconst 0, 1) := by decide +kernel
theorem u89_52 : zEv sc 89 52 [l0, l1, l2, l3, l4, l5, l6, l7, l8, l9, l10, l11] [t0, t1, t2] h Q ↔ zEv sc 89 53 [l0, l1, l2, l3, l4, l5, l6, l7, l8, l9, l10, l11] [.int 0, t0, t1, t2] h Q := zE_iconst dz89_52 (by decide +kernel)
theorem dz89_53 : decode (z_code 89) 53 = .ok (.invokevirtual 21, 3) := by decide +kernel
theorem u89_53 (ho : zO a 9) : zEv sc 89 53 [l0, l1, l2, l3, l4, l5, l6, l7, l8, l9, l10, l11] [.int z2, .int z1, .int z0, .ref a] (zst p iv) Q ↔ zEv sc 74 0 [.ref a, .int z0, .int z1, .int z2, .null] [] (zst p iv) (fun r h9 => zEv sc 89 56 [l0, l1, l2, l3, l4, l5, l6, l7, l8, l9, l10, l11] (r.toList ++ []) h9 Q) := zE_call (kd := 0) (na := 4) (nr := 0) (as := [.ref a, .int z0, .int z1, .int z2]) (rest := []) (Or.inl ⟨rfl, rfl⟩) dz89_53 (by decide +kernel : z_lk2 zCT (z_cls 89) 21 = some (74, 0, 355)) (fun z => by cases z) rfl rfl rfl (by decide +kernel) rfl rfl (Or.inr (zE_rc ho))
theorem dz89_56 : decode (z_code 89) 56 = .ok (.istore 7, 2) := by decide +kernel
theorem u89_56 : zEv sc 89 56 [l0, l1, l2, l3, l4, l5, l6, l7, l8, l9, l10, l11] [.int x] h Q ↔ zEv sc 89 58 [l0, l1, l2, l3, l4, l5, l6, .int x, l8, l9, l10, l11] [] h Q := zE_pure (q := (58, [l0, l1, l2, l3, l4, l5, l6, .int x, l8, l9, l10, l11], [])) dz89_56 rfl rfl rfl
theorem dz89_58 : decode (z_code 89) 58 = .ok (.iload 4, 2) := by decide +kernel
theorem u89_58 : zEv sc 89 58 [l0, l1, l2, l3, .int x, l5, l6, l7, l8, l9, l10, l11] [] h Q ↔ zEv sc 89 60 [l0, l1, l2, l3, .int x, l5, l6, l7, l8, l9, l10, l11] [.int x] h Q := zE_pure (q := (60, [l0, l1, l2, l3, .int x, l5, l6, l7, l8, l9, l10, l11], [.int x])) dz89_58 rfl rfl rfl
theorem dz89_60 : decode (z_code 89) 60 = .ok (.ifCond .ne 43, 3) := by decide +kernel
theorem u89_60 : zEv sc 89 60 [l0, l1, l2, l3, l4, l5, l6, l7, l8, l9, l10, l11] [.int x] h Q ↔ (if ¬ x = 0 then zEv sc 89 103 [l0, l1, l2, l3, l4, l5, l6, l7, l8, l9, l10, l11] [] h Q else zEv sc 89 63 [l0, l1, l2, l3, l4, l5, l6, l7, l8, l9, l10, l11] [] h Q) := zE_ifP (P := ¬ x = 0) inferInstance 103 dz89_60 rfl rfl
theorem dz89_63 : decode (z_code 89) 63 = .ok (.iload 7, 2) := by decide +kernel
theorem u89_63 : zEv sc 89 63 [l0, l1, l2, l3, l4, l5, l6, .int x, l8, l9, l10, l11] [] h Q ↔ zEv sc 89 65 [l0, l1, l2, l3, l4, l5, l6, .int x, l8, l9, l10, l11] [.int x] h Q := zE_pure (q := (65, [l0, l1, l2, l3, l4, l5, l6, .int x, l8, l9, l10, l11], [.int x])) dz89_63 rfl rfl rfl
theorem dz89_65 : decode (z_code 89) 65 = .ok (.ldc 34, 2) := by decide +kernel
theorem u89_65 : zEv sc 89 65 [l0, l1, l2, l3, l4, l5, l6, l7, l8, l9, l10, l11] [t0] h Q ↔ zEv sc 89 67 [l0, l1, l2, l3, l4, l5, l6, l7, l8, l9, l10, l11] [.int (-1000004), t0] h Q := zE_ldc (by decide +kernel : z_lkK zKT (z_cls 89) 34 = some ((-1000004), 416)) dz89_65
theorem dz89_67 : decode (z_code 89) 67 = .ok (.if_icmp .ne 34, 3) := by decide +kernel
theorem u89_67 : zEv sc 89 67 [l0, l1, l2, l3, l4, l5, l6, l7, l8, l9, l10, l11] [.int x2, .int x1] h Q ↔ (if ¬ x1 = x2 then zEv sc 89 101 [l0, l1, l2, l3, l4, l5, l6, l7, l8, l9, l10, l11] [] h Q else zEv sc 89 70 [l0, l1, l2, l3, l4, l5, l6, l7, l8, l9, l10, l11] [] h Q) := zE_icP (P := ¬ x1 = x2) inferInstance 101 dz89_67 rfl rfl
theorem dz89_70 : decode (z_code 89) 70 = .ok (.aload_n 0, 1) := by decide +kernel
theorem u89_70 : zEv sc 89 70 [.ref a, l1, l2, l3, l4, l5, l6, l7, l8, l9, l10, l11] [] h Q ↔ zEv sc 89 71 [.ref a, l1, l2, l3, l4, l5, l6, l7, l8, l9, l10, l11] [.ref a] h Q := zE_pure (q := (71, [.ref a, l1, l2, l3, l4, l5, l6, l7, l8, l9, l10, l11], [.ref a])) dz89_70 rfl rfl rfl
theorem dz89_71 : decode (z_code 89) 71 = .ok (.bipush 7, 2) := by decide +kernel
theorem u89_71 : zEv sc 89 71 [l0, l1, l2, l3, l4, l5, l6, l7, l8, l9, l10, l11] [t0] h Q ↔ zEv sc 89 73 [l0, l1, l2, l3, l4, l5, l6, l7, l8, l9, l10, l11] [.int 7, t0] h Q := zE_bipush dz89_71 (by decide +kernel)
theorem dz89_73 : decode (z_code 89) 73 = .ok (.iload_n 2, 1) := by decide +kernel
theorem u89_73 : zEv sc 89 73 [l0, l1, .int x, l3, l4, l5, l6, l7, l8, l9, l10, l11] [t0, t1] h Q ↔ zEv sc 89 74 [l0, l1, .int x, l3, l4, l5, l6, l7, l8, l9, l10, l11] [.int x, t0, t1] h Q := zE_pure (q := (74, [l0, l1, .int x, l3, l4, l5, l6, l7, l8, l9, l10, l11], [.int x, t0, t1])) dz89_73 rfl rfl rfl
theorem dz89_74 : decode (z_code 89) 74 = .ok (.iadd, 1) := by decide +kernel
theorem u89_74 : zEv sc 89 74 [l0, l1, l2, l3, l4, l5, l6, l7, l8, l9, l10, l11] [.int x2, .int x1, t0] h Q ↔ zEv sc 89 75 [l0, l1, l2, l3, l4, l5, l6, l7, l8, l9, l10, l11] [.int (x1 + x2), t0] h Q := zE_pure (q := (75, [l0, l1, l2, l3, l4, l5, l6, l7, l8, l9, l10, l11], [.int (x1 + x2), t0])) dz89_74 rfl rfl rfl
theorem dz89_75 : decode (z_code 89) 75 = .ok (.invokevirtual 13, 3) := by decide +kernel
theorem u89_75 (ho : zO a 9) : zEv sc 89 75 [l0, l1, l2, l3, l4, l5, l6, l7, l8, l9, l10, l11] [.int z0, .ref a] (zst p iv) Q ↔ zEv sc 81 0 [.ref a, .int z0] [] (zst p iv) (fun r h9 => zEv sc 89 78 [l0, l1, l2, l3, l4, l5, l6, l7, l8, l9, l10, l11] (r.toList ++ []) h9 Q) := zE_call (kd := 0) (na := 2) (nr := 0) (as := [.ref a, .int z0]) (rest := []) (Or.inl ⟨rfl, rfl⟩) dz89_75 (by decide +kernel : z_lk2 zCT (z_cls 89) 13 = some (81, 0, 300)) (fun z => by cases z) rfl rfl rfl (by decide +kernel) rfl rfl (Or.inr (zE_rc ho))
theorem dz89_78 : decode (z_code 89) 78 = .ok (.ifCond .ne 23, 3) := by decide +kernel
theorem u89_78 : zEv sc 89 78 [l0, l1, l2, l3, l4, l5, l6, l7, l8, l9, l10, l11] [.int x] h Q ↔ (if ¬ x = 0 then zEv sc 89 101 [l0, l1, l2, l3, l4, l5, l6, l7, l8, l9, l10, l11] [] h Q else zEv sc 89 81 [l0, l1, l2, l3, l4, l5, l6, l7, l8, l9, l10, l11] [] h Q) := zE_ifP (P := ¬ x = 0) inferInstance 101 dz89_78 rfl rfl
theorem dz89_81 : decode (z_code 89) 81 = .ok (.aload_n 0, 1) := by decide +kernel
theorem u89_81 : zEv sc 89 81 [.ref a, l1, l2, l3, l4, l5, l6, l7, l8, l9, l10, l11] [] h Q ↔ zEv sc 89 82 [.ref a, l1, l2, l3, l4, l5, l6, l7, l8, l9, l10, l11] [.ref a] h Q := zE_pure (q := (82, [.ref a, l1, l2, l3, l4, l5, l6, l7, l8, l9, l10, l11], [.ref a])) dz89_81 rfl rfl rfl
theorem dz89_82 : decode (z_code 89) 82 = .ok (.iload_n 2, 1) := by decide +kernel
theorem u89_82 : zEv sc 89 82 [l0, l1, .int x, l3, l4, l5, l6, l7, l8, l9, l10, l11] [t0] h Q ↔ zEv sc 89 83 [l0, l1, .int x, l3, l4, l5, l6, l7, l8, l9, l10, l11] [.int x, t0] h Q := zE_pure (q := (83, [l0, l1, .int x, l3, l4, l5, l6, l7, l8, l9, l10, l11], [.int x, t0])) dz89_82 rfl rfl rfl
theorem dz89_83 : decode (z_code 89) 83 = .ok (.iconst 0, 1) := by decide +kernel
theorem u89_83 : zEv sc 89 83 [l0, l1, l2, l3, l4, l5, l6, l7, l8, l9, l10, l11] [t0, t1] h Q ↔ zEv sc 89 84 [l0, l1, l2, l3, l4, l5, l6, l7, l8, l9, l10, l11] [.int 0, t0, t1] h Q := zE_iconst dz89_83 (by decide +kernel)
theorem dz89_84 : decode (z_code 89) 84 = .ok (.iconst 0, 1) := by decide +kernel
theorem u89_84 : zEv sc 89 84 [l0, l1, l2, l3, l4, l5, l6, l7, l8, l9, l10, l11] [t0, t1, t2] h Q ↔ zEv sc 89 85 [l0, l1, l2, l3, l4, l5, l6, l7, l8, l9, l10, l11] [.int 0, t0, t1, t2] h Q := zE_iconst dz89_84 (by decide +kernel)
theorem dz89_85 : decode (z_code 89) 85 = .ok (.invokevirtual 35, 3) := by decide +kernel
theorem u89_85 (ho : zO a 9) : zEv sc 89 85 [l0, l1, l2, l3, l4, l5, l6, l7, l8, l9, l10, l11] [.int z2, .int z1, .int z0, .ref a] (zst p iv) Q ↔ zEv sc 77 0 [.ref a, .int z0, .int z1, .int z2, .null, .null, .null] [] (zst p iv) (fun r h9 => zEv sc 89 88 [l0, l1, l2, l3, l4, l5, l6, l7, l8, l9, l10, l11] (r.toList ++ []) h9 Q) := zE_call (kd := 0) (na := 4) (nr := 0) (as := [.ref a, .int z0, .int z1, .int z2]) (rest := []) (Or.inl ⟨rfl, rfl⟩) dz89_85 (by decide +kernel : z_lk2 zCT (z_cls 89) 35 = some (77, 0, 417)) (fun z => by cases z) rfl rfl rfl (by decide +kernel) rfl rfl (Or.inr (zE_rc ho))
theorem dz89_88 : decode (z_code 89) 88 = .ok (.ldc 38, 2) := by decide +kernel
theorem u89_88 : zEv sc 89 88 [l0, l1, l2, l3, l4, l5, l6, l7, l8, l9, l10, l11] [t0] h Q ↔ zEv sc 89 90 [l0, l1, l2, l3, l4, l5, l6, l7, l8, l9, l10, l11] [.int (-1000002), t0] h Q := zE_ldc (by decide +kernel : z_lkK zKT (z_cls 89) 38 = some ((-1000002), 430)) dz89_88
theorem dz89_90 : decode (z_code 89) 90 = .ok (.if_icmp .ne 11, 3) := by decide +kernel
theorem u89_90 : zEv sc 89 90 [l0, l1, l2, l3, l4, l5, l6, l7, l8, l9, l10, l11] [.int x2, .int x1] h Q ↔ (if ¬ x1 = x2 then zEv sc 89 101 [l0, l1, l2, l3, l4, l5, l6, l7, l8, l9, l10, l11] [] h Q else zEv sc 89 93 [l0, l1, l2, l3, l4, l5, l6, l7, l8, l9, l10, l11] [] h Q) := zE_icP (P := ¬ x1 = x2) inferInstance 101 dz89_90 rfl rfl
theorem dz89_93 : decode (z_code 89) 93 = .ok (.iload_n 3, 1) := by decide +kernel
theorem u89_93 : zEv sc 89 93 [l0, l1, l2, .int x, l4, l5, l6, l7, l8, l9, l10, l11] [] h Q ↔ zEv sc 89 94 [l0, l1, l2, .int x, l4, l5, l6, l7, l8, l9, l10, l11] [.int x] h Q := zE_pure (q := (94, [l0, l1, l2, .int x, l4, l5, l6, l7, l8, l9, l10, l11], [.int x])) dz89_93 rfl rfl rfl
theorem dz89_94 : decode (z_code 89) 94 = .ok (.ifCond .lt 7, 3) := by decide +kernel
theorem u89_94 : zEv sc 89 94 [l0, l1, l2, l3, l4, l5, l6, l7, l8, l9, l10, l11] [.int x] h Q ↔ (if x < 0 then zEv sc 89 101 [l0, l1, l2, l3, l4, l5, l6, l7, l8, l9, l10, l11] [] h Q else zEv sc 89 97 [l0, l1, l2, l3, l4, l5, l6, l7, l8, l9, l10, l11] [] h Q) := zE_ifP (P := x < 0) inferInstance 101 dz89_94 rfl rfl
theorem dz89_97 : decode (z_code 89) 97 = .ok (.iconst 1, 1) := by decide +kernel
theorem u89_97 : zEv sc 89 97 [l0, l1, l2, l3, l4, l5, l6, l7, l8, l9, l10, l11] [] h Q ↔ zEv sc 89 98 [l0, l1, l2, l3, l4, l5, l6, l7, l8, l9, l10, l11] [.int 1] h Q := zE_iconst dz89_97 (by decide +kernel)
theorem dz89_98 : decode (z_code 89) 98 = .ok (.goto 4, 3) := by decide +kernel
theorem u89_98 : zEv sc 89 98 [l0, l1, l2, l3, l4, l5, l6, l7, l8, l9, l10, l11] [t0] h Q ↔ zEv sc 89 102 [l0, l1, l2, l3, l4, l5, l6, l7, l8, l9, l10, l11] [t0] h Q := zE_go 102 dz89_98 rfl
theorem dz89_102 : decode (z_code 89) 102 = .ok (.ireturn, 1) := by decide +kernel
theorem u89_102 : zEv sc 89 102 [l0, l1, l2, l3, l4, l5, l6, l7, l8, l9, l10, l11] [.int x] h Q ↔ ((x = 0 ∨ x = 1) ∧ Q (some (.int x)) h) := zE_rz dz89_102 (by decide +kernel)
theorem dz89_101 : decode (z_code 89) 101 = .ok (.iconst 0, 1) := by decide +kernel
theorem u89_101 : zEv sc 89 101 [l0, l1, l2, l3, l4, l5, l6, l7, l8, l9, l10, l11] [] h Q ↔ zEv sc 89 102 [l0, l1, l2, l3, l4, l5, l6, l7, l8, l9, l10, l11] [.int 0] h Q := zE_iconst dz89_101 (by decide +kernel)
theorem dz89_103 : decode (z_code 89) 103 = .ok (.iconst 0, 1) := by decide +kernel
theorem u89_103 : zEv sc 89 103 [l0, l1, l2, l3, l4, l5, l6, l7, l8, l9, l10, l11] [] h Q ↔ zEv sc 89 104 [l0, l1, l2, l3, l4, l5, l6, l7, l8, l9, l10, l11] [.int 0] h Q := zE_iconst dz89_103 (by decide +kernel)
theorem dz89_104 : decode (z_code 89) 104 = .ok (.istore 8, 2) := by decide +kernel
theorem u89_104 : zEv sc 89 104 [l0, l1, l2, l3, l4, l5, l6, l7, l8, l9, l10, l11] [.int x] h Q ↔ zEv sc 89 106 [l0, l1, l2, l3, l4, l5, l6, l7, .int x, l9, l10, l11] [] h Q := zE_pure (q := (106, [l0, l1, l2, l3, l4, l5, l6, l7, .int x, l9, l10, l11], [])) dz89_104 rfl rfl rfl
theorem dz89_106 : decode (z_code 89) 106 = .ok (.iload 7, 2) := by decide +kernel
theorem u89_106 : zEv sc 89 106 [l0, l1, l2, l3, l4, l5, l6, .int x, l8, l9, l10, l11] [] h Q ↔ zEv sc 89 108 [l0, l1, l2, l3, l4, l5, l6, .int x, l8, l9, l10, l11] [.int x] h Q := zE_pure (q := (108, [l0, l1, l2, l3, l4, l5, l6, .int x, l8, l9, l10, l11], [.int x])) dz89_106 rfl rfl rfl
theorem dz89_108 : decode (z_code 89) 108 = .ok (.istore 9, 2) := by decide +kernel
theorem u89_108 : zEv sc 89 108 [l0, l1, l2, l3, l4, l5, l6, l7, l8, l9, l10, l11] [.int x] h Q ↔ zEv sc 89 110 [l0, l1, l2, l3, l4, l5, l6, l7, l8, .int x, l10, l11] [] h Q := zE_pure (q := (110, [l0, l1, l2, l3, l4, l5, l6, l7, l8, .int x, l10, l11], [])) dz89_108 rfl rfl rfl
theorem dz89_110 : decode (z_code 89) 110 = .ok (.iload 5, 2) := by decide +kernel
theorem u89_110 : zEv sc 89 110 [l0, l1, l2, l3, l4, .int x, l6, l7, l8, l9, l10, l11] [] h Q ↔ zEv sc 89 112 [l0, l1, l2, l3, l4, .int x, l6, l7, l8, l9, l10, l11] [.int x] h Q := zE_pure (q := (112, [l0, l1, l2, l3, l4, .int x, l6, l7, l8, l9, l10, l11], [.int x])) dz89_110 rfl rfl rfl
theorem dz89_112 : decode (z_code 89) 112 = .ok (.iconst 1, 1) := by decide +kernel
theorem u89_112 : zEv sc 89 112 [l0, l1, l2, l3, l4, l5, l6, l7, l8, l9, l10, l11] [t0] h Q ↔ zEv sc 89 113 [l0, l1, l2, l3, l4, l5, l6, l7, l8, l9, l10, l11] [.int 1, t0] h Q := zE_iconst dz89_112 (by decide +kernel)
theorem dz89_113 : decode (z_code 89) 113 = .ok (.isub, 1) := by decide +kernel
theorem u89_113 : zEv sc 89 113 [l0, l1, l2, l3, l4, l5, l6, l7, l8, l9, l10, l11] [.int x2, .int x1] h Q ↔ zEv sc 89 114 [l0, l1, l2, l3, l4, l5, l6, l7, l8, l9, l10, l11] [.int (x1 - x2)] h Q := zE_pure (q := (114, [l0, l1, l2, l3, l4, l5, l6, l7, l8, l9, l10, l11], [.int (x1 - x2)])) dz89_113 rfl rfl rfl
theorem dz89_114 : decode (z_code 89) 114 = .ok (.istore 10, 2) := by decide +kernel
theorem u89_114 : zEv sc 89 114 [l0, l1, l2, l3, l4, l5, l6, l7, l8, l9, l10, l11] [.int x] h Q ↔ zEv sc 89 116 [l0, l1, l2, l3, l4, l5, l6, l7, l8, l9, .int x, l11] [] h Q := zE_pure (q := (116, [l0, l1, l2, l3, l4, l5, l6, l7, l8, l9, .int x, l11], [])) dz89_114 rfl rfl rfl
theorem dz89_116 : decode (z_code 89) 116 = .ok (.iload 10, 2) := by decide +kernel
theorem u89_116 : zEv sc 89 116 [l0, l1, l2, l3, l4, l5, l6, l7, l8, l9, .int x, l11] [] h Q ↔ zEv sc 89 118 [l0, l1, l2, l3, l4, l5, l6, l7, l8, l9, .int x, l11] [.int x] h Q := zE_pure (q := (118, [l0, l1, l2, l3, l4, l5, l6, l7, l8, l9, .int x, l11], [.int x])) dz89_116 rfl rfl rfl
theorem dz89_118 : decode (z_code 89) 118 = .ok (.ifCond .lt 71, 3) := by decide +kernel
theorem u89_118 : zEv sc 89 118 [l0, l1, l2, l3, l4, l5, l6, l7, l8, l9, l10, l11] [.int x] h Q ↔ (if x < 0 then zEv sc 89 189 [l0, l1, l2, l3, l4, l5, l6, l7, l8, l9, l10, l11] [] h Q else zEv sc 89 121 [l0, l1, l2, l3, l4, l5, l6, l7, l8, l9, l10, l11] [] h Q) := zE_ifP (P := x < 0) inferInstance 189 dz89_118 rfl rfl
theorem dz89_121 : decode (z_code 89) 121 = .ok (.iload 9, 2) := by decide +kernel
theorem u89_121 : zEv sc 89 121 [l0, l1, l2, l3, l4, l5, l6, l7, l8, .int x, l10, l11] [] h Q ↔ zEv sc 89 123 [l0, l1, l2, l3, l4, l5, l6, l7, l8, .int x, l10, l11] [.int x] h Q := zE_pure (q := (123, [l0, l1, l2, l3, l4, l5, l6, l7, l8, .int x, l10, l11], [.int x])) dz89_121 rfl rfl rfl
theorem dz89_123 : decode (z_code 89) 123 = .ok (.bipush 10, 2) := by decide +kernel
theorem u89_123 : zEv sc 89 123 [l0, l1, l2, l3, l4, l5, l6, l7, l8, l9, l10, l11] [t0] h Q ↔ zEv sc 89 125 [l0, l1, l2, l3, l4, l5, l6, l7, l8, l9, l10, l11] [.int 10, t0] h Q := zE_bipush dz89_123 (by decide +kernel)
theorem dz89_125 : decode (z_code 89) 125 = .ok (.irem, 1) := by decide +kernel
theorem u89_125 : zEv sc 89 125 [l0, l1, l2, l3, l4, l5, l6, l7, l8, l9, l10, l11] [.int x2, .int x1] h Q ↔ (¬ x2 = 0 ∧ zEv sc 89 126 [l0, l1, l2, l3, l4, l5, l6, l7, l8, l9, l10, l11] [.int (x1 - x1 / x2 * x2)] h Q) := zE_rem dz89_125
theorem dz89_126 : decode (z_code 89) 126 = .ok (.istore 11, 2) := by decide +kernel
theorem u89_126 : zEv sc 89 126 [l0, l1, l2, l3, l4, l5, l6, l7, l8, l9, l10, l11] [.int x] h Q ↔ zEv sc 89 128 [l0, l1, l2, l3, l4, l5, l6, l7, l8, l9, l10, .int x] [] h Q := zE_pure (q := (128, [l0, l1, l2, l3, l4, l5, l6, l7, l8, l9, l10, .int x], [])) dz89_126 rfl rfl rfl
theorem dz89_128 : decode (z_code 89) 128 = .ok (.iload 8, 2) := by decide +kernel
theorem u89_128 : zEv sc 89 128 [l0, l1, l2, l3, l4, l5, l6, l7, .int x, l9, l10, l11] [] h Q ↔ zEv sc 89 130 [l0, l1, l2, l3, l4, l5, l6, l7, .int x, l9, l10, l11] [.int x] h Q := zE_pure (q := (130, [l0, l1, l2, l3, l4, l5, l6, l7, .int x, l9, l10, l11], [.int x])) dz89_128 rfl rfl rfl
theorem dz89_130 : decode (z_code 89) 130 = .ok (.iload 11, 2) := by decide +kernel
theorem u89_130 : zEv sc 89 130 [l0, l1, l2, l3, l4, l5, l6, l7, l8, l9, l10, .int x] [t0] h Q ↔ zEv sc 89 132 [l0, l1, l2, l3, l4, l5, l6, l7, l8, l9, l10, .int x] [.int x, t0] h Q := zE_pure (q := (132, [l0, l1, l2, l3, l4, l5, l6, l7, l8, l9, l10, .int x], [.int x, t0])) dz89_130 rfl rfl rfl
theorem dz89_132 : decode (z_code 89) 132 = .ok (.iadd, 1) := by decide +kernel
theorem u89_132 : zEv sc 89 132 [l0, l1, l2, l3, l4, l5, l6, l7, l8, l9, l10, l11] [.int x2, .int x1] h Q ↔ zEv sc 89 133 [l0, l1, l2, l3, l4, l5, l6, l7, l8, l9, l10, l11] [.int (x1 + x2)] h Q := zE_pure (q := (133, [l0, l1, l2, l3, l4, l5, l6, l7, l8, l9, l10, l11], [.int (x1 + x2)])) dz89_132 rfl rfl rfl
theorem dz89_133 : decode (z_code 89) 133 = .ok (.istore 8, 2) := by decide +kernel
theorem u89_133 : zEv sc 89 133 [l0, l1, l2, l3, l4, l5, l6, l7, l8, l9, l10, l11] [.int x] h Q ↔ zEv sc 89 135 [l0, l1, l2, l3, l4, l5, l6, l7, .int x, l9, l10, l11] [] h Q := zE_pure (q := (135, [l0, l1, l2, l3, l4, l5, l6, l7, .int x, l9, l10, l11], [])) dz89_133 rfl rfl rfl
theorem dz89_135 : decode (z_code 89) 135 = .ok (.iload 9, 2) := by decide +kernel
theorem u89_135 : zEv sc 89 135 [l0, l1, l2, l3, l4, l5, l6, l7, l8, .int x, l10, l11] [] h Q ↔ zEv sc 89 137 [l0, l1, l2, l3, l4, l5, l6, l7, l8, .int x, l10, l11] [.int x] h Q := zE_pure (q := (137, [l0, l1, l2, l3, l4, l5, l6, l7, l8, .int x, l10, l11], [.int x])) dz89_135 rfl rfl rfl
theorem dz89_137 : decode (z_code 89) 137 = .ok (.bipush 10, 2) := by decide +kernel
theorem u89_137 : zEv sc 89 137 [l0, l1, l2, l3, l4, l5, l6, l7, l8, l9, l10, l11] [t0] h Q ↔ zEv sc 89 139 [l0, l1, l2, l3, l4, l5, l6, l7, l8, l9, l10, l11] [.int 10, t0] h Q := zE_bipush dz89_137 (by decide +kernel)
theorem dz89_139 : decode (z_code 89) 139 = .ok (.idiv, 1) := by decide +kernel
theorem u89_139 : zEv sc 89 139 [l0, l1, l2, l3, l4, l5, l6, l7, l8, l9, l10, l11] [.int x2, .int x1] h Q ↔ (¬ x2 = 0 ∧ zEv sc 89 140 [l0, l1, l2, l3, l4, l5, l6, l7, l8, l9, l10, l11] [.int (x1 / x2)] h Q) := zE_div dz89_139
theorem dz89_140 : decode (z_code 89) 140 = .ok (.istore 9, 2) := by decide +kernel
theorem u89_140 : zEv sc 89 140 [l0, l1, l2, l3, l4, l5, l6, l7, l8, l9, l10, l11] [.int x] h Q ↔ zEv sc 89 142 [l0, l1, l2, l3, l4, l5, l6, l7, l8, .int x, l10, l11] [] h Q := zE_pure (q := (142, [l0, l1, l2, l3, l4, l5, l6, l7, l8, .int x, l10, l11], [])) dz89_140 rfl rfl rfl
theorem dz89_142 : decode (z_code 89) 142 = .ok (.iload 11, 2) := by decide +kernel
theorem u89_142 : zEv sc 89 142 [l0, l1, l2, l3, l4, l5, l6, l7, l8, l9, l10, .int x] [] h Q ↔ zEv sc 89 144 [l0, l1, l2, l3, l4, l5, l6, l7, l8, l9, l10, .int x] [.int x] h Q := zE_pure (q := (144, [l0, l1, l2, l3, l4, l5, l6, l7, l8, l9, l10, .int x], [.int x])) dz89_142 rfl rfl rfl
theorem dz89_144 : decode (z_code 89) 144 = .ok (.aload_n 0, 1) := by decide +kernel
theorem u89_144 : zEv sc 89 144 [.ref a, l1, l2, l3, l4, l5, l6, l7, l8, l9, l10, l11] [t0] h Q ↔ zEv sc 89 145 [.ref a, l1, l2, l3, l4, l5, l6, l7, l8, l9, l10, l11] [.ref a, t0] h Q := zE_pure (q := (145, [.ref a, l1, l2, l3, l4, l5, l6, l7, l8, l9, l10, l11], [.ref a, t0])) dz89_144 rfl rfl rfl
theorem dz89_145 : decode (z_code 89) 145 = .ok (.bipush 30, 2) := by decide +kernel
theorem u89_145 : zEv sc 89 145 [l0, l1, l2, l3, l4, l5, l6, l7, l8, l9, l10, l11] [t0, t1] h Q ↔ zEv sc 89 147 [l0, l1, l2, l3, l4, l5, l6, l7, l8, l9, l10, l11] [.int 30, t0, t1] h Q := zE_bipush dz89_145 (by decide +kernel)
theorem dz89_147 : decode (z_code 89) 147 = .ok (.bipush 10, 2) := by decide +kernel
theorem u89_147 : zEv sc 89 147 [l0, l1, l2, l3, l4, l5, l6, l7, l8, l9, l10, l11] [t0, t1, t2] h Q ↔ zEv sc 89 149 [l0, l1, l2, l3, l4, l5, l6, l7, l8, l9, l10, l11] [.int 10, t0, t1, t2] h Q := zE_bipush dz89_147 (by decide +kernel)
theorem dz89_149 : decode (z_code 89) 149 = .ok (.iload_n 2, 1) := by decide +kernel
theorem u89_149 : zEv sc 89 149 [l0, l1, .int x, l3, l4, l5, l6, l7, l8, l9, l10, l11] [t0, t1, t2, t3] h Q ↔ zEv sc 89 150 [l0, l1, .int x, l3, l4, l5, l6, l7, l8, l9, l10, l11] [.int x, t0, t1, t2, t3] h Q := zE_pure (q := (150, [l0, l1, .int x, l3, l4, l5, l6, l7, l8, l9, l10, l11], [.int x, t0, t1, t2, t3])) dz89_149 rfl rfl rfl
theorem dz89_150 : decode (z_code 89) 150 = .ok (.imul, 1) := by decide +kernel
theorem u89_150 : zEv sc 89 150 [l0, l1, l2, l3, l4, l5, l6, l7, l8, l9, l10, l11] [.int x2, .int x1, t0, t1, t2] h Q ↔ zEv sc 89 151 [l0, l1, l2, l3, l4, l5, l6, l7, l8, l9, l10, l11] [.int (x1 * x2), t0, t1, t2] h Q := zE_pure (q := (151, [l0, l1, l2, l3, l4, l5, l6, l7, l8, l9, l10, l11], [.int (x1 * x2), t0, t1, t2])) dz89_150 rfl rfl rfl
theorem dz89_151 : decode (z_code 89) 151 = .ok (.iadd, 1) := by decide +kernel
theorem u89_151 : zEv sc 89 151 [l0, l1, l2, l3, l4, l5, l6, l7, l8, l9, l10, l11] [.int x2, .int x1, t0, t1] h Q ↔ zEv sc 89 152 [l0, l1, l2, l3, l4, l5, l6, l7, l8, l9, l10, l11] [.int (x1 + x2), t0, t1] h Q := zE_pure (q := (152, [l0, l1, l2, l3, l4, l5, l6, l7, l8, l9, l10, l11], [.int (x1 + x2), t0, t1])) dz89_151 rfl rfl rfl
theorem dz89_152 : decode (z_code 89) 152 = .ok (.iload 10, 2) := by decide +kernel
theorem u89_152 : zEv sc 89 152 [l0, l1, l2, l3, l4, l5, l6, l7, l8, l9, .int x, l11] [t0, t1, t2] h Q ↔ zEv sc 89 154 [l0, l1, l2, l3, l4, l5, l6, l7, l8, l9, .int x, l11] [.int x, t0, t1, t2] h Q := zE_pure (q := (154, [l0, l1, l2, l3, l4, l5, l6, l7, l8, l9, .int x, l11], [.int x, t0, t1, t2])) dz89_152 rfl rfl rfl
theorem dz89_154 : decode (z_code 89) 154 = .ok (.iadd, 1) := by decide +kernel
theorem u89_154 : zEv sc 89 154 [l0, l1, l2, l3, l4, l5, l6, l7, l8, l9, l10, l11] [.int x2, .int x1, t0, t1] h Q ↔ zEv sc 89 155 [l0, l1, l2, l3, l4, l5, l6, l7, l8, l9, l10, l11] [.int (x1 + x2), t0, t1] h Q := zE_pure (q := (155, [l0, l1, l2, l3, l4, l5, l6, l7, l8, l9, l10, l11], [.int (x1 + x2), t0, t1])) dz89_154 rfl rfl rfl
theorem dz89_155 : decode (z_code 89) 155 = .ok (.invokevirtual 13, 3) := by decide +kernel
theorem u89_155 (ho : zO a 9) : zEv sc 89 155 [l0, l1, l2, l3, l4, l5, l6, l7, l8, l9, l10, l11] [.int z0, .ref a, t0] (zst p iv) Q ↔ zEv sc 81 0 [.ref a, .int z0] [] (zst p iv) (fun r h9 => zEv sc 89 158 [l0, l1, l2, l3, l4, l5, l6, l7, l8, l9, l10, l11] (r.toList ++ [t0]) h9 Q) := zE_call (kd := 0) (na := 2) (nr := 1) (as := [.ref a, .int z0]) (rest := [t0]) (Or.inl ⟨rfl, rfl⟩) dz89_155 (by decide +kernel : z_lk2 zCT (z_cls 89) 13 = some (81, 0, 300)) (fun z => by cases z) rfl rfl rfl (by decide +kernel) rfl rfl (Or.inr (zE_rc ho))
theorem dz89_158 : decode (z_code 89) 158 = .ok (.if_icmp .gt 23, 3) := by decide +kernel
theorem u89_158 : zEv sc 89 158 [l0, l1, l2, l3, l4, l5, l6, l7, l8, l9, l10, l11] [.int x2, .int x1] h Q ↔ (if x2 < x1 then zEv sc 89 181 [l0, l1, l2, l3, l4, l5, l6, l7, l8, l9, l10, l11] [] h Q else zEv sc 89 161 [l0, l1, l2, l3, l4, l5, l6, l7, l8, l9, l10, l11] [] h Q) := zE_icP (P := x2 < x1) inferInstance 181 dz89_158 rfl rfl
theorem dz89_161 : decode (z_code 89) 161 = .ok (.aload_n 0, 1) := by decide +kernel
theorem u89_161 : zEv sc 89 161 [.ref a, l1, l2, l3, l4, l5, l6, l7, l8, l9, l10, l11] [] h Q ↔ zEv sc 89 162 [.ref a, l1, l2, l3, l4, l5, l6, l7, l8, l9, l10, l11] [.ref a] h Q := zE_pure (q := (162, [.ref a, l1, l2, l3, l4, l5, l6, l7, l8, l9, l10, l11], [.ref a])) dz89_161 rfl rfl rfl
theorem dz89_162 : decode (z_code 89) 162 = .ok (.iload_n 2, 1) := by decide +kernel
theorem u89_162 : zEv sc 89 162 [l0, l1, .int x, l3, l4, l5, l6, l7, l8, l9, l10, l11] [t0] h Q ↔ zEv sc 89 163 [l0, l1, .int x, l3, l4, l5, l6, l7, l8, l9, l10, l11] [.int x, t0] h Q := zE_pure (q := (163, [l0, l1, .int x, l3, l4, l5, l6, l7, l8, l9, l10, l11], [.int x, t0])) dz89_162 rfl rfl rfl
theorem dz89_163 : decode (z_code 89) 163 = .ok (.iload 10, 2) := by decide +kernel
theorem u89_163 : zEv sc 89 163 [l0, l1, l2, l3, l4, l5, l6, l7, l8, l9, .int x, l11] [t0, t1] h Q ↔ zEv sc 89 165 [l0, l1, l2, l3, l4, l5, l6, l7, l8, l9, .int x, l11] [.int x, t0, t1] h Q := zE_pure (q := (165, [l0, l1, l2, l3, l4, l5, l6, l7, l8, l9, .int x, l11], [.int x, t0, t1])) dz89_163 rfl rfl rfl
theorem dz89_165 : decode (z_code 89) 165 = .ok (.iload 11, 2) := by decide +kernel
theorem u89_165 : zEv sc 89 165 [l0, l1, l2, l3, l4, l5, l6, l7, l8, l9, l10, .int x] [t0, t1, t2] h Q ↔ zEv sc 89 167 [l0, l1, l2, l3, l4, l5, l6, l7, l8, l9, l10, .int x] [.int x, t0, t1, t2] h Q := zE_pure (q := (167, [l0, l1, l2, l3, l4, l5, l6, l7, l8, l9, l10, .int x], [.int x, t0, t1, t2])) dz89_165 rfl rfl rfl
theorem dz89_167 : decode (z_code 89) 167 = .ok (.invokevirtual 39, 3) := by decide +kernel
theorem u89_167 (ho : zO a 9) : zEv sc 89 167 [l0, l1, l2, l3, l4, l5, l6, l7, l8, l9, l10, l11] [.int z2, .int z1, .int z0, .ref a] (zst p iv) Q ↔ zEv sc 75 0 [.ref a, .int z0, .int z1, .int z2, .null, .null, .null] [] (zst p iv) (fun r h9 => zEv sc 89 170 [l0, l1, l2, l3, l4, l5, l6, l7, l8, l9, l10, l11] (r.toList ++ []) h9 Q) := zE_call (kd := 0) (na := 4) (nr := 0) (as := [.ref a, .int z0, .int z1, .int z2]) (rest := []) (Or.inl ⟨rfl, rfl⟩) dz89_167 (by decide +kernel : z_lk2 zCT (z_cls 89) 39 = some (75, 0, 431)) (fun z => by cases z) rfl rfl rfl (by decide +kernel) rfl rfl (Or.inr (zE_rc ho))
theorem dz89_170 : decode (z_code 89) 170 = .ok (.aload_n 0, 1) := by decide +kernel
theorem u89_170 : zEv sc 89 170 [.ref a, l1, l2, l3, l4, l5, l6, l7, l8, l9, l10, l11] [t0] h Q ↔ zEv sc 89 171 [.ref a, l1, l2, l3, l4, l5, l6, l7, l8, l9, l10, l11] [.ref a, t0] h Q := zE_pure (q := (171, [.ref a, l1, l2, l3, l4, l5, l6, l7, l8, l9, l10, l11], [.ref a, t0])) dz89_170 rfl rfl rfl
theorem dz89_171 : decode (z_code 89) 171 = .ok (.iload_n 2, 1) := by decide +kernel
theorem u89_171 : zEv sc 89 171 [l0, l1, .int x, l3, l4, l5, l6, l7, l8, l9, l10, l11] [t0, t1] h Q ↔ zEv sc 89 172 [l0, l1, .int x, l3, l4, l5, l6, l7, l8, l9, l10, l11] [.int x, t0, t1] h Q := zE_pure (q := (172, [l0, l1, .int x, l3, l4, l5, l6, l7, l8, l9, l10, l11], [.int x, t0, t1])) dz89_171 rfl rfl rfl
theorem dz89_172 : decode (z_code 89) 172 = .ok (.iload 6, 2) := by decide +kernel
theorem u89_172 : zEv sc 89 172 [l0, l1, l2, l3, l4, l5, .int x, l7, l8, l9, l10, l11] [t0, t1, t2] h Q ↔ zEv sc 89 174 [l0, l1, l2, l3, l4, l5, .int x, l7, l8, l9, l10, l11] [.int x, t0, t1, t2] h Q := zE_pure (q := (174, [l0, l1, l2, l3, l4, l5, .int x, l7, l8, l9, l10, l11], [.int x, t0, t1, t2])) dz89_172 rfl rfl rfl
theorem dz89_174 : decode (z_code 89) 174 = .ok (.iconst 1, 1) := by decide +kernel
theorem u89_174 : zEv sc 89 174 [l0, l1, l2, l3, l4, l5, l6, l7, l8, l9, l10, l11] [t0, t1, t2, t3] h Q ↔ zEv sc 89 175 [l0, l1, l2, l3, l4, l5, l6, l7, l8, l9, l10, l11] [.int 1, t0, t1, t2, t3] h Q := zE_iconst dz89_174 (by decide +kernel)
theorem dz89_175 : decode (z_code 89) 175 = .ok (.invokevirtual 21, 3) := by decide +kernel
theorem u89_175 (ho : zO a 9) : zEv sc 89 175 [l0, l1, l2, l3, l4, l5, l6, l7, l8, l9, l10, l11] [.int z2, .int z1, .int z0, .ref a, t0] (zst p iv) Q ↔ zEv sc 74 0 [.ref a, .int z0, .int z1, .int z2, .null] [] (zst p iv) (fun r h9 => zEv sc 89 178 [l0, l1, l2, l3, l4, l5, l6, l7, l8, l9, l10, l11] (r.toList ++ [t0]) h9 Q) := zE_call (kd := 0) (na := 4) (nr := 1) (as := [.ref a, .int z0, .int z1, .int z2]) (rest := [t0]) (Or.inl ⟨rfl, rfl⟩) dz89_175 (by decide +kernel : z_lk2 zCT (z_cls 89) 21 = some (74, 0, 355)) (fun z => by cases z) rfl rfl rfl (by decide +kernel) rfl rfl (Or.inr (zE_rc ho))
theorem dz89_178 : decode (z_code 89) 178 = .ok (.if_icmp .ge 5, 3) := by decide +kernel
theorem u89_178 : zEv sc 89 178 [l0, l1, l2, l3, l4, l5, l6, l7, l8, l9, l10, l11] [.int x2, .int x1] h Q ↔ (if x2 ≤ x1 then zEv sc 89 183 [l0, l1, l2, l3, l4, l5, l6, l7, l8, l9, l10, l11] [] h Q else zEv sc 89 181 [l0, l1, l2, l3, l4, l5, l6, l7, l8, l9, l10, l11] [] h Q) := zE_icP (P := x2 ≤ x1) inferInstance 183 dz89_178 rfl rfl
theorem dz89_183 : decode (z_code 89) 183 = .ok (.iinc 10 (-1), 3) := by decide +kernel
theorem u89_183 : zEv sc 89 183 [l0, l1, l2, l3, l4, l5, l6, l7, l8, l9, .int x, l11] [] h Q ↔ zEv sc 89 186 [l0, l1, l2, l3, l4, l5, l6, l7, l8, l9, .int (x + (-1)), l11] [] h Q := zE_iinc (ls2 := [l0, l1, l2, l3, l4, l5, l6, l7, l8, l9, .int (x + (-1)), l11]) dz89_183 (by decide +kernel) rfl (by simp) rfl
theorem dz89_186 : decode (z_code 89) 186 = .ok (.goto (-70), 3) := by decide +kernel
theorem u89_186 : zEv sc 89 186 [l0, l1, l2, l3, l4, l5, l6, l7, l8, l9, l10, l11] [] h Q ↔ zEv sc 89 116 [l0, l1, l2, l3, l4, l5, l6, l7, l8, l9, l10, l11] [] h Q := zE_go 116 dz89_186 rfl
theorem dz89_181 : decode (z_code 89) 181 = .ok (.iconst 0, 1) := by decide +kernel
theorem u89_181 : zEv sc 89 181 [l0, l1, l2, l3, l4, l5, l6, l7, l8, l9, l10, l11] [] h Q ↔ zEv sc 89 182 [l0, l1, l2, l3, l4, l5, l6, l7, l8, l9, l10, l11] [.int 0] h Q := zE_iconst dz89_181 (by decide +kernel)
theorem dz89_182 : decode (z_code 89) 182 = .ok (.ireturn, 1) := by decide +kernel
theorem u89_182 : zEv sc 89 182 [l0, l1, l2, l3, l4, l5, l6, l7, l8, l9, l10, l11] [.int x] h Q ↔ ((x = 0 ∨ x = 1) ∧ Q (some (.int x)) h) := zE_rz dz89_182 (by decide +kernel)
theorem dz89_189 : decode (z_code 89) 189 = .ok (.aload_n 0, 1) := by decide +kernel
theorem u89_189 : zEv sc 89 189 [.ref a, l1, l2, l3, l4, l5, l6, l7, l8, l9, l10, l11] [] h Q ↔ zEv sc 89 190 [.ref a, l1, l2, l3, l4, l5, l6, l7, l8, l9, l10, l11] [.ref a] h Q := zE_pure (q := (190, [.ref a, l1, l2, l3, l4, l5, l6, l7, l8, l9, l10, l11], [.ref a])) dz89_189 rfl rfl rfl
theorem dz89_190 : decode (z_code 89) 190 = .ok (.bipush 6, 2) := by decide +kernel
theorem u89_190 : zEv sc 89 190 [l0, l1, l2, l3, l4, l5, l6, l7, l8, l9, l10, l11] [t0] h Q ↔ zEv sc 89 192 [l0, l1, l2, l3, l4, l5, l6, l7, l8, l9, l10, l11] [.int 6, t0] h Q := zE_bipush dz89_190 (by decide +kernel)
theorem dz89_192 : decode (z_code 89) 192 = .ok (.iload_n 2, 1) := by decide +kernel
theorem u89_192 : zEv sc 89 192 [l0, l1, .int x, l3, l4, l5, l6, l7, l8, l9, l10, l11] [t0, t1] h Q ↔ zEv sc 89 193 [l0, l1, .int x, l3, l4, l5, l6, l7, l8, l9, l10, l11] [.int x, t0, t1] h Q := zE_pure (q := (193, [l0, l1, .int x, l3, l4, l5, l6, l7, l8, l9, l10, l11], [.int x, t0, t1])) dz89_192 rfl rfl rfl
theorem dz89_193 : decode (z_code 89) 193 = .ok (.isub, 1) := by decide +kernel
theorem u89_193 : zEv sc 89 193 [l0, l1, l2, l3, l4, l5, l6, l7, l8, l9, l10, l11] [.int x2, .int x1, t0] h Q ↔ zEv sc 89 194 [l0, l1, l2, l3, l4, l5, l6, l7, l8, l9, l10, l11] [.int (x1 - x2), t0] h Q := zE_pure (q := (194, [l0, l1, l2, l3, l4, l5, l6, l7, l8, l9, l10, l11], [.int (x1 - x2), t0])) dz89_193 rfl rfl rfl
theorem dz89_194 : decode (z_code 89) 194 = .ok (.invokevirtual 13, 3) := by decide +kernel
theorem u89_194 (ho : zO a 9) : zEv sc 89 194 [l0, l1, l2, l3, l4, l5, l6, l7, l8, l9, l10, l11] [.int z0, .ref a] (zst p iv) Q ↔ zEv sc 81 0 [.ref a, .int z0] [] (zst p iv) (fun r h9 => zEv sc 89 197 [l0, l1, l2, l3, l4, l5, l6, l7, l8, l9, l10, l11] (r.toList ++ []) h9 Q) := zE_call (kd := 0) (na := 2) (nr := 0) (as := [.ref a, .int z0]) (rest := []) (Or.inl ⟨rfl, rfl⟩) dz89_194 (by decide +kernel : z_lk2 zCT (z_cls 89) 13 = some (81, 0, 300)) (fun z => by cases z) rfl rfl rfl (by decide +kernel) rfl rfl (Or.inr (zE_rc ho))
theorem dz89_197 : decode (z_code 89) 197 = .ok (.ifCond .ne 8, 3) := by decide +kernel
theorem u89_197 : zEv sc 89 197 [l0, l1, l2, l3, l4, l5, l6, l7, l8, l9, l10, l11] [.int x] h Q ↔ (if ¬ x = 0 then zEv sc 89 205 [l0, l1, l2, l3, l4, l5, l6, l7, l8, l9, l10, l11] [] h Q else zEv sc 89 200 [l0, l1, l2, l3, l4, l5, l6, l7, l8, l9, l10, l11] [] h Q) := zE_ifP (P := ¬ x = 0) inferInstance 205 dz89_197 rfl rfl
theorem dz89_200 : decode (z_code 89) 200 = .ok (.ldc 34, 2) := by decide +kernel
theorem u89_200 : zEv sc 89 200 [l0, l1, l2, l3, l4, l5, l6, l7, l8, l9, l10, l11] [] h Q ↔ zEv sc 89 202 [l0, l1, l2, l3, l4, l5, l6, l7, l8, l9, l10, l11] [.int (-1000004)] h Q := zE_ldc (by decide +kernel : z_lkK zKT (z_cls 89) 34 = some ((-1000004), 416)) dz89_200
theorem dz89_202 : decode (z_code 89) 202 = .ok (.goto 12, 3) := by decide +kernel
theorem u89_202 : zEv sc 89 202 [l0, l1, l2, l3, l4, l5, l6, l7, l8, l9, l10, l11] [t0] h Q ↔ zEv sc 89 214 [l0, l1, l2, l3, l4, l5, l6, l7, l8, l9, l10, l11] [t0] h Q := zE_go 214 dz89_202 rfl
theorem dz89_214 : decode (z_code 89) 214 = .ok (.istore 10, 2) := by decide +kernel
theorem u89_214 : zEv sc 89 214 [l0, l1, l2, l3, l4, l5, l6, l7, l8, l9, l10, l11] [.int x] h Q ↔ zEv sc 89 216 [l0, l1, l2, l3, l4, l5, l6, l7, l8, l9, .int x, l11] [] h Q := zE_pure (q := (216, [l0, l1, l2, l3, l4, l5, l6, l7, l8, l9, .int x, l11], [])) dz89_214 rfl rfl rfl
theorem dz89_216 : decode (z_code 89) 216 = .ok (.iload 10, 2) := by decide +kernel
theorem u89_216 : zEv sc 89 216 [l0, l1, l2, l3, l4, l5, l6, l7, l8, l9, .int x, l11] [] h Q ↔ zEv sc 89 218 [l0, l1, l2, l3, l4, l5, l6, l7, l8, l9, .int x, l11] [.int x] h Q := zE_pure (q := (218, [l0, l1, l2, l3, l4, l5, l6, l7, l8, l9, .int x, l11], [.int x])) dz89_216 rfl rfl rfl
theorem dz89_218 : decode (z_code 89) 218 = .ok (.ifCond .ge 9, 3) := by decide +kernel
theorem u89_218 : zEv sc 89 218 [l0, l1, l2, l3, l4, l5, l6, l7, l8, l9, l10, l11] [.int x] h Q ↔ (if 0 ≤ x then zEv sc 89 227 [l0, l1, l2, l3, l4, l5, l6, l7, l8, l9, l10, l11] [] h Q else zEv sc 89 221 [l0, l1, l2, l3, l4, l5, l6, l7, l8, l9, l10, l11] [] h Q) := zE_ifP (P := 0 ≤ x) inferInstance 227 dz89_218 rfl rfl
theorem dz89_221 : decode (z_code 89) 221 = .ok (.sipush 1000, 3) := by decide +kernel
theorem u89_221 : zEv sc 89 221 [l0, l1, l2, l3, l4, l5, l6, l7, l8, l9, l10, l11] [] h Q ↔ zEv sc 89 224 [l0, l1, l2, l3, l4, l5, l6, l7, l8, l9, l10, l11] [.int 1000] h Q := zE_sipush dz89_221 (by decide +kernel)
theorem dz89_224 : decode (z_code 89) 224 = .ok (.goto 26, 3) := by decide +kernel
theorem u89_224 : zEv sc 89 224 [l0, l1, l2, l3, l4, l5, l6, l7, l8, l9, l10, l11] [t0] h Q ↔ zEv sc 89 250 [l0, l1, l2, l3, l4, l5, l6, l7, l8, l9, l10, l11] [t0] h Q := zE_go 250 dz89_224 rfl
theorem dz89_250 : decode (z_code 89) 250 = .ok (.istore 11, 2) := by decide +kernel
theorem u89_250 : zEv sc 89 250 [l0, l1, l2, l3, l4, l5, l6, l7, l8, l9, l10, l11] [.int x] h Q ↔ zEv sc 89 252 [l0, l1, l2, l3, l4, l5, l6, l7, l8, l9, l10, .int x] [] h Q := zE_pure (q := (252, [l0, l1, l2, l3, l4, l5, l6, l7, l8, l9, l10, .int x], [])) dz89_250 rfl rfl rfl
theorem dz89_252 : decode (z_code 89) 252 = .ok (.iload_n 3, 1) := by decide +kernel
theorem u89_252 : zEv sc 89 252 [l0, l1, l2, .int x, l4, l5, l6, l7, l8, l9, l10, l11] [] h Q ↔ zEv sc 89 253 [l0, l1, l2, .int x, l4, l5, l6, l7, l8, l9, l10, l11] [.int x] h Q := zE_pure (q := (253, [l0, l1, l2, .int x, l4, l5, l6, l7, l8, l9, l10, l11], [.int x])) dz89_252 rfl rfl rfl
theorem dz89_253 : decode (z_code 89) 253 = .ok (.ifCond .le 78, 3) := by decide +kernel
theorem u89_253 : zEv sc 89 253 [l0, l1, l2, l3, l4, l5, l6, l7, l8, l9, l10, l11] [.int x] h Q ↔ (if x ≤ 0 then zEv sc 89 331 [l0, l1, l2, l3, l4, l5, l6, l7, l8, l9, l10, l11] [] h Q else zEv sc 89 256 [l0, l1, l2, l3, l4, l5, l6, l7, l8, l9, l10, l11] [] h Q) := zE_ifP (P := x ≤ 0) inferInstance 331 dz89_253 rfl rfl
theorem dz89_256 : decode (z_code 89) 256 = .ok (.iload 9, 2) := by decide +kernel
theorem u89_256 : zEv sc 89 256 [l0, l1, l2, l3, l4, l5, l6, l7, l8, .int x, l10, l11] [] h Q ↔ zEv sc 89 258 [l0, l1, l2, l3, l4, l5, l6, l7, l8, .int x, l10, l11] [.int x] h Q := zE_pure (q := (258, [l0, l1, l2, l3, l4, l5, l6, l7, l8, .int x, l10, l11], [.int x])) dz89_256 rfl rfl rfl
theorem dz89_258 : decode (z_code 89) 258 = .ok (.ifCond .ne 73, 3) := by decide +kernel
theorem u89_258 : zEv sc 89 258 [l0, l1, l2, l3, l4, l5, l6, l7, l8, l9, l10, l11] [.int x] h Q ↔ (if ¬ x = 0 then zEv sc 89 331 [l0, l1, l2, l3, l4, l5, l6, l7, l8, l9, l10, l11] [] h Q else zEv sc 89 261 [l0, l1, l2, l3, l4, l5, l6, l7, l8, l9, l10, l11] [] h Q) := zE_ifP (P := ¬ x = 0) inferInstance 331 dz89_258 rfl rfl
theorem dz89_261 : decode (z_code 89) 261 = .ok (.iload 8, 2) := by decide +kernel
theorem u89_261 : zEv sc 89 261 [l0, l1, l2, l3, l4, l5, l6, l7, .int x, l9, l10, l11] [] h Q ↔ zEv sc 89 263 [l0, l1, l2, l3, l4, l5, l6, l7, .int x, l9, l10, l11] [.int x] h Q := zE_pure (q := (263, [l0, l1, l2, l3, l4, l5, l6, l7, .int x, l9, l10, l11], [.int x])) dz89_261 rfl rfl rfl
theorem dz89_263 : decode (z_code 89) 263 = .ok (.aload_n 0, 1) := by decide +kernel
theorem u89_263 : zEv sc 89 263 [.ref a, l1, l2, l3, l4, l5, l6, l7, l8, l9, l10, l11] [t0] h Q ↔ zEv sc 89 264 [.ref a, l1, l2, l3, l4, l5, l6, l7, l8, l9, l10, l11] [.ref a, t0] h Q := zE_pure (q := (264, [.ref a, l1, l2, l3, l4, l5, l6, l7, l8, l9, l10, l11], [.ref a, t0])) dz89_263 rfl rfl rfl
theorem dz89_264 : decode (z_code 89) 264 = .ok (.iconst 3, 1) := by decide +kernel
theorem u89_264 : zEv sc 89 264 [l0, l1, l2, l3, l4, l5, l6, l7, l8, l9, l10, l11] [t0, t1] h Q ↔ zEv sc 89 265 [l0, l1, l2, l3, l4, l5, l6, l7, l8, l9, l10, l11] [.int 3, t0, t1] h Q := zE_iconst dz89_264 (by decide +kernel)
theorem dz89_265 : decode (z_code 89) 265 = .ok (.iload_n 2, 1) := by decide +kernel
theorem u89_265 : zEv sc 89 265 [l0, l1, .int x, l3, l4, l5, l6, l7, l8, l9, l10, l11] [t0, t1, t2] h Q ↔ zEv sc 89 266 [l0, l1, .int x, l3, l4, l5, l6, l7, l8, l9, l10, l11] [.int x, t0, t1, t2] h Q := zE_pure (q := (266, [l0, l1, .int x, l3, l4, l5, l6, l7, l8, l9, l10, l11], [.int x, t0, t1, t2])) dz89_265 rfl rfl rfl
theorem dz89_266 : decode (z_code 89) 266 = .ok (.iadd, 1) := by decide +kernel
theorem u89_266 : zEv sc 89 266 [l0, l1, l2, l3, l4, l5, l6, l7, l8, l9, l10, l11] [.int x2, .int x1, t0, t1] h Q ↔ zEv sc 89 267 [l0, l1, l2, l3, l4, l5, l6, l7, l8, l9, l10, l11] [.int (x1 + x2), t0, t1] h Q := zE_pure (q := (267, [l0, l1, l2, l3, l4, l5, l6, l7, l8, l9, l10, l11], [.int (x1 + x2), t0, t1])) dz89_266 rfl rfl rfl
theorem dz89_267 : decode (z_code 89) 267 = .ok (.invokevirtual 13, 3) := by decide +kernel
theorem u89_267 (ho : zO a 9) : zEv sc 89 267 [l0, l1, l2, l3, l4, l5, l6, l7, l8, l9, l10, l11] [.int z0, .ref a, t0] (zst p iv) Q ↔ zEv sc 81 0 [.ref a, .int z0] [] (zst p iv) (fun r h9 => zEv sc 89 270 [l0, l1, l2, l3, l4, l5, l6, l7, l8, l9, l10, l11] (r.toList ++ [t0]) h9 Q) := zE_call (kd := 0) (na := 2) (nr := 1) (as := [.ref a, .int z0]) (rest := [t0]) (Or.inl ⟨rfl, rfl⟩) dz89_267 (by decide +kernel : z_lk2 zCT (z_cls 89) 13 = some (81, 0, 300)) (fun z => by cases z) rfl rfl rfl (by decide +kernel) rfl rfl (Or.inr (zE_rc ho))
theorem dz89_270 : decode (z_code 89) 270 = .ok (.if_icmp .ne 61, 3) := by decide +kernel
theorem u89_270 : zEv sc 89 270 [l0, l1, l2, l3, l4, l5, l6, l7, l8, l9, l10, l11] [.int x2, .int x1] h Q ↔ (if ¬ x1 = x2 then zEv sc 89 331 [l0, l1, l2, l3, l4, l5, l6, l7, l8, l9, l10, l11] [] h Q else zEv sc 89 273 [l0, l1, l2, l3, l4, l5, l6, l7, l8, l9, l10, l11] [] h Q) := zE_icP (P := ¬ x1 = x2) inferInstance 331 dz89_270 rfl rfl
theorem dz89_273 : decode (z_code 89) 273 = .ok (.iload 11, 2) := by decide +kernel
theorem u89_273 : zEv sc 89 273 [l0, l1, l2, l3, l4, l5, l6, l7, l8, l9, l10, .int x] [] h Q ↔ zEv sc 89 275 [l0, l1, l2, l3, l4, l5, l6, l7, l8, l9, l10, .int x] [.int x] h Q := zE_pure (q := (275, [l0, l1, l2, l3, l4, l5, l6, l7, l8, l9, l10, .int x], [.int x])) dz89_273 rfl rfl rfl
theorem dz89_275 : decode (z_code 89) 275 = .ok (.sipush 1000, 3) := by decide +kernel
theorem u89_275 : zEv sc 89 275 [l0, l1, l2, l3, l4, l5, l6, l7, l8, l9, l10, l11] [t0] h Q ↔ zEv sc 89 278 [l0, l1, l2, l3, l4, l5, l6, l7, l8, l9, l10, l11] [.int 1000, t0] h Q := zE_sipush dz89_275 (by decide +kernel)
theorem dz89_278 : decode (z_code 89) 278 = .ok (.aload_n 0, 1) := by decide +kernel
theorem u89_278 : zEv sc 89 278 [.ref a, l1, l2, l3, l4, l5, l6, l7, l8, l9, l10, l11] [t0, t1] h Q ↔ zEv sc 89 279 [.ref a, l1, l2, l3, l4, l5, l6, l7, l8, l9, l10, l11] [.ref a, t0, t1] h Q := zE_pure (q := (279, [.ref a, l1, l2, l3, l4, l5, l6, l7, l8, l9, l10, l11], [.ref a, t0, t1])) dz89_278 rfl rfl rfl
theorem dz89_279 : decode (z_code 89) 279 = .ok (.iconst 1, 1) := by decide +kernel
theorem u89_279 : zEv sc 89 279 [l0, l1, l2, l3, l4, l5, l6, l7, l8, l9, l10, l11] [t0, t1, t2] h Q ↔ zEv sc 89 280 [l0, l1, l2, l3, l4, l5, l6, l7, l8, l9, l10, l11] [.int 1, t0, t1, t2] h Q := zE_iconst dz89_279 (by decide +kernel)
theorem dz89_280 : decode (z_code 89) 280 = .ok (.invokevirtual 13, 3) := by decide +kernel
theorem u89_280 (ho : zO a 9) : zEv sc 89 280 [l0, l1, l2, l3, l4, l5, l6, l7, l8, l9, l10, l11] [.int z0, .ref a, t0, t1] (zst p iv) Q ↔ zEv sc 81 0 [.ref a, .int z0] [] (zst p iv) (fun r h9 => zEv sc 89 283 [l0, l1, l2, l3, l4, l5, l6, l7, l8, l9, l10, l11] (r.toList ++ [t0, t1]) h9 Q) := zE_call (kd := 0) (na := 2) (nr := 2) (as := [.ref a, .int z0]) (rest := [t0, t1]) (Or.inl ⟨rfl, rfl⟩) dz89_280 (by decide +kernel : z_lk2 zCT (z_cls 89) 13 = some (81, 0, 300)) (fun z => by cases z) rfl rfl rfl (by decide +kernel) rfl rfl (Or.inr (zE_rc ho))
theorem dz89_283 : decode (z_code 89) 283 = .ok (.isub, 1) := by decide +kernel
theorem u89_283 : zEv sc 89 283 [l0, l1, l2, l3, l4, l5, l6, l7, l8, l9, l10, l11] [.int x2, .int x1, t0] h Q ↔ zEv sc 89 284 [l0, l1, l2, l3, l4, l5, l6, l7, l8, l9, l10, l11] [.int (x1 - x2), t0] h Q := zE_pure (q := (284, [l0, l1, l2, l3, l4, l5, l6, l7, l8, l9, l10, l11], [.int (x1 - x2), t0])) dz89_283 rfl rfl rfl
theorem dz89_284 : decode (z_code 89) 284 = .ok (.if_icmp .lt 47, 3) := by decide +kernel
theorem u89_284 : zEv sc 89 284 [l0, l1, l2, l3, l4, l5, l6, l7, l8, l9, l10, l11] [.int x2, .int x1] h Q ↔ (if x1 < x2 then zEv sc 89 331 [l0, l1, l2, l3, l4, l5, l6, l7, l8, l9, l10, l11] [] h Q else zEv sc 89 287 [l0, l1, l2, l3, l4, l5, l6, l7, l8, l9, l10, l11] [] h Q) := zE_icP (P := x1 < x2) inferInstance 331 dz89_284 rfl rfl
theorem dz89_287 : decode (z_code 89) 287 = .ok (.iload 11, 2) := by decide +kernel
theorem u89_287 : zEv sc 89 287 [l0, l1, l2, l3, l4, l5, l6, l7, l8, l9, l10, .int x] [] h Q ↔ zEv sc 89 289 [l0, l1, l2, l3, l4, l5, l6, l7, l8, l9, l10, .int x] [.int x] h Q := zE_pure (q := (289, [l0, l1, l2, l3, l4, l5, l6, l7, l8, l9, l10, .int x], [.int x])) dz89_287 rfl rfl rfl
theorem dz89_289 : decode (z_code 89) 289 = .ok (.sipush 1000, 3) := by decide +kernel
theorem u89_289 : zEv sc 89 289 [l0, l1, l2, l3, l4, l5, l6, l7, l8, l9, l10, l11] [t0] h Q ↔ zEv sc 89 292 [l0, l1, l2, l3, l4, l5, l6, l7, l8, l9, l10, l11] [.int 1000, t0] h Q := zE_sipush dz89_289 (by decide +kernel)
theorem dz89_292 : decode (z_code 89) 292 = .ok (.aload_n 0, 1) := by decide +kernel
theorem u89_292 : zEv sc 89 292 [.ref a, l1, l2, l3, l4, l5, l6, l7, l8, l9, l10, l11] [t0, t1] h Q ↔ zEv sc 89 293 [.ref a, l1, l2, l3, l4, l5, l6, l7, l8, l9, l10, l11] [.ref a, t0, t1] h Q := zE_pure (q := (293, [.ref a, l1, l2, l3, l4, l5, l6, l7, l8, l9, l10, l11], [.ref a, t0, t1])) dz89_292 rfl rfl rfl
theorem dz89_293 : decode (z_code 89) 293 = .ok (.iconst 1, 1) := by decide +kernel
theorem u89_293 : zEv sc 89 293 [l0, l1, l2, l3, l4, l5, l6, l7, l8, l9, l10, l11] [t0, t1, t2] h Q ↔ zEv sc 89 294 [l0, l1, l2, l3, l4, l5, l6, l7, l8, l9, l10, l11] [.int 1, t0, t1, t2] h Q := zE_iconst dz89_293 (by decide +kernel)
theorem dz89_294 : decode (z_code 89) 294 = .ok (.invokevirtual 13, 3) := by decide +kernel
theorem u89_294 (ho : zO a 9) : zEv sc 89 294 [l0, l1, l2, l3, l4, l5, l6, l7, l8, l9, l10, l11] [.int z0, .ref a, t0, t1] (zst p iv) Q ↔ zEv sc 81 0 [.ref a, .int z0] [] (zst p iv) (fun r h9 => zEv sc 89 297 [l0, l1, l2, l3, l4, l5, l6, l7, l8, l9, l10, l11] (r.toList ++ [t0, t1]) h9 Q) := zE_call (kd := 0) (na := 2) (nr := 2) (as := [.ref a, .int z0]) (rest := [t0, t1]) (Or.inl ⟨rfl, rfl⟩) dz89_294 (by decide +kernel : z_lk2 zCT (z_cls 89) 13 = some (81, 0, 300)) (fun z => by cases z) rfl rfl rfl (by decide +kernel) rfl rfl (Or.inr (zE_rc ho))
theorem dz89_297 : decode (z_code 89) 297 = .ok (.iadd, 1) := by decide +kernel
theorem u89_297 : zEv sc 89 297 [l0, l1, l2, l3, l4, l5, l6, l7, l8, l9, l10, l11] [.int x2, .int x1, t0] h Q ↔ zEv sc 89 298 [l0, l1, l2, l3, l4, l5, l6, l7, l8, l9, l10, l11] [.int (x1 + x2), t0] h Q := zE_pure (q := (298, [l0, l1, l2, l3, l4, l5, l6, l7, l8, l9, l10, l11], [.int (x1 + x2), t0])) dz89_297 rfl rfl rfl
theorem dz89_298 : decode (z_code 89) 298 = .ok (.if_icmp .gt 33, 3) := by decide +kernel
theorem u89_298 : zEv sc 89 298 [l0, l1, l2, l3, l4, l5, l6, l7, l8, l9, l10, l11] [.int x2, .int x1] h Q ↔ (if x2 < x1 then zEv sc 89 331 [l0, l1, l2, l3, l4, l5, l6, l7, l8, l9, l10, l11] [] h Q else zEv sc 89 301 [l0, l1, l2, l3, l4, l5, l6, l7, l8, l9, l10, l11] [] h Q) := zE_icP (P := x2 < x1) inferInstance 331 dz89_298 rfl rfl
theorem dz89_301 : decode (z_code 89) 301 = .ok (.iload 10, 2) := by decide +kernel
theorem u89_301 : zEv sc 89 301 [l0, l1, l2, l3, l4, l5, l6, l7, l8, l9, .int x, l11] [] h Q ↔ zEv sc 89 303 [l0, l1, l2, l3, l4, l5, l6, l7, l8, l9, .int x, l11] [.int x] h Q := zE_pure (q := (303, [l0, l1, l2, l3, l4, l5, l6, l7, l8, l9, .int x, l11], [.int x])) dz89_301 rfl rfl rfl
theorem dz89_303 : decode (z_code 89) 303 = .ok (.ifCond .lt 7, 3) := by decide +kernel
theorem u89_303 : zEv sc 89 303 [l0, l1, l2, l3, l4, l5, l6, l7, l8, l9, l10, l11] [.int x] h Q ↔ (if x < 0 then zEv sc 89 310 [l0, l1, l2, l3, l4, l5, l6, l7, l8, l9, l10, l11] [] h Q else zEv sc 89 306 [l0, l1, l2, l3, l4, l5, l6, l7, l8, l9, l10, l11] [] h Q) := zE_ifP (P := x < 0) inferInstance 310 dz89_303 rfl rfl
theorem dz89_306 : decode (z_code 89) 306 = .ok (.iconst 1, 1) := by decide +kernel
theorem u89_306 : zEv sc 89 306 [l0, l1, l2, l3, l4, l5, l6, l7, l8, l9, l10, l11] [] h Q ↔ zEv sc 89 307 [l0, l1, l2, l3, l4, l5, l6, l7, l8, l9, l10, l11] [.int 1] h Q := zE_iconst dz89_306 (by decide +kernel)
theorem dz89_307 : decode (z_code 89) 307 = .ok (.goto 4, 3) := by decide +kernel
theorem u89_307 : zEv sc 89 307 [l0, l1, l2, l3, l4, l5, l6, l7, l8, l9, l10, l11] [t0] h Q ↔ zEv sc 89 311 [l0, l1, l2, l3, l4, l5, l6, l7, l8, l9, l10, l11] [t0] h Q := zE_go 311 dz89_307 rfl
theorem dz89_311 : decode (z_code 89) 311 = .ok (.aload_n 0, 1) := by decide +kernel
theorem u89_311 : zEv sc 89 311 [.ref a, l1, l2, l3, l4, l5, l6, l7, l8, l9, l10, l11] [t0] h Q ↔ zEv sc 89 312 [.ref a, l1, l2, l3, l4, l5, l6, l7, l8, l9, l10, l11] [.ref a, t0] h Q := zE_pure (q := (312, [.ref a, l1, l2, l3, l4, l5, l6, l7, l8, l9, l10, l11], [.ref a, t0])) dz89_311 rfl rfl rfl
theorem dz89_312 : decode (z_code 89) 312 = .ok (.iconst 1, 1) := by decide +kernel
theorem u89_312 : zEv sc 89 312 [l0, l1, l2, l3, l4, l5, l6, l7, l8, l9, l10, l11] [t0, t1] h Q ↔ zEv sc 89 313 [l0, l1, l2, l3, l4, l5, l6, l7, l8, l9, l10, l11] [.int 1, t0, t1] h Q := zE_iconst dz89_312 (by decide +kernel)
theorem dz89_313 : decode (z_code 89) 313 = .ok (.invokevirtual 45, 3) := by decide +kernel
theorem u89_313 (ho : zO a 9) : zEv sc 89 313 [l0, l1, l2, l3, l4, l5, l6, l7, l8, l9, l10, l11] [.int z0, .ref a, t0] (zst p iv) Q ↔ zEv sc 78 0 [.ref a, .int z0, .null] [] (zst p iv) (fun r h9 => zEv sc 89 316 [l0, l1, l2, l3, l4, l5, l6, l7, l8, l9, l10, l11] (r.toList ++ [t0]) h9 Q) := zE_call (kd := 0) (na := 2) (nr := 1) (as := [.ref a, .int z0]) (rest := [t0]) (Or.inl ⟨rfl, rfl⟩) dz89_313 (by decide +kernel : z_lk2 zCT (z_cls 89) 45 = some (78, 0, 450)) (fun z => by cases z) rfl rfl rfl (by decide +kernel) rfl rfl (Or.inr (zE_rc ho))
theorem dz89_316 : decode (z_code 89) 316 = .ok (.ifCond .le 7, 3) := by decide +kernel
theorem u89_316 : zEv sc 89 316 [l0, l1, l2, l3, l4, l5, l6, l7, l8, l9, l10, l11] [.int x, t0] h Q ↔ (if x ≤ 0 then zEv sc 89 323 [l0, l1, l2, l3, l4, l5, l6, l7, l8, l9, l10, l11] [t0] h Q else zEv sc 89 319 [l0, l1, l2, l3, l4, l5, l6, l7, l8, l9, l10, l11] [t0] h Q) := zE_ifP (P := x ≤ 0) inferInstance 323 dz89_316 rfl rfl
theorem dz89_319 : decode (z_code 89) 319 = .ok (.iconst 1, 1) := by decide +kernel
theorem u89_319 : zEv sc 89 319 [l0, l1, l2, l3, l4, l5, l6, l7, l8, l9, l10, l11] [t0] h Q ↔ zEv sc 89 320 [l0, l1, l2, l3, l4, l5, l6, l7, l8, l9, l10, l11] [.int 1, t0] h Q := zE_iconst dz89_319 (by decide +kernel)
theorem dz89_320 : decode (z_code 89) 320 = .ok (.goto 4, 3) := by decide +kernel
theorem u89_320 : zEv sc 89 320 [l0, l1, l2, l3, l4, l5, l6, l7, l8, l9, l10, l11] [t0, t1] h Q ↔ zEv sc 89 324 [l0, l1, l2, l3, l4, l5, l6, l7, l8, l9, l10, l11] [t0, t1] h Q := zE_go 324 dz89_320 rfl
theorem dz89_324 : decode (z_code 89) 324 = .ok (.if_icmp .ne 7, 3) := by decide +kernel
theorem u89_324 : zEv sc 89 324 [l0, l1, l2, l3, l4, l5, l6, l7, l8, l9, l10, l11] [.int x2, .int x1] h Q ↔ (if ¬ x1 = x2 then zEv sc 89 331 [l0, l1, l2, l3, l4, l5, l6, l7, l8, l9, l10, l11] [] h Q else zEv sc 89 327 [l0, l1, l2, l3, l4, l5, l6, l7, l8, l9, l10, l11] [] h Q) := zE_icP (P := ¬ x1 = x2) inferInstance 331 dz89_324 rfl rfl
theorem dz89_327 : decode (z_code 89) 327 = .ok (.iconst 1, 1) := by decide +kernel
theorem u89_327 : zEv sc 89 327 [l0, l1, l2, l3, l4, l5, l6, l7, l8, l9, l10, l11] [] h Q ↔ zEv sc 89 328 [l0, l1, l2, l3, l4, l5, l6, l7, l8, l9, l10, l11] [.int 1] h Q := zE_iconst dz89_327 (by decide +kernel)
theorem dz89_328 : decode (z_code 89) 328 = .ok (.goto 4, 3) := by decide +kernel
theorem u89_328 : zEv sc 89 328 [l0, l1, l2, l3, l4, l5, l6, l7, l8, l9, l10, l11] [t0] h Q ↔ zEv sc 89 332 [l0, l1, l2, l3, l4, l5, l6, l7, l8, l9, l10, l11] [t0] h Q := zE_go 332 dz89_328 rfl
theorem dz89_332 : decode (z_code 89) 332 = .ok (.ireturn, 1) := by decide +kernel
theorem u89_332 : zEv sc 89 332 [l0, l1, l2, l3, l4, l5, l6, l7, l8, l9, l10, l11] [.int x] h Q ↔ ((x = 0 ∨ x = 1) ∧ Q (some (.int x)) h) := zE_rz dz89_332 (by decide +kernel)
theorem dz89_323 : decode (z_code 89) 323 = .ok (.iconst 0, 1) := by decide +kernel
theorem u89_323 : zEv sc 89 323 [l0, l1, l2, l3, l4, l5, l6, l7, l8, l9, l10, l11] [t0] h Q ↔ zEv sc 89 324 [l0, l1, l2, l3, l4, l5, l6, l7, l8, l9, l10, l11] [.int 0, t0] h Q := zE_iconst dz89_323 (by decide +kernel)
theorem dz89_310 : decode (z_code 89) 310 = .ok (.iconst 0, 1) := by decide +kernel
theorem u89_310 : zEv sc 89 310 [l0, l1, l2, l3, l4, l5, l6, l7, l8, l9, l10, l11] [] h Q ↔ zEv sc 89 311 [l0, l1, l2, l3, l4, l5, l6, l7, l8, l9, l10, l11] [.int 0] h Q := zE_iconst dz89_310 (by decide +kernel)
theorem dz89_331 : decode (z_code 89) 331 = .ok (.iconst 0, 1) := by decide +kernel
theorem u89_331 : zEv sc 89 331 [l0, l1, l2, l3, l4, l5, l6, l7, l8, l9, l10, l11] [] h Q ↔ zEv sc 89 332 [l0, l1, l2, l3, l4, l5, l6, l7, l8, l9, l10, l11] [.int 0] h Q := zE_iconst dz89_331 (by decide +kernel)
theorem dz89_227 : decode (z_code 89) 227 = .ok (.iload_n 2, 1) := by decide +kernel
theorem u89_227 : zEv sc 89 227 [l0, l1, .int x, l3, l4, l5, l6, l7, l8, l9, l10, l11] [] h Q ↔ zEv sc 89 228 [l0, l1, .int x, l3, l4, l5, l6, l7, l8, l9, l10, l11] [.int x] h Q := zE_pure (q := (228, [l0, l1, .int x, l3, l4, l5, l6, l7, l8, l9, l10, l11], [.int x])) dz89_227 rfl rfl rfl
theorem dz89_228 : decode (z_code 89) 228 = .ok (.ifCond .ne 14, 3) := by decide +kernel
theorem u89_228 : zEv sc 89 228 [l0, l1, l2, l3, l4, l5, l6, l7, l8, l9, l10, l11] [.int x] h Q ↔ (if ¬ x = 0 then zEv sc 89 242 [l0, l1, l2, l3, l4, l5, l6, l7, l8, l9, l10, l11] [] h Q else zEv sc 89 231 [l0, l1, l2, l3, l4, l5, l6, l7, l8, l9, l10, l11] [] h Q) := zE_ifP (P := ¬ x = 0) inferInstance 242 dz89_228 rfl rfl
theorem dz89_231 : decode (z_code 89) 231 = .ok (.aload_n 0, 1) := by decide +kernel
theorem u89_231 : zEv sc 89 231 [.ref a, l1, l2, l3, l4, l5, l6, l7, l8, l9, l10, l11] [] h Q ↔ zEv sc 89 232 [.ref a, l1, l2, l3, l4, l5, l6, l7, l8, l9, l10, l11] [.ref a] h Q := zE_pure (q := (232, [.ref a, l1, l2, l3, l4, l5, l6, l7, l8, l9, l10, l11], [.ref a])) dz89_231 rfl rfl rfl
theorem dz89_232 : decode (z_code 89) 232 = .ok (.iload 7, 2) := by decide +kernel
theorem u89_232 : zEv sc 89 232 [l0, l1, l2, l3, l4, l5, l6, .int x, l8, l9, l10, l11] [t0] h Q ↔ zEv sc 89 234 [l0, l1, l2, l3, l4, l5, l6, .int x, l8, l9, l10, l11] [.int x, t0] h Q := zE_pure (q := (234, [l0, l1, l2, l3, l4, l5, l6, .int x, l8, l9, l10, l11], [.int x, t0])) dz89_232 rfl rfl rfl
theorem dz89_234 : decode (z_code 89) 234 = .ok (.iload 10, 2) := by decide +kernel
theorem u89_234 : zEv sc 89 234 [l0, l1, l2, l3, l4, l5, l6, l7, l8, l9, .int x, l11] [t0, t1] h Q ↔ zEv sc 89 236 [l0, l1, l2, l3, l4, l5, l6, l7, l8, l9, .int x, l11] [.int x, t0, t1] h Q := zE_pure (q := (236, [l0, l1, l2, l3, l4, l5, l6, l7, l8, l9, .int x, l11], [.int x, t0, t1])) dz89_234 rfl rfl rfl
theorem dz89_236 : decode (z_code 89) 236 = .ok (.invokevirtual 42, 3) := by decide +kernel
theorem u89_236 (ho : zO a 9) : zEv sc 89 236 [l0, l1, l2, l3, l4, l5, l6, l7, l8, l9, l10, l11] [.int z1, .int z0, .ref a] (zst p iv) Q ↔ zEv sc 64 0 [.ref a, .int z0, .int z1] [] (zst p iv) (fun r h9 => zEv sc 89 239 [l0, l1, l2, l3, l4, l5, l6, l7, l8, l9, l10, l11] (r.toList ++ []) h9 Q) := zE_call (kd := 0) (na := 3) (nr := 0) (as := [.ref a, .int z0, .int z1]) (rest := []) (Or.inl ⟨rfl, rfl⟩) dz89_236 (by decide +kernel : z_lk2 zCT (z_cls 89) 42 = some (64, 0, 435)) (fun z => by cases z) rfl rfl rfl (by decide +kernel) rfl rfl (Or.inr (zE_rc ho))
theorem dz89_239 : decode (z_code 89) 239 = .ok (.goto 11, 3) := by decide +kernel
theorem u89_239 : zEv sc 89 239 [l0, l1, l2, l3, l4, l5, l6, l7, l8, l9, l10, l11] [t0] h Q ↔ zEv sc 89 250 [l0, l1, l2, l3, l4, l5, l6, l7, l8, l9, l10, l11] [t0] h Q := zE_go 250 dz89_239 rfl
theorem dz89_242 : decode (z_code 89) 242 = .ok (.aload_n 0, 1) := by decide +kernel
theorem u89_242 : zEv sc 89 242 [.ref a, l1, l2, l3, l4, l5, l6, l7, l8, l9, l10, l11] [] h Q ↔ zEv sc 89 243 [.ref a, l1, l2, l3, l4, l5, l6, l7, l8, l9, l10, l11] [.ref a] h Q := zE_pure (q := (243, [.ref a, l1, l2, l3, l4, l5, l6, l7, l8, l9, l10, l11], [.ref a])) dz89_242 rfl rfl rfl
theorem dz89_243 : decode (z_code 89) 243 = .ok (.iload 10, 2) := by decide +kernel
theorem u89_243 : zEv sc 89 243 [l0, l1, l2, l3, l4, l5, l6, l7, l8, l9, .int x, l11] [t0] h Q ↔ zEv sc 89 245 [l0, l1, l2, l3, l4, l5, l6, l7, l8, l9, .int x, l11] [.int x, t0] h Q := zE_pure (q := (245, [l0, l1, l2, l3, l4, l5, l6, l7, l8, l9, .int x, l11], [.int x, t0])) dz89_243 rfl rfl rfl
theorem dz89_245 : decode (z_code 89) 245 = .ok (.iload 7, 2) := by decide +kernel
theorem u89_245 : zEv sc 89 245 [l0, l1, l2, l3, l4, l5, l6, .int x, l8, l9, l10, l11] [t0, t1] h Q ↔ zEv sc 89 247 [l0, l1, l2, l3, l4, l5, l6, .int x, l8, l9, l10, l11] [.int x, t0, t1] h Q := zE_pure (q := (247, [l0, l1, l2, l3, l4, l5, l6, .int x, l8, l9, l10, l11], [.int x, t0, t1])) dz89_245 rfl rfl rfl
theorem dz89_247 : decode (z_code 89) 247 = .ok (.invokevirtual 42, 3) := by decide +kernel
theorem u89_247 (ho : zO a 9) : zEv sc 89 247 [l0, l1, l2, l3, l4, l5, l6, l7, l8, l9, l10, l11] [.int z1, .int z0, .ref a] (zst p iv) Q ↔ zEv sc 64 0 [.ref a, .int z0, .int z1] [] (zst p iv) (fun r h9 => zEv sc 89 250 [l0, l1, l2, l3, l4, l5, l6, l7, l8, l9, l10, l11] (r.toList ++ []) h9 Q) := zE_call (kd := 0) (na := 3) (nr := 0) (as := [.ref a, .int z0, .int z1]) (rest := []) (Or.inl ⟨rfl, rfl⟩) dz89_247 (by decide +kernel : z_lk2 zCT (z_cls 89) 42 = some (64, 0, 435)) (fun z => by cases z) rfl rfl rfl (by decide +kernel) rfl rfl (Or.inr (zE_rc ho))
theorem dz89_205 : decode (z_code 89) 205 = .ok (.aload_n 0, 1) := by decide +kernel
theorem u89_205 : zEv sc 89 205 [.ref a, l1, l2, l3, l4, l5, l6, l7, l8, l9, l10, l11] [] h Q ↔ zEv sc 89 206 [.ref a, l1, l2, l3, l4, l5, l6, l7, l8, l9, l10, l11] [.ref a] h Q := zE_pure (q := (206, [.ref a, l1, l2, l3, l4, l5, l6, l7, l8, l9, l10, l11], [.ref a])) dz89_205 rfl rfl rfl
theorem dz89_206 : decode (z_code 89) 206 = .ok (.iconst 1, 1) := by decide +kernel
theorem u89_206 : zEv sc 89 206 [l0, l1, l2, l3, l4, l5, l6, l7, l8, l9, l10, l11] [t0] h Q ↔ zEv sc 89 207 [l0, l1, l2, l3, l4, l5, l6, l7, l8, l9, l10, l11] [.int 1, t0] h Q := zE_iconst dz89_206 (by decide +kernel)
theorem dz89_207 : decode (z_code 89) 207 = .ok (.iload_n 2, 1) := by decide +kernel
theorem u89_207 : zEv sc 89 207 [l0, l1, .int x, l3, l4, l5, l6, l7, l8, l9, l10, l11] [t0, t1] h Q ↔ zEv sc 89 208 [l0, l1, .int x, l3, l4, l5, l6, l7, l8, l9, l10, l11] [.int x, t0, t1] h Q := zE_pure (q := (208, [l0, l1, .int x, l3, l4, l5, l6, l7, l8, l9, l10, l11], [.int x, t0, t1])) dz89_207 rfl rfl rfl
theorem dz89_208 : decode (z_code 89) 208 = .ok (.isub, 1) := by decide +kernel
theorem u89_208 : zEv sc 89 208 [l0, l1, l2, l3, l4, l5, l6, l7, l8, l9, l10, l11] [.int x2, .int x1, t0] h Q ↔ zEv sc 89 209 [l0, l1, l2, l3, l4, l5, l6, l7, l8, l9, l10, l11] [.int (x1 - x2), t0] h Q := zE_pure (q := (209, [l0, l1, l2, l3, l4, l5, l6, l7, l8, l9, l10, l11], [.int (x1 - x2), t0])) dz89_208 rfl rfl rfl
theorem dz89_209 : decode (z_code 89) 209 = .ok (.iconst 0, 1) := by decide +kernel
theorem u89_209 : zEv sc 89 209 [l0, l1, l2, l3, l4, l5, l6, l7, l8, l9, l10, l11] [t0, t1] h Q ↔ zEv sc 89 210 [l0, l1, l2, l3, l4, l5, l6, l7, l8, l9, l10, l11] [.int 0, t0, t1] h Q := zE_iconst dz89_209 (by decide +kernel)
theorem dz89_210 : decode (z_code 89) 210 = .ok (.iconst 0, 1) := by decide +kernel
theorem u89_210 : zEv sc 89 210 [l0, l1, l2, l3, l4, l5, l6, l7, l8, l9, l10, l11] [t0, t1, t2] h Q ↔ zEv sc 89 211 [l0, l1, l2, l3, l4, l5, l6, l7, l8, l9, l10, l11] [.int 0, t0, t1, t2] h Q := zE_iconst dz89_210 (by decide +kernel)
theorem dz89_211 : decode (z_code 89) 211 = .ok (.invokevirtual 21, 3) := by decide +kernel
theorem u89_211 (ho : zO a 9) : zEv sc 89 211 [l0, l1, l2, l3, l4, l5, l6, l7, l8, l9, l10, l11] [.int z2, .int z1, .int z0, .ref a] (zst p iv) Q ↔ zEv sc 74 0 [.ref a, .int z0, .int z1, .int z2, .null] [] (zst p iv) (fun r h9 => zEv sc 89 214 [l0, l1, l2, l3, l4, l5, l6, l7, l8, l9, l10, l11] (r.toList ++ []) h9 Q) := zE_call (kd := 0) (na := 4) (nr := 0) (as := [.ref a, .int z0, .int z1, .int z2]) (rest := []) (Or.inl ⟨rfl, rfl⟩) dz89_211 (by decide +kernel : z_lk2 zCT (z_cls 89) 21 = some (74, 0, 355)) (fun z => by cases z) rfl rfl rfl (by decide +kernel) rfl rfl (Or.inr (zE_rc ho))
theorem dz89_38 : decode (z_code 89) 38 = .ok (.iload_n 1, 1) := by decide +kernel
theorem u89_38 : zEv sc 89 38 [l0, .int x, l2, l3, l4, l5, l6, l7, l8, l9, l10, l11] [] h Q ↔ zEv sc 89 39 [l0, .int x, l2, l3, l4, l5, l6, l7, l8, l9, l10, l11] [.int x] h Q := zE_pure (q := (39, [l0, .int x, l2, l3, l4, l5, l6, l7, l8, l9, l10, l11], [.int x])) dz89_38 rfl rfl rfl
theorem dz89_39 : decode (z_code 89) 39 = .ok (.iconst 1, 1) := by decide +kernel
theorem u89_39 : zEv sc 89 39 [l0, l1, l2, l3, l4, l5, l6, l7, l8, l9, l10, l11] [t0] h Q ↔ zEv sc 89 40 [l0, l1, l2, l3, l4, l5, l6, l7, l8, l9, l10, l11] [.int 1, t0] h Q := zE_iconst dz89_39 (by decide +kernel)
theorem dz89_40 : decode (z_code 89) 40 = .ok (.ishr, 1) := by decide +kernel
theorem u89_40 : zEv sc 89 40 [l0, l1, l2, l3, l4, l5, l6, l7, l8, l9, l10, l11] [.int x2, .int x1] h Q ↔ zEv sc 89 41 [l0, l1, l2, l3, l4, l5, l6, l7, l8, l9, l10, l11] [.int (x1 >>> (x2 &&& 31))] h Q := zE_pure (q := (41, [l0, l1, l2, l3, l4, l5, l6, l7, l8, l9, l10, l11], [.int (x1 >>> (x2 &&& 31))])) dz89_40 rfl rfl rfl
theorem dz89_41 : decode (z_code 89) 41 = .ok (.iload 4, 2) := by decide +kernel
theorem u89_41 : zEv sc 89 41 [l0, l1, l2, l3, .int x, l5, l6, l7, l8, l9, l10, l11] [t0] h Q ↔ zEv sc 89 43 [l0, l1, l2, l3, .int x, l5, l6, l7, l8, l9, l10, l11] [.int x, t0] h Q := zE_pure (q := (43, [l0, l1, l2, l3, .int x, l5, l6, l7, l8, l9, l10, l11], [.int x, t0])) dz89_41 rfl rfl rfl
theorem dz89_43 : decode (z_code 89) 43 = .ok (.invokestatic 25, 3) := by decide +kernel
theorem u89_43 : zEv sc 89 43 [l0, l1, l2, l3, l4, l5, l6, l7, l8, l9, l10, l11] [.int z1, .int z0] h Q ↔ zEv sc 87 0 [.int z0, .int z1] [] h (fun r h9 => zEv sc 89 46 [l0, l1, l2, l3, l4, l5, l6, l7, l8, l9, l10, l11] (r.toList ++ []) h9 Q) := zE_call (kd := 1) (na := 2) (nr := 0) (as := [.int z0, .int z1]) (rest := []) (Or.inr ⟨rfl, rfl⟩) dz89_43 (by decide +kernel : z_lk2 zCT (z_cls 89) 25 = some (87, 0, 345)) (fun _ => ⟨by decide +kernel, by decide +kernel⟩) rfl rfl rfl (by decide +kernel) rfl rfl (Or.inl rfl)
/-! method 90: FieldMixturesLaw.types(LFieldMixtures;I)Z -/
theorem dz90_0 : decode (z_code 90) 0 = .ok (.iconst 1, 1) := by decide +kernel
theorem u90_0 : zEv sc 90 0 [l0, l1, l2, l3, l4, l5, l6, l7, l8, l9, l10, l11] [] h Q ↔ zEv sc 90 1 [l0, l1, l2, l3, l4, l5, l6, l7, l8, l9, l10, l11] [.int 1] h Q := zE_iconst dz90_0 (by decide +kernel)
theorem dz90_1 : decode (z_code 90) 1 = .ok (.iload_n 1, 1) := by decide +kernel
theorem u90_1 : zEv sc 90 1 [l0, .int x, l2, l3, l4, l5, l6, l7, l8, l9, l10, l11] [t0] h Q ↔ zEv sc 90 2 [l0, .int x, l2, l3, l4, l5, l6, l7, l8, l9, l10, l11] [.int x, t0] h Q := zE_pure (q := (2, [l0, .int x, l2, l3, l4, l5, l6, l7, l8, l9, l10, l11], [.int x, t0])) dz90_1 rfl rfl rfl
theorem dz90_2 : decode (z_code 90) 2 = .ok (.iconst 4, 1) := by decide +kernel
theorem u90_2 : zEv sc 90 2 [l0, l1, l2, l3, l4, l5, l6, l7, l8, l9, l10, l11] [t0, t1] h Q ↔ zEv sc 90 3 [l0, l1, l2, l3, l4, l5, l6, l7, l8, l9, l10, l11] [.int 4, t0, t1] h Q := zE_iconst dz90_2 (by decide +kernel)
theorem dz90_3 : decode (z_code 90) 3 = .ok (.invokestatic 25, 3) := by decide +kernel
theorem u90_3 : zEv sc 90 3 [l0, l1, l2, l3, l4, l5, l6, l7, l8, l9, l10, l11] [.int z1, .int z0, t0] h Q ↔ zEv sc 87 0 [.int z0, .int z1] [] h (fun r h9 => zEv sc 90 6 [l0, l1, l2, l3, l4, l5, l6, l7, l8, l9, l10, l11] (r.toList ++ [t0]) h9 Q) := zE_call (kd := 1) (na := 2) (nr := 1) (as := [.int z0, .int z1]) (rest := [t0]) (Or.inr ⟨rfl, rfl⟩) dz90_3 (by decide +kernel : z_lk2 zCT (z_cls 90) 25 = some (87, 0, 345)) (fun _ => ⟨by decide +kernel, by decide +kernel⟩) rfl rfl rfl (by decide +kernel) rfl rfl (Or.inl rfl)
theorem dz90_6 : decode (z_code 90) 6 = .ok (.iadd, 1) := by decide +kernel
theorem u90_6 : zEv sc 90 6 [l0, l1, l2, l3, l4, l5, l6, l7, l8, l9, l10, l11] [.int x2, .int x1] h Q ↔ zEv sc 90 7 [l0, l1, l2, l3, l4, l5, l6, l7, l8, l9, l10, l11] [.int (x1 + x2)] h Q := zE_pure (q := (7, [l0, l1, l2, l3, l4, l5, l6, l7, l8, l9, l10, l11], [.int (x1 + x2)])) dz90_6 rfl rfl rfl
theorem dz90_7 : decode (z_code 90) 7 = .ok (.istore_n 2, 1) := by decide +kernel
theorem u90_7 : zEv sc 90 7 [l0, l1, l2, l3, l4, l5, l6, l7, l8, l9, l10, l11] [.int x] h Q ↔ zEv sc 90 8 [l0, l1, .int x, l3, l4, l5, l6, l7, l8, l9, l10, l11] [] h Q := zE_pure (q := (8, [l0, l1, .int x, l3, l4, l5, l6, l7, l8, l9, l10, l11], [])) dz90_7 rfl rfl rfl
theorem dz90_8 : decode (z_code 90) 8 = .ok (.aload_n 0, 1) := by decide +kernel
theorem u90_8 : zEv sc 90 8 [.ref a, l1, l2, l3, l4, l5, l6, l7, l8, l9, l10, l11] [] h Q ↔ zEv sc 90 9 [.ref a, l1, l2, l3, l4, l5, l6, l7, l8, l9, l10, l11] [.ref a] h Q := zE_pure (q := (9, [.ref a, l1, l2, l3, l4, l5, l6, l7, l8, l9, l10, l11], [.ref a])) dz90_8 rfl rfl rfl
theorem dz90_9 : decode (z_code 90) 9 = .ok (.iconst 0, 1) := by decide +kernel
theorem u90_9 : zEv sc 90 9 [l0, l1, l2, l3, l4, l5, l6, l7, l8, l9, l10, l11] [t0] h Q ↔ zEv sc 90 10 [l0, l1, l2, l3, l4, l5, l6, l7, l8, l9, l10, l11] [.int 0, t0] h Q := zE_iconst dz90_9 (by decide +kernel)
theorem dz90_10 : decode (z_code 90) 10 = .ok (.invokevirtual 13, 3) := by decide +kernel
theorem u90_10 (ho : zO a 9) : zEv sc 90 10 [l0, l1, l2, l3, l4, l5, l6, l7, l8, l9, l10, l11] [.int z0, .ref a] (zst p iv) Q ↔ zEv sc 81 0 [.ref a, .int z0] [] (zst p iv) (fun r h9 => zEv sc 90 13 [l0, l1, l2, l3, l4, l5, l6, l7, l8, l9, l10, l11] (r.toList ++ []) h9 Q) := zE_call (kd := 0) (na := 2) (nr := 0) (as := [.ref a, .int z0]) (rest := []) (Or.inl ⟨rfl, rfl⟩) dz90_10 (by decide +kernel : z_lk2 zCT (z_cls 90) 13 = some (81, 0, 300)) (fun z => by cases z) rfl rfl rfl (by decide +kernel) rfl rfl (Or.inr (zE_rc ho))
theorem dz90_13 : decode (z_code 90) 13 = .ok (.istore_n 3, 1) := by decide +kernel
theorem u90_13 : zEv sc 90 13 [l0, l1, l2, l3, l4, l5, l6, l7, l8, l9, l10, l11] [.int x] h Q ↔ zEv sc 90 14 [l0, l1, l2, .int x, l4, l5, l6, l7, l8, l9, l10, l11] [] h Q := zE_pure (q := (14, [l0, l1, l2, .int x, l4, l5, l6, l7, l8, l9, l10, l11], [])) dz90_13 rfl rfl rfl
theorem dz90_14 : decode (z_code 90) 14 = .ok (.aload_n 0, 1) := by decide +kernel
theorem u90_14 : zEv sc 90 14 [.ref a, l1, l2, l3, l4, l5, l6, l7, l8, l9, l10, l11] [] h Q ↔ zEv sc 90 15 [.ref a, l1, l2, l3, l4, l5, l6, l7, l8, l9, l10, l11] [.ref a] h Q := zE_pure (q := (15, [.ref a, l1, l2, l3, l4, l5, l6, l7, l8, l9, l10, l11], [.ref a])) dz90_14 rfl rfl rfl
theorem dz90_15 : decode (z_code 90) 15 = .ok (.invokevirtual 48, 3) := by decide +kernel
theorem u90_15 (ho : zO a 9) : zEv sc 90 15 [l0, l1, l2, l3, l4, l5, l6, l7, l8, l9, l10, l11] [.ref a] (zst p iv) Q ↔ zEv sc 84 0 [.ref a, .null] [] (zst p iv) (fun r h9 => zEv sc 90 18 [l0, l1, l2, l3, l4, l5, l6, l7, l8, l9, l10, l11] (r.toList ++ []) h9 Q) := zE_call (kd := 0) (na := 1) (nr := 0) (as := [.ref a]) (rest := []) (Or.inl ⟨rfl, rfl⟩) dz90_15 (by decide +kernel : z_lk2 zCT (z_cls 90) 48 = some (84, 0, 572)) (fun z => by cases z) rfl rfl rfl (by decide +kernel) rfl rfl (Or.inr (zE_rc ho))
theorem dz90_18 : decode (z_code 90) 18 = .ok (.ifCond .lt 7, 3) := by decide +kernel
theorem u90_18 : zEv sc 90 18 [l0, l1, l2, l3, l4, l5, l6, l7, l8, l9, l10, l11] [.int x] h Q ↔ (if x < 0 then zEv sc 90 25 [l0, l1, l2, l3, l4, l5, l6, l7, l8, l9, l10, l11] [] h Q else zEv sc 90 21 [l0, l1, l2, l3, l4, l5, l6, l7, l8, l9, l10, l11] [] h Q) := zE_ifP (P := x < 0) inferInstance 25 dz90_18 rfl rfl
theorem dz90_21 : decode (z_code 90) 21 = .ok (.iconst 1, 1) := by decide +kernel
theorem u90_21 : zEv sc 90 21 [l0, l1, l2, l3, l4, l5, l6, l7, l8, l9, l10, l11] [] h Q ↔ zEv sc 90 22 [l0, l1, l2, l3, l4, l5, l6, l7, l8, l9, l10, l11] [.int 1] h Q := zE_iconst dz90_21 (by decide +kernel)
theorem dz90_22 : decode (z_code 90) 22 = .ok (.goto 4, 3) := by decide +kernel
theorem u90_22 : zEv sc 90 22 [l0, l1, l2, l3, l4, l5, l6, l7, l8, l9, l10, l11] [t0] h Q ↔ zEv sc 90 26 [l0, l1, l2, l3, l4, l5, l6, l7, l8, l9, l10, l11] [t0] h Q := zE_go 26 dz90_22 rfl
theorem dz90_26 : decode (z_code 90) 26 = .ok (.istore 4, 2) := by decide +kernel
theorem u90_26 : zEv sc 90 26 [l0, l1, l2, l3, l4, l5, l6, l7, l8, l9, l10, l11] [.int x] h Q ↔ zEv sc 90 28 [l0, l1, l2, l3, .int x, l5, l6, l7, l8, l9, l10, l11] [] h Q := zE_pure (q := (28, [l0, l1, l2, l3, .int x, l5, l6, l7, l8, l9, l10, l11], [])) dz90_26 rfl rfl rfl
theorem dz90_28 : decode (z_code 90) 28 = .ok (.iconst 0, 1) := by decide +kernel
theorem u90_28 : zEv sc 90 28 [l0, l1, l2, l3, l4, l5, l6, l7, l8, l9, l10, l11] [] h Q ↔ zEv sc 90 29 [l0, l1, l2, l3, l4, l5, l6, l7, l8, l9, l10, l11] [.int 0] h Q := zE_iconst dz90_28 (by decide +kernel)
theorem dz90_29 : decode (z_code 90) 29 = .ok (.istore 5, 2) := by decide +kernel
theorem u90_29 : zEv sc 90 29 [l0, l1, l2, l3, l4, l5, l6, l7, l8, l9, l10, l11] [.int x] h Q ↔ zEv sc 90 31 [l0, l1, l2, l3, l4, .int x, l6, l7, l8, l9, l10, l11] [] h Q := zE_pure (q := (31, [l0, l1, l2, l3, l4, .int x, l6, l7, l8, l9, l10, l11], [])) dz90_29 rfl rfl rfl
theorem dz90_31 : decode (z_code 90) 31 = .ok (.iload 5, 2) := by decide +kernel
theorem u90_31 : zEv sc 90 31 [l0, l1, l2, l3, l4, .int x, l6, l7, l8, l9, l10, l11] [] h Q ↔ zEv sc 90 33 [l0, l1, l2, l3, l4, .int x, l6, l7, l8, l9, l10, l11] [.int x] h Q := zE_pure (q := (33, [l0, l1, l2, l3, l4, .int x, l6, l7, l8, l9, l10, l11], [.int x])) dz90_31 rfl rfl rfl
theorem dz90_33 : decode (z_code 90) 33 = .ok (.iload_n 2, 1) := by decide +kernel
theorem u90_33 : zEv sc 90 33 [l0, l1, .int x, l3, l4, l5, l6, l7, l8, l9, l10, l11] [t0] h Q ↔ zEv sc 90 34 [l0, l1, .int x, l3, l4, l5, l6, l7, l8, l9, l10, l11] [.int x, t0] h Q := zE_pure (q := (34, [l0, l1, .int x, l3, l4, l5, l6, l7, l8, l9, l10, l11], [.int x, t0])) dz90_33 rfl rfl rfl
theorem dz90_34 : decode (z_code 90) 34 = .ok (.if_icmp .ge 286, 3) := by decide +kernel
theorem u90_34 : zEv sc 90 34 [l0, l1, l2, l3, l4, l5, l6, l7, l8, l9, l10, l11] [.int x2, .int x1] h Q ↔ (if x2 ≤ x1 then zEv sc 90 320 [l0, l1, l2, l3, l4, l5, l6, l7, l8, l9, l10, l11] [] h Q else zEv sc 90 37 [l0, l1, l2, l3, l4, l5, l6, l7, l8, l9, l10, l11] [] h Q) := zE_icP (P := x2 ≤ x1) inferInstance 320 dz90_34 rfl rfl
theorem dz90_37 : decode (z_code 90) 37 = .ok (.iload_n 1, 1) := by decide +kernel
theorem u90_37 : zEv sc 90 37 [l0, .int x, l2, l3, l4, l5, l6, l7, l8, l9, l10, l11] [] h Q ↔ zEv sc 90 38 [l0, .int x, l2, l3, l4, l5, l6, l7, l8, l9, l10, l11] [.int x] h Q := zE_pure (q := (38, [l0, .int x, l2, l3, l4, l5, l6, l7, l8, l9, l10, l11], [.int x])) dz90_37 rfl rfl rfl
theorem dz90_38 : decode (z_code 90) 38 = .ok (.iconst 2, 1) := by decide +kernel
theorem u90_38 : zEv sc 90 38 [l0, l1, l2, l3, l4, l5, l6, l7, l8, l9, l10, l11] [t0] h Q ↔ zEv sc 90 39 [l0, l1, l2, l3, l4, l5, l6, l7, l8, l9, l10, l11] [.int 2, t0] h Q := zE_iconst dz90_38 (by decide +kernel)
theorem dz90_39 : decode (z_code 90) 39 = .ok (.iconst 5, 1) := by decide +kernel
theorem u90_39 : zEv sc 90 39 [l0, l1, l2, l3, l4, l5, l6, l7, l8, l9, l10, l11] [t0, t1] h Q ↔ zEv sc 90 40 [l0, l1, l2, l3, l4, l5, l6, l7, l8, l9, l10, l11] [.int 5, t0, t1] h Q := zE_iconst dz90_39 (by decide +kernel)
theorem dz90_40 : decode (z_code 90) 40 = .ok (.iload 5, 2) := by decide +kernel
theorem u90_40 : zEv sc 90 40 [l0, l1, l2, l3, l4, .int x, l6, l7, l8, l9, l10, l11] [t0, t1, t2] h Q ↔ zEv sc 90 42 [l0, l1, l2, l3, l4, .int x, l6, l7, l8, l9, l10, l11] [.int x, t0, t1, t2] h Q := zE_pure (q := (42, [l0, l1, l2, l3, l4, .int x, l6, l7, l8, l9, l10, l11], [.int x, t0, t1, t2])) dz90_40 rfl rfl rfl
theorem dz90_42 : decode (z_code 90) 42 = .ok (.imul, 1) := by decide +kernel
theorem u90_42 : zEv sc 90 42 [l0, l1, l2, l3, l4, l5, l6, l7, l8, l9, l10, l11] [.int x2, .int x1, t0, t1] h Q ↔ zEv sc 90 43 [l0, l1, l2, l3, l4, l5, l6, l7, l8, l9, l10, l11] [.int (x1 * x2), t0, t1] h Q := zE_pure (q := (43, [l0, l1, l2, l3, l4, l5, l6, l7, l8, l9, l10, l11], [.int (x1 * x2), t0, t1])) dz90_42 rfl rfl rfl
theorem dz90_43 : decode (z_code 90) 43 = .ok (.iadd, 1) := by decide +kernel
theorem u90_43 : zEv sc 90 43 [l0, l1, l2, l3, l4, l5, l6, l7, l8, l9, l10, l11] [.int x2, .int x1, t0] h Q ↔ zEv sc 90 44 [l0, l1, l2, l3, l4, l5, l6, l7, l8, l9, l10, l11] [.int (x1 + x2), t0] h Q := zE_pure (q := (44, [l0, l1, l2, l3, l4, l5, l6, l7, l8, l9, l10, l11], [.int (x1 + x2), t0])) dz90_43 rfl rfl rfl
theorem dz90_44 : decode (z_code 90) 44 = .ok (.ishr, 1) := by decide +kernel
theorem u90_44 : zEv sc 90 44 [l0, l1, l2, l3, l4, l5, l6, l7, l8, l9, l10, l11] [.int x2, .int x1] h Q ↔ zEv sc 90 45 [l0, l1, l2, l3, l4, l5, l6, l7, l8, l9, l10, l11] [.int (x1 >>> (x2 &&& 31))] h Q := zE_pure (q := (45, [l0, l1, l2, l3, l4, l5, l6, l7, l8, l9, l10, l11], [.int (x1 >>> (x2 &&& 31))])) dz90_44 rfl rfl rfl
theorem dz90_45 : decode (z_code 90) 45 = .ok (.istore 6, 2) := by decide +kernel
theorem u90_45 : zEv sc 90 45 [l0, l1, l2, l3, l4, l5, l6, l7, l8, l9, l10, l11] [.int x] h Q ↔ zEv sc 90 47 [l0, l1, l2, l3, l4, l5, .int x, l7, l8, l9, l10, l11] [] h Q := zE_pure (q := (47, [l0, l1, l2, l3, l4, l5, .int x, l7, l8, l9, l10, l11], [])) dz90_45 rfl rfl rfl
theorem dz90_47 : decode (z_code 90) 47 = .ok (.iload 6, 2) := by decide +kernel
theorem u90_47 : zEv sc 90 47 [l0, l1, l2, l3, l4, l5, .int x, l7, l8, l9, l10, l11] [] h Q ↔ zEv sc 90 49 [l0, l1, l2, l3, l4, l5, .int x, l7, l8, l9, l10, l11] [.int x] h Q := zE_pure (q := (49, [l0, l1, l2, l3, l4, l5, .int x, l7, l8, l9, l10, l11], [.int x])) dz90_47 rfl rfl rfl
theorem dz90_49 : decode (z_code 90) 49 = .ok (.iconst 2, 1) := by decide +kernel
theorem u90_49 : zEv sc 90 49 [l0, l1, l2, l3, l4, l5, l6, l7, l8, l9, l10, l11] [t0] h Q ↔ zEv sc 90 50 [l0, l1, l2, l3, l4, l5, l6, l7, l8, l9, l10, l11] [.int 2, t0] h Q := zE_iconst dz90_49 (by decide +kernel)
theorem dz90_50 : decode (z_code 90) 50 = .ok (.invokestatic 25, 3) := by decide +kernel
theorem u90_50 : zEv sc 90 50 [l0, l1, l2, l3, l4, l5, l6, l7, l8, l9, l10, l11] [.int z1, .int z0] h Q ↔ zEv sc 87 0 [.int z0, .int z1] [] h (fun r h9 => zEv sc 90 53 [l0, l1, l2, l3, l4, l5, l6, l7, l8, l9, l10, l11] (r.toList ++ []) h9 Q) := zE_call (kd := 1) (na := 2) (nr := 0) (as := [.int z0, .int z1]) (rest := []) (Or.inr ⟨rfl, rfl⟩) dz90_50 (by decide +kernel : z_lk2 zCT (z_cls 90) 25 = some (87, 0, 345)) (fun _ => ⟨by decide +kernel, by decide +kernel⟩) rfl rfl rfl (by decide +kernel) rfl rfl (Or.inl rfl)
theorem dz90_53 : decode (z_code 90) 53 = .ok (.istore 7, 2) := by decide +kernel
theorem u90_53 : zEv sc 90 53 [l0, l1, l2, l3, l4, l5, l6, l7, l8, l9, l10, l11] [.int x] h Q ↔ zEv sc 90 55 [l0, l1, l2, l3, l4, l5, l6, .int x, l8, l9, l10, l11] [] h Q := zE_pure (q := (55, [l0, l1, l2, l3, l4, l5, l6, .int x, l8, l9, l10, l11], [])) dz90_53 rfl rfl rfl
theorem dz90_55 : decode (z_code 90) 55 = .ok (.aload_n 0, 1) := by decide +kernel
theorem u90_55 : zEv sc 90 55 [.ref a, l1, l2, l3, l4, l5, l6, l7, l8, l9, l10, l11] [] h Q ↔ zEv sc 90 56 [.ref a, l1, l2, l3, l4, l5, l6, l7, l8, l9, l10, l11] [.ref a] h Q := zE_pure (q := (56, [.ref a, l1, l2, l3, l4, l5, l6, l7, l8, l9, l10, l11], [.ref a])) dz90_55 rfl rfl rfl
theorem dz90_56 : decode (z_code 90) 56 = .ok (.iload 7, 2) := by decide +kernel
theorem u90_56 : zEv sc 90 56 [l0, l1, l2, l3, l4, l5, l6, .int x, l8, l9, l10, l11] [t0] h Q ↔ zEv sc 90 58 [l0, l1, l2, l3, l4, l5, l6, .int x, l8, l9, l10, l11] [.int x, t0] h Q := zE_pure (q := (58, [l0, l1, l2, l3, l4, l5, l6, .int x, l8, l9, l10, l11], [.int x, t0])) dz90_56 rfl rfl rfl
theorem dz90_58 : decode (z_code 90) 58 = .ok (.iconst (-1), 1) := by decide +kernel
theorem u90_58 : zEv sc 90 58 [l0, l1, l2, l3, l4, l5, l6, l7, l8, l9, l10, l11] [t0, t1] h Q ↔ zEv sc 90 59 [l0, l1, l2, l3, l4, l5, l6, l7, l8, l9, l10, l11] [.int (-1), t0, t1] h Q := zE_iconst dz90_58 (by decide +kernel)
theorem dz90_59 : decode (z_code 90) 59 = .ok (.invokevirtual 31, 3) := by decide +kernel
theorem u90_59 (ho : zO a 9) : zEv sc 90 59 [l0, l1, l2, l3, l4, l5, l6, l7, l8, l9, l10, l11] [.int z1, .int z0, .ref a] (zst p iv) Q ↔ zEv sc 63 0 [.ref a, .int z0, .int z1, .null] [] (zst p iv) (fun r h9 => zEv sc 90 62 [l0, l1, l2, l3, l4, l5, l6, l7, l8, l9, l10, l11] (r.toList ++ []) h9 Q) := zE_call (kd := 0) (na := 3) (nr := 0) (as := [.ref a, .int z0, .int z1]) (rest := []) (Or.inl ⟨rfl, rfl⟩) dz90_59 (by decide +kernel : z_lk2 zCT (z_cls 90) 31 = some (63, 0, 400)) (fun z => by cases z) rfl rfl rfl (by decide +kernel) rfl rfl (Or.inr (zE_rc ho))
theorem dz90_62 : decode (z_code 90) 62 = .ok (.istore 8, 2) := by decide +kernel
theorem u90_62 : zEv sc 90 62 [l0, l1, l2, l3, l4, l5, l6, l7, l8, l9, l10, l11] [.int x] h Q ↔ zEv sc 90 64 [l0, l1, l2, l3, l4, l5, l6, l7, .int x, l9, l10, l11] [] h Q := zE_pure (q := (64, [l0, l1, l2, l3, l4, l5, l6, l7, .int x, l9, l10, l11], [])) dz90_62 rfl rfl rfl
theorem dz90_64 : decode (z_code 90) 64 = .ok (.iload 8, 2) := by decide +kernel
theorem u90_64 : zEv sc 90 64 [l0, l1, l2, l3, l4, l5, l6, l7, .int x, l9, l10, l11] [] h Q ↔ zEv sc 90 66 [l0, l1, l2, l3, l4, l5, l6, l7, .int x, l9, l10, l11] [.int x] h Q := zE_pure (q := (66, [l0, l1, l2, l3, l4, l5, l6, l7, .int x, l9, l10, l11], [.int x])) dz90_64 rfl rfl rfl
theorem dz90_66 : decode (z_code 90) 66 = .ok (.ifCond .ne 7, 3) := by decide +kernel
theorem u90_66 : zEv sc 90 66 [l0, l1, l2, l3, l4, l5, l6, l7, l8, l9, l10, l11] [.int x] h Q ↔ (if ¬ x = 0 then zEv sc 90 73 [l0, l1, l2, l3, l4, l5, l6, l7, l8, l9, l10, l11] [] h Q else zEv sc 90 69 [l0, l1, l2, l3, l4, l5, l6, l7, l8, l9, l10, l11] [] h Q) := zE_ifP (P := ¬ x = 0) inferInstance 73 dz90_66 rfl rfl
theorem dz90_69 : decode (z_code 90) 69 = .ok (.iconst 0, 1) := by decide +kernel
theorem u90_69 : zEv sc 90 69 [l0, l1, l2, l3, l4, l5, l6, l7, l8, l9, l10, l11] [] h Q ↔ zEv sc 90 70 [l0, l1, l2, l3, l4, l5, l6, l7, l8, l9, l10, l11] [.int 0] h Q := zE_iconst dz90_69 (by decide +kernel)
theorem dz90_70 : decode (z_code 90) 70 = .ok (.goto 18, 3) := by decide +kernel
theorem u90_70 : zEv sc 90 70 [l0, l1, l2, l3, l4, l5, l6, l7, l8, l9, l10, l11] [t0] h Q ↔ zEv sc 90 88 [l0, l1, l2, l3, l4, l5, l6, l7, l8, l9, l10, l11] [t0] h Q := zE_go 88 dz90_70 rfl
theorem dz90_88 : decode (z_code 90) 88 = .ok (.istore 9, 2) := by decide +kernel
theorem u90_88 : zEv sc 90 88 [l0, l1, l2, l3, l4, l5, l6, l7, l8, l9, l10, l11] [.int x] h Q ↔ zEv sc 90 90 [l0, l1, l2, l3, l4, l5, l6, l7, l8, .int x, l10, l11] [] h Q := zE_pure (q := (90, [l0, l1, l2, l3, l4, l5, l6, l7, l8, .int x, l10, l11], [])) dz90_88 rfl rfl rfl
theorem dz90_90 : decode (z_code 90) 90 = .ok (.iload 9, 2) := by decide +kernel
theorem u90_90 : zEv sc 90 90 [l0, l1, l2, l3, l4, l5, l6, l7, l8, .int x, l10, l11] [] h Q ↔ zEv sc 90 92 [l0, l1, l2, l3, l4, l5, l6, l7, l8, .int x, l10, l11] [.int x] h Q := zE_pure (q := (92, [l0, l1, l2, l3, l4, l5, l6, l7, l8, .int x, l10, l11], [.int x])) dz90_90 rfl rfl rfl
theorem dz90_92 : decode (z_code 90) 92 = .ok (.iload 6, 2) := by decide +kernel
theorem u90_92 : zEv sc 90 92 [l0, l1, l2, l3, l4, l5, .int x, l7, l8, l9, l10, l11] [t0] h Q ↔ zEv sc 90 94 [l0, l1, l2, l3, l4, l5, .int x, l7, l8, l9, l10, l11] [.int x, t0] h Q := zE_pure (q := (94, [l0, l1, l2, l3, l4, l5, .int x, l7, l8, l9, l10, l11], [.int x, t0])) dz90_92 rfl rfl rfl
theorem dz90_94 : decode (z_code 90) 94 = .ok (.iconst 4, 1) := by decide +kernel
theorem u90_94 : zEv sc 90 94 [l0, l1, l2, l3, l4, l5, l6, l7, l8, l9, l10, l11] [t0, t1] h Q ↔ zEv sc 90 95 [l0, l1, l2, l3, l4, l5, l6, l7, l8, l9, l10, l11] [.int 4, t0, t1] h Q := zE_iconst dz90_94 (by decide +kernel)
theorem dz90_95 : decode (z_code 90) 95 = .ok (.ishr, 1) := by decide +kernel
theorem u90_95 : zEv sc 90 95 [l0, l1, l2, l3, l4, l5, l6, l7, l8, l9, l10, l11] [.int x2, .int x1, t0] h Q ↔ zEv sc 90 96 [l0, l1, l2, l3, l4, l5, l6, l7, l8, l9, l10, l11] [.int (x1 >>> (x2 &&& 31)), t0] h Q := zE_pure (q := (96, [l0, l1, l2, l3, l4, l5, l6, l7, l8, l9, l10, l11], [.int (x1 >>> (x2 &&& 31)), t0])) dz90_95 rfl rfl rfl
theorem dz90_96 : decode (z_code 90) 96 = .ok (.bipush 15, 2) := by decide +kernel
theorem u90_96 : zEv sc 90 96 [l0, l1, l2, l3, l4, l5, l6, l7, l8, l9, l10, l11] [t0, t1] h Q ↔ zEv sc 90 98 [l0, l1, l2, l3, l4, l5, l6, l7, l8, l9, l10, l11] [.int 15, t0, t1] h Q := zE_bipush dz90_96 (by decide +kernel)
theorem dz90_98 : decode (z_code 90) 98 = .ok (.invokestatic 25, 3) := by decide +kernel
theorem u90_98 : zEv sc 90 98 [l0, l1, l2, l3, l4, l5, l6, l7, l8, l9, l10, l11] [.int z1, .int z0, t0] h Q ↔ zEv sc 87 0 [.int z0, .int z1] [] h (fun r h9 => zEv sc 90 101 [l0, l1, l2, l3, l4, l5, l6, l7, l8, l9, l10, l11] (r.toList ++ [t0]) h9 Q) := zE_call (kd := 1) (na := 2) (nr := 1) (as := [.int z0, .int z1]) (rest := [t0]) (Or.inr ⟨rfl, rfl⟩) dz90_98 (by decide +kernel : z_lk2 zCT (z_cls 90) 25 = some (87, 0, 345)) (fun _ => ⟨by decide +kernel, by decide +kernel⟩) rfl rfl rfl (by decide +kernel) rfl rfl (Or.inl rfl)
theorem dz90_101 : decode (z_code 90) 101 = .ok (.ifCond .ne 7, 3) := by decide +kernel
theorem u90_101 : zEv sc 90 101 [l0, l1, l2, l3, l4, l5, l6, l7, l8, l9, l10, l11] [.int x, t0] h Q ↔ (if ¬ x = 0 then zEv sc 90 108 [l0, l1, l2, l3, l4, l5, l6, l7, l8, l9, l10, l11] [t0] h Q else zEv sc 90 104 [l0, l1, l2, l3, l4, l5, l6, l7, l8, l9, l10, l11] [t0] h Q) := zE_ifP (P := ¬ x = 0) inferInstance 108 dz90_101 rfl rfl
theorem dz90_104 : decode (z_code 90) 104 = .ok (.iconst 1, 1) := by decide +kernel
theorem u90_104 : zEv sc 90 104 [l0, l1, l2, l3, l4, l5, l6, l7, l8, l9, l10, l11] [t0] h Q ↔ zEv sc 90 105 [l0, l1, l2, l3, l4, l5, l6, l7, l8, l9, l10, l11] [.int 1, t0] h Q := zE_iconst dz90_104 (by decide +kernel)
theorem dz90_105 : decode (z_code 90) 105 = .ok (.goto 4, 3) := by decide +kernel
theorem u90_105 : zEv sc 90 105 [l0, l1, l2, l3, l4, l5, l6, l7, l8, l9, l10, l11] [t0, t1] h Q ↔ zEv sc 90 109 [l0, l1, l2, l3, l4, l5, l6, l7, l8, l9, l10, l11] [t0, t1] h Q := zE_go 109 dz90_105 rfl
theorem dz90_109 : decode (z_code 90) 109 = .ok (.iadd, 1) := by decide +kernel
theorem u90_109 : zEv sc 90 109 [l0, l1, l2, l3, l4, l5, l6, l7, l8, l9, l10, l11] [.int x2, .int x1] h Q ↔ zEv sc 90 110 [l0, l1, l2, l3, l4, l5, l6, l7, l8, l9, l10, l11] [.int (x1 + x2)] h Q := zE_pure (q := (110, [l0, l1, l2, l3, l4, l5, l6, l7, l8, l9, l10, l11], [.int (x1 + x2)])) dz90_109 rfl rfl rfl
theorem dz90_110 : decode (z_code 90) 110 = .ok (.istore 9, 2) := by decide +kernel
theorem u90_110 : zEv sc 90 110 [l0, l1, l2, l3, l4, l5, l6, l7, l8, l9, l10, l11] [.int x] h Q ↔ zEv sc 90 112 [l0, l1, l2, l3, l4, l5, l6, l7, l8, .int x, l10, l11] [] h Q := zE_pure (q := (112, [l0, l1, l2, l3, l4, l5, l6, l7, l8, .int x, l10, l11], [])) dz90_110 rfl rfl rfl
theorem dz90_112 : decode (z_code 90) 112 = .ok (.iload 4, 2) := by decide +kernel
theorem u90_112 : zEv sc 90 112 [l0, l1, l2, l3, .int x, l5, l6, l7, l8, l9, l10, l11] [] h Q ↔ zEv sc 90 114 [l0, l1, l2, l3, .int x, l5, l6, l7, l8, l9, l10, l11] [.int x] h Q := zE_pure (q := (114, [l0, l1, l2, l3, .int x, l5, l6, l7, l8, l9, l10, l11], [.int x])) dz90_112 rfl rfl rfl
theorem dz90_114 : decode (z_code 90) 114 = .ok (.ifCond .eq 28, 3) := by decide +kernel
theorem u90_114 : zEv sc 90 114 [l0, l1, l2, l3, l4, l5, l6, l7, l8, l9, l10, l11] [.int x] h Q ↔ (if x = 0 then zEv sc 90 142 [l0, l1, l2, l3, l4, l5, l6, l7, l8, l9, l10, l11] [] h Q else zEv sc 90 117 [l0, l1, l2, l3, l4, l5, l6, l7, l8, l9, l10, l11] [] h Q) := zE_ifP (P := x = 0) inferInstance 142 dz90_114 rfl rfl
theorem dz90_117 : decode (z_code 90) 117 = .ok (.aload_n 0, 1) := by decide +kernel
theorem u90_117 : zEv sc 90 117 [.ref a, l1, l2, l3, l4, l5, l6, l7, l8, l9, l10, l11] [] h Q ↔ zEv sc 90 118 [.ref a, l1, l2, l3, l4, l5, l6, l7, l8, l9, l10, l11] [.ref a] h Q := zE_pure (q := (118, [.ref a, l1, l2, l3, l4, l5, l6, l7, l8, l9, l10, l11], [.ref a])) dz90_117 rfl rfl rfl
theorem dz90_118 : decode (z_code 90) 118 = .ok (.bipush 48, 2) := by decide +kernel
theorem u90_118 : zEv sc 90 118 [l0, l1, l2, l3, l4, l5, l6, l7, l8, l9, l10, l11] [t0] h Q ↔ zEv sc 90 120 [l0, l1, l2, l3, l4, l5, l6, l7, l8, l9, l10, l11] [.int 48, t0] h Q := zE_bipush dz90_118 (by decide +kernel)
theorem dz90_120 : decode (z_code 90) 120 = .ok (.iload 7, 2) := by decide +kernel
theorem u90_120 : zEv sc 90 120 [l0, l1, l2, l3, l4, l5, l6, .int x, l8, l9, l10, l11] [t0, t1] h Q ↔ zEv sc 90 122 [l0, l1, l2, l3, l4, l5, l6, .int x, l8, l9, l10, l11] [.int x, t0, t1] h Q := zE_pure (q := (122, [l0, l1, l2, l3, l4, l5, l6, .int x, l8, l9, l10, l11], [.int x, t0, t1])) dz90_120 rfl rfl rfl
theorem dz90_122 : decode (z_code 90) 122 = .ok (.iadd, 1) := by decide +kernel
theorem u90_122 : zEv sc 90 122 [l0, l1, l2, l3, l4, l5, l6, l7, l8, l9, l10, l11] [.int x2, .int x1, t0] h Q ↔ zEv sc 90 123 [l0, l1, l2, l3, l4, l5, l6, l7, l8, l9, l10, l11] [.int (x1 + x2), t0] h Q := zE_pure (q := (123, [l0, l1, l2, l3, l4, l5, l6, l7, l8, l9, l10, l11], [.int (x1 + x2), t0])) dz90_122 rfl rfl rfl
theorem dz90_123 : decode (z_code 90) 123 = .ok (.invokevirtual 52, 3) := by decide +kernel
theorem u90_123 (ho : zO a 9) : zEv sc 90 123 [l0, l1, l2, l3, l4, l5, l6, l7, l8, l9, l10, l11] [.int z0, .ref a] (zst p iv) Q ↔ zEv sc 83 0 [.ref a, .int z0] [] (zst p iv) (fun r h9 => zEv sc 90 126 [l0, l1, l2, l3, l4, l5, l6, l7, l8, l9, l10, l11] (r.toList ++ []) h9 Q) := zE_call (kd := 0) (na := 2) (nr := 0) (as := [.ref a, .int z0]) (rest := []) (Or.inl ⟨rfl, rfl⟩) dz90_123 (by decide +kernel : z_lk2 zCT (z_cls 90) 52 = some (83, 0, 580)) (fun z => by cases z) rfl rfl rfl (by decide +kernel) rfl rfl (Or.inr (zE_rc ho))
theorem dz90_126 : decode (z_code 90) 126 = .ok (.ifCond .le 16, 3) := by decide +kernel
theorem u90_126 : zEv sc 90 126 [l0, l1, l2, l3, l4, l5, l6, l7, l8, l9, l10, l11] [.int x] h Q ↔ (if x ≤ 0 then zEv sc 90 142 [l0, l1, l2, l3, l4, l5, l6, l7, l8, l9, l10, l11] [] h Q else zEv sc 90 129 [l0, l1, l2, l3, l4, l5, l6, l7, l8, l9, l10, l11] [] h Q) := zE_ifP (P := x ≤ 0) inferInstance 142 dz90_126 rfl rfl
theorem dz90_129 : decode (z_code 90) 129 = .ok (.aload_n 0, 1) := by decide +kernel
theorem u90_129 : zEv sc 90 129 [.ref a, l1, l2, l3, l4, l5, l6, l7, l8, l9, l10, l11] [] h Q ↔ zEv sc 90 130 [.ref a, l1, l2, l3, l4, l5, l6, l7, l8, l9, l10, l11] [.ref a] h Q := zE_pure (q := (130, [.ref a, l1, l2, l3, l4, l5, l6, l7, l8, l9, l10, l11], [.ref a])) dz90_129 rfl rfl rfl
theorem dz90_130 : decode (z_code 90) 130 = .ok (.bipush 58, 2) := by decide +kernel
theorem u90_130 : zEv sc 90 130 [l0, l1, l2, l3, l4, l5, l6, l7, l8, l9, l10, l11] [t0] h Q ↔ zEv sc 90 132 [l0, l1, l2, l3, l4, l5, l6, l7, l8, l9, l10, l11] [.int 58, t0] h Q := zE_bipush dz90_130 (by decide +kernel)
theorem dz90_132 : decode (z_code 90) 132 = .ok (.invokevirtual 52, 3) := by decide +kernel
theorem u90_132 (ho : zO a 9) : zEv sc 90 132 [l0, l1, l2, l3, l4, l5, l6, l7, l8, l9, l10, l11] [.int z0, .ref a] (zst p iv) Q ↔ zEv sc 83 0 [.ref a, .int z0] [] (zst p iv) (fun r h9 => zEv sc 90 135 [l0, l1, l2, l3, l4, l5, l6, l7, l8, l9, l10, l11] (r.toList ++ []) h9 Q) := zE_call (kd := 0) (na := 2) (nr := 0) (as := [.ref a, .int z0]) (rest := []) (Or.inl ⟨rfl, rfl⟩) dz90_132 (by decide +kernel : z_lk2 zCT (z_cls 90) 52 = some (83, 0, 580)) (fun z => by cases z) rfl rfl rfl (by decide +kernel) rfl rfl (Or.inr (zE_rc ho))
theorem dz90_135 : decode (z_code 90) 135 = .ok (.ifCond .le 7, 3) := by decide +kernel
theorem u90_135 : zEv sc 90 135 [l0, l1, l2, l3, l4, l5, l6, l7, l8, l9, l10, l11] [.int x] h Q ↔ (if x ≤ 0 then zEv sc 90 142 [l0, l1, l2, l3, l4, l5, l6, l7, l8, l9, l10, l11] [] h Q else zEv sc 90 138 [l0, l1, l2, l3, l4, l5, l6, l7, l8, l9, l10, l11] [] h Q) := zE_ifP (P := x ≤ 0) inferInstance 142 dz90_135 rfl rfl
theorem dz90_138 : decode (z_code 90) 138 = .ok (.iconst 1, 1) := by decide +kernel
theorem u90_138 : zEv sc 90 138 [l0, l1, l2, l3, l4, l5, l6, l7, l8, l9, l10, l11] [] h Q ↔ zEv sc 90 139 [l0, l1, l2, l3, l4, l5, l6, l7, l8, l9, l10, l11] [.int 1] h Q := zE_iconst dz90_138 (by decide +kernel)
theorem dz90_139 : decode (z_code 90) 139 = .ok (.goto 4, 3) := by decide +kernel
theorem u90_139 : zEv sc 90 139 [l0, l1, l2, l3, l4, l5, l6, l7, l8, l9, l10, l11] [t0] h Q ↔ zEv sc 90 143 [l0, l1, l2, l3, l4, l5, l6, l7, l8, l9, l10, l11] [t0] h Q := zE_go 143 dz90_139 rfl
theorem dz90_143 : decode (z_code 90) 143 = .ok (.istore 4, 2) := by decide +kernel
theorem u90_143 : zEv sc 90 143 [l0, l1, l2, l3, l4, l5, l6, l7, l8, l9, l10, l11] [.int x] h Q ↔ zEv sc 90 145 [l0, l1, l2, l3, .int x, l5, l6, l7, l8, l9, l10, l11] [] h Q := zE_pure (q := (145, [l0, l1, l2, l3, .int x, l5, l6, l7, l8, l9, l10, l11], [])) dz90_143 rfl rfl rfl
theorem dz90_145 : decode (z_code 90) 145 = .ok (.iload_n 3, 1) := by decide +kernel
theorem u90_145 : zEv sc 90 145 [l0, l1, l2, .int x, l4, l5, l6, l7, l8, l9, l10, l11] [] h Q ↔ zEv sc 90 146 [l0, l1, l2, .int x, l4, l5, l6, l7, l8, l9, l10, l11] [.int x] h Q := zE_pure (q := (146, [l0, l1, l2, .int x, l4, l5, l6, l7, l8, l9, l10, l11], [.int x])) dz90_145 rfl rfl rfl
theorem dz90_146 : decode (z_code 90) 146 = .ok (.iconst 2, 1) := by decide +kernel
theorem u90_146 : zEv sc 90 146 [l0, l1, l2, l3, l4, l5, l6, l7, l8, l9, l10, l11] [t0] h Q ↔ zEv sc 90 147 [l0, l1, l2, l3, l4, l5, l6, l7, l8, l9, l10, l11] [.int 2, t0] h Q := zE_iconst dz90_146 (by decide +kernel)
theorem dz90_147 : decode (z_code 90) 147 = .ok (.if_icmp .ne 8, 3) := by decide +kernel
theorem u90_147 : zEv sc 90 147 [l0, l1, l2, l3, l4, l5, l6, l7, l8, l9, l10, l11] [.int x2, .int x1] h Q ↔ (if ¬ x1 = x2 then zEv sc 90 155 [l0, l1, l2, l3, l4, l5, l6, l7, l8, l9, l10, l11] [] h Q else zEv sc 90 150 [l0, l1, l2, l3, l4, l5, l6, l7, l8, l9, l10, l11] [] h Q) := zE_icP (P := ¬ x1 = x2) inferInstance 155 dz90_147 rfl rfl
theorem dz90_150 : decode (z_code 90) 150 = .ok (.bipush 10, 2) := by decide +kernel
theorem u90_150 : zEv sc 90 150 [l0, l1, l2, l3, l4, l5, l6, l7, l8, l9, l10, l11] [] h Q ↔ zEv sc 90 152 [l0, l1, l2, l3, l4, l5, l6, l7, l8, l9, l10, l11] [.int 10] h Q := zE_bipush dz90_150 (by decide +kernel)
theorem dz90_152 : decode (z_code 90) 152 = .ok (.goto 16, 3) := by decide +kernel
theorem u90_152 : zEv sc 90 152 [l0, l1, l2, l3, l4, l5, l6, l7, l8, l9, l10, l11] [t0] h Q ↔ zEv sc 90 168 [l0, l1, l2, l3, l4, l5, l6, l7, l8, l9, l10, l11] [t0] h Q := zE_go 168 dz90_152 rfl
theorem dz90_168 : decode (z_code 90) 168 = .ok (.istore 10, 2) := by decide +kernel
theorem u90_168 : zEv sc 90 168 [l0, l1, l2, l3, l4, l5, l6, l7, l8, l9, l10, l11] [.int x] h Q ↔ zEv sc 90 170 [l0, l1, l2, l3, l4, l5, l6, l7, l8, l9, .int x, l11] [] h Q := zE_pure (q := (170, [l0, l1, l2, l3, l4, l5, l6, l7, l8, l9, .int x, l11], [])) dz90_168 rfl rfl rfl
theorem dz90_170 : decode (z_code 90) 170 = .ok (.iconst 0, 1) := by decide +kernel
theorem u90_170 : zEv sc 90 170 [l0, l1, l2, l3, l4, l5, l6, l7, l8, l9, l10, l11] [] h Q ↔ zEv sc 90 171 [l0, l1, l2, l3, l4, l5, l6, l7, l8, l9, l10, l11] [.int 0] h Q := zE_iconst dz90_170 (by decide +kernel)
theorem dz90_171 : decode (z_code 90) 171 = .ok (.istore 11, 2) := by decide +kernel
theorem u90_171 : zEv sc 90 171 [l0, l1, l2, l3, l4, l5, l6, l7, l8, l9, l10, l11] [.int x] h Q ↔ zEv sc 90 173 [l0, l1, l2, l3, l4, l5, l6, l7, l8, l9, l10, .int x] [] h Q := zE_pure (q := (173, [l0, l1, l2, l3, l4, l5, l6, l7, l8, l9, l10, .int x], [])) dz90_171 rfl rfl rfl
theorem dz90_173 : decode (z_code 90) 173 = .ok (.iload 11, 2) := by decide +kernel
theorem u90_173 : zEv sc 90 173 [l0, l1, l2, l3, l4, l5, l6, l7, l8, l9, l10, .int x] [] h Q ↔ zEv sc 90 175 [l0, l1, l2, l3, l4, l5, l6, l7, l8, l9, l10, .int x] [.int x] h Q := zE_pure (q := (175, [l0, l1, l2, l3, l4, l5, l6, l7, l8, l9, l10, .int x], [.int x])) dz90_173 rfl rfl rfl
theorem dz90_175 : decode (z_code 90) 175 = .ok (.iload_n 3, 1) := by decide +kernel
theorem u90_175 : zEv sc 90 175 [l0, l1, l2, .int x, l4, l5, l6, l7, l8, l9, l10, l11] [t0] h Q ↔ zEv sc 90 176 [l0, l1, l2, .int x, l4, l5, l6, l7, l8, l9, l10, l11] [.int x, t0] h Q := zE_pure (q := (176, [l0, l1, l2, .int x, l4, l5, l6, l7, l8, l9, l10, l11], [.int x, t0])) dz90_175 rfl rfl rfl
theorem dz90_176 : decode (z_code 90) 176 = .ok (.if_icmp .ge 46, 3) := by decide +kernel
theorem u90_176 : zEv sc 90 176 [l0, l1, l2, l3, l4, l5, l6, l7, l8, l9, l10, l11] [.int x2, .int x1] h Q ↔ (if x2 ≤ x1 then zEv sc 90 222 [l0, l1, l2, l3, l4, l5, l6, l7, l8, l9, l10, l11] [] h Q else zEv sc 90 179 [l0, l1, l2, l3, l4, l5, l6, l7, l8, l9, l10, l11] [] h Q) := zE_icP (P := x2 ≤ x1) inferInstance 222 dz90_176 rfl rfl
theorem dz90_179 : decode (z_code 90) 179 = .ok (.iload 4, 2) := by decide +kernel
theorem u90_179 : zEv sc 90 179 [l0, l1, l2, l3, .int x, l5, l6, l7, l8, l9, l10, l11] [] h Q ↔ zEv sc 90 181 [l0, l1, l2, l3, .int x, l5, l6, l7, l8, l9, l10, l11] [.int x] h Q := zE_pure (q := (181, [l0, l1, l2, l3, .int x, l5, l6, l7, l8, l9, l10, l11], [.int x])) dz90_179 rfl rfl rfl
theorem dz90_181 : decode (z_code 90) 181 = .ok (.ifCond .eq 25, 3) := by decide +kernel
theorem u90_181 : zEv sc 90 181 [l0, l1, l2, l3, l4, l5, l6, l7, l8, l9, l10, l11] [.int x] h Q ↔ (if x = 0 then zEv sc 90 206 [l0, l1, l2, l3, l4, l5, l6, l7, l8, l9, l10, l11] [] h Q else zEv sc 90 184 [l0, l1, l2, l3, l4, l5, l6, l7, l8, l9, l10, l11] [] h Q) := zE_ifP (P := x = 0) inferInstance 206 dz90_181 rfl rfl
theorem dz90_184 : decode (z_code 90) 184 = .ok (.aload_n 0, 1) := by decide +kernel
theorem u90_184 : zEv sc 90 184 [.ref a, l1, l2, l3, l4, l5, l6, l7, l8, l9, l10, l11] [] h Q ↔ zEv sc 90 185 [.ref a, l1, l2, l3, l4, l5, l6, l7, l8, l9, l10, l11] [.ref a] h Q := zE_pure (q := (185, [.ref a, l1, l2, l3, l4, l5, l6, l7, l8, l9, l10, l11], [.ref a])) dz90_184 rfl rfl rfl
theorem dz90_185 : decode (z_code 90) 185 = .ok (.bipush 48, 2) := by decide +kernel
theorem u90_185 : zEv sc 90 185 [l0, l1, l2, l3, l4, l5, l6, l7, l8, l9, l10, l11] [t0] h Q ↔ zEv sc 90 187 [l0, l1, l2, l3, l4, l5, l6, l7, l8, l9, l10, l11] [.int 48, t0] h Q := zE_bipush dz90_185 (by decide +kernel)
theorem dz90_187 : decode (z_code 90) 187 = .ok (.iload 9, 2) := by decide +kernel
theorem u90_187 : zEv sc 90 187 [l0, l1, l2, l3, l4, l5, l6, l7, l8, .int x, l10, l11] [t0, t1] h Q ↔ zEv sc 90 189 [l0, l1, l2, l3, l4, l5, l6, l7, l8, .int x, l10, l11] [.int x, t0, t1] h Q := zE_pure (q := (189, [l0, l1, l2, l3, l4, l5, l6, l7, l8, .int x, l10, l11], [.int x, t0, t1])) dz90_187 rfl rfl rfl
theorem dz90_189 : decode (z_code 90) 189 = .ok (.iload 10, 2) := by decide +kernel
theorem u90_189 : zEv sc 90 189 [l0, l1, l2, l3, l4, l5, l6, l7, l8, l9, .int x, l11] [t0, t1, t2] h Q ↔ zEv sc 90 191 [l0, l1, l2, l3, l4, l5, l6, l7, l8, l9, .int x, l11] [.int x, t0, t1, t2] h Q := zE_pure (q := (191, [l0, l1, l2, l3, l4, l5, l6, l7, l8, l9, .int x, l11], [.int x, t0, t1, t2])) dz90_189 rfl rfl rfl
theorem dz90_191 : decode (z_code 90) 191 = .ok (.idiv, 1) := by decide +kernel
theorem u90_191 : zEv sc 90 191 [l0, l1, l2, l3, l4, l5, l6, l7, l8, l9, l10, l11] [.int x2, .int x1, t0, t1] h Q ↔ (¬ x2 = 0 ∧ zEv sc 90 192 [l0, l1, l2, l3, l4, l5, l6, l7, l8, l9, l10, l11] [.int (x1 / x2), t0, t1] h Q) := zE_div dz90_191
theorem dz90_192 : decode (z_code 90) 192 = .ok (.bipush 10, 2) := by decide +kernel
theorem u90_192 : zEv sc 90 192 [l0, l1, l2, l3, l4, l5, l6, l7, l8, l9, l10, l11] [t0, t1, t2] h Q ↔ zEv sc 90 194 [l0, l1, l2, l3, l4, l5, l6, l7, l8, l9, l10, l11] [.int 10, t0, t1, t2] h Q := zE_bipush dz90_192 (by decide +kernel)
theorem dz90_194 : decode (z_code 90) 194 = .ok (.irem, 1) := by decide +kernel
theorem u90_194 : zEv sc 90 194 [l0, l1, l2, l3, l4, l5, l6, l7, l8, l9, l10, l11] [.int x2, .int x1, t0, t1] h Q ↔ (¬ x2 = 0 ∧ zEv sc 90 195 [l0, l1, l2, l3, l4, l5, l6, l7, l8, l9, l10, l11] [.int (x1 - x1 / x2 * x2), t0, t1] h Q) := zE_rem dz90_194
theorem dz90_195 : decode (z_code 90) 195 = .ok (.iadd, 1) := by decide +kernel
theorem u90_195 : zEv sc 90 195 [l0, l1, l2, l3, l4, l5, l6, l7, l8, l9, l10, l11] [.int x2, .int x1, t0] h Q ↔ zEv sc 90 196 [l0, l1, l2, l3, l4, l5, l6, l7, l8, l9, l10, l11] [.int (x1 + x2), t0] h Q := zE_pure (q := (196, [l0, l1, l2, l3, l4, l5, l6, l7, l8, l9, l10, l11], [.int (x1 + x2), t0])) dz90_195 rfl rfl rfl
theorem dz90_196 : decode (z_code 90) 196 = .ok (.invokevirtual 52, 3) := by decide +kernel
theorem u90_196 (ho : zO a 9) : zEv sc 90 196 [l0, l1, l2, l3, l4, l5, l6, l7, l8, l9, l10, l11] [.int z0, .ref a] (zst p iv) Q ↔ zEv sc 83 0 [.ref a, .int z0] [] (zst p iv) (fun r h9 => zEv sc 90 199 [l0, l1, l2, l3, l4, l5, l6, l7, l8, l9, l10, l11] (r.toList ++ []) h9 Q) := zE_call (kd := 0) (na := 2) (nr := 0) (as := [.ref a, .int z0]) (rest := []) (Or.inl ⟨rfl, rfl⟩) dz90_196 (by decide +kernel : z_lk2 zCT (z_cls 90) 52 = some (83, 0, 580)) (fun z => by cases z) rfl rfl rfl (by decide +kernel) rfl rfl (Or.inr (zE_rc ho))
theorem dz90_199 : decode (z_code 90) 199 = .ok (.ifCond .le 7, 3) := by decide +kernel
theorem u90_199 : zEv sc 90 199 [l0, l1, l2, l3, l4, l5, l6, l7, l8, l9, l10, l11] [.int x] h Q ↔ (if x ≤ 0 then zEv sc 90 206 [l0, l1, l2, l3, l4, l5, l6, l7, l8, l9, l10, l11] [] h Q else zEv sc 90 202 [l0, l1, l2, l3, l4, l5, l6, l7, l8, l9, l10, l11] [] h Q) := zE_ifP (P := x ≤ 0) inferInstance 206 dz90_199 rfl rfl
theorem dz90_202 : decode (z_code 90) 202 = .ok (.iconst 1, 1) := by decide +kernel
theorem u90_202 : zEv sc 90 202 [l0, l1, l2, l3, l4, l5, l6, l7, l8, l9, l10, l11] [] h Q ↔ zEv sc 90 203 [l0, l1, l2, l3, l4, l5, l6, l7, l8, l9, l10, l11] [.int 1] h Q := zE_iconst dz90_202 (by decide +kernel)
theorem dz90_203 : decode (z_code 90) 203 = .ok (.goto 4, 3) := by decide +kernel
theorem u90_203 : zEv sc 90 203 [l0, l1, l2, l3, l4, l5, l6, l7, l8, l9, l10, l11] [t0] h Q ↔ zEv sc 90 207 [l0, l1, l2, l3, l4, l5, l6, l7, l8, l9, l10, l11] [t0] h Q := zE_go 207 dz90_203 rfl
theorem dz90_207 : decode (z_code 90) 207 = .ok (.istore 4, 2) := by decide +kernel
theorem u90_207 : zEv sc 90 207 [l0, l1, l2, l3, l4, l5, l6, l7, l8, l9, l10, l11] [.int x] h Q ↔ zEv sc 90 209 [l0, l1, l2, l3, .int x, l5, l6, l7, l8, l9, l10, l11] [] h Q := zE_pure (q := (209, [l0, l1, l2, l3, .int x, l5, l6, l7, l8, l9, l10, l11], [])) dz90_207 rfl rfl rfl
theorem dz90_209 : decode (z_code 90) 209 = .ok (.iload 10, 2) := by decide +kernel
theorem u90_209 : zEv sc 90 209 [l0, l1, l2, l3, l4, l5, l6, l7, l8, l9, .int x, l11] [] h Q ↔ zEv sc 90 211 [l0, l1, l2, l3, l4, l5, l6, l7, l8, l9, .int x, l11] [.int x] h Q := zE_pure (q := (211, [l0, l1, l2, l3, l4, l5, l6, l7, l8, l9, .int x, l11], [.int x])) dz90_209 rfl rfl rfl
theorem dz90_211 : decode (z_code 90) 211 = .ok (.bipush 10, 2) := by decide +kernel
theorem u90_211 : zEv sc 90 211 [l0, l1, l2, l3, l4, l5, l6, l7, l8, l9, l10, l11] [t0] h Q ↔ zEv sc 90 213 [l0, l1, l2, l3, l4, l5, l6, l7, l8, l9, l10, l11] [.int 10, t0] h Q := zE_bipush dz90_211 (by decide +kernel)
theorem dz90_213 : decode (z_code 90) 213 = .ok (.idiv, 1) := by decide +kernel
theorem u90_213 : zEv sc 90 213 [l0, l1, l2, l3, l4, l5, l6, l7, l8, l9, l10, l11] [.int x2, .int x1] h Q ↔ (¬ x2 = 0 ∧ zEv sc 90 214 [l0, l1, l2, l3, l4, l5, l6, l7, l8, l9, l10, l11] [.int (x1 / x2)] h Q) := zE_div dz90_213
theorem dz90_214 : decode (z_code 90) 214 = .ok (.istore 10, 2) := by decide +kernel
theorem u90_214 : zEv sc 90 214 [l0, l1, l2, l3, l4, l5, l6, l7, l8, l9, l10, l11] [.int x] h Q ↔ zEv sc 90 216 [l0, l1, l2, l3, l4, l5, l6, l7, l8, l9, .int x, l11] [] h Q := zE_pure (q := (216, [l0, l1, l2, l3, l4, l5, l6, l7, l8, l9, .int x, l11], [])) dz90_214 rfl rfl rfl
theorem dz90_216 : decode (z_code 90) 216 = .ok (.iinc 11 1, 3) := by decide +kernel
theorem u90_216 : zEv sc 90 216 [l0, l1, l2, l3, l4, l5, l6, l7, l8, l9, l10, .int x] [] h Q ↔ zEv sc 90 219 [l0, l1, l2, l3, l4, l5, l6, l7, l8, l9, l10, .int (x + 1)] [] h Q := zE_iinc (ls2 := [l0, l1, l2, l3, l4, l5, l6, l7, l8, l9, l10, .int (x + 1)]) dz90_216 (by decide +kernel) rfl (by simp) rfl
theorem dz90_219 : decode (z_code 90) 219 = .ok (.goto (-46), 3) := by decide +kernel
theorem u90_219 : zEv sc 90 219 [l0, l1, l2, l3, l4, l5, l6, l7, l8, l9, l10, l11] [] h Q ↔ zEv sc 90 173 [l0, l1, l2, l3, l4, l5, l6, l7, l8, l9, l10, l11] [] h Q := zE_go 173 dz90_219 rfl
theorem dz90_206 : decode (z_code 90) 206 = .ok (.iconst 0, 1) := by decide +kernel
theorem u90_206 : zEv sc 90 206 [l0, l1, l2, l3, l4, l5, l6, l7, l8, l9, l10, l11] [] h Q ↔ zEv sc 90 207 [l0, l1, l2, l3, l4, l5, l6, l7, l8, l9, l10, l11] [.int 0] h Q := zE_iconst dz90_206 (by decide +kernel)
theorem dz90_222 : decode (z_code 90) 222 = .ok (.iload 6, 2) := by decide +kernel
theorem u90_222 : zEv sc 90 222 [l0, l1, l2, l3, l4, l5, .int x, l7, l8, l9, l10, l11] [] h Q ↔ zEv sc 90 224 [l0, l1, l2, l3, l4, l5, .int x, l7, l8, l9, l10, l11] [.int x] h Q := zE_pure (q := (224, [l0, l1, l2, l3, l4, l5, .int x, l7, l8, l9, l10, l11], [.int x])) dz90_222 rfl rfl rfl
theorem dz90_224 : decode (z_code 90) 224 = .ok (.iconst 3, 1) := by decide +kernel
theorem u90_224 : zEv sc 90 224 [l0, l1, l2, l3, l4, l5, l6, l7, l8, l9, l10, l11] [t0] h Q ↔ zEv sc 90 225 [l0, l1, l2, l3, l4, l5, l6, l7, l8, l9, l10, l11] [.int 3, t0] h Q := zE_iconst dz90_224 (by decide +kernel)
theorem dz90_225 : decode (z_code 90) 225 = .ok (.ishr, 1) := by decide +kernel
theorem u90_225 : zEv sc 90 225 [l0, l1, l2, l3, l4, l5, l6, l7, l8, l9, l10, l11] [.int x2, .int x1] h Q ↔ zEv sc 90 226 [l0, l1, l2, l3, l4, l5, l6, l7, l8, l9, l10, l11] [.int (x1 >>> (x2 &&& 31))] h Q := zE_pure (q := (226, [l0, l1, l2, l3, l4, l5, l6, l7, l8, l9, l10, l11], [.int (x1 >>> (x2 &&& 31))])) dz90_225 rfl rfl rfl
theorem dz90_226 : decode (z_code 90) 226 = .ok (.iconst 3, 1) := by decide +kernel
theorem u90_226 : zEv sc 90 226 [l0, l1, l2, l3, l4, l5, l6, l7, l8, l9, l10, l11] [t0] h Q ↔ zEv sc 90 227 [l0, l1, l2, l3, l4, l5, l6, l7, l8, l9, l10, l11] [.int 3, t0] h Q := zE_iconst dz90_226 (by decide +kernel)
theorem dz90_227 : decode (z_code 90) 227 = .ok (.invokestatic 25, 3) := by decide +kernel
theorem u90_227 : zEv sc 90 227 [l0, l1, l2, l3, l4, l5, l6, l7, l8, l9, l10, l11] [.int z1, .int z0] h Q ↔ zEv sc 87 0 [.int z0, .int z1] [] h (fun r h9 => zEv sc 90 230 [l0, l1, l2, l3, l4, l5, l6, l7, l8, l9, l10, l11] (r.toList ++ []) h9 Q) := zE_call (kd := 1) (na := 2) (nr := 0) (as := [.int z0, .int z1]) (rest := []) (Or.inr ⟨rfl, rfl⟩) dz90_227 (by decide +kernel : z_lk2 zCT (z_cls 90) 25 = some (87, 0, 345)) (fun _ => ⟨by decide +kernel, by decide +kernel⟩) rfl rfl rfl (by decide +kernel) rfl rfl (Or.inl rfl)
theorem dz90_230 : decode (z_code 90) 230 = .ok (.ifCond .le 43, 3) := by decide +kernel
theorem u90_230 : zEv sc 90 230 [l0, l1, l2, l3, l4, l5, l6, l7, l8, l9, l10, l11] [.int x] h Q ↔ (if x ≤ 0 then zEv sc 90 273 [l0, l1, l2, l3, l4, l5, l6, l7, l8, l9, l10, l11] [] h Q else zEv sc 90 233 [l0, l1, l2, l3, l4, l5, l6, l7, l8, l9, l10, l11] [] h Q) := zE_ifP (P := x ≤ 0) inferInstance 273 dz90_230 rfl rfl
theorem dz90_233 : decode (z_code 90) 233 = .ok (.iload 4, 2) := by decide +kernel
theorem u90_233 : zEv sc 90 233 [l0, l1, l2, l3, .int x, l5, l6, l7, l8, l9, l10, l11] [] h Q ↔ zEv sc 90 235 [l0, l1, l2, l3, .int x, l5, l6, l7, l8, l9, l10, l11] [.int x] h Q := zE_pure (q := (235, [l0, l1, l2, l3, .int x, l5, l6, l7, l8, l9, l10, l11], [.int x])) dz90_233 rfl rfl rfl
theorem dz90_235 : decode (z_code 90) 235 = .ok (.ifCond .eq 35, 3) := by decide +kernel
theorem u90_235 : zEv sc 90 235 [l0, l1, l2, l3, l4, l5, l6, l7, l8, l9, l10, l11] [.int x] h Q ↔ (if x = 0 then zEv sc 90 270 [l0, l1, l2, l3, l4, l5, l6, l7, l8, l9, l10, l11] [] h Q else zEv sc 90 238 [l0, l1, l2, l3, l4, l5, l6, l7, l8, l9, l10, l11] [] h Q) := zE_ifP (P := x = 0) inferInstance 270 dz90_235 rfl rfl
theorem dz90_238 : decode (z_code 90) 238 = .ok (.aload_n 0, 1) := by decide +kernel
theorem u90_238 : zEv sc 90 238 [.ref a, l1, l2, l3, l4, l5, l6, l7, l8, l9, l10, l11] [] h Q ↔ zEv sc 90 239 [.ref a, l1, l2, l3, l4, l5, l6, l7, l8, l9, l10, l11] [.ref a] h Q := zE_pure (q := (239, [.ref a, l1, l2, l3, l4, l5, l6, l7, l8, l9, l10, l11], [.ref a])) dz90_238 rfl rfl rfl
theorem dz90_239 : decode (z_code 90) 239 = .ok (.bipush 42, 2) := by decide +kernel
theorem u90_239 : zEv sc 90 239 [l0, l1, l2, l3, l4, l5, l6, l7, l8, l9, l10, l11] [t0] h Q ↔ zEv sc 90 241 [l0, l1, l2, l3, l4, l5, l6, l7, l8, l9, l10, l11] [.int 42, t0] h Q := zE_bipush dz90_239 (by decide +kernel)
theorem dz90_241 : decode (z_code 90) 241 = .ok (.invokevirtual 52, 3) := by decide +kernel
theorem u90_241 (ho : zO a 9) : zEv sc 90 241 [l0, l1, l2, l3, l4, l5, l6, l7, l8, l9, l10, l11] [.int z0, .ref a] (zst p iv) Q ↔ zEv sc 83 0 [.ref a, .int z0] [] (zst p iv) (fun r h9 => zEv sc 90 244 [l0, l1, l2, l3, l4, l5, l6, l7, l8, l9, l10, l11] (r.toList ++ []) h9 Q) := zE_call (kd := 0) (na := 2) (nr := 0) (as := [.ref a, .int z0]) (rest := []) (Or.inl ⟨rfl, rfl⟩) dz90_241 (by decide +kernel : z_lk2 zCT (z_cls 90) 52 = some (83, 0, 580)) (fun z => by cases z) rfl rfl rfl (by decide +kernel) rfl rfl (Or.inr (zE_rc ho))
theorem dz90_244 : decode (z_code 90) 244 = .ok (.ifCond .le 26, 3) := by decide +kernel
theorem u90_244 : zEv sc 90 244 [l0, l1, l2, l3, l4, l5, l6, l7, l8, l9, l10, l11] [.int x] h Q ↔ (if x ≤ 0 then zEv sc 90 270 [l0, l1, l2, l3, l4, l5, l6, l7, l8, l9, l10, l11] [] h Q else zEv sc 90 247 [l0, l1, l2, l3, l4, l5, l6, l7, l8, l9, l10, l11] [] h Q) := zE_ifP (P := x ≤ 0) inferInstance 270 dz90_244 rfl rfl
theorem dz90_247 : decode (z_code 90) 247 = .ok (.aload_n 0, 1) := by decide +kernel
theorem u90_247 : zEv sc 90 247 [.ref a, l1, l2, l3, l4, l5, l6, l7, l8, l9, l10, l11] [] h Q ↔ zEv sc 90 248 [.ref a, l1, l2, l3, l4, l5, l6, l7, l8, l9, l10, l11] [.ref a] h Q := zE_pure (q := (248, [.ref a, l1, l2, l3, l4, l5, l6, l7, l8, l9, l10, l11], [.ref a])) dz90_247 rfl rfl rfl
theorem dz90_248 : decode (z_code 90) 248 = .ok (.bipush 48, 2) := by decide +kernel
theorem u90_248 : zEv sc 90 248 [l0, l1, l2, l3, l4, l5, l6, l7, l8, l9, l10, l11] [t0] h Q ↔ zEv sc 90 250 [l0, l1, l2, l3, l4, l5, l6, l7, l8, l9, l10, l11] [.int 48, t0] h Q := zE_bipush dz90_248 (by decide +kernel)
theorem dz90_250 : decode (z_code 90) 250 = .ok (.iload 6, 2) := by decide +kernel
theorem u90_250 : zEv sc 90 250 [l0, l1, l2, l3, l4, l5, .int x, l7, l8, l9, l10, l11] [t0, t1] h Q ↔ zEv sc 90 252 [l0, l1, l2, l3, l4, l5, .int x, l7, l8, l9, l10, l11] [.int x, t0, t1] h Q := zE_pure (q := (252, [l0, l1, l2, l3, l4, l5, .int x, l7, l8, l9, l10, l11], [.int x, t0, t1])) dz90_250 rfl rfl rfl
theorem dz90_252 : decode (z_code 90) 252 = .ok (.iconst 2, 1) := by decide +kernel
theorem u90_252 : zEv sc 90 252 [l0, l1, l2, l3, l4, l5, l6, l7, l8, l9, l10, l11] [t0, t1, t2] h Q ↔ zEv sc 90 253 [l0, l1, l2, l3, l4, l5, l6, l7, l8, l9, l10, l11] [.int 2, t0, t1, t2] h Q := zE_iconst dz90_252 (by decide +kernel)
theorem dz90_253 : decode (z_code 90) 253 = .ok (.ishr, 1) := by decide +kernel
theorem u90_253 : zEv sc 90 253 [l0, l1, l2, l3, l4, l5, l6, l7, l8, l9, l10, l11] [.int x2, .int x1, t0, t1] h Q ↔ zEv sc 90 254 [l0, l1, l2, l3, l4, l5, l6, l7, l8, l9, l10, l11] [.int (x1 >>> (x2 &&& 31)), t0, t1] h Q := zE_pure (q := (254, [l0, l1, l2, l3, l4, l5, l6, l7, l8, l9, l10, l11], [.int (x1 >>> (x2 &&& 31)), t0, t1])) dz90_253 rfl rfl rfl
theorem dz90_254 : decode (z_code 90) 254 = .ok (.bipush 10, 2) := by decide +kernel
theorem u90_254 : zEv sc 90 254 [l0, l1, l2, l3, l4, l5, l6, l7, l8, l9, l10, l11] [t0, t1, t2] h Q ↔ zEv sc 90 256 [l0, l1, l2, l3, l4, l5, l6, l7, l8, l9, l10, l11] [.int 10, t0, t1, t2] h Q := zE_bipush dz90_254 (by decide +kernel)
theorem dz90_256 : decode (z_code 90) 256 = .ok (.invokestatic 25, 3) := by decide +kernel
theorem u90_256 : zEv sc 90 256 [l0, l1, l2, l3, l4, l5, l6, l7, l8, l9, l10, l11] [.int z1, .int z0, t0, t1] h Q ↔ zEv sc 87 0 [.int z0, .int z1] [] h (fun r h9 => zEv sc 90 259 [l0, l1, l2, l3, l4, l5, l6, l7, l8, l9, l10, l11] (r.toList ++ [t0, t1]) h9 Q) := zE_call (kd := 1) (na := 2) (nr := 2) (as := [.int z0, .int z1]) (rest := [t0, t1]) (Or.inr ⟨rfl, rfl⟩) dz90_256 (by decide +kernel : z_lk2 zCT (z_cls 90) 25 = some (87, 0, 345)) (fun _ => ⟨by decide +kernel, by decide +kernel⟩) rfl rfl rfl (by decide +kernel) rfl rfl (Or.inl rfl)
theorem dz90_259 : decode (z_code 90) 259 = .ok (.iadd, 1) := by decide +kernel
theorem u90_259 : zEv sc 90 259 [l0, l1, l2, l3, l4, l5, l6, l7, l8, l9, l10, l11] [.int x2, .int x1, t0] h Q ↔ zEv sc 90 260 [l0, l1, l2, l3, l4, l5, l6, l7, l8, l9, l10, l11] [.int (x1 + x2), t0] h Q := zE_pure (q := (260, [l0, l1, l2, l3, l4, l5, l6, l7, l8, l9, l10, l11], [.int (x1 + x2), t0])) dz90_259 rfl rfl rfl
theorem dz90_260 : decode (z_code 90) 260 = .ok (.invokevirtual 52, 3) := by decide +kernel
theorem u90_260 (ho : zO a 9) : zEv sc 90 260 [l0, l1, l2, l3, l4, l5, l6, l7, l8, l9, l10, l11] [.int z0, .ref a] (zst p iv) Q ↔ zEv sc 83 0 [.ref a, .int z0] [] (zst p iv) (fun r h9 => zEv sc 90 263 [l0, l1, l2, l3, l4, l5, l6, l7, l8, l9, l10, l11] (r.toList ++ []) h9 Q) := zE_call (kd := 0) (na := 2) (nr := 0) (as := [.ref a, .int z0]) (rest := []) (Or.inl ⟨rfl, rfl⟩) dz90_260 (by decide +kernel : z_lk2 zCT (z_cls 90) 52 = some (83, 0, 580)) (fun z => by cases z) rfl rfl rfl (by decide +kernel) rfl rfl (Or.inr (zE_rc ho))
theorem dz90_263 : decode (z_code 90) 263 = .ok (.ifCond .le 7, 3) := by decide +kernel
theorem u90_263 : zEv sc 90 263 [l0, l1, l2, l3, l4, l5, l6, l7, l8, l9, l10, l11] [.int x] h Q ↔ (if x ≤ 0 then zEv sc 90 270 [l0, l1, l2, l3, l4, l5, l6, l7, l8, l9, l10, l11] [] h Q else zEv sc 90 266 [l0, l1, l2, l3, l4, l5, l6, l7, l8, l9, l10, l11] [] h Q) := zE_ifP (P := x ≤ 0) inferInstance 270 dz90_263 rfl rfl
theorem dz90_266 : decode (z_code 90) 266 = .ok (.iconst 1, 1) := by decide +kernel
theorem u90_266 : zEv sc 90 266 [l0, l1, l2, l3, l4, l5, l6, l7, l8, l9, l10, l11] [] h Q ↔ zEv sc 90 267 [l0, l1, l2, l3, l4, l5, l6, l7, l8, l9, l10, l11] [.int 1] h Q := zE_iconst dz90_266 (by decide +kernel)
theorem dz90_267 : decode (z_code 90) 267 = .ok (.goto 4, 3) := by decide +kernel
theorem u90_267 : zEv sc 90 267 [l0, l1, l2, l3, l4, l5, l6, l7, l8, l9, l10, l11] [t0] h Q ↔ zEv sc 90 271 [l0, l1, l2, l3, l4, l5, l6, l7, l8, l9, l10, l11] [t0] h Q := zE_go 271 dz90_267 rfl
theorem dz90_271 : decode (z_code 90) 271 = .ok (.istore 4, 2) := by decide +kernel
theorem u90_271 : zEv sc 90 271 [l0, l1, l2, l3, l4, l5, l6, l7, l8, l9, l10, l11] [.int x] h Q ↔ zEv sc 90 273 [l0, l1, l2, l3, .int x, l5, l6, l7, l8, l9, l10, l11] [] h Q := zE_pure (q := (273, [l0, l1, l2, l3, .int x, l5, l6, l7, l8, l9, l10, l11], [])) dz90_271 rfl rfl rfl
theorem dz90_270 : decode (z_code 90) 270 = .ok (.iconst 0, 1) := by decide +kernel
theorem u90_270 : zEv sc 90 270 [l0, l1, l2, l3, l4, l5, l6, l7, l8, l9, l10, l11] [] h Q ↔ zEv sc 90 271 [l0, l1, l2, l3, l4, l5, l6, l7, l8, l9, l10, l11] [.int 0] h Q := zE_iconst dz90_270 (by decide +kernel)
theorem dz90_273 : decode (z_code 90) 273 = .ok (.iload 4, 2) := by decide +kernel
theorem u90_273 : zEv sc 90 273 [l0, l1, l2, l3, .int x, l5, l6, l7, l8, l9, l10, l11] [] h Q ↔ zEv sc 90 275 [l0, l1, l2, l3, .int x, l5, l6, l7, l8, l9, l10, l11] [.int x] h Q := zE_pure (q := (275, [l0, l1, l2, l3, .int x, l5, l6, l7, l8, l9, l10, l11], [.int x])) dz90_273 rfl rfl rfl
theorem dz90_275 : decode (z_code 90) 275 = .ok (.ifCond .eq 36, 3) := by decide +kernel
theorem u90_275 : zEv sc 90 275 [l0, l1, l2, l3, l4, l5, l6, l7, l8, l9, l10, l11] [.int x] h Q ↔ (if x = 0 then zEv sc 90 311 [l0, l1, l2, l3, l4, l5, l6, l7, l8, l9, l10, l11] [] h Q else zEv sc 90 278 [l0, l1, l2, l3, l4, l5, l6, l7, l8, l9, l10, l11] [] h Q) := zE_ifP (P := x = 0) inferInstance 311 dz90_275 rfl rfl
theorem dz90_278 : decode (z_code 90) 278 = .ok (.iload_n 1, 1) := by decide +kernel
theorem u90_278 : zEv sc 90 278 [l0, .int x, l2, l3, l4, l5, l6, l7, l8, l9, l10, l11] [] h Q ↔ zEv sc 90 279 [l0, .int x, l2, l3, l4, l5, l6, l7, l8, l9, l10, l11] [.int x] h Q := zE_pure (q := (279, [l0, .int x, l2, l3, l4, l5, l6, l7, l8, l9, l10, l11], [.int x])) dz90_278 rfl rfl rfl
theorem dz90_279 : decode (z_code 90) 279 = .ok (.bipush 24, 2) := by decide +kernel
theorem u90_279 : zEv sc 90 279 [l0, l1, l2, l3, l4, l5, l6, l7, l8, l9, l10, l11] [t0] h Q ↔ zEv sc 90 281 [l0, l1, l2, l3, l4, l5, l6, l7, l8, l9, l10, l11] [.int 24, t0] h Q := zE_bipush dz90_279 (by decide +kernel)
theorem dz90_281 : decode (z_code 90) 281 = .ok (.ishr, 1) := by decide +kernel
theorem u90_281 : zEv sc 90 281 [l0, l1, l2, l3, l4, l5, l6, l7, l8, l9, l10, l11] [.int x2, .int x1] h Q ↔ zEv sc 90 282 [l0, l1, l2, l3, l4, l5, l6, l7, l8, l9, l10, l11] [.int (x1 >>> (x2 &&& 31))] h Q := zE_pure (q := (282, [l0, l1, l2, l3, l4, l5, l6, l7, l8, l9, l10, l11], [.int (x1 >>> (x2 &&& 31))])) dz90_281 rfl rfl rfl
theorem dz90_282 : decode (z_code 90) 282 = .ok (.bipush 7, 2) := by decide +kernel
theorem u90_282 : zEv sc 90 282 [l0, l1, l2, l3, l4, l5, l6, l7, l8, l9, l10, l11] [t0] h Q ↔ zEv sc 90 284 [l0, l1, l2, l3, l4, l5, l6, l7, l8, l9, l10, l11] [.int 7, t0] h Q := zE_bipush dz90_282 (by decide +kernel)
theorem dz90_284 : decode (z_code 90) 284 = .ok (.invokestatic 25, 3) := by decide +kernel
theorem u90_284 : zEv sc 90 284 [l0, l1, l2, l3, l4, l5, l6, l7, l8, l9, l10, l11] [.int z1, .int z0] h Q ↔ zEv sc 87 0 [.int z0, .int z1] [] h (fun r h9 => zEv sc 90 287 [l0, l1, l2, l3, l4, l5, l6, l7, l8, l9, l10, l11] (r.toList ++ []) h9 Q) := zE_call (kd := 1) (na := 2) (nr := 0) (as := [.int z0, .int z1]) (rest := []) (Or.inr ⟨rfl, rfl⟩) dz90_284 (by decide +kernel : z_lk2 zCT (z_cls 90) 25 = some (87, 0, 345)) (fun _ => ⟨by decide +kernel, by decide +kernel⟩) rfl rfl rfl (by decide +kernel) rfl rfl (Or.inl rfl)
theorem dz90_287 : decode (z_code 90) 287 = .ok (.ifCond .ne 11, 3) := by decide +kernel
theorem u90_287 : zEv sc 90 287 [l0, l1, l2, l3, l4, l5, l6, l7, l8, l9, l10, l11] [.int x] h Q ↔ (if ¬ x = 0 then zEv sc 90 298 [l0, l1, l2, l3, l4, l5, l6, l7, l8, l9, l10, l11] [] h Q else zEv sc 90 290 [l0, l1, l2, l3, l4, l5, l6, l7, l8, l9, l10, l11] [] h Q) := zE_ifP (P := ¬ x = 0) inferInstance 298 dz90_287 rfl rfl
theorem dz90_290 : decode (z_code 90) 290 = .ok (.iload 5, 2) := by decide +kernel
theorem u90_290 : zEv sc 90 290 [l0, l1, l2, l3, l4, .int x, l6, l7, l8, l9, l10, l11] [] h Q ↔ zEv sc 90 292 [l0, l1, l2, l3, l4, .int x, l6, l7, l8, l9, l10, l11] [.int x] h Q := zE_pure (q := (292, [l0, l1, l2, l3, l4, .int x, l6, l7, l8, l9, l10, l11], [.int x])) dz90_290 rfl rfl rfl
theorem dz90_292 : decode (z_code 90) 292 = .ok (.iload_n 2, 1) := by decide +kernel
theorem u90_292 : zEv sc 90 292 [l0, l1, .int x, l3, l4, l5, l6, l7, l8, l9, l10, l11] [t0] h Q ↔ zEv sc 90 293 [l0, l1, .int x, l3, l4, l5, l6, l7, l8, l9, l10, l11] [.int x, t0] h Q := zE_pure (q := (293, [l0, l1, .int x, l3, l4, l5, l6, l7, l8, l9, l10, l11], [.int x, t0])) dz90_292 rfl rfl rfl
theorem dz90_293 : decode (z_code 90) 293 = .ok (.iconst 1, 1) := by decide +kernel
theorem u90_293 : zEv sc 90 293 [l0, l1, l2, l3, l4, l5, l6, l7, l8, l9, l10, l11] [t0, t1] h Q ↔ zEv sc 90 294 [l0, l1, l2, l3, l4, l5, l6, l7, l8, l9, l10, l11] [.int 1, t0, t1] h Q := zE_iconst dz90_293 (by decide +kernel)
theorem dz90_294 : decode (z_code 90) 294 = .ok (.isub, 1) := by decide +kernel
theorem u90_294 : zEv sc 90 294 [l0, l1, l2, l3, l4, l5, l6, l7, l8, l9, l10, l11] [.int x2, .int x1, t0] h Q ↔ zEv sc 90 295 [l0, l1, l2, l3, l4, l5, l6, l7, l8, l9, l10, l11] [.int (x1 - x2), t0] h Q := zE_pure (q := (295, [l0, l1, l2, l3, l4, l5, l6, l7, l8, l9, l10, l11], [.int (x1 - x2), t0])) dz90_294 rfl rfl rfl
theorem dz90_295 : decode (z_code 90) 295 = .ok (.if_icmp .eq 12, 3) := by decide +kernel
theorem u90_295 : zEv sc 90 295 [l0, l1, l2, l3, l4, l5, l6, l7, l8, l9, l10, l11] [.int x2, .int x1] h Q ↔ (if x1 = x2 then zEv sc 90 307 [l0, l1, l2, l3, l4, l5, l6, l7, l8, l9, l10, l11] [] h Q else zEv sc 90 298 [l0, l1, l2, l3, l4, l5, l6, l7, l8, l9, l10, l11] [] h Q) := zE_icP (P := x1 = x2) inferInstance 307 dz90_295 rfl rfl
theorem dz90_307 : decode (z_code 90) 307 = .ok (.iconst 1, 1) := by decide +kernel
theorem u90_307 : zEv sc 90 307 [l0, l1, l2, l3, l4, l5, l6, l7, l8, l9, l10, l11] [] h Q ↔ zEv sc 90 308 [l0, l1, l2, l3, l4, l5, l6, l7, l8, l9, l10, l11] [.int 1] h Q := zE_iconst dz90_307 (by decide +kernel)
theorem dz90_308 : decode (z_code 90) 308 = .ok (.goto 4, 3) := by decide +kernel
theorem u90_308 : zEv sc 90 308 [l0, l1, l2, l3, l4, l5, l6, l7, l8, l9, l10, l11] [t0] h Q ↔ zEv sc 90 312 [l0, l1, l2, l3, l4, l5, l6, l7, l8, l9, l10, l11] [t0] h Q := zE_go 312 dz90_308 rfl
theorem dz90_312 : decode (z_code 90) 312 = .ok (.istore 4, 2) := by decide +kernel
theorem u90_312 : zEv sc 90 312 [l0, l1, l2, l3, l4, l5, l6, l7, l8, l9, l10, l11] [.int x] h Q ↔ zEv sc 90 314 [l0, l1, l2, l3, .int x, l5, l6, l7, l8, l9, l10, l11] [] h Q := zE_pure (q := (314, [l0, l1, l2, l3, .int x, l5, l6, l7, l8, l9, l10, l11], [])) dz90_312 rfl rfl rfl
theorem dz90_314 : decode (z_code 90) 314 = .ok (.iinc 5 1, 3) := by decide +kernel
theorem u90_314 : zEv sc 90 314 [l0, l1, l2, l3, l4, .int x, l6, l7, l8, l9, l10, l11] [] h Q ↔ zEv sc 90 317 [l0, l1, l2, l3, l4, .int (x + 1), l6, l7, l8, l9, l10, l11] [] h Q := zE_iinc (ls2 := [l0, l1, l2, l3, l4, .int (x + 1), l6, l7, l8, l9, l10, l11]) dz90_314 (by decide +kernel) rfl (by simp) rfl
theorem dz90_317 : decode (z_code 90) 317 = .ok (.goto (-286), 3) := by decide +kernel
theorem u90_317 : zEv sc 90 317 [l0, l1, l2, l3, l4, l5, l6, l7, l8, l9, l10, l11] [] h Q ↔ zEv sc 90 31 [l0, l1, l2, l3, l4, l5, l6, l7, l8, l9, l10, l11] [] h Q := zE_go 31 dz90_317 rfl
theorem dz90_298 : decode (z_code 90) 298 = .ok (.aload_n 0, 1) := by decide +kernel
theorem u90_298 : zEv sc 90 298 [.ref a, l1, l2, l3, l4, l5, l6, l7, l8, l9, l10, l11] [] h Q ↔ zEv sc 90 299 [.ref a, l1, l2, l3, l4, l5, l6, l7, l8, l9, l10, l11] [.ref a] h Q := zE_pure (q := (299, [.ref a, l1, l2, l3, l4, l5, l6, l7, l8, l9, l10, l11], [.ref a])) dz90_298 rfl rfl rfl
theorem dz90_299 : decode (z_code 90) 299 = .ok (.bipush 59, 2) := by decide +kernel
theorem u90_299 : zEv sc 90 299 [l0, l1, l2, l3, l4, l5, l6, l7, l8, l9, l10, l11] [t0] h Q ↔ zEv sc 90 301 [l0, l1, l2, l3, l4, l5, l6, l7, l8, l9, l10, l11] [.int 59, t0] h Q := zE_bipush dz90_299 (by decide +kernel)
theorem dz90_301 : decode (z_code 90) 301 = .ok (.invokevirtual 52, 3) := by decide +kernel
theorem u90_301 (ho : zO a 9) : zEv sc 90 301 [l0, l1, l2, l3, l4, l5, l6, l7, l8, l9, l10, l11] [.int z0, .ref a] (zst p iv) Q ↔ zEv sc 83 0 [.ref a, .int z0] [] (zst p iv) (fun r h9 => zEv sc 90 304 [l0, l1, l2, l3, l4, l5, l6, l7, l8, l9, l10, l11] (r.toList ++ []) h9 Q) := zE_call (kd := 0) (na := 2) (nr := 0) (as := [.ref a, .int z0]) (rest := []) (Or.inl ⟨rfl, rfl⟩) dz90_301 (by decide +kernel : z_lk2 zCT (z_cls 90) 52 = some (83, 0, 580)) (fun z => by cases z) rfl rfl rfl (by decide +kernel) rfl rfl (Or.inr (zE_rc ho))
theorem dz90_304 : decode (z_code 90) 304 = .ok (.ifCond .le 7, 3) := by decide +kernel
theorem u90_304 : zEv sc 90 304 [l0, l1, l2, l3, l4, l5, l6, l7, l8, l9, l10, l11] [.int x] h Q ↔ (if x ≤ 0 then zEv sc 90 311 [l0, l1, l2, l3, l4, l5, l6, l7, l8, l9, l10, l11] [] h Q else zEv sc 90 307 [l0, l1, l2, l3, l4, l5, l6, l7, l8, l9, l10, l11] [] h Q) := zE_ifP (P := x ≤ 0) inferInstance 311 dz90_304 rfl rfl
theorem dz90_311 : decode (z_code 90) 311 = .ok (.iconst 0, 1) := by decide +kernel
theorem u90_311 : zEv sc 90 311 [l0, l1, l2, l3, l4, l5, l6, l7, l8, l9, l10, l11] [] h Q ↔ zEv sc 90 312 [l0, l1, l2, l3, l4, l5, l6, l7, l8, l9, l10, l11] [.int 0] h Q := zE_iconst dz90_311 (by decide +kernel)
theorem dz90_155 : decode (z_code 90) 155 = .ok (.iload_n 3, 1) := by decide +kernel
theorem u90_155 : zEv sc 90 155 [l0, l1, l2, .int x, l4, l5, l6, l7, l8, l9, l10, l11] [] h Q ↔ zEv sc 90 156 [l0, l1, l2, .int x, l4, l5, l6, l7, l8, l9, l10, l11] [.int x] h Q := zE_pure (q := (156, [l0, l1, l2, .int x, l4, l5, l6, l7, l8, l9, l10, l11], [.int x])) dz90_155 rfl rfl rfl
theorem dz90_156 : decode (z_code 90) 156 = .ok (.iconst 3, 1) := by decide +kernel
theorem u90_156 : zEv sc 90 156 [l0, l1, l2, l3, l4, l5, l6, l7, l8, l9, l10, l11] [t0] h Q ↔ zEv sc 90 157 [l0, l1, l2, l3, l4, l5, l6, l7, l8, l9, l10, l11] [.int 3, t0] h Q := zE_iconst dz90_156 (by decide +kernel)
theorem dz90_157 : decode (z_code 90) 157 = .ok (.if_icmp .ne 8, 3) := by decide +kernel
theorem u90_157 : zEv sc 90 157 [l0, l1, l2, l3, l4, l5, l6, l7, l8, l9, l10, l11] [.int x2, .int x1] h Q ↔ (if ¬ x1 = x2 then zEv sc 90 165 [l0, l1, l2, l3, l4, l5, l6, l7, l8, l9, l10, l11] [] h Q else zEv sc 90 160 [l0, l1, l2, l3, l4, l5, l6, l7, l8, l9, l10, l11] [] h Q) := zE_icP (P := ¬ x1 = x2) inferInstance 165 dz90_157 rfl rfl
theorem dz90_160 : decode (z_code 90) 160 = .ok (.bipush 100, 2) := by decide +kernel
theorem u90_160 : zEv sc 90 160 [l0, l1, l2, l3, l4, l5, l6, l7, l8, l9, l10, l11] [] h Q ↔ zEv sc 90 162 [l0, l1, l2, l3, l4, l5, l6, l7, l8, l9, l10, l11] [.int 100] h Q := zE_bipush dz90_160 (by decide +kernel)
theorem dz90_162 : decode (z_code 90) 162 = .ok (.goto 6, 3) := by decide +kernel
theorem u90_162 : zEv sc 90 162 [l0, l1, l2, l3, l4, l5, l6, l7, l8, l9, l10, l11] [t0] h Q ↔ zEv sc 90 168 [l0, l1, l2, l3, l4, l5, l6, l7, l8, l9, l10, l11] [t0] h Q := zE_go 168 dz90_162 rfl
theorem dz90_165 : decode (z_code 90) 165 = .ok (.sipush 1000, 3) := by decide +kernel
theorem u90_165 : zEv sc 90 165 [l0, l1, l2, l3, l4, l5, l6, l7, l8, l9, l10, l11] [] h Q ↔ zEv sc 90 168 [l0, l1, l2, l3, l4, l5, l6, l7, l8, l9, l10, l11] [.int 1000] h Q := zE_sipush dz90_165 (by decide +kernel)
theorem dz90_142 : decode (z_code 90) 142 = .ok (.iconst 0, 1) := by decide +kernel
theorem u90_142 : zEv sc 90 142 [l0, l1, l2, l3, l4, l5, l6, l7, l8, l9, l10, l11] [] h Q ↔ zEv sc 90 143 [l0, l1, l2, l3, l4, l5, l6, l7, l8, l9, l10, l11] [.int 0] h Q := zE_iconst dz90_142 (by decide +kernel)
theorem dz90_108 : decode (z_code 90) 108 = .ok (.iconst 0, 1) := by decide +kernel
theorem u90_108 : zEv sc 90 108 [l0, l1, l2, l3, l4, l5, l6, l7, l8, l9, l10, l11] [t0] h Q ↔ zEv sc 90 109 [l0, l1, l2, l3, l4, l5, l6, l7, l8, l9, l10, l11] [.int 0, t0] h Q := zE_iconst dz90_108 (by decide +kernel)
theorem dz90_73 : decode (z_code 90) 73 = .ok (.aload_n 0, 1) := by decide +kernel
theorem u90_73 : zEv sc 90 73 [.ref a, l1, l2, l3, l4, l5, l6, l7, l8, l9, l10, l11] [] h Q ↔ zEv sc 90 74 [.ref a, l1, l2, l3, l4, l5, l6, l7, l8, l9, l10, l11] [.ref a] h Q := zE_pure (q := (74, [.ref a, l1, l2, l3, l4, l5, l6, l7, l8, l9, l10, l11], [.ref a])) dz90_73 rfl rfl rfl
theorem dz90_74 : decode (z_code 90) 74 = .ok (.iload 7, 2) := by decide +kernel
theorem u90_74 : zEv sc 90 74 [l0, l1, l2, l3, l4, l5, l6, .int x, l8, l9, l10, l11] [t0] h Q ↔ zEv sc 90 76 [l0, l1, l2, l3, l4, l5, l6, .int x, l8, l9, l10, l11] [.int x, t0] h Q := zE_pure (q := (76, [l0, l1, l2, l3, l4, l5, l6, .int x, l8, l9, l10, l11], [.int x, t0])) dz90_74 rfl rfl rfl
theorem dz90_76 : decode (z_code 90) 76 = .ok (.iload 6, 2) := by decide +kernel
theorem u90_76 : zEv sc 90 76 [l0, l1, l2, l3, l4, l5, .int x, l7, l8, l9, l10, l11] [t0, t1] h Q ↔ zEv sc 90 78 [l0, l1, l2, l3, l4, l5, .int x, l7, l8, l9, l10, l11] [.int x, t0, t1] h Q := zE_pure (q := (78, [l0, l1, l2, l3, l4, l5, .int x, l7, l8, l9, l10, l11], [.int x, t0, t1])) dz90_76 rfl rfl rfl
theorem dz90_78 : decode (z_code 90) 78 = .ok (.iconst 1, 1) := by decide +kernel
theorem u90_78 : zEv sc 90 78 [l0, l1, l2, l3, l4, l5, l6, l7, l8, l9, l10, l11] [t0, t1, t2] h Q ↔ zEv sc 90 79 [l0, l1, l2, l3, l4, l5, l6, l7, l8, l9, l10, l11] [.int 1, t0, t1, t2] h Q := zE_iconst dz90_78 (by decide +kernel)
theorem dz90_79 : decode (z_code 90) 79 = .ok (.ishr, 1) := by decide +kernel
theorem u90_79 : zEv sc 90 79 [l0, l1, l2, l3, l4, l5, l6, l7, l8, l9, l10, l11] [.int x2, .int x1, t0, t1] h Q ↔ zEv sc 90 80 [l0, l1, l2, l3, l4, l5, l6, l7, l8, l9, l10, l11] [.int (x1 >>> (x2 &&& 31)), t0, t1] h Q := zE_pure (q := (80, [l0, l1, l2, l3, l4, l5, l6, l7, l8, l9, l10, l11], [.int (x1 >>> (x2 &&& 31)), t0, t1])) dz90_79 rfl rfl rfl
theorem dz90_80 : decode (z_code 90) 80 = .ok (.iload 8, 2) := by decide +kernel
theorem u90_80 : zEv sc 90 80 [l0, l1, l2, l3, l4, l5, l6, l7, .int x, l9, l10, l11] [t0, t1, t2] h Q ↔ zEv sc 90 82 [l0, l1, l2, l3, l4, l5, l6, l7, .int x, l9, l10, l11] [.int x, t0, t1, t2] h Q := zE_pure (q := (82, [l0, l1, l2, l3, l4, l5, l6, l7, .int x, l9, l10, l11], [.int x, t0, t1, t2])) dz90_80 rfl rfl rfl
theorem dz90_82 : decode (z_code 90) 82 = .ok (.invokestatic 25, 3) := by decide +kernel
theorem u90_82 : zEv sc 90 82 [l0, l1, l2, l3, l4, l5, l6, l7, l8, l9, l10, l11] [.int z1, .int z0, t0, t1] h Q ↔ zEv sc 87 0 [.int z0, .int z1] [] h (fun r h9 => zEv sc 90 85 [l0, l1, l2, l3, l4, l5, l6, l7, l8, l9, l10, l11] (r.toList ++ [t0, t1]) h9 Q) := zE_call (kd := 1) (na := 2) (nr := 2) (as := [.int z0, .int z1]) (rest := [t0, t1]) (Or.inr ⟨rfl, rfl⟩) dz90_82 (by decide +kernel : z_lk2 zCT (z_cls 90) 25 = some (87, 0, 345)) (fun _ => ⟨by decide +kernel, by decide +kernel⟩) rfl rfl rfl (by decide +kernel) rfl rfl (Or.inl rfl)
theorem dz90_85 : decode (z_code 90) 85 = .ok (.invokevirtual 31, 3) := by decide +kernel
theorem u90_85 (ho : zO a 9) : zEv sc 90 85 [l0, l1, l2, l3, l4, l5, l6, l7, l8, l9, l10, l11] [.int z1, .int z0, .ref a] (zst p iv) Q ↔ zEv sc 63 0 [.ref a, .int z0, .int z1, .null] [] (zst p iv) (fun r h9 => zEv sc 90 88 [l0, l1, l2, l3, l4, l5, l6, l7, l8, l9, l10, l11] (r.toList ++ []) h9 Q) := zE_call (kd := 0) (na := 3) (nr := 0) (as := [.ref a, .int z0, .int z1]) (rest := []) (Or.inl ⟨rfl, rfl⟩) dz90_85 (by decide +kernel : z_lk2 zCT (z_cls 90) 31 = some (63, 0, 400)) (fun z => by cases z) rfl rfl rfl (by decide +kernel) rfl rfl (Or.inr (zE_rc ho))
theorem dz90_320 : decode (z_code 90) 320 = .ok (.iload 4, 2) := by decide +kernel
theorem u90_320 : zEv sc 90 320 [l0, l1, l2, l3, .int x, l5, l6, l7, l8, l9, l10, l11] [] h Q ↔ zEv sc 90 322 [l0, l1, l2, l3, .int x, l5, l6, l7, l8, l9, l10, l11] [.int x] h Q := zE_pure (q := (322, [l0, l1, l2, l3, .int x, l5, l6, l7, l8, l9, l10, l11], [.int x])) dz90_320 rfl rfl rfl
theorem dz90_322 : decode (z_code 90) 322 = .ok (.ireturn, 1) := by decide +kernel
theorem u90_322 : zEv sc 90 322 [l0, l1, l2, l3, l4, l5, l6, l7, l8, l9, l10, l11] [.int x] h Q ↔ ((x = 0 ∨ x = 1) ∧ Q (some (.int x)) h) := zE_rz dz90_322 (by decide +kernel)
theorem dz90_25 : decode (z_code 90) 25 = .ok (.iconst 0, 1) := by decide +kernel
theorem u90_25 : zEv sc 90 25 [l0, l1, l2, l3, l4, l5, l6, l7, l8, l9, l10, l11] [] h Q ↔ zEv sc 90 26 [l0, l1, l2, l3, l4, l5, l6, l7, l8, l9, l10, l11] [.int 0] h Q := zE_iconst dz90_25 (by decide +kernel)
/-! method 91: FieldMixturesLaw.reads(LFieldMixtures;)Z -/
theorem dz91_0 : decode (z_code 91) 0 = .ok (.aload_n 0, 1) := by decide +kernel
theorem u91_0 : zEv sc 91 0 [.ref a, l1, l2, l3, l4, l5, l6, l7] [] h Q ↔ zEv sc 91 1 [.ref a, l1, l2, l3, l4, l5, l6, l7] [.ref a] h Q := zE_pure (q := (1, [.ref a, l1, l2, l3, l4, l5, l6, l7], [.ref a])) dz91_0 rfl rfl rfl
theorem dz91_1 : decode (z_code 91) 1 = .ok (.iconst 0, 1) := by decide +kernel
theorem u91_1 : zEv sc 91 1 [l0, l1, l2, l3, l4, l5, l6, l7] [t0] h Q ↔ zEv sc 91 2 [l0, l1, l2, l3, l4, l5, l6, l7] [.int 0, t0] h Q := zE_iconst dz91_1 (by decide +kernel)
theorem dz91_2 : decode (z_code 91) 2 = .ok (.invokevirtual 55, 3) := by decide +kernel
theorem u91_2 (ho : zO a 9) : zEv sc 91 2 [l0, l1, l2, l3, l4, l5, l6, l7] [.int z0, .ref a] (zst p iv) Q ↔ zEv sc 85 0 [.ref a, .int z0] [] (zst p iv) (fun r h9 => zEv sc 91 5 [l0, l1, l2, l3, l4, l5, l6, l7] (r.toList ++ []) h9 Q) := zE_call (kd := 0) (na := 2) (nr := 0) (as := [.ref a, .int z0]) (rest := []) (Or.inl ⟨rfl, rfl⟩) dz91_2 (by decide +kernel : z_lk2 zCT (z_cls 91) 55 = some (85, 0, 591)) (fun z => by cases z) rfl rfl rfl (by decide +kernel) rfl rfl (Or.inr (zE_rc ho))
theorem dz91_5 : decode (z_code 91) 5 = .ok (.istore_n 1, 1) := by decide +kernel
theorem u91_5 : zEv sc 91 5 [l0, l1, l2, l3, l4, l5, l6, l7] [.int x] h Q ↔ zEv sc 91 6 [l0, .int x, l2, l3, l4, l5, l6, l7] [] h Q := zE_pure (q := (6, [l0, .int x, l2, l3, l4, l5, l6, l7], [])) dz91_5 rfl rfl rfl
theorem dz91_6 : decode (z_code 91) 6 = .ok (.aload_n 0, 1) := by decide +kernel
theorem u91_6 : zEv sc 91 6 [.ref a, l1, l2, l3, l4, l5, l6, l7] [] h Q ↔ zEv sc 91 7 [.ref a, l1, l2, l3, l4, l5, l6, l7] [.ref a] h Q := zE_pure (q := (7, [.ref a, l1, l2, l3, l4, l5, l6, l7], [.ref a])) dz91_6 rfl rfl rfl
theorem dz91_7 : decode (z_code 91) 7 = .ok (.iconst 1, 1) := by decide +kernel
theorem u91_7 : zEv sc 91 7 [l0, l1, l2, l3, l4, l5, l6, l7] [t0] h Q ↔ zEv sc 91 8 [l0, l1, l2, l3, l4, l5, l6, l7] [.int 1, t0] h Q := zE_iconst dz91_7 (by decide +kernel)
theorem dz91_8 : decode (z_code 91) 8 = .ok (.invokevirtual 55, 3) := by decide +kernel
theorem u91_8 (ho : zO a 9) : zEv sc 91 8 [l0, l1, l2, l3, l4, l5, l6, l7] [.int z0, .ref a] (zst p iv) Q ↔ zEv sc 85 0 [.ref a, .int z0] [] (zst p iv) (fun r h9 => zEv sc 91 11 [l0, l1, l2, l3, l4, l5, l6, l7] (r.toList ++ []) h9 Q) := zE_call (kd := 0) (na := 2) (nr := 0) (as := [.ref a, .int z0]) (rest := []) (Or.inl ⟨rfl, rfl⟩) dz91_8 (by decide +kernel : z_lk2 zCT (z_cls 91) 55 = some (85, 0, 591)) (fun z => by cases z) rfl rfl rfl (by decide +kernel) rfl rfl (Or.inr (zE_rc ho))
theorem dz91_11 : decode (z_code 91) 11 = .ok (.istore_n 2, 1) := by decide +kernel
theorem u91_11 : zEv sc 91 11 [l0, l1, l2, l3, l4, l5, l6, l7] [.int x] h Q ↔ zEv sc 91 12 [l0, l1, .int x, l3, l4, l5, l6, l7] [] h Q := zE_pure (q := (12, [l0, l1, .int x, l3, l4, l5, l6, l7], [])) dz91_11 rfl rfl rfl
theorem dz91_12 : decode (z_code 91) 12 = .ok (.aload_n 0, 1) := by decide +kernel
theorem u91_12 : zEv sc 91 12 [.ref a, l1, l2, l3, l4, l5, l6, l7] [] h Q ↔ zEv sc 91 13 [.ref a, l1, l2, l3, l4, l5, l6, l7] [.ref a] h Q := zE_pure (q := (13, [.ref a, l1, l2, l3, l4, l5, l6, l7], [.ref a])) dz91_12 rfl rfl rfl
theorem dz91_13 : decode (z_code 91) 13 = .ok (.iconst 2, 1) := by decide +kernel
theorem u91_13 : zEv sc 91 13 [l0, l1, l2, l3, l4, l5, l6, l7] [t0] h Q ↔ zEv sc 91 14 [l0, l1, l2, l3, l4, l5, l6, l7] [.int 2, t0] h Q := zE_iconst dz91_13 (by decide +kernel)
theorem dz91_14 : decode (z_code 91) 14 = .ok (.invokevirtual 55, 3) := by decide +kernel
theorem u91_14 (ho : zO a 9) : zEv sc 91 14 [l0, l1, l2, l3, l4, l5, l6, l7] [.int z0, .ref a] (zst p iv) Q ↔ zEv sc 85 0 [.ref a, .int z0] [] (zst p iv) (fun r h9 => zEv sc 91 17 [l0, l1, l2, l3, l4, l5, l6, l7] (r.toList ++ []) h9 Q) := zE_call (kd := 0) (na := 2) (nr := 0) (as := [.ref a, .int z0]) (rest := []) (Or.inl ⟨rfl, rfl⟩) dz91_14 (by decide +kernel : z_lk2 zCT (z_cls 91) 55 = some (85, 0, 591)) (fun z => by cases z) rfl rfl rfl (by decide +kernel) rfl rfl (Or.inr (zE_rc ho))
theorem dz91_17 : decode (z_code 91) 17 = .ok (.istore_n 3, 1) := by decide +kernel
theorem u91_17 : zEv sc 91 17 [l0, l1, l2, l3, l4, l5, l6, l7] [.int x] h Q ↔ zEv sc 91 18 [l0, l1, l2, .int x, l4, l5, l6, l7] [] h Q := zE_pure (q := (18, [l0, l1, l2, .int x, l4, l5, l6, l7], [])) dz91_17 rfl rfl rfl
theorem dz91_18 : decode (z_code 91) 18 = .ok (.aload_n 0, 1) := by decide +kernel
theorem u91_18 : zEv sc 91 18 [.ref a, l1, l2, l3, l4, l5, l6, l7] [] h Q ↔ zEv sc 91 19 [.ref a, l1, l2, l3, l4, l5, l6, l7] [.ref a] h Q := zE_pure (q := (19, [.ref a, l1, l2, l3, l4, l5, l6, l7], [.ref a])) dz91_18 rfl rfl rfl
theorem dz91_19 : decode (z_code 91) 19 = .ok (.bipush 10, 2) := by decide +kernel
theorem u91_19 : zEv sc 91 19 [l0, l1, l2, l3, l4, l5, l6, l7] [t0] h Q ↔ zEv sc 91 21 [l0, l1, l2, l3, l4, l5, l6, l7] [.int 10, t0] h Q := zE_bipush dz91_19 (by decide +kernel)
theorem dz91_21 : decode (z_code 91) 21 = .ok (.invokevirtual 13, 3) := by decide +kernel
theorem u91_21 (ho : zO a 9) : zEv sc 91 21 [l0, l1, l2, l3, l4, l5, l6, l7] [.int z0, .ref a] (zst p iv) Q ↔ zEv sc 81 0 [.ref a, .int z0] [] (zst p iv) (fun r h9 => zEv sc 91 24 [l0, l1, l2, l3, l4, l5, l6, l7] (r.toList ++ []) h9 Q) := zE_call (kd := 0) (na := 2) (nr := 0) (as := [.ref a, .int z0]) (rest := []) (Or.inl ⟨rfl, rfl⟩) dz91_21 (by decide +kernel : z_lk2 zCT (z_cls 91) 13 = some (81, 0, 300)) (fun z => by cases z) rfl rfl rfl (by decide +kernel) rfl rfl (Or.inr (zE_rc ho))
theorem dz91_24 : decode (z_code 91) 24 = .ok (.istore 4, 2) := by decide +kernel
theorem u91_24 : zEv sc 91 24 [l0, l1, l2, l3, l4, l5, l6, l7] [.int x] h Q ↔ zEv sc 91 26 [l0, l1, l2, l3, .int x, l5, l6, l7] [] h Q := zE_pure (q := (26, [l0, l1, l2, l3, .int x, l5, l6, l7], [])) dz91_24 rfl rfl rfl
theorem dz91_26 : decode (z_code 91) 26 = .ok (.aload_n 0, 1) := by decide +kernel
theorem u91_26 : zEv sc 91 26 [.ref a, l1, l2, l3, l4, l5, l6, l7] [] h Q ↔ zEv sc 91 27 [.ref a, l1, l2, l3, l4, l5, l6, l7] [.ref a] h Q := zE_pure (q := (27, [.ref a, l1, l2, l3, l4, l5, l6, l7], [.ref a])) dz91_26 rfl rfl rfl
theorem dz91_27 : decode (z_code 91) 27 = .ok (.invokevirtual 58, 3) := by decide +kernel
theorem u91_27 (ho : zO a 9) : zEv sc 91 27 [l0, l1, l2, l3, l4, l5, l6, l7] [.ref a] (zst p iv) Q ↔ zEv sc 86 0 [.ref a] [] (zst p iv) (fun r h9 => zEv sc 91 30 [l0, l1, l2, l3, l4, l5, l6, l7] (r.toList ++ []) h9 Q) := zE_call (kd := 0) (na := 1) (nr := 0) (as := [.ref a]) (rest := []) (Or.inl ⟨rfl, rfl⟩) dz91_27 (by decide +kernel : z_lk2 zCT (z_cls 91) 58 = some (86, 0, 637)) (fun z => by cases z) rfl rfl rfl (by decide +kernel) rfl rfl (Or.inr (zE_rc ho))
theorem dz91_30 : decode (z_code 91) 30 = .ok (.istore 5, 2) := by decide +kernel
theorem u91_30 : zEv sc 91 30 [l0, l1, l2, l3, l4, l5, l6, l7] [.int x] h Q ↔ zEv sc 91 32 [l0, l1, l2, l3, l4, .int x, l6, l7] [] h Q := zE_pure (q := (32, [l0, l1, l2, l3, l4, .int x, l6, l7], [])) dz91_30 rfl rfl rfl
theorem dz91_32 : decode (z_code 91) 32 = .ok (.iload_n 1, 1) := by decide +kernel
theorem u91_32 : zEv sc 91 32 [l0, .int x, l2, l3, l4, l5, l6, l7] [] h Q ↔ zEv sc 91 33 [l0, .int x, l2, l3, l4, l5, l6, l7] [.int x] h Q := zE_pure (q := (33, [l0, .int x, l2, l3, l4, l5, l6, l7], [.int x])) dz91_32 rfl rfl rfl
theorem dz91_33 : decode (z_code 91) 33 = .ok (.ldc 34, 2) := by decide +kernel
theorem u91_33 : zEv sc 91 33 [l0, l1, l2, l3, l4, l5, l6, l7] [t0] h Q ↔ zEv sc 91 35 [l0, l1, l2, l3, l4, l5, l6, l7] [.int (-1000004), t0] h Q := zE_ldc (by decide +kernel : z_lkK zKT (z_cls 91) 34 = some ((-1000004), 416)) dz91_33
theorem dz91_35 : decode (z_code 91) 35 = .ok (.if_icmp .ne 41, 3) := by decide +kernel
theorem u91_35 : zEv sc 91 35 [l0, l1, l2, l3, l4, l5, l6, l7] [.int x2, .int x1] h Q ↔ (if ¬ x1 = x2 then zEv sc 91 76 [l0, l1, l2, l3, l4, l5, l6, l7] [] h Q else zEv sc 91 38 [l0, l1, l2, l3, l4, l5, l6, l7] [] h Q) := zE_icP (P := ¬ x1 = x2) inferInstance 76 dz91_35 rfl rfl
theorem dz91_38 : decode (z_code 91) 38 = .ok (.iload_n 2, 1) := by decide +kernel
theorem u91_38 : zEv sc 91 38 [l0, l1, .int x, l3, l4, l5, l6, l7] [] h Q ↔ zEv sc 91 39 [l0, l1, .int x, l3, l4, l5, l6, l7] [.int x] h Q := zE_pure (q := (39, [l0, l1, .int x, l3, l4, l5, l6, l7], [.int x])) dz91_38 rfl rfl rfl
theorem dz91_39 : decode (z_code 91) 39 = .ok (.ldc 34, 2) := by decide +kernel
theorem u91_39 : zEv sc 91 39 [l0, l1, l2, l3, l4, l5, l6, l7] [t0] h Q ↔ zEv sc 91 41 [l0, l1, l2, l3, l4, l5, l6, l7] [.int (-1000004), t0] h Q := zE_ldc (by decide +kernel : z_lkK zKT (z_cls 91) 34 = some ((-1000004), 416)) dz91_39
theorem dz91_41 : decode (z_code 91) 41 = .ok (.if_icmp .ne 35, 3) := by decide +kernel
theorem u91_41 : zEv sc 91 41 [l0, l1, l2, l3, l4, l5, l6, l7] [.int x2, .int x1] h Q ↔ (if ¬ x1 = x2 then zEv sc 91 76 [l0, l1, l2, l3, l4, l5, l6, l7] [] h Q else zEv sc 91 44 [l0, l1, l2, l3, l4, l5, l6, l7] [] h Q) := zE_icP (P := ¬ x1 = x2) inferInstance 76 dz91_41 rfl rfl
theorem dz91_44 : decode (z_code 91) 44 = .ok (.iload_n 3, 1) := by decide +kernel
theorem u91_44 : zEv sc 91 44 [l0, l1, l2, .int x, l4, l5, l6, l7] [] h Q ↔ zEv sc 91 45 [l0, l1, l2, .int x, l4, l5, l6, l7] [.int x] h Q := zE_pure (q := (45, [l0, l1, l2, .int x, l4, l5, l6, l7], [.int x])) dz91_44 rfl rfl rfl
theorem dz91_45 : decode (z_code 91) 45 = .ok (.ldc 34, 2) := by decide +kernel
theorem u91_45 : zEv sc 91 45 [l0, l1, l2, l3, l4, l5, l6, l7] [t0] h Q ↔ zEv sc 91 47 [l0, l1, l2, l3, l4, l5, l6, l7] [.int (-1000004), t0] h Q := zE_ldc (by decide +kernel : z_lkK zKT (z_cls 91) 34 = some ((-1000004), 416)) dz91_45
theorem dz91_47 : decode (z_code 91) 47 = .ok (.if_icmp .ne 29, 3) := by decide +kernel
theorem u91_47 : zEv sc 91 47 [l0, l1, l2, l3, l4, l5, l6, l7] [.int x2, .int x1] h Q ↔ (if ¬ x1 = x2 then zEv sc 91 76 [l0, l1, l2, l3, l4, l5, l6, l7] [] h Q else zEv sc 91 50 [l0, l1, l2, l3, l4, l5, l6, l7] [] h Q) := zE_icP (P := ¬ x1 = x2) inferInstance 76 dz91_47 rfl rfl
theorem dz91_50 : decode (z_code 91) 50 = .ok (.iload 5, 2) := by decide +kernel
theorem u91_50 : zEv sc 91 50 [l0, l1, l2, l3, l4, .int x, l6, l7] [] h Q ↔ zEv sc 91 52 [l0, l1, l2, l3, l4, .int x, l6, l7] [.int x] h Q := zE_pure (q := (52, [l0, l1, l2, l3, l4, .int x, l6, l7], [.int x])) dz91_50 rfl rfl rfl
theorem dz91_52 : decode (z_code 91) 52 = .ok (.ifCond .le 24, 3) := by decide +kernel
theorem u91_52 : zEv sc 91 52 [l0, l1, l2, l3, l4, l5, l6, l7] [.int x] h Q ↔ (if x ≤ 0 then zEv sc 91 76 [l0, l1, l2, l3, l4, l5, l6, l7] [] h Q else zEv sc 91 55 [l0, l1, l2, l3, l4, l5, l6, l7] [] h Q) := zE_ifP (P := x ≤ 0) inferInstance 76 dz91_52 rfl rfl
theorem dz91_55 : decode (z_code 91) 55 = .ok (.iload 5, 2) := by decide +kernel
theorem u91_55 : zEv sc 91 55 [l0, l1, l2, l3, l4, .int x, l6, l7] [] h Q ↔ zEv sc 91 57 [l0, l1, l2, l3, l4, .int x, l6, l7] [.int x] h Q := zE_pure (q := (57, [l0, l1, l2, l3, l4, .int x, l6, l7], [.int x])) dz91_55 rfl rfl rfl
theorem dz91_57 : decode (z_code 91) 57 = .ok (.aload_n 0, 1) := by decide +kernel
theorem u91_57 : zEv sc 91 57 [.ref a, l1, l2, l3, l4, l5, l6, l7] [t0] h Q ↔ zEv sc 91 58 [.ref a, l1, l2, l3, l4, l5, l6, l7] [.ref a, t0] h Q := zE_pure (q := (58, [.ref a, l1, l2, l3, l4, l5, l6, l7], [.ref a, t0])) dz91_57 rfl rfl rfl
theorem dz91_58 : decode (z_code 91) 58 = .ok (.iconst 5, 1) := by decide +kernel
theorem u91_58 : zEv sc 91 58 [l0, l1, l2, l3, l4, l5, l6, l7] [t0, t1] h Q ↔ zEv sc 91 59 [l0, l1, l2, l3, l4, l5, l6, l7] [.int 5, t0, t1] h Q := zE_iconst dz91_58 (by decide +kernel)
theorem dz91_59 : decode (z_code 91) 59 = .ok (.invokevirtual 13, 3) := by decide +kernel
theorem u91_59 (ho : zO a 9) : zEv sc 91 59 [l0, l1, l2, l3, l4, l5, l6, l7] [.int z0, .ref a, t0] (zst p iv) Q ↔ zEv sc 81 0 [.ref a, .int z0] [] (zst p iv) (fun r h9 => zEv sc 91 62 [l0, l1, l2, l3, l4, l5, l6, l7] (r.toList ++ [t0]) h9 Q) := zE_call (kd := 0) (na := 2) (nr := 1) (as := [.ref a, .int z0]) (rest := [t0]) (Or.inl ⟨rfl, rfl⟩) dz91_59 (by decide +kernel : z_lk2 zCT (z_cls 91) 13 = some (81, 0, 300)) (fun z => by cases z) rfl rfl rfl (by decide +kernel) rfl rfl (Or.inr (zE_rc ho))
theorem dz91_62 : decode (z_code 91) 62 = .ok (.aload_n 0, 1) := by decide +kernel
theorem u91_62 : zEv sc 91 62 [.ref a, l1, l2, l3, l4, l5, l6, l7] [t0, t1] h Q ↔ zEv sc 91 63 [.ref a, l1, l2, l3, l4, l5, l6, l7] [.ref a, t0, t1] h Q := zE_pure (q := (63, [.ref a, l1, l2, l3, l4, l5, l6, l7], [.ref a, t0, t1])) dz91_62 rfl rfl rfl
theorem dz91_63 : decode (z_code 91) 63 = .ok (.bipush 6, 2) := by decide +kernel
theorem u91_63 : zEv sc 91 63 [l0, l1, l2, l3, l4, l5, l6, l7] [t0, t1, t2] h Q ↔ zEv sc 91 65 [l0, l1, l2, l3, l4, l5, l6, l7] [.int 6, t0, t1, t2] h Q := zE_bipush dz91_63 (by decide +kernel)
theorem dz91_65 : decode (z_code 91) 65 = .ok (.invokevirtual 13, 3) := by decide +kernel
theorem u91_65 (ho : zO a 9) : zEv sc 91 65 [l0, l1, l2, l3, l4, l5, l6, l7] [.int z0, .ref a, t0, t1] (zst p iv) Q ↔ zEv sc 81 0 [.ref a, .int z0] [] (zst p iv) (fun r h9 => zEv sc 91 68 [l0, l1, l2, l3, l4, l5, l6, l7] (r.toList ++ [t0, t1]) h9 Q) := zE_call (kd := 0) (na := 2) (nr := 2) (as := [.ref a, .int z0]) (rest := [t0, t1]) (Or.inl ⟨rfl, rfl⟩) dz91_65 (by decide +kernel : z_lk2 zCT (z_cls 91) 13 = some (81, 0, 300)) (fun z => by cases z) rfl rfl rfl (by decide +kernel) rfl rfl (Or.inr (zE_rc ho))
theorem dz91_68 : decode (z_code 91) 68 = .ok (.iadd, 1) := by decide +kernel
theorem u91_68 : zEv sc 91 68 [l0, l1, l2, l3, l4, l5, l6, l7] [.int x2, .int x1, t0] h Q ↔ zEv sc 91 69 [l0, l1, l2, l3, l4, l5, l6, l7] [.int (x1 + x2), t0] h Q := zE_pure (q := (69, [l0, l1, l2, l3, l4, l5, l6, l7], [.int (x1 + x2), t0])) dz91_68 rfl rfl rfl
theorem dz91_69 : decode (z_code 91) 69 = .ok (.if_icmp .ne 7, 3) := by decide +kernel
theorem u91_69 : zEv sc 91 69 [l0, l1, l2, l3, l4, l5, l6, l7] [.int x2, .int x1] h Q ↔ (if ¬ x1 = x2 then zEv sc 91 76 [l0, l1, l2, l3, l4, l5, l6, l7] [] h Q else zEv sc 91 72 [l0, l1, l2, l3, l4, l5, l6, l7] [] h Q) := zE_icP (P := ¬ x1 = x2) inferInstance 76 dz91_69 rfl rfl
theorem dz91_72 : decode (z_code 91) 72 = .ok (.iconst 1, 1) := by decide +kernel
theorem u91_72 : zEv sc 91 72 [l0, l1, l2, l3, l4, l5, l6, l7] [] h Q ↔ zEv sc 91 73 [l0, l1, l2, l3, l4, l5, l6, l7] [.int 1] h Q := zE_iconst dz91_72 (by decide +kernel)
theorem dz91_73 : decode (z_code 91) 73 = .ok (.goto 4, 3) := by decide +kernel
theorem u91_73 : zEv sc 91 73 [l0, l1, l2, l3, l4, l5, l6, l7] [t0] h Q ↔ zEv sc 91 77 [l0, l1, l2, l3, l4, l5, l6, l7] [t0] h Q := zE_go 77 dz91_73 rfl
theorem dz91_77 : decode (z_code 91) 77 = .ok (.istore 6, 2) := by decide +kernel
theorem u91_77 : zEv sc 91 77 [l0, l1, l2, l3, l4, l5, l6, l7] [.int x] h Q ↔ zEv sc 91 79 [l0, l1, l2, l3, l4, l5, .int x, l7] [] h Q := zE_pure (q := (79, [l0, l1, l2, l3, l4, l5, .int x, l7], [])) dz91_77 rfl rfl rfl
theorem dz91_79 : decode (z_code 91) 79 = .ok (.iload_n 1, 1) := by decide +kernel
theorem u91_79 : zEv sc 91 79 [l0, .int x, l2, l3, l4, l5, l6, l7] [] h Q ↔ zEv sc 91 80 [l0, .int x, l2, l3, l4, l5, l6, l7] [.int x] h Q := zE_pure (q := (80, [l0, .int x, l2, l3, l4, l5, l6, l7], [.int x])) dz91_79 rfl rfl rfl
theorem dz91_80 : decode (z_code 91) 80 = .ok (.ifCond .lt 51, 3) := by decide +kernel
theorem u91_80 : zEv sc 91 80 [l0, l1, l2, l3, l4, l5, l6, l7] [.int x] h Q ↔ (if x < 0 then zEv sc 91 131 [l0, l1, l2, l3, l4, l5, l6, l7] [] h Q else zEv sc 91 83 [l0, l1, l2, l3, l4, l5, l6, l7] [] h Q) := zE_ifP (P := x < 0) inferInstance 131 dz91_80 rfl rfl
theorem dz91_83 : decode (z_code 91) 83 = .ok (.iload_n 1, 1) := by decide +kernel
theorem u91_83 : zEv sc 91 83 [l0, .int x, l2, l3, l4, l5, l6, l7] [] h Q ↔ zEv sc 91 84 [l0, .int x, l2, l3, l4, l5, l6, l7] [.int x] h Q := zE_pure (q := (84, [l0, .int x, l2, l3, l4, l5, l6, l7], [.int x])) dz91_83 rfl rfl rfl
theorem dz91_84 : decode (z_code 91) 84 = .ok (.iload 4, 2) := by decide +kernel
theorem u91_84 : zEv sc 91 84 [l0, l1, l2, l3, .int x, l5, l6, l7] [t0] h Q ↔ zEv sc 91 86 [l0, l1, l2, l3, .int x, l5, l6, l7] [.int x, t0] h Q := zE_pure (q := (86, [l0, l1, l2, l3, .int x, l5, l6, l7], [.int x, t0])) dz91_84 rfl rfl rfl
theorem dz91_86 : decode (z_code 91) 86 = .ok (.if_icmp .ge 45, 3) := by decide +kernel
theorem u91_86 : zEv sc 91 86 [l0, l1, l2, l3, l4, l5, l6, l7] [.int x2, .int x1] h Q ↔ (if x2 ≤ x1 then zEv sc 91 131 [l0, l1, l2, l3, l4, l5, l6, l7] [] h Q else zEv sc 91 89 [l0, l1, l2, l3, l4, l5, l6, l7] [] h Q) := zE_icP (P := x2 ≤ x1) inferInstance 131 dz91_86 rfl rfl
theorem dz91_89 : decode (z_code 91) 89 = .ok (.iload 5, 2) := by decide +kernel
theorem u91_89 : zEv sc 91 89 [l0, l1, l2, l3, l4, .int x, l6, l7] [] h Q ↔ zEv sc 91 91 [l0, l1, l2, l3, l4, .int x, l6, l7] [.int x] h Q := zE_pure (q := (91, [l0, l1, l2, l3, l4, .int x, l6, l7], [.int x])) dz91_89 rfl rfl rfl
theorem dz91_91 : decode (z_code 91) 91 = .ok (.ldc 38, 2) := by decide +kernel
theorem u91_91 : zEv sc 91 91 [l0, l1, l2, l3, l4, l5, l6, l7] [t0] h Q ↔ zEv sc 91 93 [l0, l1, l2, l3, l4, l5, l6, l7] [.int (-1000002), t0] h Q := zE_ldc (by decide +kernel : z_lkK zKT (z_cls 91) 38 = some ((-1000002), 430)) dz91_91
theorem dz91_93 : decode (z_code 91) 93 = .ok (.if_icmp .ne 38, 3) := by decide +kernel
theorem u91_93 : zEv sc 91 93 [l0, l1, l2, l3, l4, l5, l6, l7] [.int x2, .int x1] h Q ↔ (if ¬ x1 = x2 then zEv sc 91 131 [l0, l1, l2, l3, l4, l5, l6, l7] [] h Q else zEv sc 91 96 [l0, l1, l2, l3, l4, l5, l6, l7] [] h Q) := zE_icP (P := ¬ x1 = x2) inferInstance 131 dz91_93 rfl rfl
theorem dz91_96 : decode (z_code 91) 96 = .ok (.iload_n 2, 1) := by decide +kernel
theorem u91_96 : zEv sc 91 96 [l0, l1, .int x, l3, l4, l5, l6, l7] [] h Q ↔ zEv sc 91 97 [l0, l1, .int x, l3, l4, l5, l6, l7] [.int x] h Q := zE_pure (q := (97, [l0, l1, .int x, l3, l4, l5, l6, l7], [.int x])) dz91_96 rfl rfl rfl
theorem dz91_97 : decode (z_code 91) 97 = .ok (.ifCond .le 34, 3) := by decide +kernel
theorem u91_97 : zEv sc 91 97 [l0, l1, l2, l3, l4, l5, l6, l7] [.int x] h Q ↔ (if x ≤ 0 then zEv sc 91 131 [l0, l1, l2, l3, l4, l5, l6, l7] [] h Q else zEv sc 91 100 [l0, l1, l2, l3, l4, l5, l6, l7] [] h Q) := zE_ifP (P := x ≤ 0) inferInstance 131 dz91_97 rfl rfl
theorem dz91_100 : decode (z_code 91) 100 = .ok (.iload_n 2, 1) := by decide +kernel
theorem u91_100 : zEv sc 91 100 [l0, l1, .int x, l3, l4, l5, l6, l7] [] h Q ↔ zEv sc 91 101 [l0, l1, .int x, l3, l4, l5, l6, l7] [.int x] h Q := zE_pure (q := (101, [l0, l1, .int x, l3, l4, l5, l6, l7], [.int x])) dz91_100 rfl rfl rfl
theorem dz91_101 : decode (z_code 91) 101 = .ok (.iconst 4, 1) := by decide +kernel
theorem u91_101 : zEv sc 91 101 [l0, l1, l2, l3, l4, l5, l6, l7] [t0] h Q ↔ zEv sc 91 102 [l0, l1, l2, l3, l4, l5, l6, l7] [.int 4, t0] h Q := zE_iconst dz91_101 (by decide +kernel)
theorem dz91_102 : decode (z_code 91) 102 = .ok (.if_icmp .ge 29, 3) := by decide +kernel
theorem u91_102 : zEv sc 91 102 [l0, l1, l2, l3, l4, l5, l6, l7] [.int x2, .int x1] h Q ↔ (if x2 ≤ x1 then zEv sc 91 131 [l0, l1, l2, l3, l4, l5, l6, l7] [] h Q else zEv sc 91 105 [l0, l1, l2, l3, l4, l5, l6, l7] [] h Q) := zE_icP (P := x2 ≤ x1) inferInstance 131 dz91_102 rfl rfl
theorem dz91_105 : decode (z_code 91) 105 = .ok (.iload_n 2, 1) := by decide +kernel
theorem u91_105 : zEv sc 91 105 [l0, l1, .int x, l3, l4, l5, l6, l7] [] h Q ↔ zEv sc 91 106 [l0, l1, .int x, l3, l4, l5, l6, l7] [.int x] h Q := zE_pure (q := (106, [l0, l1, .int x, l3, l4, l5, l6, l7], [.int x])) dz91_105 rfl rfl rfl
theorem dz91_106 : decode (z_code 91) 106 = .ok (.iconst 1, 1) := by decide +kernel
theorem u91_106 : zEv sc 91 106 [l0, l1, l2, l3, l4, l5, l6, l7] [t0] h Q ↔ zEv sc 91 107 [l0, l1, l2, l3, l4, l5, l6, l7] [.int 1, t0] h Q := zE_iconst dz91_106 (by decide +kernel)
theorem dz91_107 : decode (z_code 91) 107 = .ok (.if_icmp .ne 7, 3) := by decide +kernel
theorem u91_107 : zEv sc 91 107 [l0, l1, l2, l3, l4, l5, l6, l7] [.int x2, .int x1] h Q ↔ (if ¬ x1 = x2 then zEv sc 91 114 [l0, l1, l2, l3, l4, l5, l6, l7] [] h Q else zEv sc 91 110 [l0, l1, l2, l3, l4, l5, l6, l7] [] h Q) := zE_icP (P := ¬ x1 = x2) inferInstance 114 dz91_107 rfl rfl
theorem dz91_110 : decode (z_code 91) 110 = .ok (.iconst 1, 1) := by decide +kernel
theorem u91_110 : zEv sc 91 110 [l0, l1, l2, l3, l4, l5, l6, l7] [] h Q ↔ zEv sc 91 111 [l0, l1, l2, l3, l4, l5, l6, l7] [.int 1] h Q := zE_iconst dz91_110 (by decide +kernel)
theorem dz91_111 : decode (z_code 91) 111 = .ok (.goto 4, 3) := by decide +kernel
theorem u91_111 : zEv sc 91 111 [l0, l1, l2, l3, l4, l5, l6, l7] [t0] h Q ↔ zEv sc 91 115 [l0, l1, l2, l3, l4, l5, l6, l7] [t0] h Q := zE_go 115 dz91_111 rfl
theorem dz91_115 : decode (z_code 91) 115 = .ok (.iload_n 3, 1) := by decide +kernel
theorem u91_115 : zEv sc 91 115 [l0, l1, l2, .int x, l4, l5, l6, l7] [t0] h Q ↔ zEv sc 91 116 [l0, l1, l2, .int x, l4, l5, l6, l7] [.int x, t0] h Q := zE_pure (q := (116, [l0, l1, l2, .int x, l4, l5, l6, l7], [.int x, t0])) dz91_115 rfl rfl rfl
theorem dz91_116 : decode (z_code 91) 116 = .ok (.ifCond .lt 7, 3) := by decide +kernel
theorem u91_116 : zEv sc 91 116 [l0, l1, l2, l3, l4, l5, l6, l7] [.int x, t0] h Q ↔ (if x < 0 then zEv sc 91 123 [l0, l1, l2, l3, l4, l5, l6, l7] [t0] h Q else zEv sc 91 119 [l0, l1, l2, l3, l4, l5, l6, l7] [t0] h Q) := zE_ifP (P := x < 0) inferInstance 123 dz91_116 rfl rfl
theorem dz91_119 : decode (z_code 91) 119 = .ok (.iconst 1, 1) := by decide +kernel
theorem u91_119 : zEv sc 91 119 [l0, l1, l2, l3, l4, l5, l6, l7] [t0] h Q ↔ zEv sc 91 120 [l0, l1, l2, l3, l4, l5, l6, l7] [.int 1, t0] h Q := zE_iconst dz91_119 (by decide +kernel)
theorem dz91_120 : decode (z_code 91) 120 = .ok (.goto 4, 3) := by decide +kernel
theorem u91_120 : zEv sc 91 120 [l0, l1, l2, l3, l4, l5, l6, l7] [t0, t1] h Q ↔ zEv sc 91 124 [l0, l1, l2, l3, l4, l5, l6, l7] [t0, t1] h Q := zE_go 124 dz91_120 rfl
theorem dz91_124 : decode (z_code 91) 124 = .ok (.if_icmp .ne 7, 3) := by decide +kernel
theorem u91_124 : zEv sc 91 124 [l0, l1, l2, l3, l4, l5, l6, l7] [.int x2, .int x1] h Q ↔ (if ¬ x1 = x2 then zEv sc 91 131 [l0, l1, l2, l3, l4, l5, l6, l7] [] h Q else zEv sc 91 127 [l0, l1, l2, l3, l4, l5, l6, l7] [] h Q) := zE_icP (P := ¬ x1 = x2) inferInstance 131 dz91_124 rfl rfl
theorem dz91_127 : decode (z_code 91) 127 = .ok (.iconst 1, 1) := by decide +kernel
theorem u91_127 : zEv sc 91 127 [l0, l1, l2, l3, l4, l5, l6, l7] [] h Q ↔ zEv sc 91 128 [l0, l1, l2, l3, l4, l5, l6, l7] [.int 1] h Q := zE_iconst dz91_127 (by decide +kernel)
theorem dz91_128 : decode (z_code 91) 128 = .ok (.goto 4, 3) := by decide +kernel
theorem u91_128 : zEv sc 91 128 [l0, l1, l2, l3, l4, l5, l6, l7] [t0] h Q ↔ zEv sc 91 132 [l0, l1, l2, l3, l4, l5, l6, l7] [t0] h Q := zE_go 132 dz91_128 rfl
theorem dz91_132 : decode (z_code 91) 132 = .ok (.istore 7, 2) := by decide +kernel
theorem u91_132 : zEv sc 91 132 [l0, l1, l2, l3, l4, l5, l6, l7] [.int x] h Q ↔ zEv sc 91 134 [l0, l1, l2, l3, l4, l5, l6, .int x] [] h Q := zE_pure (q := (134, [l0, l1, l2, l3, l4, l5, l6, .int x], [])) dz91_132 rfl rfl rfl
theorem dz91_134 : decode (z_code 91) 134 = .ok (.iload 6, 2) := by decide +kernel
theorem u91_134 : zEv sc 91 134 [l0, l1, l2, l3, l4, l5, .int x, l7] [] h Q ↔ zEv sc 91 136 [l0, l1, l2, l3, l4, l5, .int x, l7] [.int x] h Q := zE_pure (q := (136, [l0, l1, l2, l3, l4, l5, .int x, l7], [.int x])) dz91_134 rfl rfl rfl
theorem dz91_136 : decode (z_code 91) 136 = .ok (.ifCond .ne 8, 3) := by decide +kernel
theorem u91_136 : zEv sc 91 136 [l0, l1, l2, l3, l4, l5, l6, l7] [.int x] h Q ↔ (if ¬ x = 0 then zEv sc 91 144 [l0, l1, l2, l3, l4, l5, l6, l7] [] h Q else zEv sc 91 139 [l0, l1, l2, l3, l4, l5, l6, l7] [] h Q) := zE_ifP (P := ¬ x = 0) inferInstance 144 dz91_136 rfl rfl
theorem dz91_139 : decode (z_code 91) 139 = .ok (.iload 7, 2) := by decide +kernel
theorem u91_139 : zEv sc 91 139 [l0, l1, l2, l3, l4, l5, l6, .int x] [] h Q ↔ zEv sc 91 141 [l0, l1, l2, l3, l4, l5, l6, .int x] [.int x] h Q := zE_pure (q := (141, [l0, l1, l2, l3, l4, l5, l6, .int x], [.int x])) dz91_139 rfl rfl rfl
theorem dz91_141 : decode (z_code 91) 141 = .ok (.ifCond .eq 18, 3) := by decide +kernel
theorem u91_141 : zEv sc 91 141 [l0, l1, l2, l3, l4, l5, l6, l7] [.int x] h Q ↔ (if x = 0 then zEv sc 91 159 [l0, l1, l2, l3, l4, l5, l6, l7] [] h Q else zEv sc 91 144 [l0, l1, l2, l3, l4, l5, l6, l7] [] h Q) := zE_ifP (P := x = 0) inferInstance 159 dz91_141 rfl rfl
theorem dz91_159 : decode (z_code 91) 159 = .ok (.iconst 0, 1) := by decide +kernel
theorem u91_159 : zEv sc 91 159 [l0, l1, l2, l3, l4, l5, l6, l7] [] h Q ↔ zEv sc 91 160 [l0, l1, l2, l3, l4, l5, l6, l7] [.int 0] h Q := zE_iconst dz91_159 (by decide +kernel)
theorem dz91_160 : decode (z_code 91) 160 = .ok (.ireturn, 1) := by decide +kernel
theorem u91_160 : zEv sc 91 160 [l0, l1, l2, l3, l4, l5, l6, l7] [.int x] h Q ↔ ((x = 0 ∨ x = 1) ∧ Q (some (.int x)) h) := zE_rz dz91_160 (by decide +kernel)
theorem dz91_144 : decode (z_code 91) 144 = .ok (.aload_n 0, 1) := by decide +kernel
theorem u91_144 : zEv sc 91 144 [.ref a, l1, l2, l3, l4, l5, l6, l7] [] h Q ↔ zEv sc 91 145 [.ref a, l1, l2, l3, l4, l5, l6, l7] [.ref a] h Q := zE_pure (q := (145, [.ref a, l1, l2, l3, l4, l5, l6, l7], [.ref a])) dz91_144 rfl rfl rfl
theorem dz91_145 : decode (z_code 91) 145 = .ok (.bipush 10, 2) := by decide +kernel
theorem u91_145 : zEv sc 91 145 [l0, l1, l2, l3, l4, l5, l6, l7] [t0] h Q ↔ zEv sc 91 147 [l0, l1, l2, l3, l4, l5, l6, l7] [.int 10, t0] h Q := zE_bipush dz91_145 (by decide +kernel)
theorem dz91_147 : decode (z_code 91) 147 = .ok (.invokevirtual 13, 3) := by decide +kernel
theorem u91_147 (ho : zO a 9) : zEv sc 91 147 [l0, l1, l2, l3, l4, l5, l6, l7] [.int z0, .ref a] (zst p iv) Q ↔ zEv sc 81 0 [.ref a, .int z0] [] (zst p iv) (fun r h9 => zEv sc 91 150 [l0, l1, l2, l3, l4, l5, l6, l7] (r.toList ++ []) h9 Q) := zE_call (kd := 0) (na := 2) (nr := 0) (as := [.ref a, .int z0]) (rest := []) (Or.inl ⟨rfl, rfl⟩) dz91_147 (by decide +kernel : z_lk2 zCT (z_cls 91) 13 = some (81, 0, 300)) (fun z => by cases z) rfl rfl rfl (by decide +kernel) rfl rfl (Or.inr (zE_rc ho))
theorem dz91_150 : decode (z_code 91) 150 = .ok (.iload 4, 2) := by decide +kernel
theorem u91_150 : zEv sc 91 150 [l0, l1, l2, l3, .int x, l5, l6, l7] [t0] h Q ↔ zEv sc 91 152 [l0, l1, l2, l3, .int x, l5, l6, l7] [.int x, t0] h Q := zE_pure (q := (152, [l0, l1, l2, l3, .int x, l5, l6, l7], [.int x, t0])) dz91_150 rfl rfl rfl
theorem dz91_152 : decode (z_code 91) 152 = .ok (.if_icmp .ne 7, 3) := by decide +kernel
theorem u91_152 : zEv sc 91 152 [l0, l1, l2, l3, l4, l5, l6, l7] [.int x2, .int x1] h Q ↔ (if ¬ x1 = x2 then zEv sc 91 159 [l0, l1, l2, l3, l4, l5, l6, l7] [] h Q else zEv sc 91 155 [l0, l1, l2, l3, l4, l5, l6, l7] [] h Q) := zE_icP (P := ¬ x1 = x2) inferInstance 159 dz91_152 rfl rfl
theorem dz91_155 : decode (z_code 91) 155 = .ok (.iconst 1, 1) := by decide +kernel
theorem u91_155 : zEv sc 91 155 [l0, l1, l2, l3, l4, l5, l6, l7] [] h Q ↔ zEv sc 91 156 [l0, l1, l2, l3, l4, l5, l6, l7] [.int 1] h Q := zE_iconst dz91_155 (by decide +kernel)
theorem dz91_156 : decode (z_code 91) 156 = .ok (.goto 4, 3) := by decide +kernel
theorem u91_156 : zEv sc 91 156 [l0, l1, l2, l3, l4, l5, l6, l7] [t0] h Q ↔ zEv sc 91 160 [l0, l1, l2, l3, l4, l5, l6, l7] [t0] h Q := zE_go 160 dz91_156 rfl
theorem dz91_123 : decode (z_code 91) 123 = .ok (.iconst 0, 1) := by decide +kernel
theorem u91_123 : zEv sc 91 123 [l0, l1, l2, l3, l4, l5, l6, l7] [t0] h Q ↔ zEv sc 91 124 [l0, l1, l2, l3, l4, l5, l6, l7] [.int 0, t0] h Q := zE_iconst dz91_123 (by decide +kernel)
theorem dz91_114 : decode (z_code 91) 114 = .ok (.iconst 0, 1) := by decide +kernel
theorem u91_114 : zEv sc 91 114 [l0, l1, l2, l3, l4, l5, l6, l7] [] h Q ↔ zEv sc 91 115 [l0, l1, l2, l3, l4, l5, l6, l7] [.int 0] h Q := zE_iconst dz91_114 (by decide +kernel)
theorem dz91_131 : decode (z_code 91) 131 = .ok (.iconst 0, 1) := by decide +kernel
theorem u91_131 : zEv sc 91 131 [l0, l1, l2, l3, l4, l5, l6, l7] [] h Q ↔ zEv sc 91 132 [l0, l1, l2, l3, l4, l5, l6, l7] [.int 0] h Q := zE_iconst dz91_131 (by decide +kernel)
theorem dz91_76 : decode (z_code 91) 76 = .ok (.iconst 0, 1) := by decide +kernel
theorem u91_76 : zEv sc 91 76 [l0, l1, l2, l3, l4, l5, l6, l7] [] h Q ↔ zEv sc 91 77 [l0, l1, l2, l3, l4, l5, l6, l7] [.int 0] h Q := zE_iconst dz91_76 (by decide +kernel)
/-! method 92: FieldMixturesLaw.acts(LFieldMixtures;II)Z -/
theorem dz92_0 : decode (z_code 92) 0 = .ok (.iload_n 1, 1) := by decide +kernel
theorem u92_0 : zEv sc 92 0 [l0, .int x, l2, l3, l4, l5, l6, l7, l8, l9, l10] [] h Q ↔ zEv sc 92 1 [l0, .int x, l2, l3, l4, l5, l6, l7, l8, l9, l10] [.int x] h Q := zE_pure (q := (1, [l0, .int x, l2, l3, l4, l5, l6, l7, l8, l9, l10], [.int x])) dz92_0 rfl rfl rfl
theorem dz92_1 : decode (z_code 92) 1 = .ok (.bipush 16, 2) := by decide +kernel
theorem u92_1 : zEv sc 92 1 [l0, l1, l2, l3, l4, l5, l6, l7, l8, l9, l10] [t0] h Q ↔ zEv sc 92 3 [l0, l1, l2, l3, l4, l5, l6, l7, l8, l9, l10] [.int 16, t0] h Q := zE_bipush dz92_1 (by decide +kernel)
theorem dz92_3 : decode (z_code 92) 3 = .ok (.invokestatic 25, 3) := by decide +kernel
theorem u92_3 : zEv sc 92 3 [l0, l1, l2, l3, l4, l5, l6, l7, l8, l9, l10] [.int z1, .int z0] h Q ↔ zEv sc 87 0 [.int z0, .int z1] [] h (fun r h9 => zEv sc 92 6 [l0, l1, l2, l3, l4, l5, l6, l7, l8, l9, l10] (r.toList ++ []) h9 Q) := zE_call (kd := 1) (na := 2) (nr := 0) (as := [.int z0, .int z1]) (rest := []) (Or.inr ⟨rfl, rfl⟩) dz92_3 (by decide +kernel : z_lk2 zCT (z_cls 92) 25 = some (87, 0, 345)) (fun _ => ⟨by decide +kernel, by decide +kernel⟩) rfl rfl rfl (by decide +kernel) rfl rfl (Or.inl rfl)
theorem dz92_6 : decode (z_code 92) 6 = .ok (.istore_n 3, 1) := by decide +kernel
theorem u92_6 : zEv sc 92 6 [l0, l1, l2, l3, l4, l5, l6, l7, l8, l9, l10] [.int x] h Q ↔ zEv sc 92 7 [l0, l1, l2, .int x, l4, l5, l6, l7, l8, l9, l10] [] h Q := zE_pure (q := (7, [l0, l1, l2, .int x, l4, l5, l6, l7, l8, l9, l10], [])) dz92_6 rfl rfl rfl
theorem dz92_7 : decode (z_code 92) 7 = .ok (.iload_n 1, 1) := by decide +kernel
theorem u92_7 : zEv sc 92 7 [l0, .int x, l2, l3, l4, l5, l6, l7, l8, l9, l10] [] h Q ↔ zEv sc 92 8 [l0, .int x, l2, l3, l4, l5, l6, l7, l8, l9, l10] [.int x] h Q := zE_pure (q := (8, [l0, .int x, l2, l3, l4, l5, l6, l7, l8, l9, l10], [.int x])) dz92_7 rfl rfl rfl
theorem dz92_8 : decode (z_code 92) 8 = .ok (.iconst 4, 1) := by decide +kernel
theorem u92_8 : zEv sc 92 8 [l0, l1, l2, l3, l4, l5, l6, l7, l8, l9, l10] [t0] h Q ↔ zEv sc 92 9 [l0, l1, l2, l3, l4, l5, l6, l7, l8, l9, l10] [.int 4, t0] h Q := zE_iconst dz92_8 (by decide +kernel)
theorem dz92_9 : decode (z_code 92) 9 = .ok (.ishr, 1) := by decide +kernel
theorem u92_9 : zEv sc 92 9 [l0, l1, l2, l3, l4, l5, l6, l7, l8, l9, l10] [.int x2, .int x1] h Q ↔ zEv sc 92 10 [l0, l1, l2, l3, l4, l5, l6, l7, l8, l9, l10] [.int (x1 >>> (x2 &&& 31))] h Q := zE_pure (q := (10, [l0, l1, l2, l3, l4, l5, l6, l7, l8, l9, l10], [.int (x1 >>> (x2 &&& 31))])) dz92_9 rfl rfl rfl
theorem dz92_10 : decode (z_code 92) 10 = .ok (.iconst 3, 1) := by decide +kernel
theorem u92_10 : zEv sc 92 10 [l0, l1, l2, l3, l4, l5, l6, l7, l8, l9, l10] [t0] h Q ↔ zEv sc 92 11 [l0, l1, l2, l3, l4, l5, l6, l7, l8, l9, l10] [.int 3, t0] h Q := zE_iconst dz92_10 (by decide +kernel)
theorem dz92_11 : decode (z_code 92) 11 = .ok (.invokestatic 25, 3) := by decide +kernel
theorem u92_11 : zEv sc 92 11 [l0, l1, l2, l3, l4, l5, l6, l7, l8, l9, l10] [.int z1, .int z0] h Q ↔ zEv sc 87 0 [.int z0, .int z1] [] h (fun r h9 => zEv sc 92 14 [l0, l1, l2, l3, l4, l5, l6, l7, l8, l9, l10] (r.toList ++ []) h9 Q) := zE_call (kd := 1) (na := 2) (nr := 0) (as := [.int z0, .int z1]) (rest := []) (Or.inr ⟨rfl, rfl⟩) dz92_11 (by decide +kernel : z_lk2 zCT (z_cls 92) 25 = some (87, 0, 345)) (fun _ => ⟨by decide +kernel, by decide +kernel⟩) rfl rfl rfl (by decide +kernel) rfl rfl (Or.inl rfl)
theorem dz92_14 : decode (z_code 92) 14 = .ok (.istore 4, 2) := by decide +kernel
theorem u92_14 : zEv sc 92 14 [l0, l1, l2, l3, l4, l5, l6, l7, l8, l9, l10] [.int x] h Q ↔ zEv sc 92 16 [l0, l1, l2, l3, .int x, l5, l6, l7, l8, l9, l10] [] h Q := zE_pure (q := (16, [l0, l1, l2, l3, .int x, l5, l6, l7, l8, l9, l10], [])) dz92_14 rfl rfl rfl
theorem dz92_16 : decode (z_code 92) 16 = .ok (.iload 4, 2) := by decide +kernel
theorem u92_16 : zEv sc 92 16 [l0, l1, l2, l3, .int x, l5, l6, l7, l8, l9, l10] [] h Q ↔ zEv sc 92 18 [l0, l1, l2, l3, .int x, l5, l6, l7, l8, l9, l10] [.int x] h Q := zE_pure (q := (18, [l0, l1, l2, l3, .int x, l5, l6, l7, l8, l9, l10], [.int x])) dz92_16 rfl rfl rfl
theorem dz92_18 : decode (z_code 92) 18 = .ok (.iconst 1, 1) := by decide +kernel
theorem u92_18 : zEv sc 92 18 [l0, l1, l2, l3, l4, l5, l6, l7, l8, l9, l10] [t0] h Q ↔ zEv sc 92 19 [l0, l1, l2, l3, l4, l5, l6, l7, l8, l9, l10] [.int 1, t0] h Q := zE_iconst dz92_18 (by decide +kernel)
theorem dz92_19 : decode (z_code 92) 19 = .ok (.if_icmp .le 7, 3) := by decide +kernel
theorem u92_19 : zEv sc 92 19 [l0, l1, l2, l3, l4, l5, l6, l7, l8, l9, l10] [.int x2, .int x1] h Q ↔ (if x1 ≤ x2 then zEv sc 92 26 [l0, l1, l2, l3, l4, l5, l6, l7, l8, l9, l10] [] h Q else zEv sc 92 22 [l0, l1, l2, l3, l4, l5, l6, l7, l8, l9, l10] [] h Q) := zE_icP (P := x1 ≤ x2) inferInstance 26 dz92_19 rfl rfl
theorem dz92_22 : decode (z_code 92) 22 = .ok (.iconst 1, 1) := by decide +kernel
theorem u92_22 : zEv sc 92 22 [l0, l1, l2, l3, l4, l5, l6, l7, l8, l9, l10] [] h Q ↔ zEv sc 92 23 [l0, l1, l2, l3, l4, l5, l6, l7, l8, l9, l10] [.int 1] h Q := zE_iconst dz92_22 (by decide +kernel)
theorem dz92_23 : decode (z_code 92) 23 = .ok (.goto 5, 3) := by decide +kernel
theorem u92_23 : zEv sc 92 23 [l0, l1, l2, l3, l4, l5, l6, l7, l8, l9, l10] [t0] h Q ↔ zEv sc 92 28 [l0, l1, l2, l3, l4, l5, l6, l7, l8, l9, l10] [t0] h Q := zE_go 28 dz92_23 rfl
theorem dz92_28 : decode (z_code 92) 28 = .ok (.istore 5, 2) := by decide +kernel
theorem u92_28 : zEv sc 92 28 [l0, l1, l2, l3, l4, l5, l6, l7, l8, l9, l10] [.int x] h Q ↔ zEv sc 92 30 [l0, l1, l2, l3, l4, .int x, l6, l7, l8, l9, l10] [] h Q := zE_pure (q := (30, [l0, l1, l2, l3, l4, .int x, l6, l7, l8, l9, l10], [])) dz92_28 rfl rfl rfl
theorem dz92_30 : decode (z_code 92) 30 = .ok (.aload_n 0, 1) := by decide +kernel
theorem u92_30 : zEv sc 92 30 [.ref a, l1, l2, l3, l4, l5, l6, l7, l8, l9, l10] [] h Q ↔ zEv sc 92 31 [.ref a, l1, l2, l3, l4, l5, l6, l7, l8, l9, l10] [.ref a] h Q := zE_pure (q := (31, [.ref a, l1, l2, l3, l4, l5, l6, l7, l8, l9, l10], [.ref a])) dz92_30 rfl rfl rfl
theorem dz92_31 : decode (z_code 92) 31 = .ok (.iload 5, 2) := by decide +kernel
theorem u92_31 : zEv sc 92 31 [l0, l1, l2, l3, l4, .int x, l6, l7, l8, l9, l10] [t0] h Q ↔ zEv sc 92 33 [l0, l1, l2, l3, l4, .int x, l6, l7, l8, l9, l10] [.int x, t0] h Q := zE_pure (q := (33, [l0, l1, l2, l3, l4, .int x, l6, l7, l8, l9, l10], [.int x, t0])) dz92_31 rfl rfl rfl
theorem dz92_33 : decode (z_code 92) 33 = .ok (.iconst (-1), 1) := by decide +kernel
theorem u92_33 : zEv sc 92 33 [l0, l1, l2, l3, l4, l5, l6, l7, l8, l9, l10] [t0, t1] h Q ↔ zEv sc 92 34 [l0, l1, l2, l3, l4, l5, l6, l7, l8, l9, l10] [.int (-1), t0, t1] h Q := zE_iconst dz92_33 (by decide +kernel)
theorem dz92_34 : decode (z_code 92) 34 = .ok (.invokevirtual 31, 3) := by decide +kernel
theorem u92_34 (ho : zO a 9) : zEv sc 92 34 [l0, l1, l2, l3, l4, l5, l6, l7, l8, l9, l10] [.int z1, .int z0, .ref a] (zst p iv) Q ↔ zEv sc 63 0 [.ref a, .int z0, .int z1, .null] [] (zst p iv) (fun r h9 => zEv sc 92 37 [l0, l1, l2, l3, l4, l5, l6, l7, l8, l9, l10] (r.toList ++ []) h9 Q) := zE_call (kd := 0) (na := 3) (nr := 0) (as := [.ref a, .int z0, .int z1]) (rest := []) (Or.inl ⟨rfl, rfl⟩) dz92_34 (by decide +kernel : z_lk2 zCT (z_cls 92) 31 = some (63, 0, 400)) (fun z => by cases z) rfl rfl rfl (by decide +kernel) rfl rfl (Or.inr (zE_rc ho))
theorem dz92_37 : decode (z_code 92) 37 = .ok (.istore 6, 2) := by decide +kernel
theorem u92_37 : zEv sc 92 37 [l0, l1, l2, l3, l4, l5, l6, l7, l8, l9, l10] [.int x] h Q ↔ zEv sc 92 39 [l0, l1, l2, l3, l4, l5, .int x, l7, l8, l9, l10] [] h Q := zE_pure (q := (39, [l0, l1, l2, l3, l4, l5, .int x, l7, l8, l9, l10], [])) dz92_37 rfl rfl rfl
theorem dz92_39 : decode (z_code 92) 39 = .ok (.iload 6, 2) := by decide +kernel
theorem u92_39 : zEv sc 92 39 [l0, l1, l2, l3, l4, l5, .int x, l7, l8, l9, l10] [] h Q ↔ zEv sc 92 41 [l0, l1, l2, l3, l4, l5, .int x, l7, l8, l9, l10] [.int x] h Q := zE_pure (q := (41, [l0, l1, l2, l3, l4, l5, .int x, l7, l8, l9, l10], [.int x])) dz92_39 rfl rfl rfl
theorem dz92_41 : decode (z_code 92) 41 = .ok (.ifCond .ne 7, 3) := by decide +kernel
theorem u92_41 : zEv sc 92 41 [l0, l1, l2, l3, l4, l5, l6, l7, l8, l9, l10] [.int x] h Q ↔ (if ¬ x = 0 then zEv sc 92 48 [l0, l1, l2, l3, l4, l5, l6, l7, l8, l9, l10] [] h Q else zEv sc 92 44 [l0, l1, l2, l3, l4, l5, l6, l7, l8, l9, l10] [] h Q) := zE_ifP (P := ¬ x = 0) inferInstance 48 dz92_41 rfl rfl
theorem dz92_44 : decode (z_code 92) 44 = .ok (.iconst 0, 1) := by decide +kernel
theorem u92_44 : zEv sc 92 44 [l0, l1, l2, l3, l4, l5, l6, l7, l8, l9, l10] [] h Q ↔ zEv sc 92 45 [l0, l1, l2, l3, l4, l5, l6, l7, l8, l9, l10] [.int 0] h Q := zE_iconst dz92_44 (by decide +kernel)
theorem dz92_45 : decode (z_code 92) 45 = .ok (.goto 15, 3) := by decide +kernel
theorem u92_45 : zEv sc 92 45 [l0, l1, l2, l3, l4, l5, l6, l7, l8, l9, l10] [t0] h Q ↔ zEv sc 92 60 [l0, l1, l2, l3, l4, l5, l6, l7, l8, l9, l10] [t0] h Q := zE_go 60 dz92_45 rfl
theorem dz92_60 : decode (z_code 92) 60 = .ok (.istore 7, 2) := by decide +kernel
theorem u92_60 : zEv sc 92 60 [l0, l1, l2, l3, l4, l5, l6, l7, l8, l9, l10] [.int x] h Q ↔ zEv sc 92 62 [l0, l1, l2, l3, l4, l5, l6, .int x, l8, l9, l10] [] h Q := zE_pure (q := (62, [l0, l1, l2, l3, l4, l5, l6, .int x, l8, l9, l10], [])) dz92_60 rfl rfl rfl
theorem dz92_62 : decode (z_code 92) 62 = .ok (.iload_n 3, 1) := by decide +kernel
theorem u92_62 : zEv sc 92 62 [l0, l1, l2, .int x, l4, l5, l6, l7, l8, l9, l10] [] h Q ↔ zEv sc 92 63 [l0, l1, l2, .int x, l4, l5, l6, l7, l8, l9, l10] [.int x] h Q := zE_pure (q := (63, [l0, l1, l2, .int x, l4, l5, l6, l7, l8, l9, l10], [.int x])) dz92_62 rfl rfl rfl
theorem dz92_63 : decode (z_code 92) 63 = .ok (.bipush 6, 2) := by decide +kernel
theorem u92_63 : zEv sc 92 63 [l0, l1, l2, l3, l4, l5, l6, l7, l8, l9, l10] [t0] h Q ↔ zEv sc 92 65 [l0, l1, l2, l3, l4, l5, l6, l7, l8, l9, l10] [.int 6, t0] h Q := zE_bipush dz92_63 (by decide +kernel)
theorem dz92_65 : decode (z_code 92) 65 = .ok (.if_icmp .ge 123, 3) := by decide +kernel
theorem u92_65 : zEv sc 92 65 [l0, l1, l2, l3, l4, l5, l6, l7, l8, l9, l10] [.int x2, .int x1] h Q ↔ (if x2 ≤ x1 then zEv sc 92 188 [l0, l1, l2, l3, l4, l5, l6, l7, l8, l9, l10] [] h Q else zEv sc 92 68 [l0, l1, l2, l3, l4, l5, l6, l7, l8, l9, l10] [] h Q) := zE_icP (P := x2 ≤ x1) inferInstance 188 dz92_65 rfl rfl
theorem dz92_68 : decode (z_code 92) 68 = .ok (.iload_n 2, 1) := by decide +kernel
theorem u92_68 : zEv sc 92 68 [l0, l1, .int x, l3, l4, l5, l6, l7, l8, l9, l10] [] h Q ↔ zEv sc 92 69 [l0, l1, .int x, l3, l4, l5, l6, l7, l8, l9, l10] [.int x] h Q := zE_pure (q := (69, [l0, l1, .int x, l3, l4, l5, l6, l7, l8, l9, l10], [.int x])) dz92_68 rfl rfl rfl
theorem dz92_69 : decode (z_code 92) 69 = .ok (.bipush 8, 2) := by decide +kernel
theorem u92_69 : zEv sc 92 69 [l0, l1, l2, l3, l4, l5, l6, l7, l8, l9, l10] [t0] h Q ↔ zEv sc 92 71 [l0, l1, l2, l3, l4, l5, l6, l7, l8, l9, l10] [.int 8, t0] h Q := zE_bipush dz92_69 (by decide +kernel)
theorem dz92_71 : decode (z_code 92) 71 = .ok (.ishr, 1) := by decide +kernel
theorem u92_71 : zEv sc 92 71 [l0, l1, l2, l3, l4, l5, l6, l7, l8, l9, l10] [.int x2, .int x1] h Q ↔ zEv sc 92 72 [l0, l1, l2, l3, l4, l5, l6, l7, l8, l9, l10] [.int (x1 >>> (x2 &&& 31))] h Q := zE_pure (q := (72, [l0, l1, l2, l3, l4, l5, l6, l7, l8, l9, l10], [.int (x1 >>> (x2 &&& 31))])) dz92_71 rfl rfl rfl
theorem dz92_72 : decode (z_code 92) 72 = .ok (.bipush 101, 2) := by decide +kernel
theorem u92_72 : zEv sc 92 72 [l0, l1, l2, l3, l4, l5, l6, l7, l8, l9, l10] [t0] h Q ↔ zEv sc 92 74 [l0, l1, l2, l3, l4, l5, l6, l7, l8, l9, l10] [.int 101, t0] h Q := zE_bipush dz92_72 (by decide +kernel)
theorem dz92_74 : decode (z_code 92) 74 = .ok (.invokestatic 25, 3) := by decide +kernel
theorem u92_74 : zEv sc 92 74 [l0, l1, l2, l3, l4, l5, l6, l7, l8, l9, l10] [.int z1, .int z0] h Q ↔ zEv sc 87 0 [.int z0, .int z1] [] h (fun r h9 => zEv sc 92 77 [l0, l1, l2, l3, l4, l5, l6, l7, l8, l9, l10] (r.toList ++ []) h9 Q) := zE_call (kd := 1) (na := 2) (nr := 0) (as := [.int z0, .int z1]) (rest := []) (Or.inr ⟨rfl, rfl⟩) dz92_74 (by decide +kernel : z_lk2 zCT (z_cls 92) 25 = some (87, 0, 345)) (fun _ => ⟨by decide +kernel, by decide +kernel⟩) rfl rfl rfl (by decide +kernel) rfl rfl (Or.inl rfl)
theorem dz92_77 : decode (z_code 92) 77 = .ok (.istore 8, 2) := by decide +kernel
theorem u92_77 : zEv sc 92 77 [l0, l1, l2, l3, l4, l5, l6, l7, l8, l9, l10] [.int x] h Q ↔ zEv sc 92 79 [l0, l1, l2, l3, l4, l5, l6, l7, .int x, l9, l10] [] h Q := zE_pure (q := (79, [l0, l1, l2, l3, l4, l5, l6, l7, .int x, l9, l10], [])) dz92_77 rfl rfl rfl
theorem dz92_79 : decode (z_code 92) 79 = .ok (.aload_n 0, 1) := by decide +kernel
theorem u92_79 : zEv sc 92 79 [.ref a, l1, l2, l3, l4, l5, l6, l7, l8, l9, l10] [] h Q ↔ zEv sc 92 80 [.ref a, l1, l2, l3, l4, l5, l6, l7, l8, l9, l10] [.ref a] h Q := zE_pure (q := (80, [.ref a, l1, l2, l3, l4, l5, l6, l7, l8, l9, l10], [.ref a])) dz92_79 rfl rfl rfl
theorem dz92_80 : decode (z_code 92) 80 = .ok (.iconst 5, 1) := by decide +kernel
theorem u92_80 : zEv sc 92 80 [l0, l1, l2, l3, l4, l5, l6, l7, l8, l9, l10] [t0] h Q ↔ zEv sc 92 81 [l0, l1, l2, l3, l4, l5, l6, l7, l8, l9, l10] [.int 5, t0] h Q := zE_iconst dz92_80 (by decide +kernel)
theorem dz92_81 : decode (z_code 92) 81 = .ok (.iload 5, 2) := by decide +kernel
theorem u92_81 : zEv sc 92 81 [l0, l1, l2, l3, l4, .int x, l6, l7, l8, l9, l10] [t0, t1] h Q ↔ zEv sc 92 83 [l0, l1, l2, l3, l4, .int x, l6, l7, l8, l9, l10] [.int x, t0, t1] h Q := zE_pure (q := (83, [l0, l1, l2, l3, l4, .int x, l6, l7, l8, l9, l10], [.int x, t0, t1])) dz92_81 rfl rfl rfl
theorem dz92_83 : decode (z_code 92) 83 = .ok (.iadd, 1) := by decide +kernel
theorem u92_83 : zEv sc 92 83 [l0, l1, l2, l3, l4, l5, l6, l7, l8, l9, l10] [.int x2, .int x1, t0] h Q ↔ zEv sc 92 84 [l0, l1, l2, l3, l4, l5, l6, l7, l8, l9, l10] [.int (x1 + x2), t0] h Q := zE_pure (q := (84, [l0, l1, l2, l3, l4, l5, l6, l7, l8, l9, l10], [.int (x1 + x2), t0])) dz92_83 rfl rfl rfl
theorem dz92_84 : decode (z_code 92) 84 = .ok (.invokevirtual 13, 3) := by decide +kernel
theorem u92_84 (ho : zO a 9) : zEv sc 92 84 [l0, l1, l2, l3, l4, l5, l6, l7, l8, l9, l10] [.int z0, .ref a] (zst p iv) Q ↔ zEv sc 81 0 [.ref a, .int z0] [] (zst p iv) (fun r h9 => zEv sc 92 87 [l0, l1, l2, l3, l4, l5, l6, l7, l8, l9, l10] (r.toList ++ []) h9 Q) := zE_call (kd := 0) (na := 2) (nr := 0) (as := [.ref a, .int z0]) (rest := []) (Or.inl ⟨rfl, rfl⟩) dz92_84 (by decide +kernel : z_lk2 zCT (z_cls 92) 13 = some (81, 0, 300)) (fun z => by cases z) rfl rfl rfl (by decide +kernel) rfl rfl (Or.inr (zE_rc ho))
theorem dz92_87 : decode (z_code 92) 87 = .ok (.istore 9, 2) := by decide +kernel
theorem u92_87 : zEv sc 92 87 [l0, l1, l2, l3, l4, l5, l6, l7, l8, l9, l10] [.int x] h Q ↔ zEv sc 92 89 [l0, l1, l2, l3, l4, l5, l6, l7, l8, .int x, l10] [] h Q := zE_pure (q := (89, [l0, l1, l2, l3, l4, l5, l6, l7, l8, .int x, l10], [])) dz92_87 rfl rfl rfl
theorem dz92_89 : decode (z_code 92) 89 = .ok (.aload_n 0, 1) := by decide +kernel
theorem u92_89 : zEv sc 92 89 [.ref a, l1, l2, l3, l4, l5, l6, l7, l8, l9, l10] [] h Q ↔ zEv sc 92 90 [.ref a, l1, l2, l3, l4, l5, l6, l7, l8, l9, l10] [.ref a] h Q := zE_pure (q := (90, [.ref a, l1, l2, l3, l4, l5, l6, l7, l8, l9, l10], [.ref a])) dz92_89 rfl rfl rfl
theorem dz92_90 : decode (z_code 92) 90 = .ok (.iload 4, 2) := by decide +kernel
theorem u92_90 : zEv sc 92 90 [l0, l1, l2, l3, .int x, l5, l6, l7, l8, l9, l10] [t0] h Q ↔ zEv sc 92 92 [l0, l1, l2, l3, .int x, l5, l6, l7, l8, l9, l10] [.int x, t0] h Q := zE_pure (q := (92, [l0, l1, l2, l3, .int x, l5, l6, l7, l8, l9, l10], [.int x, t0])) dz92_90 rfl rfl rfl
theorem dz92_92 : decode (z_code 92) 92 = .ok (.iload 7, 2) := by decide +kernel
theorem u92_92 : zEv sc 92 92 [l0, l1, l2, l3, l4, l5, l6, .int x, l8, l9, l10] [t0, t1] h Q ↔ zEv sc 92 94 [l0, l1, l2, l3, l4, l5, l6, .int x, l8, l9, l10] [.int x, t0, t1] h Q := zE_pure (q := (94, [l0, l1, l2, l3, l4, l5, l6, .int x, l8, l9, l10], [.int x, t0, t1])) dz92_92 rfl rfl rfl
theorem dz92_94 : decode (z_code 92) 94 = .ok (.iload 8, 2) := by decide +kernel
theorem u92_94 : zEv sc 92 94 [l0, l1, l2, l3, l4, l5, l6, l7, .int x, l9, l10] [t0, t1, t2] h Q ↔ zEv sc 92 96 [l0, l1, l2, l3, l4, l5, l6, l7, .int x, l9, l10] [.int x, t0, t1, t2] h Q := zE_pure (q := (96, [l0, l1, l2, l3, l4, l5, l6, l7, .int x, l9, l10], [.int x, t0, t1, t2])) dz92_94 rfl rfl rfl
theorem dz92_96 : decode (z_code 92) 96 = .ok (.invokevirtual 61, 3) := by decide +kernel
theorem u92_96 (ho : zO a 9) : zEv sc 92 96 [l0, l1, l2, l3, l4, l5, l6, l7, l8, l9, l10] [.int z2, .int z1, .int z0, .ref a] (zst p iv) Q ↔ zEv sc 67 0 [.ref a, .int z0, .int z1, .int z2, .null, .null] [] (zst p iv) (fun r h9 => zEv sc 92 99 [l0, l1, l2, l3, l4, l5, l6, l7, l8, l9, l10] (r.toList ++ []) h9 Q) := zE_call (kd := 0) (na := 4) (nr := 0) (as := [.ref a, .int z0, .int z1, .int z2]) (rest := []) (Or.inl ⟨rfl, rfl⟩) dz92_96 (by decide +kernel : z_lk2 zCT (z_cls 92) 61 = some (67, 0, 466)) (fun z => by cases z) rfl rfl rfl (by decide +kernel) rfl rfl (Or.inr (zE_rc ho))
theorem dz92_99 : decode (z_code 92) 99 = .ok (.istore 10, 2) := by decide +kernel
theorem u92_99 : zEv sc 92 99 [l0, l1, l2, l3, l4, l5, l6, l7, l8, l9, l10] [.int x] h Q ↔ zEv sc 92 101 [l0, l1, l2, l3, l4, l5, l6, l7, l8, l9, .int x] [] h Q := zE_pure (q := (101, [l0, l1, l2, l3, l4, l5, l6, l7, l8, l9, .int x], [])) dz92_99 rfl rfl rfl
theorem dz92_101 : decode (z_code 92) 101 = .ok (.iload 10, 2) := by decide +kernel
theorem u92_101 : zEv sc 92 101 [l0, l1, l2, l3, l4, l5, l6, l7, l8, l9, .int x] [] h Q ↔ zEv sc 92 103 [l0, l1, l2, l3, l4, l5, l6, l7, l8, l9, .int x] [.int x] h Q := zE_pure (q := (103, [l0, l1, l2, l3, l4, l5, l6, l7, l8, l9, .int x], [.int x])) dz92_101 rfl rfl rfl
theorem dz92_103 : decode (z_code 92) 103 = .ok (.ifCond .ge 55, 3) := by decide +kernel
theorem u92_103 : zEv sc 92 103 [l0, l1, l2, l3, l4, l5, l6, l7, l8, l9, l10] [.int x] h Q ↔ (if 0 ≤ x then zEv sc 92 158 [l0, l1, l2, l3, l4, l5, l6, l7, l8, l9, l10] [] h Q else zEv sc 92 106 [l0, l1, l2, l3, l4, l5, l6, l7, l8, l9, l10] [] h Q) := zE_ifP (P := 0 ≤ x) inferInstance 158 dz92_103 rfl rfl
theorem dz92_106 : decode (z_code 92) 106 = .ok (.iload 10, 2) := by decide +kernel
theorem u92_106 : zEv sc 92 106 [l0, l1, l2, l3, l4, l5, l6, l7, l8, l9, .int x] [] h Q ↔ zEv sc 92 108 [l0, l1, l2, l3, l4, l5, l6, l7, l8, l9, .int x] [.int x] h Q := zE_pure (q := (108, [l0, l1, l2, l3, l4, l5, l6, l7, l8, l9, .int x], [.int x])) dz92_106 rfl rfl rfl
theorem dz92_108 : decode (z_code 92) 108 = .ok (.ldc 64, 2) := by decide +kernel
theorem u92_108 : zEv sc 92 108 [l0, l1, l2, l3, l4, l5, l6, l7, l8, l9, l10] [t0] h Q ↔ zEv sc 92 110 [l0, l1, l2, l3, l4, l5, l6, l7, l8, l9, l10] [.int (-1000001), t0] h Q := zE_ldc (by decide +kernel : z_lkK zKT (z_cls 92) 64 = some ((-1000001), 504)) dz92_108
theorem dz92_110 : decode (z_code 92) 110 = .ok (.if_icmp .ne 26, 3) := by decide +kernel
theorem u92_110 : zEv sc 92 110 [l0, l1, l2, l3, l4, l5, l6, l7, l8, l9, l10] [.int x2, .int x1] h Q ↔ (if ¬ x1 = x2 then zEv sc 92 136 [l0, l1, l2, l3, l4, l5, l6, l7, l8, l9, l10] [] h Q else zEv sc 92 113 [l0, l1, l2, l3, l4, l5, l6, l7, l8, l9, l10] [] h Q) := zE_icP (P := ¬ x1 = x2) inferInstance 136 dz92_110 rfl rfl
theorem dz92_113 : decode (z_code 92) 113 = .ok (.iload 4, 2) := by decide +kernel
theorem u92_113 : zEv sc 92 113 [l0, l1, l2, l3, .int x, l5, l6, l7, l8, l9, l10] [] h Q ↔ zEv sc 92 115 [l0, l1, l2, l3, .int x, l5, l6, l7, l8, l9, l10] [.int x] h Q := zE_pure (q := (115, [l0, l1, l2, l3, .int x, l5, l6, l7, l8, l9, l10], [.int x])) dz92_113 rfl rfl rfl
theorem dz92_115 : decode (z_code 92) 115 = .ok (.iconst 2, 1) := by decide +kernel
theorem u92_115 : zEv sc 92 115 [l0, l1, l2, l3, l4, l5, l6, l7, l8, l9, l10] [t0] h Q ↔ zEv sc 92 116 [l0, l1, l2, l3, l4, l5, l6, l7, l8, l9, l10] [.int 2, t0] h Q := zE_iconst dz92_115 (by decide +kernel)
theorem dz92_116 : decode (z_code 92) 116 = .ok (.if_icmp .eq 34, 3) := by decide +kernel
theorem u92_116 : zEv sc 92 116 [l0, l1, l2, l3, l4, l5, l6, l7, l8, l9, l10] [.int x2, .int x1] h Q ↔ (if x1 = x2 then zEv sc 92 150 [l0, l1, l2, l3, l4, l5, l6, l7, l8, l9, l10] [] h Q else zEv sc 92 119 [l0, l1, l2, l3, l4, l5, l6, l7, l8, l9, l10] [] h Q) := zE_icP (P := x1 = x2) inferInstance 150 dz92_116 rfl rfl
theorem dz92_119 : decode (z_code 92) 119 = .ok (.iload 8, 2) := by decide +kernel
theorem u92_119 : zEv sc 92 119 [l0, l1, l2, l3, l4, l5, l6, l7, .int x, l9, l10] [] h Q ↔ zEv sc 92 121 [l0, l1, l2, l3, l4, l5, l6, l7, .int x, l9, l10] [.int x] h Q := zE_pure (q := (121, [l0, l1, l2, l3, l4, l5, l6, l7, .int x, l9, l10], [.int x])) dz92_119 rfl rfl rfl
theorem dz92_121 : decode (z_code 92) 121 = .ok (.ifCond .eq 29, 3) := by decide +kernel
theorem u92_121 : zEv sc 92 121 [l0, l1, l2, l3, l4, l5, l6, l7, l8, l9, l10] [.int x] h Q ↔ (if x = 0 then zEv sc 92 150 [l0, l1, l2, l3, l4, l5, l6, l7, l8, l9, l10] [] h Q else zEv sc 92 124 [l0, l1, l2, l3, l4, l5, l6, l7, l8, l9, l10] [] h Q) := zE_ifP (P := x = 0) inferInstance 150 dz92_121 rfl rfl
theorem dz92_124 : decode (z_code 92) 124 = .ok (.iload 8, 2) := by decide +kernel
theorem u92_124 : zEv sc 92 124 [l0, l1, l2, l3, l4, l5, l6, l7, .int x, l9, l10] [] h Q ↔ zEv sc 92 126 [l0, l1, l2, l3, l4, l5, l6, l7, .int x, l9, l10] [.int x] h Q := zE_pure (q := (126, [l0, l1, l2, l3, l4, l5, l6, l7, .int x, l9, l10], [.int x])) dz92_124 rfl rfl rfl
theorem dz92_126 : decode (z_code 92) 126 = .ok (.bipush 100, 2) := by decide +kernel
theorem u92_126 : zEv sc 92 126 [l0, l1, l2, l3, l4, l5, l6, l7, l8, l9, l10] [t0] h Q ↔ zEv sc 92 128 [l0, l1, l2, l3, l4, l5, l6, l7, l8, l9, l10] [.int 100, t0] h Q := zE_bipush dz92_126 (by decide +kernel)
theorem dz92_128 : decode (z_code 92) 128 = .ok (.if_icmp .eq 22, 3) := by decide +kernel
theorem u92_128 : zEv sc 92 128 [l0, l1, l2, l3, l4, l5, l6, l7, l8, l9, l10] [.int x2, .int x1] h Q ↔ (if x1 = x2 then zEv sc 92 150 [l0, l1, l2, l3, l4, l5, l6, l7, l8, l9, l10] [] h Q else zEv sc 92 131 [l0, l1, l2, l3, l4, l5, l6, l7, l8, l9, l10] [] h Q) := zE_icP (P := x1 = x2) inferInstance 150 dz92_128 rfl rfl
theorem dz92_131 : decode (z_code 92) 131 = .ok (.iload 6, 2) := by decide +kernel
theorem u92_131 : zEv sc 92 131 [l0, l1, l2, l3, l4, l5, .int x, l7, l8, l9, l10] [] h Q ↔ zEv sc 92 133 [l0, l1, l2, l3, l4, l5, .int x, l7, l8, l9, l10] [.int x] h Q := zE_pure (q := (133, [l0, l1, l2, l3, l4, l5, .int x, l7, l8, l9, l10], [.int x])) dz92_131 rfl rfl rfl
theorem dz92_133 : decode (z_code 92) 133 = .ok (.ifCond .eq 17, 3) := by decide +kernel
theorem u92_133 : zEv sc 92 133 [l0, l1, l2, l3, l4, l5, l6, l7, l8, l9, l10] [.int x] h Q ↔ (if x = 0 then zEv sc 92 150 [l0, l1, l2, l3, l4, l5, l6, l7, l8, l9, l10] [] h Q else zEv sc 92 136 [l0, l1, l2, l3, l4, l5, l6, l7, l8, l9, l10] [] h Q) := zE_ifP (P := x = 0) inferInstance 150 dz92_133 rfl rfl
theorem dz92_150 : decode (z_code 92) 150 = .ok (.iconst 1, 1) := by decide +kernel
theorem u92_150 : zEv sc 92 150 [l0, l1, l2, l3, l4, l5, l6, l7, l8, l9, l10] [] h Q ↔ zEv sc 92 151 [l0, l1, l2, l3, l4, l5, l6, l7, l8, l9, l10] [.int 1] h Q := zE_iconst dz92_150 (by decide +kernel)
theorem dz92_151 : decode (z_code 92) 151 = .ok (.goto 36, 3) := by decide +kernel
theorem u92_151 : zEv sc 92 151 [l0, l1, l2, l3, l4, l5, l6, l7, l8, l9, l10] [t0] h Q ↔ zEv sc 92 187 [l0, l1, l2, l3, l4, l5, l6, l7, l8, l9, l10] [t0] h Q := zE_go 187 dz92_151 rfl
theorem dz92_187 : decode (z_code 92) 187 = .ok (.ireturn, 1) := by decide +kernel
theorem u92_187 : zEv sc 92 187 [l0, l1, l2, l3, l4, l5, l6, l7, l8, l9, l10] [.int x] h Q ↔ ((x = 0 ∨ x = 1) ∧ Q (some (.int x)) h) := zE_rz dz92_187 (by decide +kernel)
theorem dz92_136 : decode (z_code 92) 136 = .ok (.iload 10, 2) := by decide +kernel
theorem u92_136 : zEv sc 92 136 [l0, l1, l2, l3, l4, l5, l6, l7, l8, l9, .int x] [] h Q ↔ zEv sc 92 138 [l0, l1, l2, l3, l4, l5, l6, l7, l8, l9, .int x] [.int x] h Q := zE_pure (q := (138, [l0, l1, l2, l3, l4, l5, l6, l7, l8, l9, .int x], [.int x])) dz92_136 rfl rfl rfl
theorem dz92_138 : decode (z_code 92) 138 = .ok (.ldc 65, 2) := by decide +kernel
theorem u92_138 : zEv sc 92 138 [l0, l1, l2, l3, l4, l5, l6, l7, l8, l9, l10] [t0] h Q ↔ zEv sc 92 140 [l0, l1, l2, l3, l4, l5, l6, l7, l8, l9, l10] [.int (-1000003), t0] h Q := zE_ldc (by decide +kernel : z_lkK zKT (z_cls 92) 65 = some ((-1000003), 505)) dz92_138
theorem dz92_140 : decode (z_code 92) 140 = .ok (.if_icmp .ne 14, 3) := by decide +kernel
theorem u92_140 : zEv sc 92 140 [l0, l1, l2, l3, l4, l5, l6, l7, l8, l9, l10] [.int x2, .int x1] h Q ↔ (if ¬ x1 = x2 then zEv sc 92 154 [l0, l1, l2, l3, l4, l5, l6, l7, l8, l9, l10] [] h Q else zEv sc 92 143 [l0, l1, l2, l3, l4, l5, l6, l7, l8, l9, l10] [] h Q) := zE_icP (P := ¬ x1 = x2) inferInstance 154 dz92_140 rfl rfl
theorem dz92_143 : decode (z_code 92) 143 = .ok (.iload 9, 2) := by decide +kernel
theorem u92_143 : zEv sc 92 143 [l0, l1, l2, l3, l4, l5, l6, l7, l8, .int x, l10] [] h Q ↔ zEv sc 92 145 [l0, l1, l2, l3, l4, l5, l6, l7, l8, .int x, l10] [.int x] h Q := zE_pure (q := (145, [l0, l1, l2, l3, l4, l5, l6, l7, l8, .int x, l10], [.int x])) dz92_143 rfl rfl rfl
theorem dz92_145 : decode (z_code 92) 145 = .ok (.bipush 12, 2) := by decide +kernel
theorem u92_145 : zEv sc 92 145 [l0, l1, l2, l3, l4, l5, l6, l7, l8, l9, l10] [t0] h Q ↔ zEv sc 92 147 [l0, l1, l2, l3, l4, l5, l6, l7, l8, l9, l10] [.int 12, t0] h Q := zE_bipush dz92_145 (by decide +kernel)
theorem dz92_147 : decode (z_code 92) 147 = .ok (.if_icmp .ne 7, 3) := by decide +kernel
theorem u92_147 : zEv sc 92 147 [l0, l1, l2, l3, l4, l5, l6, l7, l8, l9, l10] [.int x2, .int x1] h Q ↔ (if ¬ x1 = x2 then zEv sc 92 154 [l0, l1, l2, l3, l4, l5, l6, l7, l8, l9, l10] [] h Q else zEv sc 92 150 [l0, l1, l2, l3, l4, l5, l6, l7, l8, l9, l10] [] h Q) := zE_icP (P := ¬ x1 = x2) inferInstance 154 dz92_147 rfl rfl
theorem dz92_154 : decode (z_code 92) 154 = .ok (.iconst 0, 1) := by decide +kernel
theorem u92_154 : zEv sc 92 154 [l0, l1, l2, l3, l4, l5, l6, l7, l8, l9, l10] [] h Q ↔ zEv sc 92 155 [l0, l1, l2, l3, l4, l5, l6, l7, l8, l9, l10] [.int 0] h Q := zE_iconst dz92_154 (by decide +kernel)
theorem dz92_155 : decode (z_code 92) 155 = .ok (.goto 32, 3) := by decide +kernel
theorem u92_155 : zEv sc 92 155 [l0, l1, l2, l3, l4, l5, l6, l7, l8, l9, l10] [t0] h Q ↔ zEv sc 92 187 [l0, l1, l2, l3, l4, l5, l6, l7, l8, l9, l10] [t0] h Q := zE_go 187 dz92_155 rfl
theorem dz92_158 : decode (z_code 92) 158 = .ok (.aload_n 0, 1) := by decide +kernel
theorem u92_158 : zEv sc 92 158 [.ref a, l1, l2, l3, l4, l5, l6, l7, l8, l9, l10] [] h Q ↔ zEv sc 92 159 [.ref a, l1, l2, l3, l4, l5, l6, l7, l8, l9, l10] [.ref a] h Q := zE_pure (q := (159, [.ref a, l1, l2, l3, l4, l5, l6, l7, l8, l9, l10], [.ref a])) dz92_158 rfl rfl rfl
theorem dz92_159 : decode (z_code 92) 159 = .ok (.iconst 5, 1) := by decide +kernel
theorem u92_159 : zEv sc 92 159 [l0, l1, l2, l3, l4, l5, l6, l7, l8, l9, l10] [t0] h Q ↔ zEv sc 92 160 [l0, l1, l2, l3, l4, l5, l6, l7, l8, l9, l10] [.int 5, t0] h Q := zE_iconst dz92_159 (by decide +kernel)
theorem dz92_160 : decode (z_code 92) 160 = .ok (.iload 4, 2) := by decide +kernel
theorem u92_160 : zEv sc 92 160 [l0, l1, l2, l3, .int x, l5, l6, l7, l8, l9, l10] [t0, t1] h Q ↔ zEv sc 92 162 [l0, l1, l2, l3, .int x, l5, l6, l7, l8, l9, l10] [.int x, t0, t1] h Q := zE_pure (q := (162, [l0, l1, l2, l3, .int x, l5, l6, l7, l8, l9, l10], [.int x, t0, t1])) dz92_160 rfl rfl rfl
theorem dz92_162 : decode (z_code 92) 162 = .ok (.iadd, 1) := by decide +kernel
theorem u92_162 : zEv sc 92 162 [l0, l1, l2, l3, l4, l5, l6, l7, l8, l9, l10] [.int x2, .int x1, t0] h Q ↔ zEv sc 92 163 [l0, l1, l2, l3, l4, l5, l6, l7, l8, l9, l10] [.int (x1 + x2), t0] h Q := zE_pure (q := (163, [l0, l1, l2, l3, l4, l5, l6, l7, l8, l9, l10], [.int (x1 + x2), t0])) dz92_162 rfl rfl rfl
theorem dz92_163 : decode (z_code 92) 163 = .ok (.invokevirtual 13, 3) := by decide +kernel
theorem u92_163 (ho : zO a 9) : zEv sc 92 163 [l0, l1, l2, l3, l4, l5, l6, l7, l8, l9, l10] [.int z0, .ref a] (zst p iv) Q ↔ zEv sc 81 0 [.ref a, .int z0] [] (zst p iv) (fun r h9 => zEv sc 92 166 [l0, l1, l2, l3, l4, l5, l6, l7, l8, l9, l10] (r.toList ++ []) h9 Q) := zE_call (kd := 0) (na := 2) (nr := 0) (as := [.ref a, .int z0]) (rest := []) (Or.inl ⟨rfl, rfl⟩) dz92_163 (by decide +kernel : z_lk2 zCT (z_cls 92) 13 = some (81, 0, 300)) (fun z => by cases z) rfl rfl rfl (by decide +kernel) rfl rfl (Or.inr (zE_rc ho))
theorem dz92_166 : decode (z_code 92) 166 = .ok (.iload 9, 2) := by decide +kernel
theorem u92_166 : zEv sc 92 166 [l0, l1, l2, l3, l4, l5, l6, l7, l8, .int x, l10] [t0] h Q ↔ zEv sc 92 168 [l0, l1, l2, l3, l4, l5, l6, l7, l8, .int x, l10] [.int x, t0] h Q := zE_pure (q := (168, [l0, l1, l2, l3, l4, l5, l6, l7, l8, .int x, l10], [.int x, t0])) dz92_166 rfl rfl rfl
theorem dz92_168 : decode (z_code 92) 168 = .ok (.iload 10, 2) := by decide +kernel
theorem u92_168 : zEv sc 92 168 [l0, l1, l2, l3, l4, l5, l6, l7, l8, l9, .int x] [t0, t1] h Q ↔ zEv sc 92 170 [l0, l1, l2, l3, l4, l5, l6, l7, l8, l9, .int x] [.int x, t0, t1] h Q := zE_pure (q := (170, [l0, l1, l2, l3, l4, l5, l6, l7, l8, l9, .int x], [.int x, t0, t1])) dz92_168 rfl rfl rfl
theorem dz92_170 : decode (z_code 92) 170 = .ok (.ifCond .ne 7, 3) := by decide +kernel
theorem u92_170 : zEv sc 92 170 [l0, l1, l2, l3, l4, l5, l6, l7, l8, l9, l10] [.int x, t0, t1] h Q ↔ (if ¬ x = 0 then zEv sc 92 177 [l0, l1, l2, l3, l4, l5, l6, l7, l8, l9, l10] [t0, t1] h Q else zEv sc 92 173 [l0, l1, l2, l3, l4, l5, l6, l7, l8, l9, l10] [t0, t1] h Q) := zE_ifP (P := ¬ x = 0) inferInstance 177 dz92_170 rfl rfl
theorem dz92_173 : decode (z_code 92) 173 = .ok (.iconst 1, 1) := by decide +kernel
theorem u92_173 : zEv sc 92 173 [l0, l1, l2, l3, l4, l5, l6, l7, l8, l9, l10] [t0, t1] h Q ↔ zEv sc 92 174 [l0, l1, l2, l3, l4, l5, l6, l7, l8, l9, l10] [.int 1, t0, t1] h Q := zE_iconst dz92_173 (by decide +kernel)
theorem dz92_174 : decode (z_code 92) 174 = .ok (.goto 4, 3) := by decide +kernel
theorem u92_174 : zEv sc 92 174 [l0, l1, l2, l3, l4, l5, l6, l7, l8, l9, l10] [t0, t1, t2] h Q ↔ zEv sc 92 178 [l0, l1, l2, l3, l4, l5, l6, l7, l8, l9, l10] [t0, t1, t2] h Q := zE_go 178 dz92_174 rfl
theorem dz92_178 : decode (z_code 92) 178 = .ok (.iadd, 1) := by decide +kernel
theorem u92_178 : zEv sc 92 178 [l0, l1, l2, l3, l4, l5, l6, l7, l8, l9, l10] [.int x2, .int x1, t0] h Q ↔ zEv sc 92 179 [l0, l1, l2, l3, l4, l5, l6, l7, l8, l9, l10] [.int (x1 + x2), t0] h Q := zE_pure (q := (179, [l0, l1, l2, l3, l4, l5, l6, l7, l8, l9, l10], [.int (x1 + x2), t0])) dz92_178 rfl rfl rfl
theorem dz92_179 : decode (z_code 92) 179 = .ok (.if_icmp .ne 7, 3) := by decide +kernel
theorem u92_179 : zEv sc 92 179 [l0, l1, l2, l3, l4, l5, l6, l7, l8, l9, l10] [.int x2, .int x1] h Q ↔ (if ¬ x1 = x2 then zEv sc 92 186 [l0, l1, l2, l3, l4, l5, l6, l7, l8, l9, l10] [] h Q else zEv sc 92 182 [l0, l1, l2, l3, l4, l5, l6, l7, l8, l9, l10] [] h Q) := zE_icP (P := ¬ x1 = x2) inferInstance 186 dz92_179 rfl rfl
theorem dz92_182 : decode (z_code 92) 182 = .ok (.iconst 1, 1) := by decide +kernel
theorem u92_182 : zEv sc 92 182 [l0, l1, l2, l3, l4, l5, l6, l7, l8, l9, l10] [] h Q ↔ zEv sc 92 183 [l0, l1, l2, l3, l4, l5, l6, l7, l8, l9, l10] [.int 1] h Q := zE_iconst dz92_182 (by decide +kernel)
theorem dz92_183 : decode (z_code 92) 183 = .ok (.goto 4, 3) := by decide +kernel
theorem u92_183 : zEv sc 92 183 [l0, l1, l2, l3, l4, l5, l6, l7, l8, l9, l10] [t0] h Q ↔ zEv sc 92 187 [l0, l1, l2, l3, l4, l5, l6, l7, l8, l9, l10] [t0] h Q := zE_go 187 dz92_183 rfl
theorem dz92_186 : decode (z_code 92) 186 = .ok (.iconst 0, 1) := by decide +kernel
theorem u92_186 : zEv sc 92 186 [l0, l1, l2, l3, l4, l5, l6, l7, l8, l9, l10] [] h Q ↔ zEv sc 92 187 [l0, l1, l2, l3, l4, l5, l6, l7, l8, l9, l10] [.int 0] h Q := zE_iconst dz92_186 (by decide +kernel)
theorem dz92_177 : decode (z_code 92) 177 = .ok (.iconst 0, 1) := by decide +kernel
theorem u92_177 : zEv sc 92 177 [l0, l1, l2, l3, l4, l5, l6, l7, l8, l9, l10] [t0, t1] h Q ↔ zEv sc 92 178 [l0, l1, l2, l3, l4, l5, l6, l7, l8, l9, l10] [.int 0, t0, t1] h Q := zE_iconst dz92_177 (by decide +kernel)
theorem dz92_188 : decode (z_code 92) 188 = .ok (.iload_n 3, 1) := by decide +kernel
theorem u92_188 : zEv sc 92 188 [l0, l1, l2, .int x, l4, l5, l6, l7, l8, l9, l10] [] h Q ↔ zEv sc 92 189 [l0, l1, l2, .int x, l4, l5, l6, l7, l8, l9, l10] [.int x] h Q := zE_pure (q := (189, [l0, l1, l2, .int x, l4, l5, l6, l7, l8, l9, l10], [.int x])) dz92_188 rfl rfl rfl
theorem dz92_189 : decode (z_code 92) 189 = .ok (.bipush 6, 2) := by decide +kernel
theorem u92_189 : zEv sc 92 189 [l0, l1, l2, l3, l4, l5, l6, l7, l8, l9, l10] [t0] h Q ↔ zEv sc 92 191 [l0, l1, l2, l3, l4, l5, l6, l7, l8, l9, l10] [.int 6, t0] h Q := zE_bipush dz92_189 (by decide +kernel)
theorem dz92_191 : decode (z_code 92) 191 = .ok (.if_icmp .ne 87, 3) := by decide +kernel
theorem u92_191 : zEv sc 92 191 [l0, l1, l2, l3, l4, l5, l6, l7, l8, l9, l10] [.int x2, .int x1] h Q ↔ (if ¬ x1 = x2 then zEv sc 92 278 [l0, l1, l2, l3, l4, l5, l6, l7, l8, l9, l10] [] h Q else zEv sc 92 194 [l0, l1, l2, l3, l4, l5, l6, l7, l8, l9, l10] [] h Q) := zE_icP (P := ¬ x1 = x2) inferInstance 278 dz92_191 rfl rfl
theorem dz92_194 : decode (z_code 92) 194 = .ok (.aload_n 0, 1) := by decide +kernel
theorem u92_194 : zEv sc 92 194 [.ref a, l1, l2, l3, l4, l5, l6, l7, l8, l9, l10] [] h Q ↔ zEv sc 92 195 [.ref a, l1, l2, l3, l4, l5, l6, l7, l8, l9, l10] [.ref a] h Q := zE_pure (q := (195, [.ref a, l1, l2, l3, l4, l5, l6, l7, l8, l9, l10], [.ref a])) dz92_194 rfl rfl rfl
theorem dz92_195 : decode (z_code 92) 195 = .ok (.iconst 5, 1) := by decide +kernel
theorem u92_195 : zEv sc 92 195 [l0, l1, l2, l3, l4, l5, l6, l7, l8, l9, l10] [t0] h Q ↔ zEv sc 92 196 [l0, l1, l2, l3, l4, l5, l6, l7, l8, l9, l10] [.int 5, t0] h Q := zE_iconst dz92_195 (by decide +kernel)
theorem dz92_196 : decode (z_code 92) 196 = .ok (.iload 5, 2) := by decide +kernel
theorem u92_196 : zEv sc 92 196 [l0, l1, l2, l3, l4, .int x, l6, l7, l8, l9, l10] [t0, t1] h Q ↔ zEv sc 92 198 [l0, l1, l2, l3, l4, .int x, l6, l7, l8, l9, l10] [.int x, t0, t1] h Q := zE_pure (q := (198, [l0, l1, l2, l3, l4, .int x, l6, l7, l8, l9, l10], [.int x, t0, t1])) dz92_196 rfl rfl rfl
theorem dz92_198 : decode (z_code 92) 198 = .ok (.iadd, 1) := by decide +kernel
theorem u92_198 : zEv sc 92 198 [l0, l1, l2, l3, l4, l5, l6, l7, l8, l9, l10] [.int x2, .int x1, t0] h Q ↔ zEv sc 92 199 [l0, l1, l2, l3, l4, l5, l6, l7, l8, l9, l10] [.int (x1 + x2), t0] h Q := zE_pure (q := (199, [l0, l1, l2, l3, l4, l5, l6, l7, l8, l9, l10], [.int (x1 + x2), t0])) dz92_198 rfl rfl rfl
theorem dz92_199 : decode (z_code 92) 199 = .ok (.invokevirtual 13, 3) := by decide +kernel
theorem u92_199 (ho : zO a 9) : zEv sc 92 199 [l0, l1, l2, l3, l4, l5, l6, l7, l8, l9, l10] [.int z0, .ref a] (zst p iv) Q ↔ zEv sc 81 0 [.ref a, .int z0] [] (zst p iv) (fun r h9 => zEv sc 92 202 [l0, l1, l2, l3, l4, l5, l6, l7, l8, l9, l10] (r.toList ++ []) h9 Q) := zE_call (kd := 0) (na := 2) (nr := 0) (as := [.ref a, .int z0]) (rest := []) (Or.inl ⟨rfl, rfl⟩) dz92_199 (by decide +kernel : z_lk2 zCT (z_cls 92) 13 = some (81, 0, 300)) (fun z => by cases z) rfl rfl rfl (by decide +kernel) rfl rfl (Or.inr (zE_rc ho))
theorem dz92_202 : decode (z_code 92) 202 = .ok (.istore 8, 2) := by decide +kernel
theorem u92_202 : zEv sc 92 202 [l0, l1, l2, l3, l4, l5, l6, l7, l8, l9, l10] [.int x] h Q ↔ zEv sc 92 204 [l0, l1, l2, l3, l4, l5, l6, l7, .int x, l9, l10] [] h Q := zE_pure (q := (204, [l0, l1, l2, l3, l4, l5, l6, l7, .int x, l9, l10], [])) dz92_202 rfl rfl rfl
theorem dz92_204 : decode (z_code 92) 204 = .ok (.aload_n 0, 1) := by decide +kernel
theorem u92_204 : zEv sc 92 204 [.ref a, l1, l2, l3, l4, l5, l6, l7, l8, l9, l10] [] h Q ↔ zEv sc 92 205 [.ref a, l1, l2, l3, l4, l5, l6, l7, l8, l9, l10] [.ref a] h Q := zE_pure (q := (205, [.ref a, l1, l2, l3, l4, l5, l6, l7, l8, l9, l10], [.ref a])) dz92_204 rfl rfl rfl
theorem dz92_205 : decode (z_code 92) 205 = .ok (.iload 4, 2) := by decide +kernel
theorem u92_205 : zEv sc 92 205 [l0, l1, l2, l3, .int x, l5, l6, l7, l8, l9, l10] [t0] h Q ↔ zEv sc 92 207 [l0, l1, l2, l3, .int x, l5, l6, l7, l8, l9, l10] [.int x, t0] h Q := zE_pure (q := (207, [l0, l1, l2, l3, .int x, l5, l6, l7, l8, l9, l10], [.int x, t0])) dz92_205 rfl rfl rfl
theorem dz92_207 : decode (z_code 92) 207 = .ok (.iload 7, 2) := by decide +kernel
theorem u92_207 : zEv sc 92 207 [l0, l1, l2, l3, l4, l5, l6, .int x, l8, l9, l10] [t0, t1] h Q ↔ zEv sc 92 209 [l0, l1, l2, l3, l4, l5, l6, .int x, l8, l9, l10] [.int x, t0, t1] h Q := zE_pure (q := (209, [l0, l1, l2, l3, l4, l5, l6, .int x, l8, l9, l10], [.int x, t0, t1])) dz92_207 rfl rfl rfl
theorem dz92_209 : decode (z_code 92) 209 = .ok (.invokevirtual 66, 3) := by decide +kernel
theorem u92_209 (ho : zO a 9) : zEv sc 92 209 [l0, l1, l2, l3, l4, l5, l6, l7, l8, l9, l10] [.int z1, .int z0, .ref a] (zst p iv) Q ↔ zEv sc 68 0 [.ref a, .int z0, .int z1, .null, .null] [] (zst p iv) (fun r h9 => zEv sc 92 212 [l0, l1, l2, l3, l4, l5, l6, l7, l8, l9, l10] (r.toList ++ []) h9 Q) := zE_call (kd := 0) (na := 3) (nr := 0) (as := [.ref a, .int z0, .int z1]) (rest := []) (Or.inl ⟨rfl, rfl⟩) dz92_209 (by decide +kernel : z_lk2 zCT (z_cls 92) 66 = some (68, 0, 506)) (fun z => by cases z) rfl rfl rfl (by decide +kernel) rfl rfl (Or.inr (zE_rc ho))
theorem dz92_212 : decode (z_code 92) 212 = .ok (.istore 9, 2) := by decide +kernel
theorem u92_212 : zEv sc 92 212 [l0, l1, l2, l3, l4, l5, l6, l7, l8, l9, l10] [.int x] h Q ↔ zEv sc 92 214 [l0, l1, l2, l3, l4, l5, l6, l7, l8, .int x, l10] [] h Q := zE_pure (q := (214, [l0, l1, l2, l3, l4, l5, l6, l7, l8, .int x, l10], [])) dz92_212 rfl rfl rfl
theorem dz92_214 : decode (z_code 92) 214 = .ok (.iload 9, 2) := by decide +kernel
theorem u92_214 : zEv sc 92 214 [l0, l1, l2, l3, l4, l5, l6, l7, l8, .int x, l10] [] h Q ↔ zEv sc 92 216 [l0, l1, l2, l3, l4, l5, l6, l7, l8, .int x, l10] [.int x] h Q := zE_pure (q := (216, [l0, l1, l2, l3, l4, l5, l6, l7, l8, .int x, l10], [.int x])) dz92_214 rfl rfl rfl
theorem dz92_216 : decode (z_code 92) 216 = .ok (.ifCond .ge 36, 3) := by decide +kernel
theorem u92_216 : zEv sc 92 216 [l0, l1, l2, l3, l4, l5, l6, l7, l8, l9, l10] [.int x] h Q ↔ (if 0 ≤ x then zEv sc 92 252 [l0, l1, l2, l3, l4, l5, l6, l7, l8, l9, l10] [] h Q else zEv sc 92 219 [l0, l1, l2, l3, l4, l5, l6, l7, l8, l9, l10] [] h Q) := zE_ifP (P := 0 ≤ x) inferInstance 252 dz92_216 rfl rfl
theorem dz92_219 : decode (z_code 92) 219 = .ok (.iload 9, 2) := by decide +kernel
theorem u92_219 : zEv sc 92 219 [l0, l1, l2, l3, l4, l5, l6, l7, l8, .int x, l10] [] h Q ↔ zEv sc 92 221 [l0, l1, l2, l3, l4, l5, l6, l7, l8, .int x, l10] [.int x] h Q := zE_pure (q := (221, [l0, l1, l2, l3, l4, l5, l6, l7, l8, .int x, l10], [.int x])) dz92_219 rfl rfl rfl
theorem dz92_221 : decode (z_code 92) 221 = .ok (.ldc 64, 2) := by decide +kernel
theorem u92_221 : zEv sc 92 221 [l0, l1, l2, l3, l4, l5, l6, l7, l8, l9, l10] [t0] h Q ↔ zEv sc 92 223 [l0, l1, l2, l3, l4, l5, l6, l7, l8, l9, l10] [.int (-1000001), t0] h Q := zE_ldc (by decide +kernel : z_lkK zKT (z_cls 92) 64 = some ((-1000001), 504)) dz92_221
theorem dz92_223 : decode (z_code 92) 223 = .ok (.if_icmp .ne 14, 3) := by decide +kernel
theorem u92_223 : zEv sc 92 223 [l0, l1, l2, l3, l4, l5, l6, l7, l8, l9, l10] [.int x2, .int x1] h Q ↔ (if ¬ x1 = x2 then zEv sc 92 237 [l0, l1, l2, l3, l4, l5, l6, l7, l8, l9, l10] [] h Q else zEv sc 92 226 [l0, l1, l2, l3, l4, l5, l6, l7, l8, l9, l10] [] h Q) := zE_icP (P := ¬ x1 = x2) inferInstance 237 dz92_223 rfl rfl
theorem dz92_226 : decode (z_code 92) 226 = .ok (.iload 4, 2) := by decide +kernel
theorem u92_226 : zEv sc 92 226 [l0, l1, l2, l3, .int x, l5, l6, l7, l8, l9, l10] [] h Q ↔ zEv sc 92 228 [l0, l1, l2, l3, .int x, l5, l6, l7, l8, l9, l10] [.int x] h Q := zE_pure (q := (228, [l0, l1, l2, l3, .int x, l5, l6, l7, l8, l9, l10], [.int x])) dz92_226 rfl rfl rfl
theorem dz92_228 : decode (z_code 92) 228 = .ok (.iconst 2, 1) := by decide +kernel
theorem u92_228 : zEv sc 92 228 [l0, l1, l2, l3, l4, l5, l6, l7, l8, l9, l10] [t0] h Q ↔ zEv sc 92 229 [l0, l1, l2, l3, l4, l5, l6, l7, l8, l9, l10] [.int 2, t0] h Q := zE_iconst dz92_228 (by decide +kernel)
theorem dz92_229 : decode (z_code 92) 229 = .ok (.if_icmp .eq 15, 3) := by decide +kernel
theorem u92_229 : zEv sc 92 229 [l0, l1, l2, l3, l4, l5, l6, l7, l8, l9, l10] [.int x2, .int x1] h Q ↔ (if x1 = x2 then zEv sc 92 244 [l0, l1, l2, l3, l4, l5, l6, l7, l8, l9, l10] [] h Q else zEv sc 92 232 [l0, l1, l2, l3, l4, l5, l6, l7, l8, l9, l10] [] h Q) := zE_icP (P := x1 = x2) inferInstance 244 dz92_229 rfl rfl
theorem dz92_232 : decode (z_code 92) 232 = .ok (.iload 6, 2) := by decide +kernel
theorem u92_232 : zEv sc 92 232 [l0, l1, l2, l3, l4, l5, .int x, l7, l8, l9, l10] [] h Q ↔ zEv sc 92 234 [l0, l1, l2, l3, l4, l5, .int x, l7, l8, l9, l10] [.int x] h Q := zE_pure (q := (234, [l0, l1, l2, l3, l4, l5, .int x, l7, l8, l9, l10], [.int x])) dz92_232 rfl rfl rfl
theorem dz92_234 : decode (z_code 92) 234 = .ok (.ifCond .eq 10, 3) := by decide +kernel
theorem u92_234 : zEv sc 92 234 [l0, l1, l2, l3, l4, l5, l6, l7, l8, l9, l10] [.int x] h Q ↔ (if x = 0 then zEv sc 92 244 [l0, l1, l2, l3, l4, l5, l6, l7, l8, l9, l10] [] h Q else zEv sc 92 237 [l0, l1, l2, l3, l4, l5, l6, l7, l8, l9, l10] [] h Q) := zE_ifP (P := x = 0) inferInstance 244 dz92_234 rfl rfl
theorem dz92_244 : decode (z_code 92) 244 = .ok (.iconst 1, 1) := by decide +kernel
theorem u92_244 : zEv sc 92 244 [l0, l1, l2, l3, l4, l5, l6, l7, l8, l9, l10] [] h Q ↔ zEv sc 92 245 [l0, l1, l2, l3, l4, l5, l6, l7, l8, l9, l10] [.int 1] h Q := zE_iconst dz92_244 (by decide +kernel)
theorem dz92_245 : decode (z_code 92) 245 = .ok (.goto 32, 3) := by decide +kernel
theorem u92_245 : zEv sc 92 245 [l0, l1, l2, l3, l4, l5, l6, l7, l8, l9, l10] [t0] h Q ↔ zEv sc 92 277 [l0, l1, l2, l3, l4, l5, l6, l7, l8, l9, l10] [t0] h Q := zE_go 277 dz92_245 rfl
theorem dz92_277 : decode (z_code 92) 277 = .ok (.ireturn, 1) := by decide +kernel
theorem u92_277 : zEv sc 92 277 [l0, l1, l2, l3, l4, l5, l6, l7, l8, l9, l10] [.int x] h Q ↔ ((x = 0 ∨ x = 1) ∧ Q (some (.int x)) h) := zE_rz dz92_277 (by decide +kernel)
theorem dz92_237 : decode (z_code 92) 237 = .ok (.iload 9, 2) := by decide +kernel
theorem u92_237 : zEv sc 92 237 [l0, l1, l2, l3, l4, l5, l6, l7, l8, .int x, l10] [] h Q ↔ zEv sc 92 239 [l0, l1, l2, l3, l4, l5, l6, l7, l8, .int x, l10] [.int x] h Q := zE_pure (q := (239, [l0, l1, l2, l3, l4, l5, l6, l7, l8, .int x, l10], [.int x])) dz92_237 rfl rfl rfl
theorem dz92_239 : decode (z_code 92) 239 = .ok (.ldc 38, 2) := by decide +kernel
theorem u92_239 : zEv sc 92 239 [l0, l1, l2, l3, l4, l5, l6, l7, l8, l9, l10] [t0] h Q ↔ zEv sc 92 241 [l0, l1, l2, l3, l4, l5, l6, l7, l8, l9, l10] [.int (-1000002), t0] h Q := zE_ldc (by decide +kernel : z_lkK zKT (z_cls 92) 38 = some ((-1000002), 430)) dz92_239
theorem dz92_241 : decode (z_code 92) 241 = .ok (.if_icmp .ne 7, 3) := by decide +kernel
theorem u92_241 : zEv sc 92 241 [l0, l1, l2, l3, l4, l5, l6, l7, l8, l9, l10] [.int x2, .int x1] h Q ↔ (if ¬ x1 = x2 then zEv sc 92 248 [l0, l1, l2, l3, l4, l5, l6, l7, l8, l9, l10] [] h Q else zEv sc 92 244 [l0, l1, l2, l3, l4, l5, l6, l7, l8, l9, l10] [] h Q) := zE_icP (P := ¬ x1 = x2) inferInstance 248 dz92_241 rfl rfl
theorem dz92_248 : decode (z_code 92) 248 = .ok (.iconst 0, 1) := by decide +kernel
theorem u92_248 : zEv sc 92 248 [l0, l1, l2, l3, l4, l5, l6, l7, l8, l9, l10] [] h Q ↔ zEv sc 92 249 [l0, l1, l2, l3, l4, l5, l6, l7, l8, l9, l10] [.int 0] h Q := zE_iconst dz92_248 (by decide +kernel)
theorem dz92_249 : decode (z_code 92) 249 = .ok (.goto 28, 3) := by decide +kernel
theorem u92_249 : zEv sc 92 249 [l0, l1, l2, l3, l4, l5, l6, l7, l8, l9, l10] [t0] h Q ↔ zEv sc 92 277 [l0, l1, l2, l3, l4, l5, l6, l7, l8, l9, l10] [t0] h Q := zE_go 277 dz92_249 rfl
theorem dz92_252 : decode (z_code 92) 252 = .ok (.iload 9, 2) := by decide +kernel
theorem u92_252 : zEv sc 92 252 [l0, l1, l2, l3, l4, l5, l6, l7, l8, .int x, l10] [] h Q ↔ zEv sc 92 254 [l0, l1, l2, l3, l4, l5, l6, l7, l8, .int x, l10] [.int x] h Q := zE_pure (q := (254, [l0, l1, l2, l3, l4, l5, l6, l7, l8, .int x, l10], [.int x])) dz92_252 rfl rfl rfl
theorem dz92_254 : decode (z_code 92) 254 = .ok (.ifCond .le 22, 3) := by decide +kernel
theorem u92_254 : zEv sc 92 254 [l0, l1, l2, l3, l4, l5, l6, l7, l8, l9, l10] [.int x] h Q ↔ (if x ≤ 0 then zEv sc 92 276 [l0, l1, l2, l3, l4, l5, l6, l7, l8, l9, l10] [] h Q else zEv sc 92 257 [l0, l1, l2, l3, l4, l5, l6, l7, l8, l9, l10] [] h Q) := zE_ifP (P := x ≤ 0) inferInstance 276 dz92_254 rfl rfl
theorem dz92_257 : decode (z_code 92) 257 = .ok (.aload_n 0, 1) := by decide +kernel
theorem u92_257 : zEv sc 92 257 [.ref a, l1, l2, l3, l4, l5, l6, l7, l8, l9, l10] [] h Q ↔ zEv sc 92 258 [.ref a, l1, l2, l3, l4, l5, l6, l7, l8, l9, l10] [.ref a] h Q := zE_pure (q := (258, [.ref a, l1, l2, l3, l4, l5, l6, l7, l8, l9, l10], [.ref a])) dz92_257 rfl rfl rfl
theorem dz92_258 : decode (z_code 92) 258 = .ok (.iconst 5, 1) := by decide +kernel
theorem u92_258 : zEv sc 92 258 [l0, l1, l2, l3, l4, l5, l6, l7, l8, l9, l10] [t0] h Q ↔ zEv sc 92 259 [l0, l1, l2, l3, l4, l5, l6, l7, l8, l9, l10] [.int 5, t0] h Q := zE_iconst dz92_258 (by decide +kernel)
theorem dz92_259 : decode (z_code 92) 259 = .ok (.iload 4, 2) := by decide +kernel
theorem u92_259 : zEv sc 92 259 [l0, l1, l2, l3, .int x, l5, l6, l7, l8, l9, l10] [t0, t1] h Q ↔ zEv sc 92 261 [l0, l1, l2, l3, .int x, l5, l6, l7, l8, l9, l10] [.int x, t0, t1] h Q := zE_pure (q := (261, [l0, l1, l2, l3, .int x, l5, l6, l7, l8, l9, l10], [.int x, t0, t1])) dz92_259 rfl rfl rfl
theorem dz92_261 : decode (z_code 92) 261 = .ok (.iadd, 1) := by decide +kernel
theorem u92_261 : zEv sc 92 261 [l0, l1, l2, l3, l4, l5, l6, l7, l8, l9, l10] [.int x2, .int x1, t0] h Q ↔ zEv sc 92 262 [l0, l1, l2, l3, l4, l5, l6, l7, l8, l9, l10] [.int (x1 + x2), t0] h Q := zE_pure (q := (262, [l0, l1, l2, l3, l4, l5, l6, l7, l8, l9, l10], [.int (x1 + x2), t0])) dz92_261 rfl rfl rfl
theorem dz92_262 : decode (z_code 92) 262 = .ok (.invokevirtual 13, 3) := by decide +kernel
theorem u92_262 (ho : zO a 9) : zEv sc 92 262 [l0, l1, l2, l3, l4, l5, l6, l7, l8, l9, l10] [.int z0, .ref a] (zst p iv) Q ↔ zEv sc 81 0 [.ref a, .int z0] [] (zst p iv) (fun r h9 => zEv sc 92 265 [l0, l1, l2, l3, l4, l5, l6, l7, l8, l9, l10] (r.toList ++ []) h9 Q) := zE_call (kd := 0) (na := 2) (nr := 0) (as := [.ref a, .int z0]) (rest := []) (Or.inl ⟨rfl, rfl⟩) dz92_262 (by decide +kernel : z_lk2 zCT (z_cls 92) 13 = some (81, 0, 300)) (fun z => by cases z) rfl rfl rfl (by decide +kernel) rfl rfl (Or.inr (zE_rc ho))
theorem dz92_265 : decode (z_code 92) 265 = .ok (.iload 8, 2) := by decide +kernel
theorem u92_265 : zEv sc 92 265 [l0, l1, l2, l3, l4, l5, l6, l7, .int x, l9, l10] [t0] h Q ↔ zEv sc 92 267 [l0, l1, l2, l3, l4, l5, l6, l7, .int x, l9, l10] [.int x, t0] h Q := zE_pure (q := (267, [l0, l1, l2, l3, l4, l5, l6, l7, .int x, l9, l10], [.int x, t0])) dz92_265 rfl rfl rfl
theorem dz92_267 : decode (z_code 92) 267 = .ok (.iconst 1, 1) := by decide +kernel
theorem u92_267 : zEv sc 92 267 [l0, l1, l2, l3, l4, l5, l6, l7, l8, l9, l10] [t0, t1] h Q ↔ zEv sc 92 268 [l0, l1, l2, l3, l4, l5, l6, l7, l8, l9, l10] [.int 1, t0, t1] h Q := zE_iconst dz92_267 (by decide +kernel)
theorem dz92_268 : decode (z_code 92) 268 = .ok (.isub, 1) := by decide +kernel
theorem u92_268 : zEv sc 92 268 [l0, l1, l2, l3, l4, l5, l6, l7, l8, l9, l10] [.int x2, .int x1, t0] h Q ↔ zEv sc 92 269 [l0, l1, l2, l3, l4, l5, l6, l7, l8, l9, l10] [.int (x1 - x2), t0] h Q := zE_pure (q := (269, [l0, l1, l2, l3, l4, l5, l6, l7, l8, l9, l10], [.int (x1 - x2), t0])) dz92_268 rfl rfl rfl
theorem dz92_269 : decode (z_code 92) 269 = .ok (.if_icmp .ne 7, 3) := by decide +kernel
theorem u92_269 : zEv sc 92 269 [l0, l1, l2, l3, l4, l5, l6, l7, l8, l9, l10] [.int x2, .int x1] h Q ↔ (if ¬ x1 = x2 then zEv sc 92 276 [l0, l1, l2, l3, l4, l5, l6, l7, l8, l9, l10] [] h Q else zEv sc 92 272 [l0, l1, l2, l3, l4, l5, l6, l7, l8, l9, l10] [] h Q) := zE_icP (P := ¬ x1 = x2) inferInstance 276 dz92_269 rfl rfl
theorem dz92_272 : decode (z_code 92) 272 = .ok (.iconst 1, 1) := by decide +kernel
theorem u92_272 : zEv sc 92 272 [l0, l1, l2, l3, l4, l5, l6, l7, l8, l9, l10] [] h Q ↔ zEv sc 92 273 [l0, l1, l2, l3, l4, l5, l6, l7, l8, l9, l10] [.int 1] h Q := zE_iconst dz92_272 (by decide +kernel)
theorem dz92_273 : decode (z_code 92) 273 = .ok (.goto 4, 3) := by decide +kernel
theorem u92_273 : zEv sc 92 273 [l0, l1, l2, l3, l4, l5, l6, l7, l8, l9, l10] [t0] h Q ↔ zEv sc 92 277 [l0, l1, l2, l3, l4, l5, l6, l7, l8, l9, l10] [t0] h Q := zE_go 277 dz92_273 rfl
theorem dz92_276 : decode (z_code 92) 276 = .ok (.iconst 0, 1) := by decide +kernel
theorem u92_276 : zEv sc 92 276 [l0, l1, l2, l3, l4, l5, l6, l7, l8, l9, l10] [] h Q ↔ zEv sc 92 277 [l0, l1, l2, l3, l4, l5, l6, l7, l8, l9, l10] [.int 0] h Q := zE_iconst dz92_276 (by decide +kernel)
theorem dz92_278 : decode (z_code 92) 278 = .ok (.iload_n 3, 1) := by decide +kernel
theorem u92_278 : zEv sc 92 278 [l0, l1, l2, .int x, l4, l5, l6, l7, l8, l9, l10] [] h Q ↔ zEv sc 92 279 [l0, l1, l2, .int x, l4, l5, l6, l7, l8, l9, l10] [.int x] h Q := zE_pure (q := (279, [l0, l1, l2, .int x, l4, l5, l6, l7, l8, l9, l10], [.int x])) dz92_278 rfl rfl rfl
theorem dz92_279 : decode (z_code 92) 279 = .ok (.bipush 9, 2) := by decide +kernel
theorem u92_279 : zEv sc 92 279 [l0, l1, l2, l3, l4, l5, l6, l7, l8, l9, l10] [t0] h Q ↔ zEv sc 92 281 [l0, l1, l2, l3, l4, l5, l6, l7, l8, l9, l10] [.int 9, t0] h Q := zE_bipush dz92_279 (by decide +kernel)
theorem dz92_281 : decode (z_code 92) 281 = .ok (.if_icmp .ge 140, 3) := by decide +kernel
theorem u92_281 : zEv sc 92 281 [l0, l1, l2, l3, l4, l5, l6, l7, l8, l9, l10] [.int x2, .int x1] h Q ↔ (if x2 ≤ x1 then zEv sc 92 421 [l0, l1, l2, l3, l4, l5, l6, l7, l8, l9, l10] [] h Q else zEv sc 92 284 [l0, l1, l2, l3, l4, l5, l6, l7, l8, l9, l10] [] h Q) := zE_icP (P := x2 ≤ x1) inferInstance 421 dz92_281 rfl rfl
theorem dz92_284 : decode (z_code 92) 284 = .ok (.iload_n 2, 1) := by decide +kernel
theorem u92_284 : zEv sc 92 284 [l0, l1, .int x, l3, l4, l5, l6, l7, l8, l9, l10] [] h Q ↔ zEv sc 92 285 [l0, l1, .int x, l3, l4, l5, l6, l7, l8, l9, l10] [.int x] h Q := zE_pure (q := (285, [l0, l1, .int x, l3, l4, l5, l6, l7, l8, l9, l10], [.int x])) dz92_284 rfl rfl rfl
theorem dz92_285 : decode (z_code 92) 285 = .ok (.iconst 4, 1) := by decide +kernel
theorem u92_285 : zEv sc 92 285 [l0, l1, l2, l3, l4, l5, l6, l7, l8, l9, l10] [t0] h Q ↔ zEv sc 92 286 [l0, l1, l2, l3, l4, l5, l6, l7, l8, l9, l10] [.int 4, t0] h Q := zE_iconst dz92_285 (by decide +kernel)
theorem dz92_286 : decode (z_code 92) 286 = .ok (.invokestatic 25, 3) := by decide +kernel
theorem u92_286 : zEv sc 92 286 [l0, l1, l2, l3, l4, l5, l6, l7, l8, l9, l10] [.int z1, .int z0] h Q ↔ zEv sc 87 0 [.int z0, .int z1] [] h (fun r h9 => zEv sc 92 289 [l0, l1, l2, l3, l4, l5, l6, l7, l8, l9, l10] (r.toList ++ []) h9 Q) := zE_call (kd := 1) (na := 2) (nr := 0) (as := [.int z0, .int z1]) (rest := []) (Or.inr ⟨rfl, rfl⟩) dz92_286 (by decide +kernel : z_lk2 zCT (z_cls 92) 25 = some (87, 0, 345)) (fun _ => ⟨by decide +kernel, by decide +kernel⟩) rfl rfl rfl (by decide +kernel) rfl rfl (Or.inl rfl)
theorem dz92_289 : decode (z_code 92) 289 = .ok (.ifCond .ne 14, 3) := by decide +kernel
theorem u92_289 : zEv sc 92 289 [l0, l1, l2, l3, l4, l5, l6, l7, l8, l9, l10] [.int x] h Q ↔ (if ¬ x = 0 then zEv sc 92 303 [l0, l1, l2, l3, l4, l5, l6, l7, l8, l9, l10] [] h Q else zEv sc 92 292 [l0, l1, l2, l3, l4, l5, l6, l7, l8, l9, l10] [] h Q) := zE_ifP (P := ¬ x = 0) inferInstance 303 dz92_289 rfl rfl
theorem dz92_292 : decode (z_code 92) 292 = .ok (.iload_n 2, 1) := by decide +kernel
theorem u92_292 : zEv sc 92 292 [l0, l1, .int x, l3, l4, l5, l6, l7, l8, l9, l10] [] h Q ↔ zEv sc 92 293 [l0, l1, .int x, l3, l4, l5, l6, l7, l8, l9, l10] [.int x] h Q := zE_pure (q := (293, [l0, l1, .int x, l3, l4, l5, l6, l7, l8, l9, l10], [.int x])) dz92_292 rfl rfl rfl
theorem dz92_293 : decode (z_code 92) 293 = .ok (.iconst 2, 1) := by decide +kernel
theorem u92_293 : zEv sc 92 293 [l0, l1, l2, l3, l4, l5, l6, l7, l8, l9, l10] [t0] h Q ↔ zEv sc 92 294 [l0, l1, l2, l3, l4, l5, l6, l7, l8, l9, l10] [.int 2, t0] h Q := zE_iconst dz92_293 (by decide +kernel)
theorem dz92_294 : decode (z_code 92) 294 = .ok (.ishr, 1) := by decide +kernel
theorem u92_294 : zEv sc 92 294 [l0, l1, l2, l3, l4, l5, l6, l7, l8, l9, l10] [.int x2, .int x1] h Q ↔ zEv sc 92 295 [l0, l1, l2, l3, l4, l5, l6, l7, l8, l9, l10] [.int (x1 >>> (x2 &&& 31))] h Q := zE_pure (q := (295, [l0, l1, l2, l3, l4, l5, l6, l7, l8, l9, l10], [.int (x1 >>> (x2 &&& 31))])) dz92_294 rfl rfl rfl
theorem dz92_295 : decode (z_code 92) 295 = .ok (.bipush 22, 2) := by decide +kernel
theorem u92_295 : zEv sc 92 295 [l0, l1, l2, l3, l4, l5, l6, l7, l8, l9, l10] [t0] h Q ↔ zEv sc 92 297 [l0, l1, l2, l3, l4, l5, l6, l7, l8, l9, l10] [.int 22, t0] h Q := zE_bipush dz92_295 (by decide +kernel)
theorem dz92_297 : decode (z_code 92) 297 = .ok (.invokestatic 25, 3) := by decide +kernel
theorem u92_297 : zEv sc 92 297 [l0, l1, l2, l3, l4, l5, l6, l7, l8, l9, l10] [.int z1, .int z0] h Q ↔ zEv sc 87 0 [.int z0, .int z1] [] h (fun r h9 => zEv sc 92 300 [l0, l1, l2, l3, l4, l5, l6, l7, l8, l9, l10] (r.toList ++ []) h9 Q) := zE_call (kd := 1) (na := 2) (nr := 0) (as := [.int z0, .int z1]) (rest := []) (Or.inr ⟨rfl, rfl⟩) dz92_297 (by decide +kernel : z_lk2 zCT (z_cls 92) 25 = some (87, 0, 345)) (fun _ => ⟨by decide +kernel, by decide +kernel⟩) rfl rfl rfl (by decide +kernel) rfl rfl (Or.inl rfl)
theorem dz92_300 : decode (z_code 92) 300 = .ok (.goto 12, 3) := by decide +kernel
theorem u92_300 : zEv sc 92 300 [l0, l1, l2, l3, l4, l5, l6, l7, l8, l9, l10] [t0] h Q ↔ zEv sc 92 312 [l0, l1, l2, l3, l4, l5, l6, l7, l8, l9, l10] [t0] h Q := zE_go 312 dz92_300 rfl
theorem dz92_312 : decode (z_code 92) 312 = .ok (.istore 8, 2) := by decide +kernel
theorem u92_312 : zEv sc 92 312 [l0, l1, l2, l3, l4, l5, l6, l7, l8, l9, l10] [.int x] h Q ↔ zEv sc 92 314 [l0, l1, l2, l3, l4, l5, l6, l7, .int x, l9, l10] [] h Q := zE_pure (q := (314, [l0, l1, l2, l3, l4, l5, l6, l7, .int x, l9, l10], [])) dz92_312 rfl rfl rfl
theorem dz92_314 : decode (z_code 92) 314 = .ok (.aload_n 0, 1) := by decide +kernel
theorem u92_314 : zEv sc 92 314 [.ref a, l1, l2, l3, l4, l5, l6, l7, l8, l9, l10] [] h Q ↔ zEv sc 92 315 [.ref a, l1, l2, l3, l4, l5, l6, l7, l8, l9, l10] [.ref a] h Q := zE_pure (q := (315, [.ref a, l1, l2, l3, l4, l5, l6, l7, l8, l9, l10], [.ref a])) dz92_314 rfl rfl rfl
theorem dz92_315 : decode (z_code 92) 315 = .ok (.bipush 7, 2) := by decide +kernel
theorem u92_315 : zEv sc 92 315 [l0, l1, l2, l3, l4, l5, l6, l7, l8, l9, l10] [t0] h Q ↔ zEv sc 92 317 [l0, l1, l2, l3, l4, l5, l6, l7, l8, l9, l10] [.int 7, t0] h Q := zE_bipush dz92_315 (by decide +kernel)
theorem dz92_317 : decode (z_code 92) 317 = .ok (.invokevirtual 13, 3) := by decide +kernel
theorem u92_317 (ho : zO a 9) : zEv sc 92 317 [l0, l1, l2, l3, l4, l5, l6, l7, l8, l9, l10] [.int z0, .ref a] (zst p iv) Q ↔ zEv sc 81 0 [.ref a, .int z0] [] (zst p iv) (fun r h9 => zEv sc 92 320 [l0, l1, l2, l3, l4, l5, l6, l7, l8, l9, l10] (r.toList ++ []) h9 Q) := zE_call (kd := 0) (na := 2) (nr := 0) (as := [.ref a, .int z0]) (rest := []) (Or.inl ⟨rfl, rfl⟩) dz92_317 (by decide +kernel : z_lk2 zCT (z_cls 92) 13 = some (81, 0, 300)) (fun z => by cases z) rfl rfl rfl (by decide +kernel) rfl rfl (Or.inr (zE_rc ho))
theorem dz92_320 : decode (z_code 92) 320 = .ok (.istore 9, 2) := by decide +kernel
theorem u92_320 : zEv sc 92 320 [l0, l1, l2, l3, l4, l5, l6, l7, l8, l9, l10] [.int x] h Q ↔ zEv sc 92 322 [l0, l1, l2, l3, l4, l5, l6, l7, l8, .int x, l10] [] h Q := zE_pure (q := (322, [l0, l1, l2, l3, l4, l5, l6, l7, l8, .int x, l10], [])) dz92_320 rfl rfl rfl
theorem dz92_322 : decode (z_code 92) 322 = .ok (.aload_n 0, 1) := by decide +kernel
theorem u92_322 : zEv sc 92 322 [.ref a, l1, l2, l3, l4, l5, l6, l7, l8, l9, l10] [] h Q ↔ zEv sc 92 323 [.ref a, l1, l2, l3, l4, l5, l6, l7, l8, l9, l10] [.ref a] h Q := zE_pure (q := (323, [.ref a, l1, l2, l3, l4, l5, l6, l7, l8, l9, l10], [.ref a])) dz92_322 rfl rfl rfl
theorem dz92_323 : decode (z_code 92) 323 = .ok (.iload 8, 2) := by decide +kernel
theorem u92_323 : zEv sc 92 323 [l0, l1, l2, l3, l4, l5, l6, l7, .int x, l9, l10] [t0] h Q ↔ zEv sc 92 325 [l0, l1, l2, l3, l4, l5, l6, l7, .int x, l9, l10] [.int x, t0] h Q := zE_pure (q := (325, [l0, l1, l2, l3, l4, l5, l6, l7, .int x, l9, l10], [.int x, t0])) dz92_323 rfl rfl rfl
theorem dz92_325 : decode (z_code 92) 325 = .ok (.invokevirtual 69, 3) := by decide +kernel
theorem u92_325 (ho : zO a 9) : zEv sc 92 325 [l0, l1, l2, l3, l4, l5, l6, l7, l8, l9, l10] [.int z0, .ref a] (zst p iv) Q ↔ zEv sc 71 0 [.ref a, .int z0, .null, .null, .null] [] (zst p iv) (fun r h9 => zEv sc 92 328 [l0, l1, l2, l3, l4, l5, l6, l7, l8, l9, l10] (r.toList ++ []) h9 Q) := zE_call (kd := 0) (na := 2) (nr := 0) (as := [.ref a, .int z0]) (rest := []) (Or.inl ⟨rfl, rfl⟩) dz92_325 (by decide +kernel : z_lk2 zCT (z_cls 92) 69 = some (71, 0, 514)) (fun z => by cases z) rfl rfl rfl (by decide +kernel) rfl rfl (Or.inr (zE_rc ho))
theorem dz92_328 : decode (z_code 92) 328 = .ok (.istore 10, 2) := by decide +kernel
theorem u92_328 : zEv sc 92 328 [l0, l1, l2, l3, l4, l5, l6, l7, l8, l9, l10] [.int x] h Q ↔ zEv sc 92 330 [l0, l1, l2, l3, l4, l5, l6, l7, l8, l9, .int x] [] h Q := zE_pure (q := (330, [l0, l1, l2, l3, l4, l5, l6, l7, l8, l9, .int x], [])) dz92_328 rfl rfl rfl
theorem dz92_330 : decode (z_code 92) 330 = .ok (.iload 8, 2) := by decide +kernel
theorem u92_330 : zEv sc 92 330 [l0, l1, l2, l3, l4, l5, l6, l7, .int x, l9, l10] [] h Q ↔ zEv sc 92 332 [l0, l1, l2, l3, l4, l5, l6, l7, .int x, l9, l10] [.int x] h Q := zE_pure (q := (332, [l0, l1, l2, l3, l4, l5, l6, l7, .int x, l9, l10], [.int x])) dz92_330 rfl rfl rfl
theorem dz92_332 : decode (z_code 92) 332 = .ok (.ifCond .eq 10, 3) := by decide +kernel
theorem u92_332 : zEv sc 92 332 [l0, l1, l2, l3, l4, l5, l6, l7, l8, l9, l10] [.int x] h Q ↔ (if x = 0 then zEv sc 92 342 [l0, l1, l2, l3, l4, l5, l6, l7, l8, l9, l10] [] h Q else zEv sc 92 335 [l0, l1, l2, l3, l4, l5, l6, l7, l8, l9, l10] [] h Q) := zE_ifP (P := x = 0) inferInstance 342 dz92_332 rfl rfl
theorem dz92_335 : decode (z_code 92) 335 = .ok (.iload 8, 2) := by decide +kernel
theorem u92_335 : zEv sc 92 335 [l0, l1, l2, l3, l4, l5, l6, l7, .int x, l9, l10] [] h Q ↔ zEv sc 92 337 [l0, l1, l2, l3, l4, l5, l6, l7, .int x, l9, l10] [.int x] h Q := zE_pure (q := (337, [l0, l1, l2, l3, l4, l5, l6, l7, .int x, l9, l10], [.int x])) dz92_335 rfl rfl rfl
theorem dz92_337 : decode (z_code 92) 337 = .ok (.bipush 21, 2) := by decide +kernel
theorem u92_337 : zEv sc 92 337 [l0, l1, l2, l3, l4, l5, l6, l7, l8, l9, l10] [t0] h Q ↔ zEv sc 92 339 [l0, l1, l2, l3, l4, l5, l6, l7, l8, l9, l10] [.int 21, t0] h Q := zE_bipush dz92_337 (by decide +kernel)
theorem dz92_339 : decode (z_code 92) 339 = .ok (.if_icmp .ne 18, 3) := by decide +kernel
theorem u92_339 : zEv sc 92 339 [l0, l1, l2, l3, l4, l5, l6, l7, l8, l9, l10] [.int x2, .int x1] h Q ↔ (if ¬ x1 = x2 then zEv sc 92 357 [l0, l1, l2, l3, l4, l5, l6, l7, l8, l9, l10] [] h Q else zEv sc 92 342 [l0, l1, l2, l3, l4, l5, l6, l7, l8, l9, l10] [] h Q) := zE_icP (P := ¬ x1 = x2) inferInstance 357 dz92_339 rfl rfl
theorem dz92_357 : decode (z_code 92) 357 = .ok (.iload 10, 2) := by decide +kernel
theorem u92_357 : zEv sc 92 357 [l0, l1, l2, l3, l4, l5, l6, l7, l8, l9, .int x] [] h Q ↔ zEv sc 92 359 [l0, l1, l2, l3, l4, l5, l6, l7, l8, l9, .int x] [.int x] h Q := zE_pure (q := (359, [l0, l1, l2, l3, l4, l5, l6, l7, l8, l9, .int x], [.int x])) dz92_357 rfl rfl rfl
theorem dz92_359 : decode (z_code 92) 359 = .ok (.ifCond .ge 25, 3) := by decide +kernel
theorem u92_359 : zEv sc 92 359 [l0, l1, l2, l3, l4, l5, l6, l7, l8, l9, l10] [.int x] h Q ↔ (if 0 ≤ x then zEv sc 92 384 [l0, l1, l2, l3, l4, l5, l6, l7, l8, l9, l10] [] h Q else zEv sc 92 362 [l0, l1, l2, l3, l4, l5, l6, l7, l8, l9, l10] [] h Q) := zE_ifP (P := 0 ≤ x) inferInstance 384 dz92_359 rfl rfl
theorem dz92_362 : decode (z_code 92) 362 = .ok (.iload 10, 2) := by decide +kernel
theorem u92_362 : zEv sc 92 362 [l0, l1, l2, l3, l4, l5, l6, l7, l8, l9, .int x] [] h Q ↔ zEv sc 92 364 [l0, l1, l2, l3, l4, l5, l6, l7, l8, l9, .int x] [.int x] h Q := zE_pure (q := (364, [l0, l1, l2, l3, l4, l5, l6, l7, l8, l9, .int x], [.int x])) dz92_362 rfl rfl rfl
theorem dz92_364 : decode (z_code 92) 364 = .ok (.ldc 38, 2) := by decide +kernel
theorem u92_364 : zEv sc 92 364 [l0, l1, l2, l3, l4, l5, l6, l7, l8, l9, l10] [t0] h Q ↔ zEv sc 92 366 [l0, l1, l2, l3, l4, l5, l6, l7, l8, l9, l10] [.int (-1000002), t0] h Q := zE_ldc (by decide +kernel : z_lkK zKT (z_cls 92) 38 = some ((-1000002), 430)) dz92_364
theorem dz92_366 : decode (z_code 92) 366 = .ok (.if_icmp .eq 10, 3) := by decide +kernel
theorem u92_366 : zEv sc 92 366 [l0, l1, l2, l3, l4, l5, l6, l7, l8, l9, l10] [.int x2, .int x1] h Q ↔ (if x1 = x2 then zEv sc 92 376 [l0, l1, l2, l3, l4, l5, l6, l7, l8, l9, l10] [] h Q else zEv sc 92 369 [l0, l1, l2, l3, l4, l5, l6, l7, l8, l9, l10] [] h Q) := zE_icP (P := x1 = x2) inferInstance 376 dz92_366 rfl rfl
theorem dz92_369 : decode (z_code 92) 369 = .ok (.iload 10, 2) := by decide +kernel
theorem u92_369 : zEv sc 92 369 [l0, l1, l2, l3, l4, l5, l6, l7, l8, l9, .int x] [] h Q ↔ zEv sc 92 371 [l0, l1, l2, l3, l4, l5, l6, l7, l8, l9, .int x] [.int x] h Q := zE_pure (q := (371, [l0, l1, l2, l3, l4, l5, l6, l7, l8, l9, .int x], [.int x])) dz92_369 rfl rfl rfl
theorem dz92_371 : decode (z_code 92) 371 = .ok (.ldc 65, 2) := by decide +kernel
theorem u92_371 : zEv sc 92 371 [l0, l1, l2, l3, l4, l5, l6, l7, l8, l9, l10] [t0] h Q ↔ zEv sc 92 373 [l0, l1, l2, l3, l4, l5, l6, l7, l8, l9, l10] [.int (-1000003), t0] h Q := zE_ldc (by decide +kernel : z_lkK zKT (z_cls 92) 65 = some ((-1000003), 505)) dz92_371
theorem dz92_373 : decode (z_code 92) 373 = .ok (.if_icmp .ne 7, 3) := by decide +kernel
theorem u92_373 : zEv sc 92 373 [l0, l1, l2, l3, l4, l5, l6, l7, l8, l9, l10] [.int x2, .int x1] h Q ↔ (if ¬ x1 = x2 then zEv sc 92 380 [l0, l1, l2, l3, l4, l5, l6, l7, l8, l9, l10] [] h Q else zEv sc 92 376 [l0, l1, l2, l3, l4, l5, l6, l7, l8, l9, l10] [] h Q) := zE_icP (P := ¬ x1 = x2) inferInstance 380 dz92_373 rfl rfl
theorem dz92_380 : decode (z_code 92) 380 = .ok (.iconst 0, 1) := by decide +kernel
theorem u92_380 : zEv sc 92 380 [l0, l1, l2, l3, l4, l5, l6, l7, l8, l9, l10] [] h Q ↔ zEv sc 92 381 [l0, l1, l2, l3, l4, l5, l6, l7, l8, l9, l10] [.int 0] h Q := zE_iconst dz92_380 (by decide +kernel)
theorem dz92_381 : decode (z_code 92) 381 = .ok (.goto 39, 3) := by decide +kernel
theorem u92_381 : zEv sc 92 381 [l0, l1, l2, l3, l4, l5, l6, l7, l8, l9, l10] [t0] h Q ↔ zEv sc 92 420 [l0, l1, l2, l3, l4, l5, l6, l7, l8, l9, l10] [t0] h Q := zE_go 420 dz92_381 rfl
theorem dz92_420 : decode (z_code 92) 420 = .ok (.ireturn, 1) := by decide +kernel
theorem u92_420 : zEv sc 92 420 [l0, l1, l2, l3, l4, l5, l6, l7, l8, l9, l10] [.int x] h Q ↔ ((x = 0 ∨ x = 1) ∧ Q (some (.int x)) h) := zE_rz dz92_420 (by decide +kernel)
theorem dz92_376 : decode (z_code 92) 376 = .ok (.iconst 1, 1) := by decide +kernel
theorem u92_376 : zEv sc 92 376 [l0, l1, l2, l3, l4, l5, l6, l7, l8, l9, l10] [] h Q ↔ zEv sc 92 377 [l0, l1, l2, l3, l4, l5, l6, l7, l8, l9, l10] [.int 1] h Q := zE_iconst dz92_376 (by decide +kernel)
theorem dz92_377 : decode (z_code 92) 377 = .ok (.goto 43, 3) := by decide +kernel
theorem u92_377 : zEv sc 92 377 [l0, l1, l2, l3, l4, l5, l6, l7, l8, l9, l10] [t0] h Q ↔ zEv sc 92 420 [l0, l1, l2, l3, l4, l5, l6, l7, l8, l9, l10] [t0] h Q := zE_go 420 dz92_377 rfl
theorem dz92_384 : decode (z_code 92) 384 = .ok (.aload_n 0, 1) := by decide +kernel
theorem u92_384 : zEv sc 92 384 [.ref a, l1, l2, l3, l4, l5, l6, l7, l8, l9, l10] [] h Q ↔ zEv sc 92 385 [.ref a, l1, l2, l3, l4, l5, l6, l7, l8, l9, l10] [.ref a] h Q := zE_pure (q := (385, [.ref a, l1, l2, l3, l4, l5, l6, l7, l8, l9, l10], [.ref a])) dz92_384 rfl rfl rfl
theorem dz92_385 : decode (z_code 92) 385 = .ok (.bipush 7, 2) := by decide +kernel
theorem u92_385 : zEv sc 92 385 [l0, l1, l2, l3, l4, l5, l6, l7, l8, l9, l10] [t0] h Q ↔ zEv sc 92 387 [l0, l1, l2, l3, l4, l5, l6, l7, l8, l9, l10] [.int 7, t0] h Q := zE_bipush dz92_385 (by decide +kernel)
theorem dz92_387 : decode (z_code 92) 387 = .ok (.invokevirtual 13, 3) := by decide +kernel
theorem u92_387 (ho : zO a 9) : zEv sc 92 387 [l0, l1, l2, l3, l4, l5, l6, l7, l8, l9, l10] [.int z0, .ref a] (zst p iv) Q ↔ zEv sc 81 0 [.ref a, .int z0] [] (zst p iv) (fun r h9 => zEv sc 92 390 [l0, l1, l2, l3, l4, l5, l6, l7, l8, l9, l10] (r.toList ++ []) h9 Q) := zE_call (kd := 0) (na := 2) (nr := 0) (as := [.ref a, .int z0]) (rest := []) (Or.inl ⟨rfl, rfl⟩) dz92_387 (by decide +kernel : z_lk2 zCT (z_cls 92) 13 = some (81, 0, 300)) (fun z => by cases z) rfl rfl rfl (by decide +kernel) rfl rfl (Or.inr (zE_rc ho))
theorem dz92_390 : decode (z_code 92) 390 = .ok (.iload 9, 2) := by decide +kernel
theorem u92_390 : zEv sc 92 390 [l0, l1, l2, l3, l4, l5, l6, l7, l8, .int x, l10] [t0] h Q ↔ zEv sc 92 392 [l0, l1, l2, l3, l4, l5, l6, l7, l8, .int x, l10] [.int x, t0] h Q := zE_pure (q := (392, [l0, l1, l2, l3, l4, l5, l6, l7, l8, .int x, l10], [.int x, t0])) dz92_390 rfl rfl rfl
theorem dz92_392 : decode (z_code 92) 392 = .ok (.iload 8, 2) := by decide +kernel
theorem u92_392 : zEv sc 92 392 [l0, l1, l2, l3, l4, l5, l6, l7, .int x, l9, l10] [t0, t1] h Q ↔ zEv sc 92 394 [l0, l1, l2, l3, l4, l5, l6, l7, .int x, l9, l10] [.int x, t0, t1] h Q := zE_pure (q := (394, [l0, l1, l2, l3, l4, l5, l6, l7, .int x, l9, l10], [.int x, t0, t1])) dz92_392 rfl rfl rfl
theorem dz92_394 : decode (z_code 92) 394 = .ok (.iadd, 1) := by decide +kernel
theorem u92_394 : zEv sc 92 394 [l0, l1, l2, l3, l4, l5, l6, l7, l8, l9, l10] [.int x2, .int x1, t0] h Q ↔ zEv sc 92 395 [l0, l1, l2, l3, l4, l5, l6, l7, l8, l9, l10] [.int (x1 + x2), t0] h Q := zE_pure (q := (395, [l0, l1, l2, l3, l4, l5, l6, l7, l8, l9, l10], [.int (x1 + x2), t0])) dz92_394 rfl rfl rfl
theorem dz92_395 : decode (z_code 92) 395 = .ok (.if_icmp .ne 24, 3) := by decide +kernel
theorem u92_395 : zEv sc 92 395 [l0, l1, l2, l3, l4, l5, l6, l7, l8, l9, l10] [.int x2, .int x1] h Q ↔ (if ¬ x1 = x2 then zEv sc 92 419 [l0, l1, l2, l3, l4, l5, l6, l7, l8, l9, l10] [] h Q else zEv sc 92 398 [l0, l1, l2, l3, l4, l5, l6, l7, l8, l9, l10] [] h Q) := zE_icP (P := ¬ x1 = x2) inferInstance 419 dz92_395 rfl rfl
theorem dz92_398 : decode (z_code 92) 398 = .ok (.iload 10, 2) := by decide +kernel
theorem u92_398 : zEv sc 92 398 [l0, l1, l2, l3, l4, l5, l6, l7, l8, l9, .int x] [] h Q ↔ zEv sc 92 400 [l0, l1, l2, l3, l4, l5, l6, l7, l8, l9, .int x] [.int x] h Q := zE_pure (q := (400, [l0, l1, l2, l3, l4, l5, l6, l7, l8, l9, .int x], [.int x])) dz92_398 rfl rfl rfl
theorem dz92_400 : decode (z_code 92) 400 = .ok (.aload_n 0, 1) := by decide +kernel
theorem u92_400 : zEv sc 92 400 [.ref a, l1, l2, l3, l4, l5, l6, l7, l8, l9, l10] [t0] h Q ↔ zEv sc 92 401 [.ref a, l1, l2, l3, l4, l5, l6, l7, l8, l9, l10] [.ref a, t0] h Q := zE_pure (q := (401, [.ref a, l1, l2, l3, l4, l5, l6, l7, l8, l9, l10], [.ref a, t0])) dz92_400 rfl rfl rfl
theorem dz92_401 : decode (z_code 92) 401 = .ok (.iconst 5, 1) := by decide +kernel
theorem u92_401 : zEv sc 92 401 [l0, l1, l2, l3, l4, l5, l6, l7, l8, l9, l10] [t0, t1] h Q ↔ zEv sc 92 402 [l0, l1, l2, l3, l4, l5, l6, l7, l8, l9, l10] [.int 5, t0, t1] h Q := zE_iconst dz92_401 (by decide +kernel)
theorem dz92_402 : decode (z_code 92) 402 = .ok (.invokevirtual 13, 3) := by decide +kernel
theorem u92_402 (ho : zO a 9) : zEv sc 92 402 [l0, l1, l2, l3, l4, l5, l6, l7, l8, l9, l10] [.int z0, .ref a, t0] (zst p iv) Q ↔ zEv sc 81 0 [.ref a, .int z0] [] (zst p iv) (fun r h9 => zEv sc 92 405 [l0, l1, l2, l3, l4, l5, l6, l7, l8, l9, l10] (r.toList ++ [t0]) h9 Q) := zE_call (kd := 0) (na := 2) (nr := 1) (as := [.ref a, .int z0]) (rest := [t0]) (Or.inl ⟨rfl, rfl⟩) dz92_402 (by decide +kernel : z_lk2 zCT (z_cls 92) 13 = some (81, 0, 300)) (fun z => by cases z) rfl rfl rfl (by decide +kernel) rfl rfl (Or.inr (zE_rc ho))
theorem dz92_405 : decode (z_code 92) 405 = .ok (.aload_n 0, 1) := by decide +kernel
theorem u92_405 : zEv sc 92 405 [.ref a, l1, l2, l3, l4, l5, l6, l7, l8, l9, l10] [t0, t1] h Q ↔ zEv sc 92 406 [.ref a, l1, l2, l3, l4, l5, l6, l7, l8, l9, l10] [.ref a, t0, t1] h Q := zE_pure (q := (406, [.ref a, l1, l2, l3, l4, l5, l6, l7, l8, l9, l10], [.ref a, t0, t1])) dz92_405 rfl rfl rfl
theorem dz92_406 : decode (z_code 92) 406 = .ok (.bipush 6, 2) := by decide +kernel
theorem u92_406 : zEv sc 92 406 [l0, l1, l2, l3, l4, l5, l6, l7, l8, l9, l10] [t0, t1, t2] h Q ↔ zEv sc 92 408 [l0, l1, l2, l3, l4, l5, l6, l7, l8, l9, l10] [.int 6, t0, t1, t2] h Q := zE_bipush dz92_406 (by decide +kernel)
theorem dz92_408 : decode (z_code 92) 408 = .ok (.invokevirtual 13, 3) := by decide +kernel
theorem u92_408 (ho : zO a 9) : zEv sc 92 408 [l0, l1, l2, l3, l4, l5, l6, l7, l8, l9, l10] [.int z0, .ref a, t0, t1] (zst p iv) Q ↔ zEv sc 81 0 [.ref a, .int z0] [] (zst p iv) (fun r h9 => zEv sc 92 411 [l0, l1, l2, l3, l4, l5, l6, l7, l8, l9, l10] (r.toList ++ [t0, t1]) h9 Q) := zE_call (kd := 0) (na := 2) (nr := 2) (as := [.ref a, .int z0]) (rest := [t0, t1]) (Or.inl ⟨rfl, rfl⟩) dz92_408 (by decide +kernel : z_lk2 zCT (z_cls 92) 13 = some (81, 0, 300)) (fun z => by cases z) rfl rfl rfl (by decide +kernel) rfl rfl (Or.inr (zE_rc ho))
theorem dz92_411 : decode (z_code 92) 411 = .ok (.iadd, 1) := by decide +kernel
theorem u92_411 : zEv sc 92 411 [l0, l1, l2, l3, l4, l5, l6, l7, l8, l9, l10] [.int x2, .int x1, t0] h Q ↔ zEv sc 92 412 [l0, l1, l2, l3, l4, l5, l6, l7, l8, l9, l10] [.int (x1 + x2), t0] h Q := zE_pure (q := (412, [l0, l1, l2, l3, l4, l5, l6, l7, l8, l9, l10], [.int (x1 + x2), t0])) dz92_411 rfl rfl rfl
theorem dz92_412 : decode (z_code 92) 412 = .ok (.if_icmp .ne 7, 3) := by decide +kernel
theorem u92_412 : zEv sc 92 412 [l0, l1, l2, l3, l4, l5, l6, l7, l8, l9, l10] [.int x2, .int x1] h Q ↔ (if ¬ x1 = x2 then zEv sc 92 419 [l0, l1, l2, l3, l4, l5, l6, l7, l8, l9, l10] [] h Q else zEv sc 92 415 [l0, l1, l2, l3, l4, l5, l6, l7, l8, l9, l10] [] h Q) := zE_icP (P := ¬ x1 = x2) inferInstance 419 dz92_412 rfl rfl
theorem dz92_415 : decode (z_code 92) 415 = .ok (.iconst 1, 1) := by decide +kernel
theorem u92_415 : zEv sc 92 415 [l0, l1, l2, l3, l4, l5, l6, l7, l8, l9, l10] [] h Q ↔ zEv sc 92 416 [l0, l1, l2, l3, l4, l5, l6, l7, l8, l9, l10] [.int 1] h Q := zE_iconst dz92_415 (by decide +kernel)
theorem dz92_416 : decode (z_code 92) 416 = .ok (.goto 4, 3) := by decide +kernel
theorem u92_416 : zEv sc 92 416 [l0, l1, l2, l3, l4, l5, l6, l7, l8, l9, l10] [t0] h Q ↔ zEv sc 92 420 [l0, l1, l2, l3, l4, l5, l6, l7, l8, l9, l10] [t0] h Q := zE_go 420 dz92_416 rfl
theorem dz92_419 : decode (z_code 92) 419 = .ok (.iconst 0, 1) := by decide +kernel
theorem u92_419 : zEv sc 92 419 [l0, l1, l2, l3, l4, l5, l6, l7, l8, l9, l10] [] h Q ↔ zEv sc 92 420 [l0, l1, l2, l3, l4, l5, l6, l7, l8, l9, l10] [.int 0] h Q := zE_iconst dz92_419 (by decide +kernel)
theorem dz92_342 : decode (z_code 92) 342 = .ok (.iload 10, 2) := by decide +kernel
theorem u92_342 : zEv sc 92 342 [l0, l1, l2, l3, l4, l5, l6, l7, l8, l9, .int x] [] h Q ↔ zEv sc 92 344 [l0, l1, l2, l3, l4, l5, l6, l7, l8, l9, .int x] [.int x] h Q := zE_pure (q := (344, [l0, l1, l2, l3, l4, l5, l6, l7, l8, l9, .int x], [.int x])) dz92_342 rfl rfl rfl
theorem dz92_344 : decode (z_code 92) 344 = .ok (.ldc 64, 2) := by decide +kernel
theorem u92_344 : zEv sc 92 344 [l0, l1, l2, l3, l4, l5, l6, l7, l8, l9, l10] [t0] h Q ↔ zEv sc 92 346 [l0, l1, l2, l3, l4, l5, l6, l7, l8, l9, l10] [.int (-1000001), t0] h Q := zE_ldc (by decide +kernel : z_lkK zKT (z_cls 92) 64 = some ((-1000001), 504)) dz92_344
theorem dz92_346 : decode (z_code 92) 346 = .ok (.if_icmp .ne 7, 3) := by decide +kernel
theorem u92_346 : zEv sc 92 346 [l0, l1, l2, l3, l4, l5, l6, l7, l8, l9, l10] [.int x2, .int x1] h Q ↔ (if ¬ x1 = x2 then zEv sc 92 353 [l0, l1, l2, l3, l4, l5, l6, l7, l8, l9, l10] [] h Q else zEv sc 92 349 [l0, l1, l2, l3, l4, l5, l6, l7, l8, l9, l10] [] h Q) := zE_icP (P := ¬ x1 = x2) inferInstance 353 dz92_346 rfl rfl
theorem dz92_349 : decode (z_code 92) 349 = .ok (.iconst 1, 1) := by decide +kernel
theorem u92_349 : zEv sc 92 349 [l0, l1, l2, l3, l4, l5, l6, l7, l8, l9, l10] [] h Q ↔ zEv sc 92 350 [l0, l1, l2, l3, l4, l5, l6, l7, l8, l9, l10] [.int 1] h Q := zE_iconst dz92_349 (by decide +kernel)
theorem dz92_350 : decode (z_code 92) 350 = .ok (.goto 70, 3) := by decide +kernel
theorem u92_350 : zEv sc 92 350 [l0, l1, l2, l3, l4, l5, l6, l7, l8, l9, l10] [t0] h Q ↔ zEv sc 92 420 [l0, l1, l2, l3, l4, l5, l6, l7, l8, l9, l10] [t0] h Q := zE_go 420 dz92_350 rfl
theorem dz92_353 : decode (z_code 92) 353 = .ok (.iconst 0, 1) := by decide +kernel
theorem u92_353 : zEv sc 92 353 [l0, l1, l2, l3, l4, l5, l6, l7, l8, l9, l10] [] h Q ↔ zEv sc 92 354 [l0, l1, l2, l3, l4, l5, l6, l7, l8, l9, l10] [.int 0] h Q := zE_iconst dz92_353 (by decide +kernel)
theorem dz92_354 : decode (z_code 92) 354 = .ok (.goto 66, 3) := by decide +kernel
theorem u92_354 : zEv sc 92 354 [l0, l1, l2, l3, l4, l5, l6, l7, l8, l9, l10] [t0] h Q ↔ zEv sc 92 420 [l0, l1, l2, l3, l4, l5, l6, l7, l8, l9, l10] [t0] h Q := zE_go 420 dz92_354 rfl
theorem dz92_303 : decode (z_code 92) 303 = .ok (.iconst 1, 1) := by decide +kernel
theorem u92_303 : zEv sc 92 303 [l0, l1, l2, l3, l4, l5, l6, l7, l8, l9, l10] [] h Q ↔ zEv sc 92 304 [l0, l1, l2, l3, l4, l5, l6, l7, l8, l9, l10] [.int 1] h Q := zE_iconst dz92_303 (by decide +kernel)
theorem dz92_304 : decode (z_code 92) 304 = .ok (.iload_n 2, 1) := by decide +kernel
theorem u92_304 : zEv sc 92 304 [l0, l1, .int x, l3, l4, l5, l6, l7, l8, l9, l10] [t0] h Q ↔ zEv sc 92 305 [l0, l1, .int x, l3, l4, l5, l6, l7, l8, l9, l10] [.int x, t0] h Q := zE_pure (q := (305, [l0, l1, .int x, l3, l4, l5, l6, l7, l8, l9, l10], [.int x, t0])) dz92_304 rfl rfl rfl
theorem dz92_305 : decode (z_code 92) 305 = .ok (.iconst 2, 1) := by decide +kernel
theorem u92_305 : zEv sc 92 305 [l0, l1, l2, l3, l4, l5, l6, l7, l8, l9, l10] [t0, t1] h Q ↔ zEv sc 92 306 [l0, l1, l2, l3, l4, l5, l6, l7, l8, l9, l10] [.int 2, t0, t1] h Q := zE_iconst dz92_305 (by decide +kernel)
theorem dz92_306 : decode (z_code 92) 306 = .ok (.ishr, 1) := by decide +kernel
theorem u92_306 : zEv sc 92 306 [l0, l1, l2, l3, l4, l5, l6, l7, l8, l9, l10] [.int x2, .int x1, t0] h Q ↔ zEv sc 92 307 [l0, l1, l2, l3, l4, l5, l6, l7, l8, l9, l10] [.int (x1 >>> (x2 &&& 31)), t0] h Q := zE_pure (q := (307, [l0, l1, l2, l3, l4, l5, l6, l7, l8, l9, l10], [.int (x1 >>> (x2 &&& 31)), t0])) dz92_306 rfl rfl rfl
theorem dz92_307 : decode (z_code 92) 307 = .ok (.iconst 3, 1) := by decide +kernel
theorem u92_307 : zEv sc 92 307 [l0, l1, l2, l3, l4, l5, l6, l7, l8, l9, l10] [t0, t1] h Q ↔ zEv sc 92 308 [l0, l1, l2, l3, l4, l5, l6, l7, l8, l9, l10] [.int 3, t0, t1] h Q := zE_iconst dz92_307 (by decide +kernel)
theorem dz92_308 : decode (z_code 92) 308 = .ok (.invokestatic 25, 3) := by decide +kernel
theorem u92_308 : zEv sc 92 308 [l0, l1, l2, l3, l4, l5, l6, l7, l8, l9, l10] [.int z1, .int z0, t0] h Q ↔ zEv sc 87 0 [.int z0, .int z1] [] h (fun r h9 => zEv sc 92 311 [l0, l1, l2, l3, l4, l5, l6, l7, l8, l9, l10] (r.toList ++ [t0]) h9 Q) := zE_call (kd := 1) (na := 2) (nr := 1) (as := [.int z0, .int z1]) (rest := [t0]) (Or.inr ⟨rfl, rfl⟩) dz92_308 (by decide +kernel : z_lk2 zCT (z_cls 92) 25 = some (87, 0, 345)) (fun _ => ⟨by decide +kernel, by decide +kernel⟩) rfl rfl rfl (by decide +kernel) rfl rfl (Or.inl rfl)
theorem dz92_311 : decode (z_code 92) 311 = .ok (.iadd, 1) := by decide +kernel
theorem u92_311 : zEv sc 92 311 [l0, l1, l2, l3, l4, l5, l6, l7, l8, l9, l10] [.int x2, .int x1] h Q ↔ zEv sc 92 312 [l0, l1, l2, l3, l4, l5, l6, l7, l8, l9, l10] [.int (x1 + x2)] h Q := zE_pure (q := (312, [l0, l1, l2, l3, l4, l5, l6, l7, l8, l9, l10], [.int (x1 + x2)])) dz92_311 rfl rfl rfl
theorem dz92_421 : decode (z_code 92) 421 = .ok (.iload_n 3, 1) := by decide +kernel
theorem u92_421 : zEv sc 92 421 [l0, l1, l2, .int x, l4, l5, l6, l7, l8, l9, l10] [] h Q ↔ zEv sc 92 422 [l0, l1, l2, .int x, l4, l5, l6, l7, l8, l9, l10] [.int x] h Q := zE_pure (q := (422, [l0, l1, l2, .int x, l4, l5, l6, l7, l8, l9, l10], [.int x])) dz92_421 rfl rfl rfl
theorem dz92_422 : decode (z_code 92) 422 = .ok (.bipush 9, 2) := by decide +kernel
theorem u92_422 : zEv sc 92 422 [l0, l1, l2, l3, l4, l5, l6, l7, l8, l9, l10] [t0] h Q ↔ zEv sc 92 424 [l0, l1, l2, l3, l4, l5, l6, l7, l8, l9, l10] [.int 9, t0] h Q := zE_bipush dz92_422 (by decide +kernel)
theorem dz92_424 : decode (z_code 92) 424 = .ok (.if_icmp .ne 91, 3) := by decide +kernel
theorem u92_424 : zEv sc 92 424 [l0, l1, l2, l3, l4, l5, l6, l7, l8, l9, l10] [.int x2, .int x1] h Q ↔ (if ¬ x1 = x2 then zEv sc 92 515 [l0, l1, l2, l3, l4, l5, l6, l7, l8, l9, l10] [] h Q else zEv sc 92 427 [l0, l1, l2, l3, l4, l5, l6, l7, l8, l9, l10] [] h Q) := zE_icP (P := ¬ x1 = x2) inferInstance 515 dz92_424 rfl rfl
theorem dz92_427 : decode (z_code 92) 427 = .ok (.iload_n 2, 1) := by decide +kernel
theorem u92_427 : zEv sc 92 427 [l0, l1, .int x, l3, l4, l5, l6, l7, l8, l9, l10] [] h Q ↔ zEv sc 92 428 [l0, l1, .int x, l3, l4, l5, l6, l7, l8, l9, l10] [.int x] h Q := zE_pure (q := (428, [l0, l1, .int x, l3, l4, l5, l6, l7, l8, l9, l10], [.int x])) dz92_427 rfl rfl rfl
theorem dz92_428 : decode (z_code 92) 428 = .ok (.iconst 5, 1) := by decide +kernel
theorem u92_428 : zEv sc 92 428 [l0, l1, l2, l3, l4, l5, l6, l7, l8, l9, l10] [t0] h Q ↔ zEv sc 92 429 [l0, l1, l2, l3, l4, l5, l6, l7, l8, l9, l10] [.int 5, t0] h Q := zE_iconst dz92_428 (by decide +kernel)
theorem dz92_429 : decode (z_code 92) 429 = .ok (.invokestatic 25, 3) := by decide +kernel
theorem u92_429 : zEv sc 92 429 [l0, l1, l2, l3, l4, l5, l6, l7, l8, l9, l10] [.int z1, .int z0] h Q ↔ zEv sc 87 0 [.int z0, .int z1] [] h (fun r h9 => zEv sc 92 432 [l0, l1, l2, l3, l4, l5, l6, l7, l8, l9, l10] (r.toList ++ []) h9 Q) := zE_call (kd := 1) (na := 2) (nr := 0) (as := [.int z0, .int z1]) (rest := []) (Or.inr ⟨rfl, rfl⟩) dz92_429 (by decide +kernel : z_lk2 zCT (z_cls 92) 25 = some (87, 0, 345)) (fun _ => ⟨by decide +kernel, by decide +kernel⟩) rfl rfl rfl (by decide +kernel) rfl rfl (Or.inl rfl)
theorem dz92_432 : decode (z_code 92) 432 = .ok (.istore 8, 2) := by decide +kernel
theorem u92_432 : zEv sc 92 432 [l0, l1, l2, l3, l4, l5, l6, l7, l8, l9, l10] [.int x] h Q ↔ zEv sc 92 434 [l0, l1, l2, l3, l4, l5, l6, l7, .int x, l9, l10] [] h Q := zE_pure (q := (434, [l0, l1, l2, l3, l4, l5, l6, l7, .int x, l9, l10], [])) dz92_432 rfl rfl rfl
theorem dz92_434 : decode (z_code 92) 434 = .ok (.iload_n 2, 1) := by decide +kernel
theorem u92_434 : zEv sc 92 434 [l0, l1, .int x, l3, l4, l5, l6, l7, l8, l9, l10] [] h Q ↔ zEv sc 92 435 [l0, l1, .int x, l3, l4, l5, l6, l7, l8, l9, l10] [.int x] h Q := zE_pure (q := (435, [l0, l1, .int x, l3, l4, l5, l6, l7, l8, l9, l10], [.int x])) dz92_434 rfl rfl rfl
theorem dz92_435 : decode (z_code 92) 435 = .ok (.iconst 3, 1) := by decide +kernel
theorem u92_435 : zEv sc 92 435 [l0, l1, l2, l3, l4, l5, l6, l7, l8, l9, l10] [t0] h Q ↔ zEv sc 92 436 [l0, l1, l2, l3, l4, l5, l6, l7, l8, l9, l10] [.int 3, t0] h Q := zE_iconst dz92_435 (by decide +kernel)
theorem dz92_436 : decode (z_code 92) 436 = .ok (.ishr, 1) := by decide +kernel
theorem u92_436 : zEv sc 92 436 [l0, l1, l2, l3, l4, l5, l6, l7, l8, l9, l10] [.int x2, .int x1] h Q ↔ zEv sc 92 437 [l0, l1, l2, l3, l4, l5, l6, l7, l8, l9, l10] [.int (x1 >>> (x2 &&& 31))] h Q := zE_pure (q := (437, [l0, l1, l2, l3, l4, l5, l6, l7, l8, l9, l10], [.int (x1 >>> (x2 &&& 31))])) dz92_436 rfl rfl rfl
theorem dz92_437 : decode (z_code 92) 437 = .ok (.bipush 11, 2) := by decide +kernel
theorem u92_437 : zEv sc 92 437 [l0, l1, l2, l3, l4, l5, l6, l7, l8, l9, l10] [t0] h Q ↔ zEv sc 92 439 [l0, l1, l2, l3, l4, l5, l6, l7, l8, l9, l10] [.int 11, t0] h Q := zE_bipush dz92_437 (by decide +kernel)
theorem dz92_439 : decode (z_code 92) 439 = .ok (.invokestatic 25, 3) := by decide +kernel
theorem u92_439 : zEv sc 92 439 [l0, l1, l2, l3, l4, l5, l6, l7, l8, l9, l10] [.int z1, .int z0] h Q ↔ zEv sc 87 0 [.int z0, .int z1] [] h (fun r h9 => zEv sc 92 442 [l0, l1, l2, l3, l4, l5, l6, l7, l8, l9, l10] (r.toList ++ []) h9 Q) := zE_call (kd := 1) (na := 2) (nr := 0) (as := [.int z0, .int z1]) (rest := []) (Or.inr ⟨rfl, rfl⟩) dz92_439 (by decide +kernel : z_lk2 zCT (z_cls 92) 25 = some (87, 0, 345)) (fun _ => ⟨by decide +kernel, by decide +kernel⟩) rfl rfl rfl (by decide +kernel) rfl rfl (Or.inl rfl)
theorem dz92_442 : decode (z_code 92) 442 = .ok (.istore 9, 2) := by decide +kernel
theorem u92_442 : zEv sc 92 442 [l0, l1, l2, l3, l4, l5, l6, l7, l8, l9, l10] [.int x] h Q ↔ zEv sc 92 444 [l0, l1, l2, l3, l4, l5, l6, l7, l8, .int x, l10] [] h Q := zE_pure (q := (444, [l0, l1, l2, l3, l4, l5, l6, l7, l8, .int x, l10], [])) dz92_442 rfl rfl rfl
theorem dz92_444 : decode (z_code 92) 444 = .ok (.aload_n 0, 1) := by decide +kernel
theorem u92_444 : zEv sc 92 444 [.ref a, l1, l2, l3, l4, l5, l6, l7, l8, l9, l10] [] h Q ↔ zEv sc 92 445 [.ref a, l1, l2, l3, l4, l5, l6, l7, l8, l9, l10] [.ref a] h Q := zE_pure (q := (445, [.ref a, l1, l2, l3, l4, l5, l6, l7, l8, l9, l10], [.ref a])) dz92_444 rfl rfl rfl
theorem dz92_445 : decode (z_code 92) 445 = .ok (.bipush 20, 2) := by decide +kernel
theorem u92_445 : zEv sc 92 445 [l0, l1, l2, l3, l4, l5, l6, l7, l8, l9, l10] [t0] h Q ↔ zEv sc 92 447 [l0, l1, l2, l3, l4, l5, l6, l7, l8, l9, l10] [.int 20, t0] h Q := zE_bipush dz92_445 (by decide +kernel)
theorem dz92_447 : decode (z_code 92) 447 = .ok (.iload 8, 2) := by decide +kernel
theorem u92_447 : zEv sc 92 447 [l0, l1, l2, l3, l4, l5, l6, l7, .int x, l9, l10] [t0, t1] h Q ↔ zEv sc 92 449 [l0, l1, l2, l3, l4, l5, l6, l7, .int x, l9, l10] [.int x, t0, t1] h Q := zE_pure (q := (449, [l0, l1, l2, l3, l4, l5, l6, l7, .int x, l9, l10], [.int x, t0, t1])) dz92_447 rfl rfl rfl
theorem dz92_449 : decode (z_code 92) 449 = .ok (.aload_n 0, 1) := by decide +kernel
theorem u92_449 : zEv sc 92 449 [.ref a, l1, l2, l3, l4, l5, l6, l7, l8, l9, l10] [t0, t1, t2] h Q ↔ zEv sc 92 450 [.ref a, l1, l2, l3, l4, l5, l6, l7, l8, l9, l10] [.ref a, t0, t1, t2] h Q := zE_pure (q := (450, [.ref a, l1, l2, l3, l4, l5, l6, l7, l8, l9, l10], [.ref a, t0, t1, t2])) dz92_449 rfl rfl rfl
theorem dz92_450 : decode (z_code 92) 450 = .ok (.iconst 0, 1) := by decide +kernel
theorem u92_450 : zEv sc 92 450 [l0, l1, l2, l3, l4, l5, l6, l7, l8, l9, l10] [t0, t1, t2, t3] h Q ↔ zEv sc 92 451 [l0, l1, l2, l3, l4, l5, l6, l7, l8, l9, l10] [.int 0, t0, t1, t2, t3] h Q := zE_iconst dz92_450 (by decide +kernel)
theorem dz92_451 : decode (z_code 92) 451 = .ok (.invokevirtual 13, 3) := by decide +kernel
theorem u92_451 (ho : zO a 9) : zEv sc 92 451 [l0, l1, l2, l3, l4, l5, l6, l7, l8, l9, l10] [.int z0, .ref a, t0, t1, t2] (zst p iv) Q ↔ zEv sc 81 0 [.ref a, .int z0] [] (zst p iv) (fun r h9 => zEv sc 92 454 [l0, l1, l2, l3, l4, l5, l6, l7, l8, l9, l10] (r.toList ++ [t0, t1, t2]) h9 Q) := zE_call (kd := 0) (na := 2) (nr := 3) (as := [.ref a, .int z0]) (rest := [t0, t1, t2]) (Or.inl ⟨rfl, rfl⟩) dz92_451 (by decide +kernel : z_lk2 zCT (z_cls 92) 13 = some (81, 0, 300)) (fun z => by cases z) rfl rfl rfl (by decide +kernel) rfl rfl (Or.inr (zE_rc ho))
theorem dz92_454 : decode (z_code 92) 454 = .ok (.if_icmp .ge 8, 3) := by decide +kernel
theorem u92_454 : zEv sc 92 454 [l0, l1, l2, l3, l4, l5, l6, l7, l8, l9, l10] [.int x2, .int x1, t0, t1] h Q ↔ (if x2 ≤ x1 then zEv sc 92 462 [l0, l1, l2, l3, l4, l5, l6, l7, l8, l9, l10] [t0, t1] h Q else zEv sc 92 457 [l0, l1, l2, l3, l4, l5, l6, l7, l8, l9, l10] [t0, t1] h Q) := zE_icP (P := x2 ≤ x1) inferInstance 462 dz92_454 rfl rfl
theorem dz92_457 : decode (z_code 92) 457 = .ok (.iload 8, 2) := by decide +kernel
theorem u92_457 : zEv sc 92 457 [l0, l1, l2, l3, l4, l5, l6, l7, .int x, l9, l10] [t0, t1] h Q ↔ zEv sc 92 459 [l0, l1, l2, l3, l4, l5, l6, l7, .int x, l9, l10] [.int x, t0, t1] h Q := zE_pure (q := (459, [l0, l1, l2, l3, l4, l5, l6, l7, .int x, l9, l10], [.int x, t0, t1])) dz92_457 rfl rfl rfl
theorem dz92_459 : decode (z_code 92) 459 = .ok (.goto 4, 3) := by decide +kernel
theorem u92_459 : zEv sc 92 459 [l0, l1, l2, l3, l4, l5, l6, l7, l8, l9, l10] [t0, t1, t2] h Q ↔ zEv sc 92 463 [l0, l1, l2, l3, l4, l5, l6, l7, l8, l9, l10] [t0, t1, t2] h Q := zE_go 463 dz92_459 rfl
theorem dz92_463 : decode (z_code 92) 463 = .ok (.iadd, 1) := by decide +kernel
theorem u92_463 : zEv sc 92 463 [l0, l1, l2, l3, l4, l5, l6, l7, l8, l9, l10] [.int x2, .int x1, t0] h Q ↔ zEv sc 92 464 [l0, l1, l2, l3, l4, l5, l6, l7, l8, l9, l10] [.int (x1 + x2), t0] h Q := zE_pure (q := (464, [l0, l1, l2, l3, l4, l5, l6, l7, l8, l9, l10], [.int (x1 + x2), t0])) dz92_463 rfl rfl rfl
theorem dz92_464 : decode (z_code 92) 464 = .ok (.invokevirtual 13, 3) := by decide +kernel
theorem u92_464 (ho : zO a 9) : zEv sc 92 464 [l0, l1, l2, l3, l4, l5, l6, l7, l8, l9, l10] [.int z0, .ref a] (zst p iv) Q ↔ zEv sc 81 0 [.ref a, .int z0] [] (zst p iv) (fun r h9 => zEv sc 92 467 [l0, l1, l2, l3, l4, l5, l6, l7, l8, l9, l10] (r.toList ++ []) h9 Q) := zE_call (kd := 0) (na := 2) (nr := 0) (as := [.ref a, .int z0]) (rest := []) (Or.inl ⟨rfl, rfl⟩) dz92_464 (by decide +kernel : z_lk2 zCT (z_cls 92) 13 = some (81, 0, 300)) (fun z => by cases z) rfl rfl rfl (by decide +kernel) rfl rfl (Or.inr (zE_rc ho))
theorem dz92_467 : decode (z_code 92) 467 = .ok (.istore 10, 2) := by decide +kernel
theorem u92_467 : zEv sc 92 467 [l0, l1, l2, l3, l4, l5, l6, l7, l8, l9, l10] [.int x] h Q ↔ zEv sc 92 469 [l0, l1, l2, l3, l4, l5, l6, l7, l8, l9, .int x] [] h Q := zE_pure (q := (469, [l0, l1, l2, l3, l4, l5, l6, l7, l8, l9, .int x], [])) dz92_467 rfl rfl rfl
theorem dz92_469 : decode (z_code 92) 469 = .ok (.aload_n 0, 1) := by decide +kernel
theorem u92_469 : zEv sc 92 469 [.ref a, l1, l2, l3, l4, l5, l6, l7, l8, l9, l10] [] h Q ↔ zEv sc 92 470 [.ref a, l1, l2, l3, l4, l5, l6, l7, l8, l9, l10] [.ref a] h Q := zE_pure (q := (470, [.ref a, l1, l2, l3, l4, l5, l6, l7, l8, l9, l10], [.ref a])) dz92_469 rfl rfl rfl
theorem dz92_470 : decode (z_code 92) 470 = .ok (.iload 8, 2) := by decide +kernel
theorem u92_470 : zEv sc 92 470 [l0, l1, l2, l3, l4, l5, l6, l7, .int x, l9, l10] [t0] h Q ↔ zEv sc 92 472 [l0, l1, l2, l3, l4, l5, l6, l7, .int x, l9, l10] [.int x, t0] h Q := zE_pure (q := (472, [l0, l1, l2, l3, l4, l5, l6, l7, .int x, l9, l10], [.int x, t0])) dz92_470 rfl rfl rfl
theorem dz92_472 : decode (z_code 92) 472 = .ok (.iload 9, 2) := by decide +kernel
theorem u92_472 : zEv sc 92 472 [l0, l1, l2, l3, l4, l5, l6, l7, l8, .int x, l10] [t0, t1] h Q ↔ zEv sc 92 474 [l0, l1, l2, l3, l4, l5, l6, l7, l8, .int x, l10] [.int x, t0, t1] h Q := zE_pure (q := (474, [l0, l1, l2, l3, l4, l5, l6, l7, l8, .int x, l10], [.int x, t0, t1])) dz92_472 rfl rfl rfl
theorem dz92_474 : decode (z_code 92) 474 = .ok (.invokevirtual 72, 3) := by decide +kernel
theorem u92_474 (ho : zO a 9) : zEv sc 92 474 [l0, l1, l2, l3, l4, l5, l6, l7, l8, l9, l10] [.int z1, .int z0, .ref a] (zst p iv) Q ↔ zEv sc 58 0 [.ref a, .int z0, .int z1, .null] [] (zst p iv) (fun r h9 => zEv sc 92 477 [l0, l1, l2, l3, l4, l5, l6, l7, l8, l9, l10] (r.toList ++ []) h9 Q) := zE_call (kd := 0) (na := 3) (nr := 0) (as := [.ref a, .int z0, .int z1]) (rest := []) (Or.inl ⟨rfl, rfl⟩) dz92_474 (by decide +kernel : z_lk2 zCT (z_cls 92) 72 = some (58, 0, 542)) (fun z => by cases z) rfl rfl rfl (by decide +kernel) rfl rfl (Or.inr (zE_rc ho))
theorem dz92_477 : decode (z_code 92) 477 = .ok (.iload 8, 2) := by decide +kernel
theorem u92_477 : zEv sc 92 477 [l0, l1, l2, l3, l4, l5, l6, l7, .int x, l9, l10] [t0] h Q ↔ zEv sc 92 479 [l0, l1, l2, l3, l4, l5, l6, l7, .int x, l9, l10] [.int x, t0] h Q := zE_pure (q := (479, [l0, l1, l2, l3, l4, l5, l6, l7, .int x, l9, l10], [.int x, t0])) dz92_477 rfl rfl rfl
theorem dz92_479 : decode (z_code 92) 479 = .ok (.aload_n 0, 1) := by decide +kernel
theorem u92_479 : zEv sc 92 479 [.ref a, l1, l2, l3, l4, l5, l6, l7, l8, l9, l10] [t0, t1] h Q ↔ zEv sc 92 480 [.ref a, l1, l2, l3, l4, l5, l6, l7, l8, l9, l10] [.ref a, t0, t1] h Q := zE_pure (q := (480, [.ref a, l1, l2, l3, l4, l5, l6, l7, l8, l9, l10], [.ref a, t0, t1])) dz92_479 rfl rfl rfl
theorem dz92_480 : decode (z_code 92) 480 = .ok (.iconst 0, 1) := by decide +kernel
theorem u92_480 : zEv sc 92 480 [l0, l1, l2, l3, l4, l5, l6, l7, l8, l9, l10] [t0, t1, t2] h Q ↔ zEv sc 92 481 [l0, l1, l2, l3, l4, l5, l6, l7, l8, l9, l10] [.int 0, t0, t1, t2] h Q := zE_iconst dz92_480 (by decide +kernel)
theorem dz92_481 : decode (z_code 92) 481 = .ok (.invokevirtual 13, 3) := by decide +kernel
theorem u92_481 (ho : zO a 9) : zEv sc 92 481 [l0, l1, l2, l3, l4, l5, l6, l7, l8, l9, l10] [.int z0, .ref a, t0, t1] (zst p iv) Q ↔ zEv sc 81 0 [.ref a, .int z0] [] (zst p iv) (fun r h9 => zEv sc 92 484 [l0, l1, l2, l3, l4, l5, l6, l7, l8, l9, l10] (r.toList ++ [t0, t1]) h9 Q) := zE_call (kd := 0) (na := 2) (nr := 2) (as := [.ref a, .int z0]) (rest := [t0, t1]) (Or.inl ⟨rfl, rfl⟩) dz92_481 (by decide +kernel : z_lk2 zCT (z_cls 92) 13 = some (81, 0, 300)) (fun z => by cases z) rfl rfl rfl (by decide +kernel) rfl rfl (Or.inr (zE_rc ho))
theorem dz92_484 : decode (z_code 92) 484 = .ok (.if_icmp .ge 15, 3) := by decide +kernel
theorem u92_484 : zEv sc 92 484 [l0, l1, l2, l3, l4, l5, l6, l7, l8, l9, l10] [.int x2, .int x1, t0] h Q ↔ (if x2 ≤ x1 then zEv sc 92 499 [l0, l1, l2, l3, l4, l5, l6, l7, l8, l9, l10] [t0] h Q else zEv sc 92 487 [l0, l1, l2, l3, l4, l5, l6, l7, l8, l9, l10] [t0] h Q) := zE_icP (P := x2 ≤ x1) inferInstance 499 dz92_484 rfl rfl
theorem dz92_487 : decode (z_code 92) 487 = .ok (.iload 9, 2) := by decide +kernel
theorem u92_487 : zEv sc 92 487 [l0, l1, l2, l3, l4, l5, l6, l7, l8, .int x, l10] [t0] h Q ↔ zEv sc 92 489 [l0, l1, l2, l3, l4, l5, l6, l7, l8, .int x, l10] [.int x, t0] h Q := zE_pure (q := (489, [l0, l1, l2, l3, l4, l5, l6, l7, l8, .int x, l10], [.int x, t0])) dz92_487 rfl rfl rfl
theorem dz92_489 : decode (z_code 92) 489 = .ok (.ifCond .eq 10, 3) := by decide +kernel
theorem u92_489 : zEv sc 92 489 [l0, l1, l2, l3, l4, l5, l6, l7, l8, l9, l10] [.int x, t0] h Q ↔ (if x = 0 then zEv sc 92 499 [l0, l1, l2, l3, l4, l5, l6, l7, l8, l9, l10] [t0] h Q else zEv sc 92 492 [l0, l1, l2, l3, l4, l5, l6, l7, l8, l9, l10] [t0] h Q) := zE_ifP (P := x = 0) inferInstance 499 dz92_489 rfl rfl
theorem dz92_492 : decode (z_code 92) 492 = .ok (.iload 9, 2) := by decide +kernel
theorem u92_492 : zEv sc 92 492 [l0, l1, l2, l3, l4, l5, l6, l7, l8, .int x, l10] [t0] h Q ↔ zEv sc 92 494 [l0, l1, l2, l3, l4, l5, l6, l7, l8, .int x, l10] [.int x, t0] h Q := zE_pure (q := (494, [l0, l1, l2, l3, l4, l5, l6, l7, l8, .int x, l10], [.int x, t0])) dz92_492 rfl rfl rfl
theorem dz92_494 : decode (z_code 92) 494 = .ok (.bipush 10, 2) := by decide +kernel
theorem u92_494 : zEv sc 92 494 [l0, l1, l2, l3, l4, l5, l6, l7, l8, l9, l10] [t0, t1] h Q ↔ zEv sc 92 496 [l0, l1, l2, l3, l4, l5, l6, l7, l8, l9, l10] [.int 10, t0, t1] h Q := zE_bipush dz92_494 (by decide +kernel)
theorem dz92_496 : decode (z_code 92) 496 = .ok (.if_icmp .ne 8, 3) := by decide +kernel
theorem u92_496 : zEv sc 92 496 [l0, l1, l2, l3, l4, l5, l6, l7, l8, l9, l10] [.int x2, .int x1, t0] h Q ↔ (if ¬ x1 = x2 then zEv sc 92 504 [l0, l1, l2, l3, l4, l5, l6, l7, l8, l9, l10] [t0] h Q else zEv sc 92 499 [l0, l1, l2, l3, l4, l5, l6, l7, l8, l9, l10] [t0] h Q) := zE_icP (P := ¬ x1 = x2) inferInstance 504 dz92_496 rfl rfl
theorem dz92_504 : decode (z_code 92) 504 = .ok (.iload 10, 2) := by decide +kernel
theorem u92_504 : zEv sc 92 504 [l0, l1, l2, l3, l4, l5, l6, l7, l8, l9, .int x] [t0] h Q ↔ zEv sc 92 506 [l0, l1, l2, l3, l4, l5, l6, l7, l8, l9, .int x] [.int x, t0] h Q := zE_pure (q := (506, [l0, l1, l2, l3, l4, l5, l6, l7, l8, l9, .int x], [.int x, t0])) dz92_504 rfl rfl rfl
theorem dz92_506 : decode (z_code 92) 506 = .ok (.if_icmp .ne 7, 3) := by decide +kernel
theorem u92_506 : zEv sc 92 506 [l0, l1, l2, l3, l4, l5, l6, l7, l8, l9, l10] [.int x2, .int x1] h Q ↔ (if ¬ x1 = x2 then zEv sc 92 513 [l0, l1, l2, l3, l4, l5, l6, l7, l8, l9, l10] [] h Q else zEv sc 92 509 [l0, l1, l2, l3, l4, l5, l6, l7, l8, l9, l10] [] h Q) := zE_icP (P := ¬ x1 = x2) inferInstance 513 dz92_506 rfl rfl
theorem dz92_509 : decode (z_code 92) 509 = .ok (.iconst 1, 1) := by decide +kernel
theorem u92_509 : zEv sc 92 509 [l0, l1, l2, l3, l4, l5, l6, l7, l8, l9, l10] [] h Q ↔ zEv sc 92 510 [l0, l1, l2, l3, l4, l5, l6, l7, l8, l9, l10] [.int 1] h Q := zE_iconst dz92_509 (by decide +kernel)
theorem dz92_510 : decode (z_code 92) 510 = .ok (.goto 4, 3) := by decide +kernel
theorem u92_510 : zEv sc 92 510 [l0, l1, l2, l3, l4, l5, l6, l7, l8, l9, l10] [t0] h Q ↔ zEv sc 92 514 [l0, l1, l2, l3, l4, l5, l6, l7, l8, l9, l10] [t0] h Q := zE_go 514 dz92_510 rfl
theorem dz92_514 : decode (z_code 92) 514 = .ok (.ireturn, 1) := by decide +kernel
theorem u92_514 : zEv sc 92 514 [l0, l1, l2, l3, l4, l5, l6, l7, l8, l9, l10] [.int x] h Q ↔ ((x = 0 ∨ x = 1) ∧ Q (some (.int x)) h) := zE_rz dz92_514 (by decide +kernel)
theorem dz92_513 : decode (z_code 92) 513 = .ok (.iconst 0, 1) := by decide +kernel
theorem u92_513 : zEv sc 92 513 [l0, l1, l2, l3, l4, l5, l6, l7, l8, l9, l10] [] h Q ↔ zEv sc 92 514 [l0, l1, l2, l3, l4, l5, l6, l7, l8, l9, l10] [.int 0] h Q := zE_iconst dz92_513 (by decide +kernel)
theorem dz92_499 : decode (z_code 92) 499 = .ok (.ldc 64, 2) := by decide +kernel
theorem u92_499 : zEv sc 92 499 [l0, l1, l2, l3, l4, l5, l6, l7, l8, l9, l10] [t0] h Q ↔ zEv sc 92 501 [l0, l1, l2, l3, l4, l5, l6, l7, l8, l9, l10] [.int (-1000001), t0] h Q := zE_ldc (by decide +kernel : z_lkK zKT (z_cls 92) 64 = some ((-1000001), 504)) dz92_499
theorem dz92_501 : decode (z_code 92) 501 = .ok (.goto 5, 3) := by decide +kernel
theorem u92_501 : zEv sc 92 501 [l0, l1, l2, l3, l4, l5, l6, l7, l8, l9, l10] [t0, t1] h Q ↔ zEv sc 92 506 [l0, l1, l2, l3, l4, l5, l6, l7, l8, l9, l10] [t0, t1] h Q := zE_go 506 dz92_501 rfl
theorem dz92_462 : decode (z_code 92) 462 = .ok (.iconst 0, 1) := by decide +kernel
theorem u92_462 : zEv sc 92 462 [l0, l1, l2, l3, l4, l5, l6, l7, l8, l9, l10] [t0, t1] h Q ↔ zEv sc 92 463 [l0, l1, l2, l3, l4, l5, l6, l7, l8, l9, l10] [.int 0, t0, t1] h Q := zE_iconst dz92_462 (by decide +kernel)
theorem dz92_515 : decode (z_code 92) 515 = .ok (.iload_n 3, 1) := by decide +kernel
theorem u92_515 : zEv sc 92 515 [l0, l1, l2, .int x, l4, l5, l6, l7, l8, l9, l10] [] h Q ↔ zEv sc 92 516 [l0, l1, l2, .int x, l4, l5, l6, l7, l8, l9, l10] [.int x] h Q := zE_pure (q := (516, [l0, l1, l2, .int x, l4, l5, l6, l7, l8, l9, l10], [.int x])) dz92_515 rfl rfl rfl
theorem dz92_516 : decode (z_code 92) 516 = .ok (.bipush 10, 2) := by decide +kernel
theorem u92_516 : zEv sc 92 516 [l0, l1, l2, l3, l4, l5, l6, l7, l8, l9, l10] [t0] h Q ↔ zEv sc 92 518 [l0, l1, l2, l3, l4, l5, l6, l7, l8, l9, l10] [.int 10, t0] h Q := zE_bipush dz92_516 (by decide +kernel)
theorem dz92_518 : decode (z_code 92) 518 = .ok (.if_icmp .ne 90, 3) := by decide +kernel
theorem u92_518 : zEv sc 92 518 [l0, l1, l2, l3, l4, l5, l6, l7, l8, l9, l10] [.int x2, .int x1] h Q ↔ (if ¬ x1 = x2 then zEv sc 92 608 [l0, l1, l2, l3, l4, l5, l6, l7, l8, l9, l10] [] h Q else zEv sc 92 521 [l0, l1, l2, l3, l4, l5, l6, l7, l8, l9, l10] [] h Q) := zE_icP (P := ¬ x1 = x2) inferInstance 608 dz92_518 rfl rfl
theorem dz92_521 : decode (z_code 92) 521 = .ok (.aload_n 0, 1) := by decide +kernel
theorem u92_521 : zEv sc 92 521 [.ref a, l1, l2, l3, l4, l5, l6, l7, l8, l9, l10] [] h Q ↔ zEv sc 92 522 [.ref a, l1, l2, l3, l4, l5, l6, l7, l8, l9, l10] [.ref a] h Q := zE_pure (q := (522, [.ref a, l1, l2, l3, l4, l5, l6, l7, l8, l9, l10], [.ref a])) dz92_521 rfl rfl rfl
theorem dz92_522 : decode (z_code 92) 522 = .ok (.iconst 5, 1) := by decide +kernel
theorem u92_522 : zEv sc 92 522 [l0, l1, l2, l3, l4, l5, l6, l7, l8, l9, l10] [t0] h Q ↔ zEv sc 92 523 [l0, l1, l2, l3, l4, l5, l6, l7, l8, l9, l10] [.int 5, t0] h Q := zE_iconst dz92_522 (by decide +kernel)
theorem dz92_523 : decode (z_code 92) 523 = .ok (.iload 5, 2) := by decide +kernel
theorem u92_523 : zEv sc 92 523 [l0, l1, l2, l3, l4, .int x, l6, l7, l8, l9, l10] [t0, t1] h Q ↔ zEv sc 92 525 [l0, l1, l2, l3, l4, .int x, l6, l7, l8, l9, l10] [.int x, t0, t1] h Q := zE_pure (q := (525, [l0, l1, l2, l3, l4, .int x, l6, l7, l8, l9, l10], [.int x, t0, t1])) dz92_523 rfl rfl rfl
theorem dz92_525 : decode (z_code 92) 525 = .ok (.iadd, 1) := by decide +kernel
theorem u92_525 : zEv sc 92 525 [l0, l1, l2, l3, l4, l5, l6, l7, l8, l9, l10] [.int x2, .int x1, t0] h Q ↔ zEv sc 92 526 [l0, l1, l2, l3, l4, l5, l6, l7, l8, l9, l10] [.int (x1 + x2), t0] h Q := zE_pure (q := (526, [l0, l1, l2, l3, l4, l5, l6, l7, l8, l9, l10], [.int (x1 + x2), t0])) dz92_525 rfl rfl rfl
theorem dz92_526 : decode (z_code 92) 526 = .ok (.invokevirtual 13, 3) := by decide +kernel
theorem u92_526 (ho : zO a 9) : zEv sc 92 526 [l0, l1, l2, l3, l4, l5, l6, l7, l8, l9, l10] [.int z0, .ref a] (zst p iv) Q ↔ zEv sc 81 0 [.ref a, .int z0] [] (zst p iv) (fun r h9 => zEv sc 92 529 [l0, l1, l2, l3, l4, l5, l6, l7, l8, l9, l10] (r.toList ++ []) h9 Q) := zE_call (kd := 0) (na := 2) (nr := 0) (as := [.ref a, .int z0]) (rest := []) (Or.inl ⟨rfl, rfl⟩) dz92_526 (by decide +kernel : z_lk2 zCT (z_cls 92) 13 = some (81, 0, 300)) (fun z => by cases z) rfl rfl rfl (by decide +kernel) rfl rfl (Or.inr (zE_rc ho))
theorem dz92_529 : decode (z_code 92) 529 = .ok (.istore 8, 2) := by decide +kernel
theorem u92_529 : zEv sc 92 529 [l0, l1, l2, l3, l4, l5, l6, l7, l8, l9, l10] [.int x] h Q ↔ zEv sc 92 531 [l0, l1, l2, l3, l4, l5, l6, l7, .int x, l9, l10] [] h Q := zE_pure (q := (531, [l0, l1, l2, l3, l4, l5, l6, l7, .int x, l9, l10], [])) dz92_529 rfl rfl rfl
theorem dz92_531 : decode (z_code 92) 531 = .ok (.aload_n 0, 1) := by decide +kernel
theorem u92_531 : zEv sc 92 531 [.ref a, l1, l2, l3, l4, l5, l6, l7, l8, l9, l10] [] h Q ↔ zEv sc 92 532 [.ref a, l1, l2, l3, l4, l5, l6, l7, l8, l9, l10] [.ref a] h Q := zE_pure (q := (532, [.ref a, l1, l2, l3, l4, l5, l6, l7, l8, l9, l10], [.ref a])) dz92_531 rfl rfl rfl
theorem dz92_532 : decode (z_code 92) 532 = .ok (.iload 4, 2) := by decide +kernel
theorem u92_532 : zEv sc 92 532 [l0, l1, l2, l3, .int x, l5, l6, l7, l8, l9, l10] [t0] h Q ↔ zEv sc 92 534 [l0, l1, l2, l3, .int x, l5, l6, l7, l8, l9, l10] [.int x, t0] h Q := zE_pure (q := (534, [l0, l1, l2, l3, .int x, l5, l6, l7, l8, l9, l10], [.int x, t0])) dz92_532 rfl rfl rfl
theorem dz92_534 : decode (z_code 92) 534 = .ok (.iload_n 2, 1) := by decide +kernel
theorem u92_534 : zEv sc 92 534 [l0, l1, .int x, l3, l4, l5, l6, l7, l8, l9, l10] [t0, t1] h Q ↔ zEv sc 92 535 [l0, l1, .int x, l3, l4, l5, l6, l7, l8, l9, l10] [.int x, t0, t1] h Q := zE_pure (q := (535, [l0, l1, .int x, l3, l4, l5, l6, l7, l8, l9, l10], [.int x, t0, t1])) dz92_534 rfl rfl rfl
theorem dz92_535 : decode (z_code 92) 535 = .ok (.bipush 10, 2) := by decide +kernel
theorem u92_535 : zEv sc 92 535 [l0, l1, l2, l3, l4, l5, l6, l7, l8, l9, l10] [t0, t1, t2] h Q ↔ zEv sc 92 537 [l0, l1, l2, l3, l4, l5, l6, l7, l8, l9, l10] [.int 10, t0, t1, t2] h Q := zE_bipush dz92_535 (by decide +kernel)
theorem dz92_537 : decode (z_code 92) 537 = .ok (.invokestatic 25, 3) := by decide +kernel
theorem u92_537 : zEv sc 92 537 [l0, l1, l2, l3, l4, l5, l6, l7, l8, l9, l10] [.int z1, .int z0, t0, t1] h Q ↔ zEv sc 87 0 [.int z0, .int z1] [] h (fun r h9 => zEv sc 92 540 [l0, l1, l2, l3, l4, l5, l6, l7, l8, l9, l10] (r.toList ++ [t0, t1]) h9 Q) := zE_call (kd := 1) (na := 2) (nr := 2) (as := [.int z0, .int z1]) (rest := [t0, t1]) (Or.inr ⟨rfl, rfl⟩) dz92_537 (by decide +kernel : z_lk2 zCT (z_cls 92) 25 = some (87, 0, 345)) (fun _ => ⟨by decide +kernel, by decide +kernel⟩) rfl rfl rfl (by decide +kernel) rfl rfl (Or.inl rfl)
theorem dz92_540 : decode (z_code 92) 540 = .ok (.invokevirtual 75, 3) := by decide +kernel
theorem u92_540 (ho : zO a 9) : zEv sc 92 540 [l0, l1, l2, l3, l4, l5, l6, l7, l8, l9, l10] [.int z1, .int z0, .ref a] (zst p iv) Q ↔ zEv sc 59 0 [.ref a, .int z0, .int z1, .null] [] (zst p iv) (fun r h9 => zEv sc 92 543 [l0, l1, l2, l3, l4, l5, l6, l7, l8, l9, l10] (r.toList ++ []) h9 Q) := zE_call (kd := 0) (na := 3) (nr := 0) (as := [.ref a, .int z0, .int z1]) (rest := []) (Or.inl ⟨rfl, rfl⟩) dz92_540 (by decide +kernel : z_lk2 zCT (z_cls 92) 75 = some (59, 0, 546)) (fun z => by cases z) rfl rfl rfl (by decide +kernel) rfl rfl (Or.inr (zE_rc ho))
theorem dz92_543 : decode (z_code 92) 543 = .ok (.istore 9, 2) := by decide +kernel
theorem u92_543 : zEv sc 92 543 [l0, l1, l2, l3, l4, l5, l6, l7, l8, l9, l10] [.int x] h Q ↔ zEv sc 92 545 [l0, l1, l2, l3, l4, l5, l6, l7, l8, .int x, l10] [] h Q := zE_pure (q := (545, [l0, l1, l2, l3, l4, l5, l6, l7, l8, .int x, l10], [])) dz92_543 rfl rfl rfl
theorem dz92_545 : decode (z_code 92) 545 = .ok (.iload 9, 2) := by decide +kernel
theorem u92_545 : zEv sc 92 545 [l0, l1, l2, l3, l4, l5, l6, l7, l8, .int x, l10] [] h Q ↔ zEv sc 92 547 [l0, l1, l2, l3, l4, l5, l6, l7, l8, .int x, l10] [.int x] h Q := zE_pure (q := (547, [l0, l1, l2, l3, l4, l5, l6, l7, l8, .int x, l10], [.int x])) dz92_545 rfl rfl rfl
theorem dz92_547 : decode (z_code 92) 547 = .ok (.ifCond .ge 35, 3) := by decide +kernel
theorem u92_547 : zEv sc 92 547 [l0, l1, l2, l3, l4, l5, l6, l7, l8, l9, l10] [.int x] h Q ↔ (if 0 ≤ x then zEv sc 92 582 [l0, l1, l2, l3, l4, l5, l6, l7, l8, l9, l10] [] h Q else zEv sc 92 550 [l0, l1, l2, l3, l4, l5, l6, l7, l8, l9, l10] [] h Q) := zE_ifP (P := 0 ≤ x) inferInstance 582 dz92_547 rfl rfl
theorem dz92_550 : decode (z_code 92) 550 = .ok (.iload 9, 2) := by decide +kernel
theorem u92_550 : zEv sc 92 550 [l0, l1, l2, l3, l4, l5, l6, l7, l8, .int x, l10] [] h Q ↔ zEv sc 92 552 [l0, l1, l2, l3, l4, l5, l6, l7, l8, .int x, l10] [.int x] h Q := zE_pure (q := (552, [l0, l1, l2, l3, l4, l5, l6, l7, l8, .int x, l10], [.int x])) dz92_550 rfl rfl rfl
theorem dz92_552 : decode (z_code 92) 552 = .ok (.ldc 64, 2) := by decide +kernel
theorem u92_552 : zEv sc 92 552 [l0, l1, l2, l3, l4, l5, l6, l7, l8, l9, l10] [t0] h Q ↔ zEv sc 92 554 [l0, l1, l2, l3, l4, l5, l6, l7, l8, l9, l10] [.int (-1000001), t0] h Q := zE_ldc (by decide +kernel : z_lkK zKT (z_cls 92) 64 = some ((-1000001), 504)) dz92_552
theorem dz92_554 : decode (z_code 92) 554 = .ok (.if_icmp .ne 24, 3) := by decide +kernel
theorem u92_554 : zEv sc 92 554 [l0, l1, l2, l3, l4, l5, l6, l7, l8, l9, l10] [.int x2, .int x1] h Q ↔ (if ¬ x1 = x2 then zEv sc 92 578 [l0, l1, l2, l3, l4, l5, l6, l7, l8, l9, l10] [] h Q else zEv sc 92 557 [l0, l1, l2, l3, l4, l5, l6, l7, l8, l9, l10] [] h Q) := zE_icP (P := ¬ x1 = x2) inferInstance 578 dz92_554 rfl rfl
theorem dz92_557 : decode (z_code 92) 557 = .ok (.iload 4, 2) := by decide +kernel
theorem u92_557 : zEv sc 92 557 [l0, l1, l2, l3, .int x, l5, l6, l7, l8, l9, l10] [] h Q ↔ zEv sc 92 559 [l0, l1, l2, l3, .int x, l5, l6, l7, l8, l9, l10] [.int x] h Q := zE_pure (q := (559, [l0, l1, l2, l3, .int x, l5, l6, l7, l8, l9, l10], [.int x])) dz92_557 rfl rfl rfl
theorem dz92_559 : decode (z_code 92) 559 = .ok (.iconst 2, 1) := by decide +kernel
theorem u92_559 : zEv sc 92 559 [l0, l1, l2, l3, l4, l5, l6, l7, l8, l9, l10] [t0] h Q ↔ zEv sc 92 560 [l0, l1, l2, l3, l4, l5, l6, l7, l8, l9, l10] [.int 2, t0] h Q := zE_iconst dz92_559 (by decide +kernel)
theorem dz92_560 : decode (z_code 92) 560 = .ok (.if_icmp .eq 14, 3) := by decide +kernel
theorem u92_560 : zEv sc 92 560 [l0, l1, l2, l3, l4, l5, l6, l7, l8, l9, l10] [.int x2, .int x1] h Q ↔ (if x1 = x2 then zEv sc 92 574 [l0, l1, l2, l3, l4, l5, l6, l7, l8, l9, l10] [] h Q else zEv sc 92 563 [l0, l1, l2, l3, l4, l5, l6, l7, l8, l9, l10] [] h Q) := zE_icP (P := x1 = x2) inferInstance 574 dz92_560 rfl rfl
theorem dz92_563 : decode (z_code 92) 563 = .ok (.iload_n 2, 1) := by decide +kernel
theorem u92_563 : zEv sc 92 563 [l0, l1, .int x, l3, l4, l5, l6, l7, l8, l9, l10] [] h Q ↔ zEv sc 92 564 [l0, l1, .int x, l3, l4, l5, l6, l7, l8, l9, l10] [.int x] h Q := zE_pure (q := (564, [l0, l1, .int x, l3, l4, l5, l6, l7, l8, l9, l10], [.int x])) dz92_563 rfl rfl rfl
theorem dz92_564 : decode (z_code 92) 564 = .ok (.bipush 10, 2) := by decide +kernel
theorem u92_564 : zEv sc 92 564 [l0, l1, l2, l3, l4, l5, l6, l7, l8, l9, l10] [t0] h Q ↔ zEv sc 92 566 [l0, l1, l2, l3, l4, l5, l6, l7, l8, l9, l10] [.int 10, t0] h Q := zE_bipush dz92_564 (by decide +kernel)
theorem dz92_566 : decode (z_code 92) 566 = .ok (.invokestatic 25, 3) := by decide +kernel
theorem u92_566 : zEv sc 92 566 [l0, l1, l2, l3, l4, l5, l6, l7, l8, l9, l10] [.int z1, .int z0] h Q ↔ zEv sc 87 0 [.int z0, .int z1] [] h (fun r h9 => zEv sc 92 569 [l0, l1, l2, l3, l4, l5, l6, l7, l8, l9, l10] (r.toList ++ []) h9 Q) := zE_call (kd := 1) (na := 2) (nr := 0) (as := [.int z0, .int z1]) (rest := []) (Or.inr ⟨rfl, rfl⟩) dz92_566 (by decide +kernel : z_lk2 zCT (z_cls 92) 25 = some (87, 0, 345)) (fun _ => ⟨by decide +kernel, by decide +kernel⟩) rfl rfl rfl (by decide +kernel) rfl rfl (Or.inl rfl)
theorem dz92_569 : decode (z_code 92) 569 = .ok (.bipush 9, 2) := by decide +kernel
theorem u92_569 : zEv sc 92 569 [l0, l1, l2, l3, l4, l5, l6, l7, l8, l9, l10] [t0] h Q ↔ zEv sc 92 571 [l0, l1, l2, l3, l4, l5, l6, l7, l8, l9, l10] [.int 9, t0] h Q := zE_bipush dz92_569 (by decide +kernel)
theorem dz92_571 : decode (z_code 92) 571 = .ok (.if_icmp .ne 7, 3) := by decide +kernel
theorem u92_571 : zEv sc 92 571 [l0, l1, l2, l3, l4, l5, l6, l7, l8, l9, l10] [.int x2, .int x1] h Q ↔ (if ¬ x1 = x2 then zEv sc 92 578 [l0, l1, l2, l3, l4, l5, l6, l7, l8, l9, l10] [] h Q else zEv sc 92 574 [l0, l1, l2, l3, l4, l5, l6, l7, l8, l9, l10] [] h Q) := zE_icP (P := ¬ x1 = x2) inferInstance 578 dz92_571 rfl rfl
theorem dz92_574 : decode (z_code 92) 574 = .ok (.iconst 1, 1) := by decide +kernel
theorem u92_574 : zEv sc 92 574 [l0, l1, l2, l3, l4, l5, l6, l7, l8, l9, l10] [] h Q ↔ zEv sc 92 575 [l0, l1, l2, l3, l4, l5, l6, l7, l8, l9, l10] [.int 1] h Q := zE_iconst dz92_574 (by decide +kernel)
theorem dz92_575 : decode (z_code 92) 575 = .ok (.goto 32, 3) := by decide +kernel
theorem u92_575 : zEv sc 92 575 [l0, l1, l2, l3, l4, l5, l6, l7, l8, l9, l10] [t0] h Q ↔ zEv sc 92 607 [l0, l1, l2, l3, l4, l5, l6, l7, l8, l9, l10] [t0] h Q := zE_go 607 dz92_575 rfl
theorem dz92_607 : decode (z_code 92) 607 = .ok (.ireturn, 1) := by decide +kernel
theorem u92_607 : zEv sc 92 607 [l0, l1, l2, l3, l4, l5, l6, l7, l8, l9, l10] [.int x] h Q ↔ ((x = 0 ∨ x = 1) ∧ Q (some (.int x)) h) := zE_rz dz92_607 (by decide +kernel)
theorem dz92_578 : decode (z_code 92) 578 = .ok (.iconst 0, 1) := by decide +kernel
theorem u92_578 : zEv sc 92 578 [l0, l1, l2, l3, l4, l5, l6, l7, l8, l9, l10] [] h Q ↔ zEv sc 92 579 [l0, l1, l2, l3, l4, l5, l6, l7, l8, l9, l10] [.int 0] h Q := zE_iconst dz92_578 (by decide +kernel)
theorem dz92_579 : decode (z_code 92) 579 = .ok (.goto 28, 3) := by decide +kernel
theorem u92_579 : zEv sc 92 579 [l0, l1, l2, l3, l4, l5, l6, l7, l8, l9, l10] [t0] h Q ↔ zEv sc 92 607 [l0, l1, l2, l3, l4, l5, l6, l7, l8, l9, l10] [t0] h Q := zE_go 607 dz92_579 rfl
theorem dz92_582 : decode (z_code 92) 582 = .ok (.iload 9, 2) := by decide +kernel
theorem u92_582 : zEv sc 92 582 [l0, l1, l2, l3, l4, l5, l6, l7, l8, .int x, l10] [] h Q ↔ zEv sc 92 584 [l0, l1, l2, l3, l4, l5, l6, l7, l8, .int x, l10] [.int x] h Q := zE_pure (q := (584, [l0, l1, l2, l3, l4, l5, l6, l7, l8, .int x, l10], [.int x])) dz92_582 rfl rfl rfl
theorem dz92_584 : decode (z_code 92) 584 = .ok (.iload 8, 2) := by decide +kernel
theorem u92_584 : zEv sc 92 584 [l0, l1, l2, l3, l4, l5, l6, l7, .int x, l9, l10] [t0] h Q ↔ zEv sc 92 586 [l0, l1, l2, l3, l4, l5, l6, l7, .int x, l9, l10] [.int x, t0] h Q := zE_pure (q := (586, [l0, l1, l2, l3, l4, l5, l6, l7, .int x, l9, l10], [.int x, t0])) dz92_584 rfl rfl rfl
theorem dz92_586 : decode (z_code 92) 586 = .ok (.if_icmp .gt 20, 3) := by decide +kernel
theorem u92_586 : zEv sc 92 586 [l0, l1, l2, l3, l4, l5, l6, l7, l8, l9, l10] [.int x2, .int x1] h Q ↔ (if x2 < x1 then zEv sc 92 606 [l0, l1, l2, l3, l4, l5, l6, l7, l8, l9, l10] [] h Q else zEv sc 92 589 [l0, l1, l2, l3, l4, l5, l6, l7, l8, l9, l10] [] h Q) := zE_icP (P := x2 < x1) inferInstance 606 dz92_586 rfl rfl
theorem dz92_589 : decode (z_code 92) 589 = .ok (.iload 9, 2) := by decide +kernel
theorem u92_589 : zEv sc 92 589 [l0, l1, l2, l3, l4, l5, l6, l7, l8, .int x, l10] [] h Q ↔ zEv sc 92 591 [l0, l1, l2, l3, l4, l5, l6, l7, l8, .int x, l10] [.int x] h Q := zE_pure (q := (591, [l0, l1, l2, l3, l4, l5, l6, l7, l8, .int x, l10], [.int x])) dz92_589 rfl rfl rfl
theorem dz92_591 : decode (z_code 92) 591 = .ok (.aload_n 0, 1) := by decide +kernel
theorem u92_591 : zEv sc 92 591 [.ref a, l1, l2, l3, l4, l5, l6, l7, l8, l9, l10] [t0] h Q ↔ zEv sc 92 592 [.ref a, l1, l2, l3, l4, l5, l6, l7, l8, l9, l10] [.ref a, t0] h Q := zE_pure (q := (592, [.ref a, l1, l2, l3, l4, l5, l6, l7, l8, l9, l10], [.ref a, t0])) dz92_591 rfl rfl rfl
theorem dz92_592 : decode (z_code 92) 592 = .ok (.iconst 5, 1) := by decide +kernel
theorem u92_592 : zEv sc 92 592 [l0, l1, l2, l3, l4, l5, l6, l7, l8, l9, l10] [t0, t1] h Q ↔ zEv sc 92 593 [l0, l1, l2, l3, l4, l5, l6, l7, l8, l9, l10] [.int 5, t0, t1] h Q := zE_iconst dz92_592 (by decide +kernel)
theorem dz92_593 : decode (z_code 92) 593 = .ok (.iload 4, 2) := by decide +kernel
theorem u92_593 : zEv sc 92 593 [l0, l1, l2, l3, .int x, l5, l6, l7, l8, l9, l10] [t0, t1, t2] h Q ↔ zEv sc 92 595 [l0, l1, l2, l3, .int x, l5, l6, l7, l8, l9, l10] [.int x, t0, t1, t2] h Q := zE_pure (q := (595, [l0, l1, l2, l3, .int x, l5, l6, l7, l8, l9, l10], [.int x, t0, t1, t2])) dz92_593 rfl rfl rfl
theorem dz92_595 : decode (z_code 92) 595 = .ok (.iadd, 1) := by decide +kernel
theorem u92_595 : zEv sc 92 595 [l0, l1, l2, l3, l4, l5, l6, l7, l8, l9, l10] [.int x2, .int x1, t0, t1] h Q ↔ zEv sc 92 596 [l0, l1, l2, l3, l4, l5, l6, l7, l8, l9, l10] [.int (x1 + x2), t0, t1] h Q := zE_pure (q := (596, [l0, l1, l2, l3, l4, l5, l6, l7, l8, l9, l10], [.int (x1 + x2), t0, t1])) dz92_595 rfl rfl rfl
theorem dz92_596 : decode (z_code 92) 596 = .ok (.invokevirtual 13, 3) := by decide +kernel
theorem u92_596 (ho : zO a 9) : zEv sc 92 596 [l0, l1, l2, l3, l4, l5, l6, l7, l8, l9, l10] [.int z0, .ref a, t0] (zst p iv) Q ↔ zEv sc 81 0 [.ref a, .int z0] [] (zst p iv) (fun r h9 => zEv sc 92 599 [l0, l1, l2, l3, l4, l5, l6, l7, l8, l9, l10] (r.toList ++ [t0]) h9 Q) := zE_call (kd := 0) (na := 2) (nr := 1) (as := [.ref a, .int z0]) (rest := [t0]) (Or.inl ⟨rfl, rfl⟩) dz92_596 (by decide +kernel : z_lk2 zCT (z_cls 92) 13 = some (81, 0, 300)) (fun z => by cases z) rfl rfl rfl (by decide +kernel) rfl rfl (Or.inr (zE_rc ho))
theorem dz92_599 : decode (z_code 92) 599 = .ok (.if_icmp .ne 7, 3) := by decide +kernel
theorem u92_599 : zEv sc 92 599 [l0, l1, l2, l3, l4, l5, l6, l7, l8, l9, l10] [.int x2, .int x1] h Q ↔ (if ¬ x1 = x2 then zEv sc 92 606 [l0, l1, l2, l3, l4, l5, l6, l7, l8, l9, l10] [] h Q else zEv sc 92 602 [l0, l1, l2, l3, l4, l5, l6, l7, l8, l9, l10] [] h Q) := zE_icP (P := ¬ x1 = x2) inferInstance 606 dz92_599 rfl rfl
theorem dz92_602 : decode (z_code 92) 602 = .ok (.iconst 1, 1) := by decide +kernel
theorem u92_602 : zEv sc 92 602 [l0, l1, l2, l3, l4, l5, l6, l7, l8, l9, l10] [] h Q ↔ zEv sc 92 603 [l0, l1, l2, l3, l4, l5, l6, l7, l8, l9, l10] [.int 1] h Q := zE_iconst dz92_602 (by decide +kernel)
theorem dz92_603 : decode (z_code 92) 603 = .ok (.goto 4, 3) := by decide +kernel
theorem u92_603 : zEv sc 92 603 [l0, l1, l2, l3, l4, l5, l6, l7, l8, l9, l10] [t0] h Q ↔ zEv sc 92 607 [l0, l1, l2, l3, l4, l5, l6, l7, l8, l9, l10] [t0] h Q := zE_go 607 dz92_603 rfl
theorem dz92_606 : decode (z_code 92) 606 = .ok (.iconst 0, 1) := by decide +kernel
theorem u92_606 : zEv sc 92 606 [l0, l1, l2, l3, l4, l5, l6, l7, l8, l9, l10] [] h Q ↔ zEv sc 92 607 [l0, l1, l2, l3, l4, l5, l6, l7, l8, l9, l10] [.int 0] h Q := zE_iconst dz92_606 (by decide +kernel)
theorem dz92_608 : decode (z_code 92) 608 = .ok (.iload_n 3, 1) := by decide +kernel
theorem u92_608 : zEv sc 92 608 [l0, l1, l2, .int x, l4, l5, l6, l7, l8, l9, l10] [] h Q ↔ zEv sc 92 609 [l0, l1, l2, .int x, l4, l5, l6, l7, l8, l9, l10] [.int x] h Q := zE_pure (q := (609, [l0, l1, l2, .int x, l4, l5, l6, l7, l8, l9, l10], [.int x])) dz92_608 rfl rfl rfl
theorem dz92_609 : decode (z_code 92) 609 = .ok (.bipush 11, 2) := by decide +kernel
theorem u92_609 : zEv sc 92 609 [l0, l1, l2, l3, l4, l5, l6, l7, l8, l9, l10] [t0] h Q ↔ zEv sc 92 611 [l0, l1, l2, l3, l4, l5, l6, l7, l8, l9, l10] [.int 11, t0] h Q := zE_bipush dz92_609 (by decide +kernel)
theorem dz92_611 : decode (z_code 92) 611 = .ok (.if_icmp .ne 116, 3) := by decide +kernel
theorem u92_611 : zEv sc 92 611 [l0, l1, l2, l3, l4, l5, l6, l7, l8, l9, l10] [.int x2, .int x1] h Q ↔ (if ¬ x1 = x2 then zEv sc 92 727 [l0, l1, l2, l3, l4, l5, l6, l7, l8, l9, l10] [] h Q else zEv sc 92 614 [l0, l1, l2, l3, l4, l5, l6, l7, l8, l9, l10] [] h Q) := zE_icP (P := ¬ x1 = x2) inferInstance 727 dz92_611 rfl rfl
theorem dz92_614 : decode (z_code 92) 614 = .ok (.iload_n 2, 1) := by decide +kernel
theorem u92_614 : zEv sc 92 614 [l0, l1, .int x, l3, l4, l5, l6, l7, l8, l9, l10] [] h Q ↔ zEv sc 92 615 [l0, l1, .int x, l3, l4, l5, l6, l7, l8, l9, l10] [.int x] h Q := zE_pure (q := (615, [l0, l1, .int x, l3, l4, l5, l6, l7, l8, l9, l10], [.int x])) dz92_614 rfl rfl rfl
theorem dz92_615 : decode (z_code 92) 615 = .ok (.iconst 5, 1) := by decide +kernel
theorem u92_615 : zEv sc 92 615 [l0, l1, l2, l3, l4, l5, l6, l7, l8, l9, l10] [t0] h Q ↔ zEv sc 92 616 [l0, l1, l2, l3, l4, l5, l6, l7, l8, l9, l10] [.int 5, t0] h Q := zE_iconst dz92_615 (by decide +kernel)
theorem dz92_616 : decode (z_code 92) 616 = .ok (.invokestatic 25, 3) := by decide +kernel
theorem u92_616 : zEv sc 92 616 [l0, l1, l2, l3, l4, l5, l6, l7, l8, l9, l10] [.int z1, .int z0] h Q ↔ zEv sc 87 0 [.int z0, .int z1] [] h (fun r h9 => zEv sc 92 619 [l0, l1, l2, l3, l4, l5, l6, l7, l8, l9, l10] (r.toList ++ []) h9 Q) := zE_call (kd := 1) (na := 2) (nr := 0) (as := [.int z0, .int z1]) (rest := []) (Or.inr ⟨rfl, rfl⟩) dz92_616 (by decide +kernel : z_lk2 zCT (z_cls 92) 25 = some (87, 0, 345)) (fun _ => ⟨by decide +kernel, by decide +kernel⟩) rfl rfl rfl (by decide +kernel) rfl rfl (Or.inl rfl)
theorem dz92_619 : decode (z_code 92) 619 = .ok (.istore 8, 2) := by decide +kernel
theorem u92_619 : zEv sc 92 619 [l0, l1, l2, l3, l4, l5, l6, l7, l8, l9, l10] [.int x] h Q ↔ zEv sc 92 621 [l0, l1, l2, l3, l4, l5, l6, l7, .int x, l9, l10] [] h Q := zE_pure (q := (621, [l0, l1, l2, l3, l4, l5, l6, l7, .int x, l9, l10], [])) dz92_619 rfl rfl rfl
theorem dz92_621 : decode (z_code 92) 621 = .ok (.iconst 2, 1) := by decide +kernel
theorem u92_621 : zEv sc 92 621 [l0, l1, l2, l3, l4, l5, l6, l7, l8, l9, l10] [] h Q ↔ zEv sc 92 622 [l0, l1, l2, l3, l4, l5, l6, l7, l8, l9, l10] [.int 2] h Q := zE_iconst dz92_621 (by decide +kernel)
theorem dz92_622 : decode (z_code 92) 622 = .ok (.iload_n 2, 1) := by decide +kernel
theorem u92_622 : zEv sc 92 622 [l0, l1, .int x, l3, l4, l5, l6, l7, l8, l9, l10] [t0] h Q ↔ zEv sc 92 623 [l0, l1, .int x, l3, l4, l5, l6, l7, l8, l9, l10] [.int x, t0] h Q := zE_pure (q := (623, [l0, l1, .int x, l3, l4, l5, l6, l7, l8, l9, l10], [.int x, t0])) dz92_622 rfl rfl rfl
theorem dz92_623 : decode (z_code 92) 623 = .ok (.iconst 3, 1) := by decide +kernel
theorem u92_623 : zEv sc 92 623 [l0, l1, l2, l3, l4, l5, l6, l7, l8, l9, l10] [t0, t1] h Q ↔ zEv sc 92 624 [l0, l1, l2, l3, l4, l5, l6, l7, l8, l9, l10] [.int 3, t0, t1] h Q := zE_iconst dz92_623 (by decide +kernel)
theorem dz92_624 : decode (z_code 92) 624 = .ok (.ishr, 1) := by decide +kernel
theorem u92_624 : zEv sc 92 624 [l0, l1, l2, l3, l4, l5, l6, l7, l8, l9, l10] [.int x2, .int x1, t0] h Q ↔ zEv sc 92 625 [l0, l1, l2, l3, l4, l5, l6, l7, l8, l9, l10] [.int (x1 >>> (x2 &&& 31)), t0] h Q := zE_pure (q := (625, [l0, l1, l2, l3, l4, l5, l6, l7, l8, l9, l10], [.int (x1 >>> (x2 &&& 31)), t0])) dz92_624 rfl rfl rfl
theorem dz92_625 : decode (z_code 92) 625 = .ok (.bipush 8, 2) := by decide +kernel
theorem u92_625 : zEv sc 92 625 [l0, l1, l2, l3, l4, l5, l6, l7, l8, l9, l10] [t0, t1] h Q ↔ zEv sc 92 627 [l0, l1, l2, l3, l4, l5, l6, l7, l8, l9, l10] [.int 8, t0, t1] h Q := zE_bipush dz92_625 (by decide +kernel)
theorem dz92_627 : decode (z_code 92) 627 = .ok (.invokestatic 25, 3) := by decide +kernel
theorem u92_627 : zEv sc 92 627 [l0, l1, l2, l3, l4, l5, l6, l7, l8, l9, l10] [.int z1, .int z0, t0] h Q ↔ zEv sc 87 0 [.int z0, .int z1] [] h (fun r h9 => zEv sc 92 630 [l0, l1, l2, l3, l4, l5, l6, l7, l8, l9, l10] (r.toList ++ [t0]) h9 Q) := zE_call (kd := 1) (na := 2) (nr := 1) (as := [.int z0, .int z1]) (rest := [t0]) (Or.inr ⟨rfl, rfl⟩) dz92_627 (by decide +kernel : z_lk2 zCT (z_cls 92) 25 = some (87, 0, 345)) (fun _ => ⟨by decide +kernel, by decide +kernel⟩) rfl rfl rfl (by decide +kernel) rfl rfl (Or.inl rfl)
theorem dz92_630 : decode (z_code 92) 630 = .ok (.iadd, 1) := by decide +kernel
theorem u92_630 : zEv sc 92 630 [l0, l1, l2, l3, l4, l5, l6, l7, l8, l9, l10] [.int x2, .int x1] h Q ↔ zEv sc 92 631 [l0, l1, l2, l3, l4, l5, l6, l7, l8, l9, l10] [.int (x1 + x2)] h Q := zE_pure (q := (631, [l0, l1, l2, l3, l4, l5, l6, l7, l8, l9, l10], [.int (x1 + x2)])) dz92_630 rfl rfl rfl
theorem dz92_631 : decode (z_code 92) 631 = .ok (.istore 9, 2) := by decide +kernel
theorem u92_631 : zEv sc 92 631 [l0, l1, l2, l3, l4, l5, l6, l7, l8, l9, l10] [.int x] h Q ↔ zEv sc 92 633 [l0, l1, l2, l3, l4, l5, l6, l7, l8, .int x, l10] [] h Q := zE_pure (q := (633, [l0, l1, l2, l3, l4, l5, l6, l7, l8, .int x, l10], [])) dz92_631 rfl rfl rfl
theorem dz92_633 : decode (z_code 92) 633 = .ok (.aload_n 0, 1) := by decide +kernel
theorem u92_633 : zEv sc 92 633 [.ref a, l1, l2, l3, l4, l5, l6, l7, l8, l9, l10] [] h Q ↔ zEv sc 92 634 [.ref a, l1, l2, l3, l4, l5, l6, l7, l8, l9, l10] [.ref a] h Q := zE_pure (q := (634, [.ref a, l1, l2, l3, l4, l5, l6, l7, l8, l9, l10], [.ref a])) dz92_633 rfl rfl rfl
theorem dz92_634 : decode (z_code 92) 634 = .ok (.iload 4, 2) := by decide +kernel
theorem u92_634 : zEv sc 92 634 [l0, l1, l2, l3, .int x, l5, l6, l7, l8, l9, l10] [t0] h Q ↔ zEv sc 92 636 [l0, l1, l2, l3, .int x, l5, l6, l7, l8, l9, l10] [.int x, t0] h Q := zE_pure (q := (636, [l0, l1, l2, l3, .int x, l5, l6, l7, l8, l9, l10], [.int x, t0])) dz92_634 rfl rfl rfl
theorem dz92_636 : decode (z_code 92) 636 = .ok (.iload 8, 2) := by decide +kernel
theorem u92_636 : zEv sc 92 636 [l0, l1, l2, l3, l4, l5, l6, l7, .int x, l9, l10] [t0, t1] h Q ↔ zEv sc 92 638 [l0, l1, l2, l3, l4, l5, l6, l7, .int x, l9, l10] [.int x, t0, t1] h Q := zE_pure (q := (638, [l0, l1, l2, l3, l4, l5, l6, l7, .int x, l9, l10], [.int x, t0, t1])) dz92_636 rfl rfl rfl
theorem dz92_638 : decode (z_code 92) 638 = .ok (.iload 9, 2) := by decide +kernel
theorem u92_638 : zEv sc 92 638 [l0, l1, l2, l3, l4, l5, l6, l7, l8, .int x, l10] [t0, t1, t2] h Q ↔ zEv sc 92 640 [l0, l1, l2, l3, l4, l5, l6, l7, l8, .int x, l10] [.int x, t0, t1, t2] h Q := zE_pure (q := (640, [l0, l1, l2, l3, l4, l5, l6, l7, l8, .int x, l10], [.int x, t0, t1, t2])) dz92_638 rfl rfl rfl
theorem dz92_640 : decode (z_code 92) 640 = .ok (.invokevirtual 78, 3) := by decide +kernel
theorem u92_640 (ho : zO a 9) : zEv sc 92 640 [l0, l1, l2, l3, l4, l5, l6, l7, l8, l9, l10] [.int z2, .int z1, .int z0, .ref a] (zst p iv) Q ↔ zEv sc 60 0 [.ref a, .int z0, .int z1, .int z2, .null] [] (zst p iv) (fun r h9 => zEv sc 92 643 [l0, l1, l2, l3, l4, l5, l6, l7, l8, l9, l10] (r.toList ++ []) h9 Q) := zE_call (kd := 0) (na := 4) (nr := 0) (as := [.ref a, .int z0, .int z1, .int z2]) (rest := []) (Or.inl ⟨rfl, rfl⟩) dz92_640 (by decide +kernel : z_lk2 zCT (z_cls 92) 78 = some (60, 0, 556)) (fun z => by cases z) rfl rfl rfl (by decide +kernel) rfl rfl (Or.inr (zE_rc ho))
theorem dz92_643 : decode (z_code 92) 643 = .ok (.istore 10, 2) := by decide +kernel
theorem u92_643 : zEv sc 92 643 [l0, l1, l2, l3, l4, l5, l6, l7, l8, l9, l10] [.int x] h Q ↔ zEv sc 92 645 [l0, l1, l2, l3, l4, l5, l6, l7, l8, l9, .int x] [] h Q := zE_pure (q := (645, [l0, l1, l2, l3, l4, l5, l6, l7, l8, l9, .int x], [])) dz92_643 rfl rfl rfl
theorem dz92_645 : decode (z_code 92) 645 = .ok (.iload 10, 2) := by decide +kernel
theorem u92_645 : zEv sc 92 645 [l0, l1, l2, l3, l4, l5, l6, l7, l8, l9, .int x] [] h Q ↔ zEv sc 92 647 [l0, l1, l2, l3, l4, l5, l6, l7, l8, l9, .int x] [.int x] h Q := zE_pure (q := (647, [l0, l1, l2, l3, l4, l5, l6, l7, l8, l9, .int x], [.int x])) dz92_645 rfl rfl rfl
theorem dz92_647 : decode (z_code 92) 647 = .ok (.ifCond .ge 41, 3) := by decide +kernel
theorem u92_647 : zEv sc 92 647 [l0, l1, l2, l3, l4, l5, l6, l7, l8, l9, l10] [.int x] h Q ↔ (if 0 ≤ x then zEv sc 92 688 [l0, l1, l2, l3, l4, l5, l6, l7, l8, l9, l10] [] h Q else zEv sc 92 650 [l0, l1, l2, l3, l4, l5, l6, l7, l8, l9, l10] [] h Q) := zE_ifP (P := 0 ≤ x) inferInstance 688 dz92_647 rfl rfl
theorem dz92_650 : decode (z_code 92) 650 = .ok (.iload 10, 2) := by decide +kernel
theorem u92_650 : zEv sc 92 650 [l0, l1, l2, l3, l4, l5, l6, l7, l8, l9, .int x] [] h Q ↔ zEv sc 92 652 [l0, l1, l2, l3, l4, l5, l6, l7, l8, l9, .int x] [.int x] h Q := zE_pure (q := (652, [l0, l1, l2, l3, l4, l5, l6, l7, l8, l9, .int x], [.int x])) dz92_650 rfl rfl rfl
theorem dz92_652 : decode (z_code 92) 652 = .ok (.ldc 64, 2) := by decide +kernel
theorem u92_652 : zEv sc 92 652 [l0, l1, l2, l3, l4, l5, l6, l7, l8, l9, l10] [t0] h Q ↔ zEv sc 92 654 [l0, l1, l2, l3, l4, l5, l6, l7, l8, l9, l10] [.int (-1000001), t0] h Q := zE_ldc (by decide +kernel : z_lkK zKT (z_cls 92) 64 = some ((-1000001), 504)) dz92_652
theorem dz92_654 : decode (z_code 92) 654 = .ok (.if_icmp .ne 30, 3) := by decide +kernel
theorem u92_654 : zEv sc 92 654 [l0, l1, l2, l3, l4, l5, l6, l7, l8, l9, l10] [.int x2, .int x1] h Q ↔ (if ¬ x1 = x2 then zEv sc 92 684 [l0, l1, l2, l3, l4, l5, l6, l7, l8, l9, l10] [] h Q else zEv sc 92 657 [l0, l1, l2, l3, l4, l5, l6, l7, l8, l9, l10] [] h Q) := zE_icP (P := ¬ x1 = x2) inferInstance 684 dz92_654 rfl rfl
theorem dz92_657 : decode (z_code 92) 657 = .ok (.iload 4, 2) := by decide +kernel
theorem u92_657 : zEv sc 92 657 [l0, l1, l2, l3, .int x, l5, l6, l7, l8, l9, l10] [] h Q ↔ zEv sc 92 659 [l0, l1, l2, l3, .int x, l5, l6, l7, l8, l9, l10] [.int x] h Q := zE_pure (q := (659, [l0, l1, l2, l3, .int x, l5, l6, l7, l8, l9, l10], [.int x])) dz92_657 rfl rfl rfl
theorem dz92_659 : decode (z_code 92) 659 = .ok (.iconst 2, 1) := by decide +kernel
theorem u92_659 : zEv sc 92 659 [l0, l1, l2, l3, l4, l5, l6, l7, l8, l9, l10] [t0] h Q ↔ zEv sc 92 660 [l0, l1, l2, l3, l4, l5, l6, l7, l8, l9, l10] [.int 2, t0] h Q := zE_iconst dz92_659 (by decide +kernel)
theorem dz92_660 : decode (z_code 92) 660 = .ok (.if_icmp .eq 20, 3) := by decide +kernel
theorem u92_660 : zEv sc 92 660 [l0, l1, l2, l3, l4, l5, l6, l7, l8, l9, l10] [.int x2, .int x1] h Q ↔ (if x1 = x2 then zEv sc 92 680 [l0, l1, l2, l3, l4, l5, l6, l7, l8, l9, l10] [] h Q else zEv sc 92 663 [l0, l1, l2, l3, l4, l5, l6, l7, l8, l9, l10] [] h Q) := zE_icP (P := x1 = x2) inferInstance 680 dz92_660 rfl rfl
theorem dz92_663 : decode (z_code 92) 663 = .ok (.iload 8, 2) := by decide +kernel
theorem u92_663 : zEv sc 92 663 [l0, l1, l2, l3, l4, l5, l6, l7, .int x, l9, l10] [] h Q ↔ zEv sc 92 665 [l0, l1, l2, l3, l4, l5, l6, l7, .int x, l9, l10] [.int x] h Q := zE_pure (q := (665, [l0, l1, l2, l3, l4, l5, l6, l7, .int x, l9, l10], [.int x])) dz92_663 rfl rfl rfl
theorem dz92_665 : decode (z_code 92) 665 = .ok (.aload_n 0, 1) := by decide +kernel
theorem u92_665 : zEv sc 92 665 [.ref a, l1, l2, l3, l4, l5, l6, l7, l8, l9, l10] [t0] h Q ↔ zEv sc 92 666 [.ref a, l1, l2, l3, l4, l5, l6, l7, l8, l9, l10] [.ref a, t0] h Q := zE_pure (q := (666, [.ref a, l1, l2, l3, l4, l5, l6, l7, l8, l9, l10], [.ref a, t0])) dz92_665 rfl rfl rfl
theorem dz92_666 : decode (z_code 92) 666 = .ok (.iconst 0, 1) := by decide +kernel
theorem u92_666 : zEv sc 92 666 [l0, l1, l2, l3, l4, l5, l6, l7, l8, l9, l10] [t0, t1] h Q ↔ zEv sc 92 667 [l0, l1, l2, l3, l4, l5, l6, l7, l8, l9, l10] [.int 0, t0, t1] h Q := zE_iconst dz92_666 (by decide +kernel)
theorem dz92_667 : decode (z_code 92) 667 = .ok (.invokevirtual 13, 3) := by decide +kernel
theorem u92_667 (ho : zO a 9) : zEv sc 92 667 [l0, l1, l2, l3, l4, l5, l6, l7, l8, l9, l10] [.int z0, .ref a, t0] (zst p iv) Q ↔ zEv sc 81 0 [.ref a, .int z0] [] (zst p iv) (fun r h9 => zEv sc 92 670 [l0, l1, l2, l3, l4, l5, l6, l7, l8, l9, l10] (r.toList ++ [t0]) h9 Q) := zE_call (kd := 0) (na := 2) (nr := 1) (as := [.ref a, .int z0]) (rest := [t0]) (Or.inl ⟨rfl, rfl⟩) dz92_667 (by decide +kernel : z_lk2 zCT (z_cls 92) 13 = some (81, 0, 300)) (fun z => by cases z) rfl rfl rfl (by decide +kernel) rfl rfl (Or.inr (zE_rc ho))
theorem dz92_670 : decode (z_code 92) 670 = .ok (.if_icmp .ge 10, 3) := by decide +kernel
theorem u92_670 : zEv sc 92 670 [l0, l1, l2, l3, l4, l5, l6, l7, l8, l9, l10] [.int x2, .int x1] h Q ↔ (if x2 ≤ x1 then zEv sc 92 680 [l0, l1, l2, l3, l4, l5, l6, l7, l8, l9, l10] [] h Q else zEv sc 92 673 [l0, l1, l2, l3, l4, l5, l6, l7, l8, l9, l10] [] h Q) := zE_icP (P := x2 ≤ x1) inferInstance 680 dz92_670 rfl rfl
theorem dz92_673 : decode (z_code 92) 673 = .ok (.iload 9, 2) := by decide +kernel
theorem u92_673 : zEv sc 92 673 [l0, l1, l2, l3, l4, l5, l6, l7, l8, .int x, l10] [] h Q ↔ zEv sc 92 675 [l0, l1, l2, l3, l4, l5, l6, l7, l8, .int x, l10] [.int x] h Q := zE_pure (q := (675, [l0, l1, l2, l3, l4, l5, l6, l7, l8, .int x, l10], [.int x])) dz92_673 rfl rfl rfl
theorem dz92_675 : decode (z_code 92) 675 = .ok (.bipush 9, 2) := by decide +kernel
theorem u92_675 : zEv sc 92 675 [l0, l1, l2, l3, l4, l5, l6, l7, l8, l9, l10] [t0] h Q ↔ zEv sc 92 677 [l0, l1, l2, l3, l4, l5, l6, l7, l8, l9, l10] [.int 9, t0] h Q := zE_bipush dz92_675 (by decide +kernel)
theorem dz92_677 : decode (z_code 92) 677 = .ok (.if_icmp .ne 7, 3) := by decide +kernel
theorem u92_677 : zEv sc 92 677 [l0, l1, l2, l3, l4, l5, l6, l7, l8, l9, l10] [.int x2, .int x1] h Q ↔ (if ¬ x1 = x2 then zEv sc 92 684 [l0, l1, l2, l3, l4, l5, l6, l7, l8, l9, l10] [] h Q else zEv sc 92 680 [l0, l1, l2, l3, l4, l5, l6, l7, l8, l9, l10] [] h Q) := zE_icP (P := ¬ x1 = x2) inferInstance 684 dz92_677 rfl rfl
theorem dz92_680 : decode (z_code 92) 680 = .ok (.iconst 1, 1) := by decide +kernel
theorem u92_680 : zEv sc 92 680 [l0, l1, l2, l3, l4, l5, l6, l7, l8, l9, l10] [] h Q ↔ zEv sc 92 681 [l0, l1, l2, l3, l4, l5, l6, l7, l8, l9, l10] [.int 1] h Q := zE_iconst dz92_680 (by decide +kernel)
theorem dz92_681 : decode (z_code 92) 681 = .ok (.goto 45, 3) := by decide +kernel
theorem u92_681 : zEv sc 92 681 [l0, l1, l2, l3, l4, l5, l6, l7, l8, l9, l10] [t0] h Q ↔ zEv sc 92 726 [l0, l1, l2, l3, l4, l5, l6, l7, l8, l9, l10] [t0] h Q := zE_go 726 dz92_681 rfl
theorem dz92_726 : decode (z_code 92) 726 = .ok (.ireturn, 1) := by decide +kernel
theorem u92_726 : zEv sc 92 726 [l0, l1, l2, l3, l4, l5, l6, l7, l8, l9, l10] [.int x] h Q ↔ ((x = 0 ∨ x = 1) ∧ Q (some (.int x)) h) := zE_rz dz92_726 (by decide +kernel)
theorem dz92_684 : decode (z_code 92) 684 = .ok (.iconst 0, 1) := by decide +kernel
theorem u92_684 : zEv sc 92 684 [l0, l1, l2, l3, l4, l5, l6, l7, l8, l9, l10] [] h Q ↔ zEv sc 92 685 [l0, l1, l2, l3, l4, l5, l6, l7, l8, l9, l10] [.int 0] h Q := zE_iconst dz92_684 (by decide +kernel)
theorem dz92_685 : decode (z_code 92) 685 = .ok (.goto 41, 3) := by decide +kernel
theorem u92_685 : zEv sc 92 685 [l0, l1, l2, l3, l4, l5, l6, l7, l8, l9, l10] [t0] h Q ↔ zEv sc 92 726 [l0, l1, l2, l3, l4, l5, l6, l7, l8, l9, l10] [t0] h Q := zE_go 726 dz92_685 rfl
theorem dz92_688 : decode (z_code 92) 688 = .ok (.iload 10, 2) := by decide +kernel
theorem u92_688 : zEv sc 92 688 [l0, l1, l2, l3, l4, l5, l6, l7, l8, l9, .int x] [] h Q ↔ zEv sc 92 690 [l0, l1, l2, l3, l4, l5, l6, l7, l8, l9, .int x] [.int x] h Q := zE_pure (q := (690, [l0, l1, l2, l3, l4, l5, l6, l7, l8, l9, .int x], [.int x])) dz92_688 rfl rfl rfl
theorem dz92_690 : decode (z_code 92) 690 = .ok (.aload_n 0, 1) := by decide +kernel
theorem u92_690 : zEv sc 92 690 [.ref a, l1, l2, l3, l4, l5, l6, l7, l8, l9, l10] [t0] h Q ↔ zEv sc 92 691 [.ref a, l1, l2, l3, l4, l5, l6, l7, l8, l9, l10] [.ref a, t0] h Q := zE_pure (q := (691, [.ref a, l1, l2, l3, l4, l5, l6, l7, l8, l9, l10], [.ref a, t0])) dz92_690 rfl rfl rfl
theorem dz92_691 : decode (z_code 92) 691 = .ok (.iconst 5, 1) := by decide +kernel
theorem u92_691 : zEv sc 92 691 [l0, l1, l2, l3, l4, l5, l6, l7, l8, l9, l10] [t0, t1] h Q ↔ zEv sc 92 692 [l0, l1, l2, l3, l4, l5, l6, l7, l8, l9, l10] [.int 5, t0, t1] h Q := zE_iconst dz92_691 (by decide +kernel)
theorem dz92_692 : decode (z_code 92) 692 = .ok (.iload 4, 2) := by decide +kernel
theorem u92_692 : zEv sc 92 692 [l0, l1, l2, l3, .int x, l5, l6, l7, l8, l9, l10] [t0, t1, t2] h Q ↔ zEv sc 92 694 [l0, l1, l2, l3, .int x, l5, l6, l7, l8, l9, l10] [.int x, t0, t1, t2] h Q := zE_pure (q := (694, [l0, l1, l2, l3, .int x, l5, l6, l7, l8, l9, l10], [.int x, t0, t1, t2])) dz92_692 rfl rfl rfl
theorem dz92_694 : decode (z_code 92) 694 = .ok (.iadd, 1) := by decide +kernel
theorem u92_694 : zEv sc 92 694 [l0, l1, l2, l3, l4, l5, l6, l7, l8, l9, l10] [.int x2, .int x1, t0, t1] h Q ↔ zEv sc 92 695 [l0, l1, l2, l3, l4, l5, l6, l7, l8, l9, l10] [.int (x1 + x2), t0, t1] h Q := zE_pure (q := (695, [l0, l1, l2, l3, l4, l5, l6, l7, l8, l9, l10], [.int (x1 + x2), t0, t1])) dz92_694 rfl rfl rfl
theorem dz92_695 : decode (z_code 92) 695 = .ok (.invokevirtual 13, 3) := by decide +kernel
theorem u92_695 (ho : zO a 9) : zEv sc 92 695 [l0, l1, l2, l3, l4, l5, l6, l7, l8, l9, l10] [.int z0, .ref a, t0] (zst p iv) Q ↔ zEv sc 81 0 [.ref a, .int z0] [] (zst p iv) (fun r h9 => zEv sc 92 698 [l0, l1, l2, l3, l4, l5, l6, l7, l8, l9, l10] (r.toList ++ [t0]) h9 Q) := zE_call (kd := 0) (na := 2) (nr := 1) (as := [.ref a, .int z0]) (rest := [t0]) (Or.inl ⟨rfl, rfl⟩) dz92_695 (by decide +kernel : z_lk2 zCT (z_cls 92) 13 = some (81, 0, 300)) (fun z => by cases z) rfl rfl rfl (by decide +kernel) rfl rfl (Or.inr (zE_rc ho))
theorem dz92_698 : decode (z_code 92) 698 = .ok (.if_icmp .ne 27, 3) := by decide +kernel
theorem u92_698 : zEv sc 92 698 [l0, l1, l2, l3, l4, l5, l6, l7, l8, l9, l10] [.int x2, .int x1] h Q ↔ (if ¬ x1 = x2 then zEv sc 92 725 [l0, l1, l2, l3, l4, l5, l6, l7, l8, l9, l10] [] h Q else zEv sc 92 701 [l0, l1, l2, l3, l4, l5, l6, l7, l8, l9, l10] [] h Q) := zE_icP (P := ¬ x1 = x2) inferInstance 725 dz92_698 rfl rfl
theorem dz92_701 : decode (z_code 92) 701 = .ok (.aload_n 0, 1) := by decide +kernel
theorem u92_701 : zEv sc 92 701 [.ref a, l1, l2, l3, l4, l5, l6, l7, l8, l9, l10] [] h Q ↔ zEv sc 92 702 [.ref a, l1, l2, l3, l4, l5, l6, l7, l8, l9, l10] [.ref a] h Q := zE_pure (q := (702, [.ref a, l1, l2, l3, l4, l5, l6, l7, l8, l9, l10], [.ref a])) dz92_701 rfl rfl rfl
theorem dz92_702 : decode (z_code 92) 702 = .ok (.bipush 30, 2) := by decide +kernel
theorem u92_702 : zEv sc 92 702 [l0, l1, l2, l3, l4, l5, l6, l7, l8, l9, l10] [t0] h Q ↔ zEv sc 92 704 [l0, l1, l2, l3, l4, l5, l6, l7, l8, l9, l10] [.int 30, t0] h Q := zE_bipush dz92_702 (by decide +kernel)
theorem dz92_704 : decode (z_code 92) 704 = .ok (.bipush 10, 2) := by decide +kernel
theorem u92_704 : zEv sc 92 704 [l0, l1, l2, l3, l4, l5, l6, l7, l8, l9, l10] [t0, t1] h Q ↔ zEv sc 92 706 [l0, l1, l2, l3, l4, l5, l6, l7, l8, l9, l10] [.int 10, t0, t1] h Q := zE_bipush dz92_704 (by decide +kernel)
theorem dz92_706 : decode (z_code 92) 706 = .ok (.iload 4, 2) := by decide +kernel
theorem u92_706 : zEv sc 92 706 [l0, l1, l2, l3, .int x, l5, l6, l7, l8, l9, l10] [t0, t1, t2] h Q ↔ zEv sc 92 708 [l0, l1, l2, l3, .int x, l5, l6, l7, l8, l9, l10] [.int x, t0, t1, t2] h Q := zE_pure (q := (708, [l0, l1, l2, l3, .int x, l5, l6, l7, l8, l9, l10], [.int x, t0, t1, t2])) dz92_706 rfl rfl rfl
theorem dz92_708 : decode (z_code 92) 708 = .ok (.imul, 1) := by decide +kernel
theorem u92_708 : zEv sc 92 708 [l0, l1, l2, l3, l4, l5, l6, l7, l8, l9, l10] [.int x2, .int x1, t0, t1] h Q ↔ zEv sc 92 709 [l0, l1, l2, l3, l4, l5, l6, l7, l8, l9, l10] [.int (x1 * x2), t0, t1] h Q := zE_pure (q := (709, [l0, l1, l2, l3, l4, l5, l6, l7, l8, l9, l10], [.int (x1 * x2), t0, t1])) dz92_708 rfl rfl rfl
theorem dz92_709 : decode (z_code 92) 709 = .ok (.iadd, 1) := by decide +kernel
theorem u92_709 : zEv sc 92 709 [l0, l1, l2, l3, l4, l5, l6, l7, l8, l9, l10] [.int x2, .int x1, t0] h Q ↔ zEv sc 92 710 [l0, l1, l2, l3, l4, l5, l6, l7, l8, l9, l10] [.int (x1 + x2), t0] h Q := zE_pure (q := (710, [l0, l1, l2, l3, l4, l5, l6, l7, l8, l9, l10], [.int (x1 + x2), t0])) dz92_709 rfl rfl rfl
theorem dz92_710 : decode (z_code 92) 710 = .ok (.iload 8, 2) := by decide +kernel
theorem u92_710 : zEv sc 92 710 [l0, l1, l2, l3, l4, l5, l6, l7, .int x, l9, l10] [t0, t1] h Q ↔ zEv sc 92 712 [l0, l1, l2, l3, l4, l5, l6, l7, .int x, l9, l10] [.int x, t0, t1] h Q := zE_pure (q := (712, [l0, l1, l2, l3, l4, l5, l6, l7, .int x, l9, l10], [.int x, t0, t1])) dz92_710 rfl rfl rfl
theorem dz92_712 : decode (z_code 92) 712 = .ok (.iadd, 1) := by decide +kernel
theorem u92_712 : zEv sc 92 712 [l0, l1, l2, l3, l4, l5, l6, l7, l8, l9, l10] [.int x2, .int x1, t0] h Q ↔ zEv sc 92 713 [l0, l1, l2, l3, l4, l5, l6, l7, l8, l9, l10] [.int (x1 + x2), t0] h Q := zE_pure (q := (713, [l0, l1, l2, l3, l4, l5, l6, l7, l8, l9, l10], [.int (x1 + x2), t0])) dz92_712 rfl rfl rfl
theorem dz92_713 : decode (z_code 92) 713 = .ok (.invokevirtual 13, 3) := by decide +kernel
theorem u92_713 (ho : zO a 9) : zEv sc 92 713 [l0, l1, l2, l3, l4, l5, l6, l7, l8, l9, l10] [.int z0, .ref a] (zst p iv) Q ↔ zEv sc 81 0 [.ref a, .int z0] [] (zst p iv) (fun r h9 => zEv sc 92 716 [l0, l1, l2, l3, l4, l5, l6, l7, l8, l9, l10] (r.toList ++ []) h9 Q) := zE_call (kd := 0) (na := 2) (nr := 0) (as := [.ref a, .int z0]) (rest := []) (Or.inl ⟨rfl, rfl⟩) dz92_713 (by decide +kernel : z_lk2 zCT (z_cls 92) 13 = some (81, 0, 300)) (fun z => by cases z) rfl rfl rfl (by decide +kernel) rfl rfl (Or.inr (zE_rc ho))
theorem dz92_716 : decode (z_code 92) 716 = .ok (.iload 9, 2) := by decide +kernel
theorem u92_716 : zEv sc 92 716 [l0, l1, l2, l3, l4, l5, l6, l7, l8, .int x, l10] [t0] h Q ↔ zEv sc 92 718 [l0, l1, l2, l3, l4, l5, l6, l7, l8, .int x, l10] [.int x, t0] h Q := zE_pure (q := (718, [l0, l1, l2, l3, l4, l5, l6, l7, l8, .int x, l10], [.int x, t0])) dz92_716 rfl rfl rfl
theorem dz92_718 : decode (z_code 92) 718 = .ok (.if_icmp .ne 7, 3) := by decide +kernel
theorem u92_718 : zEv sc 92 718 [l0, l1, l2, l3, l4, l5, l6, l7, l8, l9, l10] [.int x2, .int x1] h Q ↔ (if ¬ x1 = x2 then zEv sc 92 725 [l0, l1, l2, l3, l4, l5, l6, l7, l8, l9, l10] [] h Q else zEv sc 92 721 [l0, l1, l2, l3, l4, l5, l6, l7, l8, l9, l10] [] h Q) := zE_icP (P := ¬ x1 = x2) inferInstance 725 dz92_718 rfl rfl
theorem dz92_721 : decode (z_code 92) 721 = .ok (.iconst 1, 1) := by decide +kernel
theorem u92_721 : zEv sc 92 721 [l0, l1, l2, l3, l4, l5, l6, l7, l8, l9, l10] [] h Q ↔ zEv sc 92 722 [l0, l1, l2, l3, l4, l5, l6, l7, l8, l9, l10] [.int 1] h Q := zE_iconst dz92_721 (by decide +kernel)
theorem dz92_722 : decode (z_code 92) 722 = .ok (.goto 4, 3) := by decide +kernel
theorem u92_722 : zEv sc 92 722 [l0, l1, l2, l3, l4, l5, l6, l7, l8, l9, l10] [t0] h Q ↔ zEv sc 92 726 [l0, l1, l2, l3, l4, l5, l6, l7, l8, l9, l10] [t0] h Q := zE_go 726 dz92_722 rfl
theorem dz92_725 : decode (z_code 92) 725 = .ok (.iconst 0, 1) := by decide +kernel
theorem u92_725 : zEv sc 92 725 [l0, l1, l2, l3, l4, l5, l6, l7, l8, l9, l10] [] h Q ↔ zEv sc 92 726 [l0, l1, l2, l3, l4, l5, l6, l7, l8, l9, l10] [.int 0] h Q := zE_iconst dz92_725 (by decide +kernel)
theorem dz92_727 : decode (z_code 92) 727 = .ok (.iload_n 3, 1) := by decide +kernel
theorem u92_727 : zEv sc 92 727 [l0, l1, l2, .int x, l4, l5, l6, l7, l8, l9, l10] [] h Q ↔ zEv sc 92 728 [l0, l1, l2, .int x, l4, l5, l6, l7, l8, l9, l10] [.int x] h Q := zE_pure (q := (728, [l0, l1, l2, .int x, l4, l5, l6, l7, l8, l9, l10], [.int x])) dz92_727 rfl rfl rfl
theorem dz92_728 : decode (z_code 92) 728 = .ok (.bipush 12, 2) := by decide +kernel
theorem u92_728 : zEv sc 92 728 [l0, l1, l2, l3, l4, l5, l6, l7, l8, l9, l10] [t0] h Q ↔ zEv sc 92 730 [l0, l1, l2, l3, l4, l5, l6, l7, l8, l9, l10] [.int 12, t0] h Q := zE_bipush dz92_728 (by decide +kernel)
theorem dz92_730 : decode (z_code 92) 730 = .ok (.if_icmp .ne 45, 3) := by decide +kernel
theorem u92_730 : zEv sc 92 730 [l0, l1, l2, l3, l4, l5, l6, l7, l8, l9, l10] [.int x2, .int x1] h Q ↔ (if ¬ x1 = x2 then zEv sc 92 775 [l0, l1, l2, l3, l4, l5, l6, l7, l8, l9, l10] [] h Q else zEv sc 92 733 [l0, l1, l2, l3, l4, l5, l6, l7, l8, l9, l10] [] h Q) := zE_icP (P := ¬ x1 = x2) inferInstance 775 dz92_730 rfl rfl
theorem dz92_733 : decode (z_code 92) 733 = .ok (.aload_n 0, 1) := by decide +kernel
theorem u92_733 : zEv sc 92 733 [.ref a, l1, l2, l3, l4, l5, l6, l7, l8, l9, l10] [] h Q ↔ zEv sc 92 734 [.ref a, l1, l2, l3, l4, l5, l6, l7, l8, l9, l10] [.ref a] h Q := zE_pure (q := (734, [.ref a, l1, l2, l3, l4, l5, l6, l7, l8, l9, l10], [.ref a])) dz92_733 rfl rfl rfl
theorem dz92_734 : decode (z_code 92) 734 = .ok (.iconst 2, 1) := by decide +kernel
theorem u92_734 : zEv sc 92 734 [l0, l1, l2, l3, l4, l5, l6, l7, l8, l9, l10] [t0] h Q ↔ zEv sc 92 735 [l0, l1, l2, l3, l4, l5, l6, l7, l8, l9, l10] [.int 2, t0] h Q := zE_iconst dz92_734 (by decide +kernel)
theorem dz92_735 : decode (z_code 92) 735 = .ok (.invokevirtual 13, 3) := by decide +kernel
theorem u92_735 (ho : zO a 9) : zEv sc 92 735 [l0, l1, l2, l3, l4, l5, l6, l7, l8, l9, l10] [.int z0, .ref a] (zst p iv) Q ↔ zEv sc 81 0 [.ref a, .int z0] [] (zst p iv) (fun r h9 => zEv sc 92 738 [l0, l1, l2, l3, l4, l5, l6, l7, l8, l9, l10] (r.toList ++ []) h9 Q) := zE_call (kd := 0) (na := 2) (nr := 0) (as := [.ref a, .int z0]) (rest := []) (Or.inl ⟨rfl, rfl⟩) dz92_735 (by decide +kernel : z_lk2 zCT (z_cls 92) 13 = some (81, 0, 300)) (fun z => by cases z) rfl rfl rfl (by decide +kernel) rfl rfl (Or.inr (zE_rc ho))
theorem dz92_738 : decode (z_code 92) 738 = .ok (.istore 8, 2) := by decide +kernel
theorem u92_738 : zEv sc 92 738 [l0, l1, l2, l3, l4, l5, l6, l7, l8, l9, l10] [.int x] h Q ↔ zEv sc 92 740 [l0, l1, l2, l3, l4, l5, l6, l7, .int x, l9, l10] [] h Q := zE_pure (q := (740, [l0, l1, l2, l3, l4, l5, l6, l7, .int x, l9, l10], [])) dz92_738 rfl rfl rfl
theorem dz92_740 : decode (z_code 92) 740 = .ok (.iload_n 2, 1) := by decide +kernel
theorem u92_740 : zEv sc 92 740 [l0, l1, .int x, l3, l4, l5, l6, l7, l8, l9, l10] [] h Q ↔ zEv sc 92 741 [l0, l1, .int x, l3, l4, l5, l6, l7, l8, l9, l10] [.int x] h Q := zE_pure (q := (741, [l0, l1, .int x, l3, l4, l5, l6, l7, l8, l9, l10], [.int x])) dz92_740 rfl rfl rfl
theorem dz92_741 : decode (z_code 92) 741 = .ok (.iconst 4, 1) := by decide +kernel
theorem u92_741 : zEv sc 92 741 [l0, l1, l2, l3, l4, l5, l6, l7, l8, l9, l10] [t0] h Q ↔ zEv sc 92 742 [l0, l1, l2, l3, l4, l5, l6, l7, l8, l9, l10] [.int 4, t0] h Q := zE_iconst dz92_741 (by decide +kernel)
theorem dz92_742 : decode (z_code 92) 742 = .ok (.invokestatic 25, 3) := by decide +kernel
theorem u92_742 : zEv sc 92 742 [l0, l1, l2, l3, l4, l5, l6, l7, l8, l9, l10] [.int z1, .int z0] h Q ↔ zEv sc 87 0 [.int z0, .int z1] [] h (fun r h9 => zEv sc 92 745 [l0, l1, l2, l3, l4, l5, l6, l7, l8, l9, l10] (r.toList ++ []) h9 Q) := zE_call (kd := 1) (na := 2) (nr := 0) (as := [.int z0, .int z1]) (rest := []) (Or.inr ⟨rfl, rfl⟩) dz92_742 (by decide +kernel : z_lk2 zCT (z_cls 92) 25 = some (87, 0, 345)) (fun _ => ⟨by decide +kernel, by decide +kernel⟩) rfl rfl rfl (by decide +kernel) rfl rfl (Or.inl rfl)
theorem dz92_745 : decode (z_code 92) 745 = .ok (.istore 9, 2) := by decide +kernel
theorem u92_745 : zEv sc 92 745 [l0, l1, l2, l3, l4, l5, l6, l7, l8, l9, l10] [.int x] h Q ↔ zEv sc 92 747 [l0, l1, l2, l3, l4, l5, l6, l7, l8, .int x, l10] [] h Q := zE_pure (q := (747, [l0, l1, l2, l3, l4, l5, l6, l7, l8, .int x, l10], [])) dz92_745 rfl rfl rfl
theorem dz92_747 : decode (z_code 92) 747 = .ok (.aload_n 0, 1) := by decide +kernel
theorem u92_747 : zEv sc 92 747 [.ref a, l1, l2, l3, l4, l5, l6, l7, l8, l9, l10] [] h Q ↔ zEv sc 92 748 [.ref a, l1, l2, l3, l4, l5, l6, l7, l8, l9, l10] [.ref a] h Q := zE_pure (q := (748, [.ref a, l1, l2, l3, l4, l5, l6, l7, l8, l9, l10], [.ref a])) dz92_747 rfl rfl rfl
theorem dz92_748 : decode (z_code 92) 748 = .ok (.iload 9, 2) := by decide +kernel
theorem u92_748 : zEv sc 92 748 [l0, l1, l2, l3, l4, l5, l6, l7, l8, .int x, l10] [t0] h Q ↔ zEv sc 92 750 [l0, l1, l2, l3, l4, l5, l6, l7, l8, .int x, l10] [.int x, t0] h Q := zE_pure (q := (750, [l0, l1, l2, l3, l4, l5, l6, l7, l8, .int x, l10], [.int x, t0])) dz92_748 rfl rfl rfl
theorem dz92_750 : decode (z_code 92) 750 = .ok (.invokevirtual 81, 3) := by decide +kernel
theorem u92_750 (ho : zO a 9) : zEv sc 92 750 [l0, l1, l2, l3, l4, l5, l6, l7, l8, l9, l10] [.int z0, .ref a] (zst p iv) Q ↔ zEv sc 61 0 [.ref a, .int z0, .null] [] (zst p iv) (fun r h9 => zEv sc 92 753 [l0, l1, l2, l3, l4, l5, l6, l7, l8, l9, l10] (r.toList ++ []) h9 Q) := zE_call (kd := 0) (na := 2) (nr := 0) (as := [.ref a, .int z0]) (rest := []) (Or.inl ⟨rfl, rfl⟩) dz92_750 (by decide +kernel : z_lk2 zCT (z_cls 92) 81 = some (61, 0, 560)) (fun z => by cases z) rfl rfl rfl (by decide +kernel) rfl rfl (Or.inr (zE_rc ho))
theorem dz92_753 : decode (z_code 92) 753 = .ok (.iload 9, 2) := by decide +kernel
theorem u92_753 : zEv sc 92 753 [l0, l1, l2, l3, l4, l5, l6, l7, l8, .int x, l10] [t0] h Q ↔ zEv sc 92 755 [l0, l1, l2, l3, l4, l5, l6, l7, l8, .int x, l10] [.int x, t0] h Q := zE_pure (q := (755, [l0, l1, l2, l3, l4, l5, l6, l7, l8, .int x, l10], [.int x, t0])) dz92_753 rfl rfl rfl
theorem dz92_755 : decode (z_code 92) 755 = .ok (.iconst 3, 1) := by decide +kernel
theorem u92_755 : zEv sc 92 755 [l0, l1, l2, l3, l4, l5, l6, l7, l8, l9, l10] [t0, t1] h Q ↔ zEv sc 92 756 [l0, l1, l2, l3, l4, l5, l6, l7, l8, l9, l10] [.int 3, t0, t1] h Q := zE_iconst dz92_755 (by decide +kernel)
theorem dz92_756 : decode (z_code 92) 756 = .ok (.if_icmp .ne 8, 3) := by decide +kernel
theorem u92_756 : zEv sc 92 756 [l0, l1, l2, l3, l4, l5, l6, l7, l8, l9, l10] [.int x2, .int x1, t0] h Q ↔ (if ¬ x1 = x2 then zEv sc 92 764 [l0, l1, l2, l3, l4, l5, l6, l7, l8, l9, l10] [t0] h Q else zEv sc 92 759 [l0, l1, l2, l3, l4, l5, l6, l7, l8, l9, l10] [t0] h Q) := zE_icP (P := ¬ x1 = x2) inferInstance 764 dz92_756 rfl rfl
theorem dz92_759 : decode (z_code 92) 759 = .ok (.ldc 64, 2) := by decide +kernel
theorem u92_759 : zEv sc 92 759 [l0, l1, l2, l3, l4, l5, l6, l7, l8, l9, l10] [t0] h Q ↔ zEv sc 92 761 [l0, l1, l2, l3, l4, l5, l6, l7, l8, l9, l10] [.int (-1000001), t0] h Q := zE_ldc (by decide +kernel : z_lkK zKT (z_cls 92) 64 = some ((-1000001), 504)) dz92_759
theorem dz92_761 : decode (z_code 92) 761 = .ok (.goto 5, 3) := by decide +kernel
theorem u92_761 : zEv sc 92 761 [l0, l1, l2, l3, l4, l5, l6, l7, l8, l9, l10] [t0, t1] h Q ↔ zEv sc 92 766 [l0, l1, l2, l3, l4, l5, l6, l7, l8, l9, l10] [t0, t1] h Q := zE_go 766 dz92_761 rfl
theorem dz92_766 : decode (z_code 92) 766 = .ok (.if_icmp .ne 7, 3) := by decide +kernel
theorem u92_766 : zEv sc 92 766 [l0, l1, l2, l3, l4, l5, l6, l7, l8, l9, l10] [.int x2, .int x1] h Q ↔ (if ¬ x1 = x2 then zEv sc 92 773 [l0, l1, l2, l3, l4, l5, l6, l7, l8, l9, l10] [] h Q else zEv sc 92 769 [l0, l1, l2, l3, l4, l5, l6, l7, l8, l9, l10] [] h Q) := zE_icP (P := ¬ x1 = x2) inferInstance 773 dz92_766 rfl rfl
theorem dz92_769 : decode (z_code 92) 769 = .ok (.iconst 1, 1) := by decide +kernel
theorem u92_769 : zEv sc 92 769 [l0, l1, l2, l3, l4, l5, l6, l7, l8, l9, l10] [] h Q ↔ zEv sc 92 770 [l0, l1, l2, l3, l4, l5, l6, l7, l8, l9, l10] [.int 1] h Q := zE_iconst dz92_769 (by decide +kernel)
theorem dz92_770 : decode (z_code 92) 770 = .ok (.goto 4, 3) := by decide +kernel
theorem u92_770 : zEv sc 92 770 [l0, l1, l2, l3, l4, l5, l6, l7, l8, l9, l10] [t0] h Q ↔ zEv sc 92 774 [l0, l1, l2, l3, l4, l5, l6, l7, l8, l9, l10] [t0] h Q := zE_go 774 dz92_770 rfl
theorem dz92_774 : decode (z_code 92) 774 = .ok (.ireturn, 1) := by decide +kernel
theorem u92_774 : zEv sc 92 774 [l0, l1, l2, l3, l4, l5, l6, l7, l8, l9, l10] [.int x] h Q ↔ ((x = 0 ∨ x = 1) ∧ Q (some (.int x)) h) := zE_rz dz92_774 (by decide +kernel)
theorem dz92_773 : decode (z_code 92) 773 = .ok (.iconst 0, 1) := by decide +kernel
theorem u92_773 : zEv sc 92 773 [l0, l1, l2, l3, l4, l5, l6, l7, l8, l9, l10] [] h Q ↔ zEv sc 92 774 [l0, l1, l2, l3, l4, l5, l6, l7, l8, l9, l10] [.int 0] h Q := zE_iconst dz92_773 (by decide +kernel)
theorem dz92_764 : decode (z_code 92) 764 = .ok (.iload 8, 2) := by decide +kernel
theorem u92_764 : zEv sc 92 764 [l0, l1, l2, l3, l4, l5, l6, l7, .int x, l9, l10] [t0] h Q ↔ zEv sc 92 766 [l0, l1, l2, l3, l4, l5, l6, l7, .int x, l9, l10] [.int x, t0] h Q := zE_pure (q := (766, [l0, l1, l2, l3, l4, l5, l6, l7, .int x, l9, l10], [.int x, t0])) dz92_764 rfl rfl rfl
theorem dz92_775 : decode (z_code 92) 775 = .ok (.iload_n 3, 1) := by decide +kernel
theorem u92_775 : zEv sc 92 775 [l0, l1, l2, .int x, l4, l5, l6, l7, l8, l9, l10] [] h Q ↔ zEv sc 92 776 [l0, l1, l2, .int x, l4, l5, l6, l7, l8, l9, l10] [.int x] h Q := zE_pure (q := (776, [l0, l1, l2, .int x, l4, l5, l6, l7, l8, l9, l10], [.int x])) dz92_775 rfl rfl rfl
theorem dz92_776 : decode (z_code 92) 776 = .ok (.bipush 13, 2) := by decide +kernel
theorem u92_776 : zEv sc 92 776 [l0, l1, l2, l3, l4, l5, l6, l7, l8, l9, l10] [t0] h Q ↔ zEv sc 92 778 [l0, l1, l2, l3, l4, l5, l6, l7, l8, l9, l10] [.int 13, t0] h Q := zE_bipush dz92_776 (by decide +kernel)
theorem dz92_778 : decode (z_code 92) 778 = .ok (.if_icmp .ne 97, 3) := by decide +kernel
theorem u92_778 : zEv sc 92 778 [l0, l1, l2, l3, l4, l5, l6, l7, l8, l9, l10] [.int x2, .int x1] h Q ↔ (if ¬ x1 = x2 then zEv sc 92 875 [l0, l1, l2, l3, l4, l5, l6, l7, l8, l9, l10] [] h Q else zEv sc 92 781 [l0, l1, l2, l3, l4, l5, l6, l7, l8, l9, l10] [] h Q) := zE_icP (P := ¬ x1 = x2) inferInstance 875 dz92_778 rfl rfl
theorem dz92_781 : decode (z_code 92) 781 = .ok (.iload_n 2, 1) := by decide +kernel
theorem u92_781 : zEv sc 92 781 [l0, l1, .int x, l3, l4, l5, l6, l7, l8, l9, l10] [] h Q ↔ zEv sc 92 782 [l0, l1, .int x, l3, l4, l5, l6, l7, l8, l9, l10] [.int x] h Q := zE_pure (q := (782, [l0, l1, .int x, l3, l4, l5, l6, l7, l8, l9, l10], [.int x])) dz92_781 rfl rfl rfl
theorem dz92_782 : decode (z_code 92) 782 = .ok (.iconst 4, 1) := by decide +kernel
theorem u92_782 : zEv sc 92 782 [l0, l1, l2, l3, l4, l5, l6, l7, l8, l9, l10] [t0] h Q ↔ zEv sc 92 783 [l0, l1, l2, l3, l4, l5, l6, l7, l8, l9, l10] [.int 4, t0] h Q := zE_iconst dz92_782 (by decide +kernel)
theorem dz92_783 : decode (z_code 92) 783 = .ok (.invokestatic 25, 3) := by decide +kernel
theorem u92_783 : zEv sc 92 783 [l0, l1, l2, l3, l4, l5, l6, l7, l8, l9, l10] [.int z1, .int z0] h Q ↔ zEv sc 87 0 [.int z0, .int z1] [] h (fun r h9 => zEv sc 92 786 [l0, l1, l2, l3, l4, l5, l6, l7, l8, l9, l10] (r.toList ++ []) h9 Q) := zE_call (kd := 1) (na := 2) (nr := 0) (as := [.int z0, .int z1]) (rest := []) (Or.inr ⟨rfl, rfl⟩) dz92_783 (by decide +kernel : z_lk2 zCT (z_cls 92) 25 = some (87, 0, 345)) (fun _ => ⟨by decide +kernel, by decide +kernel⟩) rfl rfl rfl (by decide +kernel) rfl rfl (Or.inl rfl)
theorem dz92_786 : decode (z_code 92) 786 = .ok (.ifCond .ne 89, 3) := by decide +kernel
theorem u92_786 : zEv sc 92 786 [l0, l1, l2, l3, l4, l5, l6, l7, l8, l9, l10] [.int x] h Q ↔ (if ¬ x = 0 then zEv sc 92 875 [l0, l1, l2, l3, l4, l5, l6, l7, l8, l9, l10] [] h Q else zEv sc 92 789 [l0, l1, l2, l3, l4, l5, l6, l7, l8, l9, l10] [] h Q) := zE_ifP (P := ¬ x = 0) inferInstance 875 dz92_786 rfl rfl
theorem dz92_789 : decode (z_code 92) 789 = .ok (.aload_n 0, 1) := by decide +kernel
theorem u92_789 : zEv sc 92 789 [.ref a, l1, l2, l3, l4, l5, l6, l7, l8, l9, l10] [] h Q ↔ zEv sc 92 790 [.ref a, l1, l2, l3, l4, l5, l6, l7, l8, l9, l10] [.ref a] h Q := zE_pure (q := (790, [.ref a, l1, l2, l3, l4, l5, l6, l7, l8, l9, l10], [.ref a])) dz92_789 rfl rfl rfl
theorem dz92_790 : decode (z_code 92) 790 = .ok (.iconst 0, 1) := by decide +kernel
theorem u92_790 : zEv sc 92 790 [l0, l1, l2, l3, l4, l5, l6, l7, l8, l9, l10] [t0] h Q ↔ zEv sc 92 791 [l0, l1, l2, l3, l4, l5, l6, l7, l8, l9, l10] [.int 0, t0] h Q := zE_iconst dz92_790 (by decide +kernel)
theorem dz92_791 : decode (z_code 92) 791 = .ok (.invokevirtual 13, 3) := by decide +kernel
theorem u92_791 (ho : zO a 9) : zEv sc 92 791 [l0, l1, l2, l3, l4, l5, l6, l7, l8, l9, l10] [.int z0, .ref a] (zst p iv) Q ↔ zEv sc 81 0 [.ref a, .int z0] [] (zst p iv) (fun r h9 => zEv sc 92 794 [l0, l1, l2, l3, l4, l5, l6, l7, l8, l9, l10] (r.toList ++ []) h9 Q) := zE_call (kd := 0) (na := 2) (nr := 0) (as := [.ref a, .int z0]) (rest := []) (Or.inl ⟨rfl, rfl⟩) dz92_791 (by decide +kernel : z_lk2 zCT (z_cls 92) 13 = some (81, 0, 300)) (fun z => by cases z) rfl rfl rfl (by decide +kernel) rfl rfl (Or.inr (zE_rc ho))
theorem dz92_794 : decode (z_code 92) 794 = .ok (.istore 8, 2) := by decide +kernel
theorem u92_794 : zEv sc 92 794 [l0, l1, l2, l3, l4, l5, l6, l7, l8, l9, l10] [.int x] h Q ↔ zEv sc 92 796 [l0, l1, l2, l3, l4, l5, l6, l7, .int x, l9, l10] [] h Q := zE_pure (q := (796, [l0, l1, l2, l3, l4, l5, l6, l7, .int x, l9, l10], [])) dz92_794 rfl rfl rfl
theorem dz92_796 : decode (z_code 92) 796 = .ok (.iconst 1, 1) := by decide +kernel
theorem u92_796 : zEv sc 92 796 [l0, l1, l2, l3, l4, l5, l6, l7, l8, l9, l10] [] h Q ↔ zEv sc 92 797 [l0, l1, l2, l3, l4, l5, l6, l7, l8, l9, l10] [.int 1] h Q := zE_iconst dz92_796 (by decide +kernel)
theorem dz92_797 : decode (z_code 92) 797 = .ok (.iload_n 2, 1) := by decide +kernel
theorem u92_797 : zEv sc 92 797 [l0, l1, .int x, l3, l4, l5, l6, l7, l8, l9, l10] [t0] h Q ↔ zEv sc 92 798 [l0, l1, .int x, l3, l4, l5, l6, l7, l8, l9, l10] [.int x, t0] h Q := zE_pure (q := (798, [l0, l1, .int x, l3, l4, l5, l6, l7, l8, l9, l10], [.int x, t0])) dz92_797 rfl rfl rfl
theorem dz92_798 : decode (z_code 92) 798 = .ok (.iconst 2, 1) := by decide +kernel
theorem u92_798 : zEv sc 92 798 [l0, l1, l2, l3, l4, l5, l6, l7, l8, l9, l10] [t0, t1] h Q ↔ zEv sc 92 799 [l0, l1, l2, l3, l4, l5, l6, l7, l8, l9, l10] [.int 2, t0, t1] h Q := zE_iconst dz92_798 (by decide +kernel)
theorem dz92_799 : decode (z_code 92) 799 = .ok (.ishr, 1) := by decide +kernel
theorem u92_799 : zEv sc 92 799 [l0, l1, l2, l3, l4, l5, l6, l7, l8, l9, l10] [.int x2, .int x1, t0] h Q ↔ zEv sc 92 800 [l0, l1, l2, l3, l4, l5, l6, l7, l8, l9, l10] [.int (x1 >>> (x2 &&& 31)), t0] h Q := zE_pure (q := (800, [l0, l1, l2, l3, l4, l5, l6, l7, l8, l9, l10], [.int (x1 >>> (x2 &&& 31)), t0])) dz92_799 rfl rfl rfl
theorem dz92_800 : decode (z_code 92) 800 = .ok (.iconst 5, 1) := by decide +kernel
theorem u92_800 : zEv sc 92 800 [l0, l1, l2, l3, l4, l5, l6, l7, l8, l9, l10] [t0, t1] h Q ↔ zEv sc 92 801 [l0, l1, l2, l3, l4, l5, l6, l7, l8, l9, l10] [.int 5, t0, t1] h Q := zE_iconst dz92_800 (by decide +kernel)
theorem dz92_801 : decode (z_code 92) 801 = .ok (.invokestatic 25, 3) := by decide +kernel
theorem u92_801 : zEv sc 92 801 [l0, l1, l2, l3, l4, l5, l6, l7, l8, l9, l10] [.int z1, .int z0, t0] h Q ↔ zEv sc 87 0 [.int z0, .int z1] [] h (fun r h9 => zEv sc 92 804 [l0, l1, l2, l3, l4, l5, l6, l7, l8, l9, l10] (r.toList ++ [t0]) h9 Q) := zE_call (kd := 1) (na := 2) (nr := 1) (as := [.int z0, .int z1]) (rest := [t0]) (Or.inr ⟨rfl, rfl⟩) dz92_801 (by decide +kernel : z_lk2 zCT (z_cls 92) 25 = some (87, 0, 345)) (fun _ => ⟨by decide +kernel, by decide +kernel⟩) rfl rfl rfl (by decide +kernel) rfl rfl (Or.inl rfl)
theorem dz92_804 : decode (z_code 92) 804 = .ok (.iadd, 1) := by decide +kernel
theorem u92_804 : zEv sc 92 804 [l0, l1, l2, l3, l4, l5, l6, l7, l8, l9, l10] [.int x2, .int x1] h Q ↔ zEv sc 92 805 [l0, l1, l2, l3, l4, l5, l6, l7, l8, l9, l10] [.int (x1 + x2)] h Q := zE_pure (q := (805, [l0, l1, l2, l3, l4, l5, l6, l7, l8, l9, l10], [.int (x1 + x2)])) dz92_804 rfl rfl rfl
theorem dz92_805 : decode (z_code 92) 805 = .ok (.istore 9, 2) := by decide +kernel
theorem u92_805 : zEv sc 92 805 [l0, l1, l2, l3, l4, l5, l6, l7, l8, l9, l10] [.int x] h Q ↔ zEv sc 92 807 [l0, l1, l2, l3, l4, l5, l6, l7, l8, .int x, l10] [] h Q := zE_pure (q := (807, [l0, l1, l2, l3, l4, l5, l6, l7, l8, .int x, l10], [])) dz92_805 rfl rfl rfl
theorem dz92_807 : decode (z_code 92) 807 = .ok (.aload_n 0, 1) := by decide +kernel
theorem u92_807 : zEv sc 92 807 [.ref a, l1, l2, l3, l4, l5, l6, l7, l8, l9, l10] [] h Q ↔ zEv sc 92 808 [.ref a, l1, l2, l3, l4, l5, l6, l7, l8, l9, l10] [.ref a] h Q := zE_pure (q := (808, [.ref a, l1, l2, l3, l4, l5, l6, l7, l8, l9, l10], [.ref a])) dz92_807 rfl rfl rfl
theorem dz92_808 : decode (z_code 92) 808 = .ok (.iload 9, 2) := by decide +kernel
theorem u92_808 : zEv sc 92 808 [l0, l1, l2, l3, l4, l5, l6, l7, l8, .int x, l10] [t0] h Q ↔ zEv sc 92 810 [l0, l1, l2, l3, l4, l5, l6, l7, l8, .int x, l10] [.int x, t0] h Q := zE_pure (q := (810, [l0, l1, l2, l3, l4, l5, l6, l7, l8, .int x, l10], [.int x, t0])) dz92_808 rfl rfl rfl
theorem dz92_810 : decode (z_code 92) 810 = .ok (.invokevirtual 84, 3) := by decide +kernel
theorem u92_810 (ho : zO a 9) : zEv sc 92 810 [l0, l1, l2, l3, l4, l5, l6, l7, l8, l9, l10] [.int z0, .ref a] (zst p iv) Q ↔ zEv sc 57 0 [.ref a, .int z0, .null] [] (zst p iv) (fun r h9 => zEv sc 92 813 [l0, l1, l2, l3, l4, l5, l6, l7, l8, l9, l10] (r.toList ++ []) h9 Q) := zE_call (kd := 0) (na := 2) (nr := 0) (as := [.ref a, .int z0]) (rest := []) (Or.inl ⟨rfl, rfl⟩) dz92_810 (by decide +kernel : z_lk2 zCT (z_cls 92) 84 = some (57, 0, 564)) (fun z => by cases z) rfl rfl rfl (by decide +kernel) rfl rfl (Or.inr (zE_rc ho))
theorem dz92_813 : decode (z_code 92) 813 = .ok (.istore 10, 2) := by decide +kernel
theorem u92_813 : zEv sc 92 813 [l0, l1, l2, l3, l4, l5, l6, l7, l8, l9, l10] [.int x] h Q ↔ zEv sc 92 815 [l0, l1, l2, l3, l4, l5, l6, l7, l8, l9, .int x] [] h Q := zE_pure (q := (815, [l0, l1, l2, l3, l4, l5, l6, l7, l8, l9, .int x], [])) dz92_813 rfl rfl rfl
theorem dz92_815 : decode (z_code 92) 815 = .ok (.iload 9, 2) := by decide +kernel
theorem u92_815 : zEv sc 92 815 [l0, l1, l2, l3, l4, l5, l6, l7, l8, .int x, l10] [] h Q ↔ zEv sc 92 817 [l0, l1, l2, l3, l4, l5, l6, l7, l8, .int x, l10] [.int x] h Q := zE_pure (q := (817, [l0, l1, l2, l3, l4, l5, l6, l7, l8, .int x, l10], [.int x])) dz92_815 rfl rfl rfl
theorem dz92_817 : decode (z_code 92) 817 = .ok (.iconst 1, 1) := by decide +kernel
theorem u92_817 : zEv sc 92 817 [l0, l1, l2, l3, l4, l5, l6, l7, l8, l9, l10] [t0] h Q ↔ zEv sc 92 818 [l0, l1, l2, l3, l4, l5, l6, l7, l8, l9, l10] [.int 1, t0] h Q := zE_iconst dz92_817 (by decide +kernel)
theorem dz92_818 : decode (z_code 92) 818 = .ok (.if_icmp .eq 9, 3) := by decide +kernel
theorem u92_818 : zEv sc 92 818 [l0, l1, l2, l3, l4, l5, l6, l7, l8, l9, l10] [.int x2, .int x1] h Q ↔ (if x1 = x2 then zEv sc 92 827 [l0, l1, l2, l3, l4, l5, l6, l7, l8, l9, l10] [] h Q else zEv sc 92 821 [l0, l1, l2, l3, l4, l5, l6, l7, l8, l9, l10] [] h Q) := zE_icP (P := x1 = x2) inferInstance 827 dz92_818 rfl rfl
theorem dz92_821 : decode (z_code 92) 821 = .ok (.iload 9, 2) := by decide +kernel
theorem u92_821 : zEv sc 92 821 [l0, l1, l2, l3, l4, l5, l6, l7, l8, .int x, l10] [] h Q ↔ zEv sc 92 823 [l0, l1, l2, l3, l4, l5, l6, l7, l8, .int x, l10] [.int x] h Q := zE_pure (q := (823, [l0, l1, l2, l3, l4, l5, l6, l7, l8, .int x, l10], [.int x])) dz92_821 rfl rfl rfl
theorem dz92_823 : decode (z_code 92) 823 = .ok (.iconst 5, 1) := by decide +kernel
theorem u92_823 : zEv sc 92 823 [l0, l1, l2, l3, l4, l5, l6, l7, l8, l9, l10] [t0] h Q ↔ zEv sc 92 824 [l0, l1, l2, l3, l4, l5, l6, l7, l8, l9, l10] [.int 5, t0] h Q := zE_iconst dz92_823 (by decide +kernel)
theorem dz92_824 : decode (z_code 92) 824 = .ok (.if_icmp .ne 18, 3) := by decide +kernel
theorem u92_824 : zEv sc 92 824 [l0, l1, l2, l3, l4, l5, l6, l7, l8, l9, l10] [.int x2, .int x1] h Q ↔ (if ¬ x1 = x2 then zEv sc 92 842 [l0, l1, l2, l3, l4, l5, l6, l7, l8, l9, l10] [] h Q else zEv sc 92 827 [l0, l1, l2, l3, l4, l5, l6, l7, l8, l9, l10] [] h Q) := zE_icP (P := ¬ x1 = x2) inferInstance 842 dz92_824 rfl rfl
theorem dz92_842 : decode (z_code 92) 842 = .ok (.iload 10, 2) := by decide +kernel
theorem u92_842 : zEv sc 92 842 [l0, l1, l2, l3, l4, l5, l6, l7, l8, l9, .int x] [] h Q ↔ zEv sc 92 844 [l0, l1, l2, l3, l4, l5, l6, l7, l8, l9, .int x] [.int x] h Q := zE_pure (q := (844, [l0, l1, l2, l3, l4, l5, l6, l7, l8, l9, .int x], [.int x])) dz92_842 rfl rfl rfl
theorem dz92_844 : decode (z_code 92) 844 = .ok (.iload 8, 2) := by decide +kernel
theorem u92_844 : zEv sc 92 844 [l0, l1, l2, l3, l4, l5, l6, l7, .int x, l9, l10] [t0] h Q ↔ zEv sc 92 846 [l0, l1, l2, l3, l4, l5, l6, l7, .int x, l9, l10] [.int x, t0] h Q := zE_pure (q := (846, [l0, l1, l2, l3, l4, l5, l6, l7, .int x, l9, l10], [.int x, t0])) dz92_844 rfl rfl rfl
theorem dz92_846 : decode (z_code 92) 846 = .ok (.if_icmp .ne 27, 3) := by decide +kernel
theorem u92_846 : zEv sc 92 846 [l0, l1, l2, l3, l4, l5, l6, l7, l8, l9, l10] [.int x2, .int x1] h Q ↔ (if ¬ x1 = x2 then zEv sc 92 873 [l0, l1, l2, l3, l4, l5, l6, l7, l8, l9, l10] [] h Q else zEv sc 92 849 [l0, l1, l2, l3, l4, l5, l6, l7, l8, l9, l10] [] h Q) := zE_icP (P := ¬ x1 = x2) inferInstance 873 dz92_846 rfl rfl
theorem dz92_849 : decode (z_code 92) 849 = .ok (.aload_n 0, 1) := by decide +kernel
theorem u92_849 : zEv sc 92 849 [.ref a, l1, l2, l3, l4, l5, l6, l7, l8, l9, l10] [] h Q ↔ zEv sc 92 850 [.ref a, l1, l2, l3, l4, l5, l6, l7, l8, l9, l10] [.ref a] h Q := zE_pure (q := (850, [.ref a, l1, l2, l3, l4, l5, l6, l7, l8, l9, l10], [.ref a])) dz92_849 rfl rfl rfl
theorem dz92_850 : decode (z_code 92) 850 = .ok (.iconst 0, 1) := by decide +kernel
theorem u92_850 : zEv sc 92 850 [l0, l1, l2, l3, l4, l5, l6, l7, l8, l9, l10] [t0] h Q ↔ zEv sc 92 851 [l0, l1, l2, l3, l4, l5, l6, l7, l8, l9, l10] [.int 0, t0] h Q := zE_iconst dz92_850 (by decide +kernel)
theorem dz92_851 : decode (z_code 92) 851 = .ok (.invokevirtual 13, 3) := by decide +kernel
theorem u92_851 (ho : zO a 9) : zEv sc 92 851 [l0, l1, l2, l3, l4, l5, l6, l7, l8, l9, l10] [.int z0, .ref a] (zst p iv) Q ↔ zEv sc 81 0 [.ref a, .int z0] [] (zst p iv) (fun r h9 => zEv sc 92 854 [l0, l1, l2, l3, l4, l5, l6, l7, l8, l9, l10] (r.toList ++ []) h9 Q) := zE_call (kd := 0) (na := 2) (nr := 0) (as := [.ref a, .int z0]) (rest := []) (Or.inl ⟨rfl, rfl⟩) dz92_851 (by decide +kernel : z_lk2 zCT (z_cls 92) 13 = some (81, 0, 300)) (fun z => by cases z) rfl rfl rfl (by decide +kernel) rfl rfl (Or.inr (zE_rc ho))
theorem dz92_854 : decode (z_code 92) 854 = .ok (.iload 9, 2) := by decide +kernel
theorem u92_854 : zEv sc 92 854 [l0, l1, l2, l3, l4, l5, l6, l7, l8, .int x, l10] [t0] h Q ↔ zEv sc 92 856 [l0, l1, l2, l3, l4, l5, l6, l7, l8, .int x, l10] [.int x, t0] h Q := zE_pure (q := (856, [l0, l1, l2, l3, l4, l5, l6, l7, l8, .int x, l10], [.int x, t0])) dz92_854 rfl rfl rfl
theorem dz92_856 : decode (z_code 92) 856 = .ok (.if_icmp .ne 17, 3) := by decide +kernel
theorem u92_856 : zEv sc 92 856 [l0, l1, l2, l3, l4, l5, l6, l7, l8, l9, l10] [.int x2, .int x1] h Q ↔ (if ¬ x1 = x2 then zEv sc 92 873 [l0, l1, l2, l3, l4, l5, l6, l7, l8, l9, l10] [] h Q else zEv sc 92 859 [l0, l1, l2, l3, l4, l5, l6, l7, l8, l9, l10] [] h Q) := zE_icP (P := ¬ x1 = x2) inferInstance 873 dz92_856 rfl rfl
theorem dz92_859 : decode (z_code 92) 859 = .ok (.aload_n 0, 1) := by decide +kernel
theorem u92_859 : zEv sc 92 859 [.ref a, l1, l2, l3, l4, l5, l6, l7, l8, l9, l10] [] h Q ↔ zEv sc 92 860 [.ref a, l1, l2, l3, l4, l5, l6, l7, l8, l9, l10] [.ref a] h Q := zE_pure (q := (860, [.ref a, l1, l2, l3, l4, l5, l6, l7, l8, l9, l10], [.ref a])) dz92_859 rfl rfl rfl
theorem dz92_860 : decode (z_code 92) 860 = .ok (.iconst 1, 1) := by decide +kernel
theorem u92_860 : zEv sc 92 860 [l0, l1, l2, l3, l4, l5, l6, l7, l8, l9, l10] [t0] h Q ↔ zEv sc 92 861 [l0, l1, l2, l3, l4, l5, l6, l7, l8, l9, l10] [.int 1, t0] h Q := zE_iconst dz92_860 (by decide +kernel)
theorem dz92_861 : decode (z_code 92) 861 = .ok (.invokevirtual 13, 3) := by decide +kernel
theorem u92_861 (ho : zO a 9) : zEv sc 92 861 [l0, l1, l2, l3, l4, l5, l6, l7, l8, l9, l10] [.int z0, .ref a] (zst p iv) Q ↔ zEv sc 81 0 [.ref a, .int z0] [] (zst p iv) (fun r h9 => zEv sc 92 864 [l0, l1, l2, l3, l4, l5, l6, l7, l8, l9, l10] (r.toList ++ []) h9 Q) := zE_call (kd := 0) (na := 2) (nr := 0) (as := [.ref a, .int z0]) (rest := []) (Or.inl ⟨rfl, rfl⟩) dz92_861 (by decide +kernel : z_lk2 zCT (z_cls 92) 13 = some (81, 0, 300)) (fun z => by cases z) rfl rfl rfl (by decide +kernel) rfl rfl (Or.inr (zE_rc ho))
theorem dz92_864 : decode (z_code 92) 864 = .ok (.iload 9, 2) := by decide +kernel
theorem u92_864 : zEv sc 92 864 [l0, l1, l2, l3, l4, l5, l6, l7, l8, .int x, l10] [t0] h Q ↔ zEv sc 92 866 [l0, l1, l2, l3, l4, l5, l6, l7, l8, .int x, l10] [.int x, t0] h Q := zE_pure (q := (866, [l0, l1, l2, l3, l4, l5, l6, l7, l8, .int x, l10], [.int x, t0])) dz92_864 rfl rfl rfl
theorem dz92_866 : decode (z_code 92) 866 = .ok (.if_icmp .ne 7, 3) := by decide +kernel
theorem u92_866 : zEv sc 92 866 [l0, l1, l2, l3, l4, l5, l6, l7, l8, l9, l10] [.int x2, .int x1] h Q ↔ (if ¬ x1 = x2 then zEv sc 92 873 [l0, l1, l2, l3, l4, l5, l6, l7, l8, l9, l10] [] h Q else zEv sc 92 869 [l0, l1, l2, l3, l4, l5, l6, l7, l8, l9, l10] [] h Q) := zE_icP (P := ¬ x1 = x2) inferInstance 873 dz92_866 rfl rfl
theorem dz92_869 : decode (z_code 92) 869 = .ok (.iconst 1, 1) := by decide +kernel
theorem u92_869 : zEv sc 92 869 [l0, l1, l2, l3, l4, l5, l6, l7, l8, l9, l10] [] h Q ↔ zEv sc 92 870 [l0, l1, l2, l3, l4, l5, l6, l7, l8, l9, l10] [.int 1] h Q := zE_iconst dz92_869 (by decide +kernel)
theorem dz92_870 : decode (z_code 92) 870 = .ok (.goto 4, 3) := by decide +kernel
theorem u92_870 : zEv sc 92 870 [l0, l1, l2, l3, l4, l5, l6, l7, l8, l9, l10] [t0] h Q ↔ zEv sc 92 874 [l0, l1, l2, l3, l4, l5, l6, l7, l8, l9, l10] [t0] h Q := zE_go 874 dz92_870 rfl
theorem dz92_874 : decode (z_code 92) 874 = .ok (.ireturn, 1) := by decide +kernel
theorem u92_874 : zEv sc 92 874 [l0, l1, l2, l3, l4, l5, l6, l7, l8, l9, l10] [.int x] h Q ↔ ((x = 0 ∨ x = 1) ∧ Q (some (.int x)) h) := zE_rz dz92_874 (by decide +kernel)
theorem dz92_873 : decode (z_code 92) 873 = .ok (.iconst 0, 1) := by decide +kernel
theorem u92_873 : zEv sc 92 873 [l0, l1, l2, l3, l4, l5, l6, l7, l8, l9, l10] [] h Q ↔ zEv sc 92 874 [l0, l1, l2, l3, l4, l5, l6, l7, l8, l9, l10] [.int 0] h Q := zE_iconst dz92_873 (by decide +kernel)
theorem dz92_827 : decode (z_code 92) 827 = .ok (.iload 10, 2) := by decide +kernel
theorem u92_827 : zEv sc 92 827 [l0, l1, l2, l3, l4, l5, l6, l7, l8, l9, .int x] [] h Q ↔ zEv sc 92 829 [l0, l1, l2, l3, l4, l5, l6, l7, l8, l9, .int x] [.int x] h Q := zE_pure (q := (829, [l0, l1, l2, l3, l4, l5, l6, l7, l8, l9, .int x], [.int x])) dz92_827 rfl rfl rfl
theorem dz92_829 : decode (z_code 92) 829 = .ok (.ldc 64, 2) := by decide +kernel
theorem u92_829 : zEv sc 92 829 [l0, l1, l2, l3, l4, l5, l6, l7, l8, l9, l10] [t0] h Q ↔ zEv sc 92 831 [l0, l1, l2, l3, l4, l5, l6, l7, l8, l9, l10] [.int (-1000001), t0] h Q := zE_ldc (by decide +kernel : z_lkK zKT (z_cls 92) 64 = some ((-1000001), 504)) dz92_829
theorem dz92_831 : decode (z_code 92) 831 = .ok (.if_icmp .ne 7, 3) := by decide +kernel
theorem u92_831 : zEv sc 92 831 [l0, l1, l2, l3, l4, l5, l6, l7, l8, l9, l10] [.int x2, .int x1] h Q ↔ (if ¬ x1 = x2 then zEv sc 92 838 [l0, l1, l2, l3, l4, l5, l6, l7, l8, l9, l10] [] h Q else zEv sc 92 834 [l0, l1, l2, l3, l4, l5, l6, l7, l8, l9, l10] [] h Q) := zE_icP (P := ¬ x1 = x2) inferInstance 838 dz92_831 rfl rfl
theorem dz92_834 : decode (z_code 92) 834 = .ok (.iconst 1, 1) := by decide +kernel
theorem u92_834 : zEv sc 92 834 [l0, l1, l2, l3, l4, l5, l6, l7, l8, l9, l10] [] h Q ↔ zEv sc 92 835 [l0, l1, l2, l3, l4, l5, l6, l7, l8, l9, l10] [.int 1] h Q := zE_iconst dz92_834 (by decide +kernel)
theorem dz92_835 : decode (z_code 92) 835 = .ok (.goto 39, 3) := by decide +kernel
theorem u92_835 : zEv sc 92 835 [l0, l1, l2, l3, l4, l5, l6, l7, l8, l9, l10] [t0] h Q ↔ zEv sc 92 874 [l0, l1, l2, l3, l4, l5, l6, l7, l8, l9, l10] [t0] h Q := zE_go 874 dz92_835 rfl
theorem dz92_838 : decode (z_code 92) 838 = .ok (.iconst 0, 1) := by decide +kernel
theorem u92_838 : zEv sc 92 838 [l0, l1, l2, l3, l4, l5, l6, l7, l8, l9, l10] [] h Q ↔ zEv sc 92 839 [l0, l1, l2, l3, l4, l5, l6, l7, l8, l9, l10] [.int 0] h Q := zE_iconst dz92_838 (by decide +kernel)
theorem dz92_839 : decode (z_code 92) 839 = .ok (.goto 35, 3) := by decide +kernel
theorem u92_839 : zEv sc 92 839 [l0, l1, l2, l3, l4, l5, l6, l7, l8, l9, l10] [t0] h Q ↔ zEv sc 92 874 [l0, l1, l2, l3, l4, l5, l6, l7, l8, l9, l10] [t0] h Q := zE_go 874 dz92_839 rfl
theorem dz92_875 : decode (z_code 92) 875 = .ok (.aload_n 0, 1) := by decide +kernel
theorem u92_875 : zEv sc 92 875 [.ref a, l1, l2, l3, l4, l5, l6, l7, l8, l9, l10] [] h Q ↔ zEv sc 92 876 [.ref a, l1, l2, l3, l4, l5, l6, l7, l8, l9, l10] [.ref a] h Q := zE_pure (q := (876, [.ref a, l1, l2, l3, l4, l5, l6, l7, l8, l9, l10], [.ref a])) dz92_875 rfl rfl rfl
theorem dz92_876 : decode (z_code 92) 876 = .ok (.iload_n 2, 1) := by decide +kernel
theorem u92_876 : zEv sc 92 876 [l0, l1, .int x, l3, l4, l5, l6, l7, l8, l9, l10] [t0] h Q ↔ zEv sc 92 877 [l0, l1, .int x, l3, l4, l5, l6, l7, l8, l9, l10] [.int x, t0] h Q := zE_pure (q := (877, [l0, l1, .int x, l3, l4, l5, l6, l7, l8, l9, l10], [.int x, t0])) dz92_876 rfl rfl rfl
theorem dz92_877 : decode (z_code 92) 877 = .ok (.invokestatic 87, 3) := by decide +kernel
theorem u92_877 : zEv sc 92 877 [l0, l1, l2, l3, l4, l5, l6, l7, l8, l9, l10] [.int z0, .ref b0] h Q ↔ zEv sc 90 0 [.ref b0, .int z0, .null, .null, .null, .null, .null, .null, .null, .null, .null, .null] [] h (fun r h9 => zEv sc 92 880 [l0, l1, l2, l3, l4, l5, l6, l7, l8, l9, l10] (r.toList ++ []) h9 Q) := zE_call (kd := 1) (na := 2) (nr := 0) (as := [.ref b0, .int z0]) (rest := []) (Or.inr ⟨rfl, rfl⟩) dz92_877 (by decide +kernel : z_lk2 zCT (z_cls 92) 87 = some (90, 0, 569)) (fun _ => ⟨by decide +kernel, by decide +kernel⟩) rfl rfl rfl (by decide +kernel) rfl rfl (Or.inl rfl)
theorem dz92_880 : decode (z_code 92) 880 = .ok (.ifCond .eq 14, 3) := by decide +kernel
theorem u92_880 : zEv sc 92 880 [l0, l1, l2, l3, l4, l5, l6, l7, l8, l9, l10] [.int x] h Q ↔ (if x = 0 then zEv sc 92 894 [l0, l1, l2, l3, l4, l5, l6, l7, l8, l9, l10] [] h Q else zEv sc 92 883 [l0, l1, l2, l3, l4, l5, l6, l7, l8, l9, l10] [] h Q) := zE_ifP (P := x = 0) inferInstance 894 dz92_880 rfl rfl
theorem dz92_883 : decode (z_code 92) 883 = .ok (.aload_n 0, 1) := by decide +kernel
theorem u92_883 : zEv sc 92 883 [.ref a, l1, l2, l3, l4, l5, l6, l7, l8, l9, l10] [] h Q ↔ zEv sc 92 884 [.ref a, l1, l2, l3, l4, l5, l6, l7, l8, l9, l10] [.ref a] h Q := zE_pure (q := (884, [.ref a, l1, l2, l3, l4, l5, l6, l7, l8, l9, l10], [.ref a])) dz92_883 rfl rfl rfl
theorem dz92_884 : decode (z_code 92) 884 = .ok (.invokestatic 91, 3) := by decide +kernel
theorem u92_884 : zEv sc 92 884 [l0, l1, l2, l3, l4, l5, l6, l7, l8, l9, l10] [.ref b0] h Q ↔ zEv sc 91 0 [.ref b0, .null, .null, .null, .null, .null, .null, .null] [] h (fun r h9 => zEv sc 92 887 [l0, l1, l2, l3, l4, l5, l6, l7, l8, l9, l10] (r.toList ++ []) h9 Q) := zE_call (kd := 1) (na := 1) (nr := 0) (as := [.ref b0]) (rest := []) (Or.inr ⟨rfl, rfl⟩) dz92_884 (by decide +kernel : z_lk2 zCT (z_cls 92) 91 = some (91, 0, 588)) (fun _ => ⟨by decide +kernel, by decide +kernel⟩) rfl rfl rfl (by decide +kernel) rfl rfl (Or.inl rfl)
theorem dz92_887 : decode (z_code 92) 887 = .ok (.ifCond .eq 7, 3) := by decide +kernel
theorem u92_887 : zEv sc 92 887 [l0, l1, l2, l3, l4, l5, l6, l7, l8, l9, l10] [.int x] h Q ↔ (if x = 0 then zEv sc 92 894 [l0, l1, l2, l3, l4, l5, l6, l7, l8, l9, l10] [] h Q else zEv sc 92 890 [l0, l1, l2, l3, l4, l5, l6, l7, l8, l9, l10] [] h Q) := zE_ifP (P := x = 0) inferInstance 894 dz92_887 rfl rfl
theorem dz92_890 : decode (z_code 92) 890 = .ok (.iconst 1, 1) := by decide +kernel
theorem u92_890 : zEv sc 92 890 [l0, l1, l2, l3, l4, l5, l6, l7, l8, l9, l10] [] h Q ↔ zEv sc 92 891 [l0, l1, l2, l3, l4, l5, l6, l7, l8, l9, l10] [.int 1] h Q := zE_iconst dz92_890 (by decide +kernel)
theorem dz92_891 : decode (z_code 92) 891 = .ok (.goto 4, 3) := by decide +kernel
theorem u92_891 : zEv sc 92 891 [l0, l1, l2, l3, l4, l5, l6, l7, l8, l9, l10] [t0] h Q ↔ zEv sc 92 895 [l0, l1, l2, l3, l4, l5, l6, l7, l8, l9, l10] [t0] h Q := zE_go 895 dz92_891 rfl
theorem dz92_895 : decode (z_code 92) 895 = .ok (.ireturn, 1) := by decide +kernel
theorem u92_895 : zEv sc 92 895 [l0, l1, l2, l3, l4, l5, l6, l7, l8, l9, l10] [.int x] h Q ↔ ((x = 0 ∨ x = 1) ∧ Q (some (.int x)) h) := zE_rz dz92_895 (by decide +kernel)
theorem dz92_894 : decode (z_code 92) 894 = .ok (.iconst 0, 1) := by decide +kernel
theorem u92_894 : zEv sc 92 894 [l0, l1, l2, l3, l4, l5, l6, l7, l8, l9, l10] [] h Q ↔ zEv sc 92 895 [l0, l1, l2, l3, l4, l5, l6, l7, l8, l9, l10] [.int 0] h Q := zE_iconst dz92_894 (by decide +kernel)
theorem dz92_48 : decode (z_code 92) 48 = .ok (.aload_n 0, 1) := by decide +kernel
theorem u92_48 : zEv sc 92 48 [.ref a, l1, l2, l3, l4, l5, l6, l7, l8, l9, l10] [] h Q ↔ zEv sc 92 49 [.ref a, l1, l2, l3, l4, l5, l6, l7, l8, l9, l10] [.ref a] h Q := zE_pure (q := (49, [.ref a, l1, l2, l3, l4, l5, l6, l7, l8, l9, l10], [.ref a])) dz92_48 rfl rfl rfl
theorem dz92_49 : decode (z_code 92) 49 = .ok (.iload 5, 2) := by decide +kernel
theorem u92_49 : zEv sc 92 49 [l0, l1, l2, l3, l4, .int x, l6, l7, l8, l9, l10] [t0] h Q ↔ zEv sc 92 51 [l0, l1, l2, l3, l4, .int x, l6, l7, l8, l9, l10] [.int x, t0] h Q := zE_pure (q := (51, [l0, l1, l2, l3, l4, .int x, l6, l7, l8, l9, l10], [.int x, t0])) dz92_49 rfl rfl rfl
theorem dz92_51 : decode (z_code 92) 51 = .ok (.iload_n 2, 1) := by decide +kernel
theorem u92_51 : zEv sc 92 51 [l0, l1, .int x, l3, l4, l5, l6, l7, l8, l9, l10] [t0, t1] h Q ↔ zEv sc 92 52 [l0, l1, .int x, l3, l4, l5, l6, l7, l8, l9, l10] [.int x, t0, t1] h Q := zE_pure (q := (52, [l0, l1, .int x, l3, l4, l5, l6, l7, l8, l9, l10], [.int x, t0, t1])) dz92_51 rfl rfl rfl
theorem dz92_52 : decode (z_code 92) 52 = .ok (.iload 6, 2) := by decide +kernel
theorem u92_52 : zEv sc 92 52 [l0, l1, l2, l3, l4, l5, .int x, l7, l8, l9, l10] [t0, t1, t2] h Q ↔ zEv sc 92 54 [l0, l1, l2, l3, l4, l5, .int x, l7, l8, l9, l10] [.int x, t0, t1, t2] h Q := zE_pure (q := (54, [l0, l1, l2, l3, l4, l5, .int x, l7, l8, l9, l10], [.int x, t0, t1, t2])) dz92_52 rfl rfl rfl
theorem dz92_54 : decode (z_code 92) 54 = .ok (.invokestatic 25, 3) := by decide +kernel
theorem u92_54 : zEv sc 92 54 [l0, l1, l2, l3, l4, l5, l6, l7, l8, l9, l10] [.int z1, .int z0, t0, t1] h Q ↔ zEv sc 87 0 [.int z0, .int z1] [] h (fun r h9 => zEv sc 92 57 [l0, l1, l2, l3, l4, l5, l6, l7, l8, l9, l10] (r.toList ++ [t0, t1]) h9 Q) := zE_call (kd := 1) (na := 2) (nr := 2) (as := [.int z0, .int z1]) (rest := [t0, t1]) (Or.inr ⟨rfl, rfl⟩) dz92_54 (by decide +kernel : z_lk2 zCT (z_cls 92) 25 = some (87, 0, 345)) (fun _ => ⟨by decide +kernel, by decide +kernel⟩) rfl rfl rfl (by decide +kernel) rfl rfl (Or.inl rfl)
theorem dz92_57 : decode (z_code 92) 57 = .ok (.invokevirtual 31, 3) := by decide +kernel
theorem u92_57 (ho : zO a 9) : zEv sc 92 57 [l0, l1, l2, l3, l4, l5, l6, l7, l8, l9, l10] [.int z1, .int z0, .ref a] (zst p iv) Q ↔ zEv sc 63 0 [.ref a, .int z0, .int z1, .null] [] (zst p iv) (fun r h9 => zEv sc 92 60 [l0, l1, l2, l3, l4, l5, l6, l7, l8, l9, l10] (r.toList ++ []) h9 Q) := zE_call (kd := 0) (na := 3) (nr := 0) (as := [.ref a, .int z0, .int z1]) (rest := []) (Or.inl ⟨rfl, rfl⟩) dz92_57 (by decide +kernel : z_lk2 zCT (z_cls 92) 31 = some (63, 0, 400)) (fun z => by cases z) rfl rfl rfl (by decide +kernel) rfl rfl (Or.inr (zE_rc ho))
theorem dz92_26 : decode (z_code 92) 26 = .ok (.iload 4, 2) := by decide +kernel
theorem u92_26 : zEv sc 92 26 [l0, l1, l2, l3, .int x, l5, l6, l7, l8, l9, l10] [] h Q ↔ zEv sc 92 28 [l0, l1, l2, l3, .int x, l5, l6, l7, l8, l9, l10] [.int x] h Q := zE_pure (q := (28, [l0, l1, l2, l3, .int x, l5, l6, l7, l8, l9, l10], [.int x])) dz92_26 rfl rfl rfl
end ZU2
