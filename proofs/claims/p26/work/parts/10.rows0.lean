/-! ===== rows of the methods, printed by wip/whole/gen2.py ===== -/
section ZU0
variable {sc : Nat × (Nat → Int32)} {h : zA} {Q : Option Value → zA → Prop} {p : Nat → Option Nat} {iv : Nat → Nat → Int32} {l0 l1 l2 l3 l4 l5 l6 l7 l8 l9 l10 l11 t0 t1 t2 t3 t4 t5 t6 v1 v2 : Value} {x x1 x2 z0 z1 z2 z3 : Int32} {j1 j2 : Int64} {a b0 b1 b2 : Nat}
/-! method 1: FieldMixtures$Side.allows(II)Z -/
theorem dz1_0 : decode (z_code 1) 0 = .ok (.iload_n 1, 1) := by decide +kernel
theorem u1_0 : zEv sc 1 0 [l0, .int x, l2, l3, l4, l5, l6] [] h Q ↔ zEv sc 1 1 [l0, .int x, l2, l3, l4, l5, l6] [.int x] h Q := zE_pure (q := (1, [l0, .int x, l2, l3, l4, l5, l6], [.int x])) dz1_0 rfl rfl rfl
theorem dz1_1 : decode (z_code 1) 1 = .ok (.ifCond .ge 5, 3) := by decide +kernel
theorem u1_1 : zEv sc 1 1 [l0, l1, l2, l3, l4, l5, l6] [.int x] h Q ↔ (if 0 ≤ x then zEv sc 1 6 [l0, l1, l2, l3, l4, l5, l6] [] h Q else zEv sc 1 4 [l0, l1, l2, l3, l4, l5, l6] [] h Q) := zE_ifP (P := 0 ≤ x) inferInstance 6 dz1_1 rfl rfl
theorem dz1_4 : decode (z_code 1) 4 = .ok (.iconst 0, 1) := by decide +kernel
theorem u1_4 : zEv sc 1 4 [l0, l1, l2, l3, l4, l5, l6] [] h Q ↔ zEv sc 1 5 [l0, l1, l2, l3, l4, l5, l6] [.int 0] h Q := zE_iconst dz1_4 (by decide +kernel)
theorem dz1_5 : decode (z_code 1) 5 = .ok (.ireturn, 1) := by decide +kernel
theorem u1_5 : zEv sc 1 5 [l0, l1, l2, l3, l4, l5, l6] [.int x] h Q ↔ ((x = 0 ∨ x = 1) ∧ Q (some (.int x)) h) := zE_rz dz1_5 (by decide +kernel)
theorem dz1_6 : decode (z_code 1) 6 = .ok (.iload_n 1, 1) := by decide +kernel
theorem u1_6 : zEv sc 1 6 [l0, .int x, l2, l3, l4, l5, l6] [] h Q ↔ zEv sc 1 7 [l0, .int x, l2, l3, l4, l5, l6] [.int x] h Q := zE_pure (q := (7, [l0, .int x, l2, l3, l4, l5, l6], [.int x])) dz1_6 rfl rfl rfl
theorem dz1_7 : decode (z_code 1) 7 = .ok (.istore_n 3, 1) := by decide +kernel
theorem u1_7 : zEv sc 1 7 [l0, l1, l2, l3, l4, l5, l6] [.int x] h Q ↔ zEv sc 1 8 [l0, l1, l2, .int x, l4, l5, l6] [] h Q := zE_pure (q := (8, [l0, l1, l2, .int x, l4, l5, l6], [])) dz1_7 rfl rfl rfl
theorem dz1_8 : decode (z_code 1) 8 = .ok (.aload_n 0, 1) := by decide +kernel
theorem u1_8 : zEv sc 1 8 [.ref a, l1, l2, l3, l4, l5, l6] [] h Q ↔ zEv sc 1 9 [.ref a, l1, l2, l3, l4, l5, l6] [.ref a] h Q := zE_pure (q := (9, [.ref a, l1, l2, l3, l4, l5, l6], [.ref a])) dz1_8 rfl rfl rfl
theorem dz1_9 : decode (z_code 1) 9 = .ok (.getfield 9, 3) := by decide +kernel
theorem u1_9 (ho : zO a 6) : zEv sc 1 9 [l0, l1, l2, l3, l4, l5, l6] [.ref a] (zst p iv) Q ↔ zEv sc 1 12 [l0, l1, l2, l3, l4, l5, l6] [.int (iv a 0)] (zst p iv) Q := zE_gfI dz1_9 (by decide +kernel : z_lk3 zFT (z_cls 1) 9 = some (6, 0, 0, 105)) (by decide +kernel) ho
theorem dz1_12 : decode (z_code 1) 12 = .ok (.istore 4, 2) := by decide +kernel
theorem u1_12 : zEv sc 1 12 [l0, l1, l2, l3, l4, l5, l6] [.int x] h Q ↔ zEv sc 1 14 [l0, l1, l2, l3, .int x, l5, l6] [] h Q := zE_pure (q := (14, [l0, l1, l2, l3, .int x, l5, l6], [])) dz1_12 rfl rfl rfl
theorem dz1_14 : decode (z_code 1) 14 = .ok (.iload_n 2, 1) := by decide +kernel
theorem u1_14 : zEv sc 1 14 [l0, l1, .int x, l3, l4, l5, l6] [] h Q ↔ zEv sc 1 15 [l0, l1, .int x, l3, l4, l5, l6] [.int x] h Q := zE_pure (q := (15, [l0, l1, .int x, l3, l4, l5, l6], [.int x])) dz1_14 rfl rfl rfl
theorem dz1_15 : decode (z_code 1) 15 = .ok (.iconst 1, 1) := by decide +kernel
theorem u1_15 : zEv sc 1 15 [l0, l1, l2, l3, l4, l5, l6] [t0] h Q ↔ zEv sc 1 16 [l0, l1, l2, l3, l4, l5, l6] [.int 1, t0] h Q := zE_iconst dz1_15 (by decide +kernel)
theorem dz1_16 : decode (z_code 1) 16 = .ok (.isub, 1) := by decide +kernel
theorem u1_16 : zEv sc 1 16 [l0, l1, l2, l3, l4, l5, l6] [.int x2, .int x1] h Q ↔ zEv sc 1 17 [l0, l1, l2, l3, l4, l5, l6] [.int (x1 - x2)] h Q := zE_pure (q := (17, [l0, l1, l2, l3, l4, l5, l6], [.int (x1 - x2)])) dz1_16 rfl rfl rfl
theorem dz1_17 : decode (z_code 1) 17 = .ok (.istore 5, 2) := by decide +kernel
theorem u1_17 : zEv sc 1 17 [l0, l1, l2, l3, l4, l5, l6] [.int x] h Q ↔ zEv sc 1 19 [l0, l1, l2, l3, l4, .int x, l6] [] h Q := zE_pure (q := (19, [l0, l1, l2, l3, l4, .int x, l6], [])) dz1_17 rfl rfl rfl
theorem dz1_19 : decode (z_code 1) 19 = .ok (.iload 5, 2) := by decide +kernel
theorem u1_19 : zEv sc 1 19 [l0, l1, l2, l3, l4, .int x, l6] [] h Q ↔ zEv sc 1 21 [l0, l1, l2, l3, l4, .int x, l6] [.int x] h Q := zE_pure (q := (21, [l0, l1, l2, l3, l4, .int x, l6], [.int x])) dz1_19 rfl rfl rfl
theorem dz1_21 : decode (z_code 1) 21 = .ok (.ifCond .lt 48, 3) := by decide +kernel
theorem u1_21 : zEv sc 1 21 [l0, l1, l2, l3, l4, l5, l6] [.int x] h Q ↔ (if x < 0 then zEv sc 1 69 [l0, l1, l2, l3, l4, l5, l6] [] h Q else zEv sc 1 24 [l0, l1, l2, l3, l4, l5, l6] [] h Q) := zE_ifP (P := x < 0) inferInstance 69 dz1_21 rfl rfl
theorem dz1_24 : decode (z_code 1) 24 = .ok (.iload_n 3, 1) := by decide +kernel
theorem u1_24 : zEv sc 1 24 [l0, l1, l2, .int x, l4, l5, l6] [] h Q ↔ zEv sc 1 25 [l0, l1, l2, .int x, l4, l5, l6] [.int x] h Q := zE_pure (q := (25, [l0, l1, l2, .int x, l4, l5, l6], [.int x])) dz1_24 rfl rfl rfl
theorem dz1_25 : decode (z_code 1) 25 = .ok (.bipush 10, 2) := by decide +kernel
theorem u1_25 : zEv sc 1 25 [l0, l1, l2, l3, l4, l5, l6] [t0] h Q ↔ zEv sc 1 27 [l0, l1, l2, l3, l4, l5, l6] [.int 10, t0] h Q := zE_bipush dz1_25 (by decide +kernel)
theorem dz1_27 : decode (z_code 1) 27 = .ok (.irem, 1) := by decide +kernel
theorem u1_27 : zEv sc 1 27 [l0, l1, l2, l3, l4, l5, l6] [.int x2, .int x1] h Q ↔ (¬ x2 = 0 ∧ zEv sc 1 28 [l0, l1, l2, l3, l4, l5, l6] [.int (x1 - x1 / x2 * x2)] h Q) := zE_rem dz1_27
theorem dz1_28 : decode (z_code 1) 28 = .ok (.istore 6, 2) := by decide +kernel
theorem u1_28 : zEv sc 1 28 [l0, l1, l2, l3, l4, l5, l6] [.int x] h Q ↔ zEv sc 1 30 [l0, l1, l2, l3, l4, l5, .int x] [] h Q := zE_pure (q := (30, [l0, l1, l2, l3, l4, l5, .int x], [])) dz1_28 rfl rfl rfl
theorem dz1_30 : decode (z_code 1) 30 = .ok (.iload 6, 2) := by decide +kernel
theorem u1_30 : zEv sc 1 30 [l0, l1, l2, l3, l4, l5, .int x] [] h Q ↔ zEv sc 1 32 [l0, l1, l2, l3, l4, l5, .int x] [.int x] h Q := zE_pure (q := (32, [l0, l1, l2, l3, l4, l5, .int x], [.int x])) dz1_30 rfl rfl rfl
theorem dz1_32 : decode (z_code 1) 32 = .ok (.aload_n 0, 1) := by decide +kernel
theorem u1_32 : zEv sc 1 32 [.ref a, l1, l2, l3, l4, l5, l6] [t0] h Q ↔ zEv sc 1 33 [.ref a, l1, l2, l3, l4, l5, l6] [.ref a, t0] h Q := zE_pure (q := (33, [.ref a, l1, l2, l3, l4, l5, l6], [.ref a, t0])) dz1_32 rfl rfl rfl
theorem dz1_33 : decode (z_code 1) 33 = .ok (.getfield 15, 3) := by decide +kernel
theorem u1_33 (ho : zO a 6) : zEv sc 1 33 [l0, l1, l2, l3, l4, l5, l6] [.ref a, t0] (zst p iv) Q ↔ zRef (zRV p a 1) (fun j => zEv sc 1 36 [l0, l1, l2, l3, l4, l5, l6] [.ref j, t0] (zst p iv) Q) := zE_gfR dz1_33 (by decide +kernel : z_lk3 zFT (z_cls 1) 15 = some (6, 1, 0, 108)) (by decide +kernel) ho
theorem dz1_36 : decode (z_code 1) 36 = .ok (.iload 5, 2) := by decide +kernel
theorem u1_36 : zEv sc 1 36 [l0, l1, l2, l3, l4, .int x, l6] [t0, t1] h Q ↔ zEv sc 1 38 [l0, l1, l2, l3, l4, .int x, l6] [.int x, t0, t1] h Q := zE_pure (q := (38, [l0, l1, l2, l3, l4, .int x, l6], [.int x, t0, t1])) dz1_36 rfl rfl rfl
theorem dz1_38 : decode (z_code 1) 38 = .ok (.iaload, 1) := by decide +kernel
theorem u1_38 (ho : zO a 100) : zEv sc 1 38 [l0, l1, l2, l3, l4, l5, l6] [.int x, .ref a, t0] (zst p iv) Q ↔ (vp_in x (zLn a) ∧ zEv sc 1 39 [l0, l1, l2, l3, l4, l5, l6] [.int (iv a x.toNatClampNeg), t0] (zst p iv) Q) := zE_ald (Or.inl ⟨rfl, rfl⟩) dz1_38 ho
theorem dz1_39 : decode (z_code 1) 39 = .ok (.if_icmp .gt 10, 3) := by decide +kernel
theorem u1_39 : zEv sc 1 39 [l0, l1, l2, l3, l4, l5, l6] [.int x2, .int x1] h Q ↔ (if x2 < x1 then zEv sc 1 49 [l0, l1, l2, l3, l4, l5, l6] [] h Q else zEv sc 1 42 [l0, l1, l2, l3, l4, l5, l6] [] h Q) := zE_icP (P := x2 < x1) inferInstance 49 dz1_39 rfl rfl
theorem dz1_42 : decode (z_code 1) 42 = .ok (.iload 6, 2) := by decide +kernel
theorem u1_42 : zEv sc 1 42 [l0, l1, l2, l3, l4, l5, .int x] [] h Q ↔ zEv sc 1 44 [l0, l1, l2, l3, l4, l5, .int x] [.int x] h Q := zE_pure (q := (44, [l0, l1, l2, l3, l4, l5, .int x], [.int x])) dz1_42 rfl rfl rfl
theorem dz1_44 : decode (z_code 1) 44 = .ok (.iload 4, 2) := by decide +kernel
theorem u1_44 : zEv sc 1 44 [l0, l1, l2, l3, .int x, l5, l6] [t0] h Q ↔ zEv sc 1 46 [l0, l1, l2, l3, .int x, l5, l6] [.int x, t0] h Q := zE_pure (q := (46, [l0, l1, l2, l3, .int x, l5, l6], [.int x, t0])) dz1_44 rfl rfl rfl
theorem dz1_46 : decode (z_code 1) 46 = .ok (.if_icmp .le 5, 3) := by decide +kernel
theorem u1_46 : zEv sc 1 46 [l0, l1, l2, l3, l4, l5, l6] [.int x2, .int x1] h Q ↔ (if x1 ≤ x2 then zEv sc 1 51 [l0, l1, l2, l3, l4, l5, l6] [] h Q else zEv sc 1 49 [l0, l1, l2, l3, l4, l5, l6] [] h Q) := zE_icP (P := x1 ≤ x2) inferInstance 51 dz1_46 rfl rfl
theorem dz1_51 : decode (z_code 1) 51 = .ok (.iload 4, 2) := by decide +kernel
theorem u1_51 : zEv sc 1 51 [l0, l1, l2, l3, .int x, l5, l6] [] h Q ↔ zEv sc 1 53 [l0, l1, l2, l3, .int x, l5, l6] [.int x] h Q := zE_pure (q := (53, [l0, l1, l2, l3, .int x, l5, l6], [.int x])) dz1_51 rfl rfl rfl
theorem dz1_53 : decode (z_code 1) 53 = .ok (.iload 6, 2) := by decide +kernel
theorem u1_53 : zEv sc 1 53 [l0, l1, l2, l3, l4, l5, .int x] [t0] h Q ↔ zEv sc 1 55 [l0, l1, l2, l3, l4, l5, .int x] [.int x, t0] h Q := zE_pure (q := (55, [l0, l1, l2, l3, l4, l5, .int x], [.int x, t0])) dz1_53 rfl rfl rfl
theorem dz1_55 : decode (z_code 1) 55 = .ok (.isub, 1) := by decide +kernel
theorem u1_55 : zEv sc 1 55 [l0, l1, l2, l3, l4, l5, l6] [.int x2, .int x1] h Q ↔ zEv sc 1 56 [l0, l1, l2, l3, l4, l5, l6] [.int (x1 - x2)] h Q := zE_pure (q := (56, [l0, l1, l2, l3, l4, l5, l6], [.int (x1 - x2)])) dz1_55 rfl rfl rfl
theorem dz1_56 : decode (z_code 1) 56 = .ok (.istore 4, 2) := by decide +kernel
theorem u1_56 : zEv sc 1 56 [l0, l1, l2, l3, l4, l5, l6] [.int x] h Q ↔ zEv sc 1 58 [l0, l1, l2, l3, .int x, l5, l6] [] h Q := zE_pure (q := (58, [l0, l1, l2, l3, .int x, l5, l6], [])) dz1_56 rfl rfl rfl
theorem dz1_58 : decode (z_code 1) 58 = .ok (.iload_n 3, 1) := by decide +kernel
theorem u1_58 : zEv sc 1 58 [l0, l1, l2, .int x, l4, l5, l6] [] h Q ↔ zEv sc 1 59 [l0, l1, l2, .int x, l4, l5, l6] [.int x] h Q := zE_pure (q := (59, [l0, l1, l2, .int x, l4, l5, l6], [.int x])) dz1_58 rfl rfl rfl
theorem dz1_59 : decode (z_code 1) 59 = .ok (.bipush 10, 2) := by decide +kernel
theorem u1_59 : zEv sc 1 59 [l0, l1, l2, l3, l4, l5, l6] [t0] h Q ↔ zEv sc 1 61 [l0, l1, l2, l3, l4, l5, l6] [.int 10, t0] h Q := zE_bipush dz1_59 (by decide +kernel)
theorem dz1_61 : decode (z_code 1) 61 = .ok (.idiv, 1) := by decide +kernel
theorem u1_61 : zEv sc 1 61 [l0, l1, l2, l3, l4, l5, l6] [.int x2, .int x1] h Q ↔ (¬ x2 = 0 ∧ zEv sc 1 62 [l0, l1, l2, l3, l4, l5, l6] [.int (x1 / x2)] h Q) := zE_div dz1_61
theorem dz1_62 : decode (z_code 1) 62 = .ok (.istore_n 3, 1) := by decide +kernel
theorem u1_62 : zEv sc 1 62 [l0, l1, l2, l3, l4, l5, l6] [.int x] h Q ↔ zEv sc 1 63 [l0, l1, l2, .int x, l4, l5, l6] [] h Q := zE_pure (q := (63, [l0, l1, l2, .int x, l4, l5, l6], [])) dz1_62 rfl rfl rfl
theorem dz1_63 : decode (z_code 1) 63 = .ok (.iinc 5 (-1), 3) := by decide +kernel
theorem u1_63 : zEv sc 1 63 [l0, l1, l2, l3, l4, .int x, l6] [] h Q ↔ zEv sc 1 66 [l0, l1, l2, l3, l4, .int (x + (-1)), l6] [] h Q := zE_iinc (ls2 := [l0, l1, l2, l3, l4, .int (x + (-1)), l6]) dz1_63 (by decide +kernel) rfl (by simp) rfl
theorem dz1_66 : decode (z_code 1) 66 = .ok (.goto (-47), 3) := by decide +kernel
theorem u1_66 : zEv sc 1 66 [l0, l1, l2, l3, l4, l5, l6] [] h Q ↔ zEv sc 1 19 [l0, l1, l2, l3, l4, l5, l6] [] h Q := zE_go 19 dz1_66 rfl
theorem dz1_49 : decode (z_code 1) 49 = .ok (.iconst 0, 1) := by decide +kernel
theorem u1_49 : zEv sc 1 49 [l0, l1, l2, l3, l4, l5, l6] [] h Q ↔ zEv sc 1 50 [l0, l1, l2, l3, l4, l5, l6] [.int 0] h Q := zE_iconst dz1_49 (by decide +kernel)
theorem dz1_50 : decode (z_code 1) 50 = .ok (.ireturn, 1) := by decide +kernel
theorem u1_50 : zEv sc 1 50 [l0, l1, l2, l3, l4, l5, l6] [.int x] h Q ↔ ((x = 0 ∨ x = 1) ∧ Q (some (.int x)) h) := zE_rz dz1_50 (by decide +kernel)
theorem dz1_69 : decode (z_code 1) 69 = .ok (.iload 4, 2) := by decide +kernel
theorem u1_69 : zEv sc 1 69 [l0, l1, l2, l3, .int x, l5, l6] [] h Q ↔ zEv sc 1 71 [l0, l1, l2, l3, .int x, l5, l6] [.int x] h Q := zE_pure (q := (71, [l0, l1, l2, l3, .int x, l5, l6], [.int x])) dz1_69 rfl rfl rfl
theorem dz1_71 : decode (z_code 1) 71 = .ok (.ifCond .ne 11, 3) := by decide +kernel
theorem u1_71 : zEv sc 1 71 [l0, l1, l2, l3, l4, l5, l6] [.int x] h Q ↔ (if ¬ x = 0 then zEv sc 1 82 [l0, l1, l2, l3, l4, l5, l6] [] h Q else zEv sc 1 74 [l0, l1, l2, l3, l4, l5, l6] [] h Q) := zE_ifP (P := ¬ x = 0) inferInstance 82 dz1_71 rfl rfl
theorem dz1_74 : decode (z_code 1) 74 = .ok (.iload_n 3, 1) := by decide +kernel
theorem u1_74 : zEv sc 1 74 [l0, l1, l2, .int x, l4, l5, l6] [] h Q ↔ zEv sc 1 75 [l0, l1, l2, .int x, l4, l5, l6] [.int x] h Q := zE_pure (q := (75, [l0, l1, l2, .int x, l4, l5, l6], [.int x])) dz1_74 rfl rfl rfl
theorem dz1_75 : decode (z_code 1) 75 = .ok (.ifCond .ne 7, 3) := by decide +kernel
theorem u1_75 : zEv sc 1 75 [l0, l1, l2, l3, l4, l5, l6] [.int x] h Q ↔ (if ¬ x = 0 then zEv sc 1 82 [l0, l1, l2, l3, l4, l5, l6] [] h Q else zEv sc 1 78 [l0, l1, l2, l3, l4, l5, l6] [] h Q) := zE_ifP (P := ¬ x = 0) inferInstance 82 dz1_75 rfl rfl
theorem dz1_78 : decode (z_code 1) 78 = .ok (.iconst 1, 1) := by decide +kernel
theorem u1_78 : zEv sc 1 78 [l0, l1, l2, l3, l4, l5, l6] [] h Q ↔ zEv sc 1 79 [l0, l1, l2, l3, l4, l5, l6] [.int 1] h Q := zE_iconst dz1_78 (by decide +kernel)
theorem dz1_79 : decode (z_code 1) 79 = .ok (.goto 4, 3) := by decide +kernel
theorem u1_79 : zEv sc 1 79 [l0, l1, l2, l3, l4, l5, l6] [t0] h Q ↔ zEv sc 1 83 [l0, l1, l2, l3, l4, l5, l6] [t0] h Q := zE_go 83 dz1_79 rfl
theorem dz1_83 : decode (z_code 1) 83 = .ok (.ireturn, 1) := by decide +kernel
theorem u1_83 : zEv sc 1 83 [l0, l1, l2, l3, l4, l5, l6] [.int x] h Q ↔ ((x = 0 ∨ x = 1) ∧ Q (some (.int x)) h) := zE_rz dz1_83 (by decide +kernel)
theorem dz1_82 : decode (z_code 1) 82 = .ok (.iconst 0, 1) := by decide +kernel
theorem u1_82 : zEv sc 1 82 [l0, l1, l2, l3, l4, l5, l6] [] h Q ↔ zEv sc 1 83 [l0, l1, l2, l3, l4, l5, l6] [.int 0] h Q := zE_iconst dz1_82 (by decide +kernel)
/-! method 2: FieldMixtures$AllocationList.fill(LFieldMixtures$Side;I)V -/
theorem dz2_0 : decode (z_code 2) 0 = .ok (.aload_n 1, 1) := by decide +kernel
theorem u2_0 : zEv sc 2 0 [l0, .ref a, l2, l3, l4] [] h Q ↔ zEv sc 2 1 [l0, .ref a, l2, l3, l4] [.ref a] h Q := zE_pure (q := (1, [l0, .ref a, l2, l3, l4], [.ref a])) dz2_0 rfl rfl rfl
theorem dz2_1 : decode (z_code 2) 1 = .ok (.getfield 19, 3) := by decide +kernel
theorem u2_1 (ho : zO a 6) : zEv sc 2 1 [l0, l1, l2, l3, l4] [.ref a] (zst p iv) Q ↔ zEv sc 2 4 [l0, l1, l2, l3, l4] [.int (iv a 0)] (zst p iv) Q := zE_gfI dz2_1 (by decide +kernel : z_lk3 zFT (z_cls 2) 19 = some (6, 0, 1, 106)) (by decide +kernel) ho
theorem dz2_4 : decode (z_code 2) 4 = .ok (.istore_n 3, 1) := by decide +kernel
theorem u2_4 : zEv sc 2 4 [l0, l1, l2, l3, l4] [.int x] h Q ↔ zEv sc 2 5 [l0, l1, l2, .int x, l4] [] h Q := zE_pure (q := (5, [l0, l1, l2, .int x, l4], [])) dz2_4 rfl rfl rfl
theorem dz2_5 : decode (z_code 2) 5 = .ok (.iconst 1, 1) := by decide +kernel
theorem u2_5 : zEv sc 2 5 [l0, l1, l2, l3, l4] [] h Q ↔ zEv sc 2 6 [l0, l1, l2, l3, l4] [.int 1] h Q := zE_iconst dz2_5 (by decide +kernel)
theorem dz2_6 : decode (z_code 2) 6 = .ok (.istore 4, 2) := by decide +kernel
theorem u2_6 : zEv sc 2 6 [l0, l1, l2, l3, l4] [.int x] h Q ↔ zEv sc 2 8 [l0, l1, l2, l3, .int x] [] h Q := zE_pure (q := (8, [l0, l1, l2, l3, .int x], [])) dz2_6 rfl rfl rfl
theorem dz2_8 : decode (z_code 2) 8 = .ok (.iload 4, 2) := by decide +kernel
theorem u2_8 : zEv sc 2 8 [l0, l1, l2, l3, .int x] [] h Q ↔ zEv sc 2 10 [l0, l1, l2, l3, .int x] [.int x] h Q := zE_pure (q := (10, [l0, l1, l2, l3, .int x], [.int x])) dz2_8 rfl rfl rfl
theorem dz2_10 : decode (z_code 2) 10 = .ok (.iload_n 2, 1) := by decide +kernel
theorem u2_10 : zEv sc 2 10 [l0, l1, .int x, l3, l4] [t0] h Q ↔ zEv sc 2 11 [l0, l1, .int x, l3, l4] [.int x, t0] h Q := zE_pure (q := (11, [l0, l1, .int x, l3, l4], [.int x, t0])) dz2_10 rfl rfl rfl
theorem dz2_11 : decode (z_code 2) 11 = .ok (.if_icmp .ge 14, 3) := by decide +kernel
theorem u2_11 : zEv sc 2 11 [l0, l1, l2, l3, l4] [.int x2, .int x1] h Q ↔ (if x2 ≤ x1 then zEv sc 2 25 [l0, l1, l2, l3, l4] [] h Q else zEv sc 2 14 [l0, l1, l2, l3, l4] [] h Q) := zE_icP (P := x2 ≤ x1) inferInstance 25 dz2_11 rfl rfl
theorem dz2_14 : decode (z_code 2) 14 = .ok (.iload_n 3, 1) := by decide +kernel
theorem u2_14 : zEv sc 2 14 [l0, l1, l2, .int x, l4] [] h Q ↔ zEv sc 2 15 [l0, l1, l2, .int x, l4] [.int x] h Q := zE_pure (q := (15, [l0, l1, l2, .int x, l4], [.int x])) dz2_14 rfl rfl rfl
theorem dz2_15 : decode (z_code 2) 15 = .ok (.bipush 10, 2) := by decide +kernel
theorem u2_15 : zEv sc 2 15 [l0, l1, l2, l3, l4] [t0] h Q ↔ zEv sc 2 17 [l0, l1, l2, l3, l4] [.int 10, t0] h Q := zE_bipush dz2_15 (by decide +kernel)
theorem dz2_17 : decode (z_code 2) 17 = .ok (.imul, 1) := by decide +kernel
theorem u2_17 : zEv sc 2 17 [l0, l1, l2, l3, l4] [.int x2, .int x1] h Q ↔ zEv sc 2 18 [l0, l1, l2, l3, l4] [.int (x1 * x2)] h Q := zE_pure (q := (18, [l0, l1, l2, l3, l4], [.int (x1 * x2)])) dz2_17 rfl rfl rfl
theorem dz2_18 : decode (z_code 2) 18 = .ok (.istore_n 3, 1) := by decide +kernel
theorem u2_18 : zEv sc 2 18 [l0, l1, l2, l3, l4] [.int x] h Q ↔ zEv sc 2 19 [l0, l1, l2, .int x, l4] [] h Q := zE_pure (q := (19, [l0, l1, l2, .int x, l4], [])) dz2_18 rfl rfl rfl
theorem dz2_19 : decode (z_code 2) 19 = .ok (.iinc 4 1, 3) := by decide +kernel
theorem u2_19 : zEv sc 2 19 [l0, l1, l2, l3, .int x] [] h Q ↔ zEv sc 2 22 [l0, l1, l2, l3, .int (x + 1)] [] h Q := zE_iinc (ls2 := [l0, l1, l2, l3, .int (x + 1)]) dz2_19 (by decide +kernel) rfl (by simp) rfl
theorem dz2_22 : decode (z_code 2) 22 = .ok (.goto (-14), 3) := by decide +kernel
theorem u2_22 : zEv sc 2 22 [l0, l1, l2, l3, l4] [] h Q ↔ zEv sc 2 8 [l0, l1, l2, l3, l4] [] h Q := zE_go 8 dz2_22 rfl
theorem dz2_25 : decode (z_code 2) 25 = .ok (.aload_n 0, 1) := by decide +kernel
theorem u2_25 : zEv sc 2 25 [.ref a, l1, l2, l3, l4] [] h Q ↔ zEv sc 2 26 [.ref a, l1, l2, l3, l4] [.ref a] h Q := zE_pure (q := (26, [.ref a, l1, l2, l3, l4], [.ref a])) dz2_25 rfl rfl rfl
theorem dz2_26 : decode (z_code 2) 26 = .ok (.iconst 0, 1) := by decide +kernel
theorem u2_26 : zEv sc 2 26 [l0, l1, l2, l3, l4] [t0] h Q ↔ zEv sc 2 27 [l0, l1, l2, l3, l4] [.int 0, t0] h Q := zE_iconst dz2_26 (by decide +kernel)
theorem dz2_27 : decode (z_code 2) 27 = .ok (.putfield 9, 3) := by decide +kernel
theorem u2_27 (ho : zO a 0) : zEv sc 2 27 [l0, l1, l2, l3, l4] [.int x, .ref a] (zst p iv) Q ↔ zEv sc 2 30 [l0, l1, l2, l3, l4] [] (zst p (w2 iv a 0 x)) Q := zE_pfI dz2_27 (by decide +kernel : z_lk3 zFT (z_cls 2) 9 = some (0, 0, 0, 175)) (by decide +kernel) (by decide +kernel) (by decide +kernel) ho
theorem dz2_30 : decode (z_code 2) 30 = .ok (.aload_n 1, 1) := by decide +kernel
theorem u2_30 : zEv sc 2 30 [l0, .ref a, l2, l3, l4] [] h Q ↔ zEv sc 2 31 [l0, .ref a, l2, l3, l4] [.ref a] h Q := zE_pure (q := (31, [l0, .ref a, l2, l3, l4], [.ref a])) dz2_30 rfl rfl rfl
theorem dz2_31 : decode (z_code 2) 31 = .ok (.getfield 19, 3) := by decide +kernel
theorem u2_31 (ho : zO a 6) : zEv sc 2 31 [l0, l1, l2, l3, l4] [.ref a] (zst p iv) Q ↔ zEv sc 2 34 [l0, l1, l2, l3, l4] [.int (iv a 0)] (zst p iv) Q := zE_gfI dz2_31 (by decide +kernel : z_lk3 zFT (z_cls 2) 19 = some (6, 0, 1, 106)) (by decide +kernel) ho
theorem dz2_34 : decode (z_code 2) 34 = .ok (.istore 4, 2) := by decide +kernel
theorem u2_34 : zEv sc 2 34 [l0, l1, l2, l3, l4] [.int x] h Q ↔ zEv sc 2 36 [l0, l1, l2, l3, .int x] [] h Q := zE_pure (q := (36, [l0, l1, l2, l3, .int x], [])) dz2_34 rfl rfl rfl
theorem dz2_36 : decode (z_code 2) 36 = .ok (.iload 4, 2) := by decide +kernel
theorem u2_36 : zEv sc 2 36 [l0, l1, l2, l3, .int x] [] h Q ↔ zEv sc 2 38 [l0, l1, l2, l3, .int x] [.int x] h Q := zE_pure (q := (38, [l0, l1, l2, l3, .int x], [.int x])) dz2_36 rfl rfl rfl
theorem dz2_38 : decode (z_code 2) 38 = .ok (.iload_n 3, 1) := by decide +kernel
theorem u2_38 : zEv sc 2 38 [l0, l1, l2, .int x, l4] [t0] h Q ↔ zEv sc 2 39 [l0, l1, l2, .int x, l4] [.int x, t0] h Q := zE_pure (q := (39, [l0, l1, l2, .int x, l4], [.int x, t0])) dz2_38 rfl rfl rfl
theorem dz2_39 : decode (z_code 2) 39 = .ok (.if_icmp .gt 50, 3) := by decide +kernel
theorem u2_39 : zEv sc 2 39 [l0, l1, l2, l3, l4] [.int x2, .int x1] h Q ↔ (if x2 < x1 then zEv sc 2 89 [l0, l1, l2, l3, l4] [] h Q else zEv sc 2 42 [l0, l1, l2, l3, l4] [] h Q) := zE_icP (P := x2 < x1) inferInstance 89 dz2_39 rfl rfl
theorem dz2_42 : decode (z_code 2) 42 = .ok (.aload_n 0, 1) := by decide +kernel
theorem u2_42 : zEv sc 2 42 [.ref a, l1, l2, l3, l4] [] h Q ↔ zEv sc 2 43 [.ref a, l1, l2, l3, l4] [.ref a] h Q := zE_pure (q := (43, [.ref a, l1, l2, l3, l4], [.ref a])) dz2_42 rfl rfl rfl
theorem dz2_43 : decode (z_code 2) 43 = .ok (.getfield 9, 3) := by decide +kernel
theorem u2_43 (ho : zO a 0) : zEv sc 2 43 [l0, l1, l2, l3, l4] [.ref a] (zst p iv) Q ↔ zEv sc 2 46 [l0, l1, l2, l3, l4] [.int (iv a 0)] (zst p iv) Q := zE_gfI dz2_43 (by decide +kernel : z_lk3 zFT (z_cls 2) 9 = some (0, 0, 0, 175)) (by decide +kernel) ho
theorem dz2_46 : decode (z_code 2) 46 = .ok (.sipush 165, 3) := by decide +kernel
theorem u2_46 : zEv sc 2 46 [l0, l1, l2, l3, l4] [t0] h Q ↔ zEv sc 2 49 [l0, l1, l2, l3, l4] [.int 165, t0] h Q := zE_sipush dz2_46 (by decide +kernel)
theorem dz2_49 : decode (z_code 2) 49 = .ok (.if_icmp .ge 34, 3) := by decide +kernel
theorem u2_49 : zEv sc 2 49 [l0, l1, l2, l3, l4] [.int x2, .int x1] h Q ↔ (if x2 ≤ x1 then zEv sc 2 83 [l0, l1, l2, l3, l4] [] h Q else zEv sc 2 52 [l0, l1, l2, l3, l4] [] h Q) := zE_icP (P := x2 ≤ x1) inferInstance 83 dz2_49 rfl rfl
theorem dz2_52 : decode (z_code 2) 52 = .ok (.aload_n 1, 1) := by decide +kernel
theorem u2_52 : zEv sc 2 52 [l0, .ref a, l2, l3, l4] [] h Q ↔ zEv sc 2 53 [l0, .ref a, l2, l3, l4] [.ref a] h Q := zE_pure (q := (53, [l0, .ref a, l2, l3, l4], [.ref a])) dz2_52 rfl rfl rfl
theorem dz2_53 : decode (z_code 2) 53 = .ok (.iload 4, 2) := by decide +kernel
theorem u2_53 : zEv sc 2 53 [l0, l1, l2, l3, .int x] [t0] h Q ↔ zEv sc 2 55 [l0, l1, l2, l3, .int x] [.int x, t0] h Q := zE_pure (q := (55, [l0, l1, l2, l3, .int x], [.int x, t0])) dz2_53 rfl rfl rfl
theorem dz2_55 : decode (z_code 2) 55 = .ok (.iload_n 2, 1) := by decide +kernel
theorem u2_55 : zEv sc 2 55 [l0, l1, .int x, l3, l4] [t0, t1] h Q ↔ zEv sc 2 56 [l0, l1, .int x, l3, l4] [.int x, t0, t1] h Q := zE_pure (q := (56, [l0, l1, .int x, l3, l4], [.int x, t0, t1])) dz2_55 rfl rfl rfl
theorem dz2_56 : decode (z_code 2) 56 = .ok (.invokevirtual 24, 3) := by decide +kernel
theorem u2_56 (ho : zO a 6) : zEv sc 2 56 [l0, l1, l2, l3, l4] [.int z1, .int z0, .ref a] (zst p iv) Q ↔ zEv sc 1 0 [.ref a, .int z0, .int z1, .null, .null, .null, .null] [] (zst p iv) (fun r h9 => zEv sc 2 59 [l0, l1, l2, l3, l4] (r.toList ++ []) h9 Q) := zE_call (kd := 0) (na := 3) (nr := 0) (as := [.ref a, .int z0, .int z1]) (rest := []) (Or.inl ⟨rfl, rfl⟩) dz2_56 (by decide +kernel : z_lk2 zCT (z_cls 2) 24 = some (1, 1, 412)) (fun z => by cases z) rfl rfl rfl (by decide +kernel) rfl rfl (Or.inr (zE_rc ho))
theorem dz2_59 : decode (z_code 2) 59 = .ok (.ifCond .eq 24, 3) := by decide +kernel
theorem u2_59 : zEv sc 2 59 [l0, l1, l2, l3, l4] [.int x] h Q ↔ (if x = 0 then zEv sc 2 83 [l0, l1, l2, l3, l4] [] h Q else zEv sc 2 62 [l0, l1, l2, l3, l4] [] h Q) := zE_ifP (P := x = 0) inferInstance 83 dz2_59 rfl rfl
theorem dz2_62 : decode (z_code 2) 62 = .ok (.aload_n 0, 1) := by decide +kernel
theorem u2_62 : zEv sc 2 62 [.ref a, l1, l2, l3, l4] [] h Q ↔ zEv sc 2 63 [.ref a, l1, l2, l3, l4] [.ref a] h Q := zE_pure (q := (63, [.ref a, l1, l2, l3, l4], [.ref a])) dz2_62 rfl rfl rfl
theorem dz2_63 : decode (z_code 2) 63 = .ok (.getfield 15, 3) := by decide +kernel
theorem u2_63 (ho : zO a 0) : zEv sc 2 63 [l0, l1, l2, l3, l4] [.ref a] (zst p iv) Q ↔ zRef (zRV p a 1) (fun j => zEv sc 2 66 [l0, l1, l2, l3, l4] [.ref j] (zst p iv) Q) := zE_gfR dz2_63 (by decide +kernel : z_lk3 zFT (z_cls 2) 15 = some (0, 1, 0, 178)) (by decide +kernel) ho
theorem dz2_66 : decode (z_code 2) 66 = .ok (.aload_n 0, 1) := by decide +kernel
theorem u2_66 : zEv sc 2 66 [.ref a, l1, l2, l3, l4] [t0] h Q ↔ zEv sc 2 67 [.ref a, l1, l2, l3, l4] [.ref a, t0] h Q := zE_pure (q := (67, [.ref a, l1, l2, l3, l4], [.ref a, t0])) dz2_66 rfl rfl rfl
theorem dz2_67 : decode (z_code 2) 67 = .ok (.getfield 9, 3) := by decide +kernel
theorem u2_67 (ho : zO a 0) : zEv sc 2 67 [l0, l1, l2, l3, l4] [.ref a, t0] (zst p iv) Q ↔ zEv sc 2 70 [l0, l1, l2, l3, l4] [.int (iv a 0), t0] (zst p iv) Q := zE_gfI dz2_67 (by decide +kernel : z_lk3 zFT (z_cls 2) 9 = some (0, 0, 0, 175)) (by decide +kernel) ho
theorem dz2_70 : decode (z_code 2) 70 = .ok (.iload 4, 2) := by decide +kernel
theorem u2_70 : zEv sc 2 70 [l0, l1, l2, l3, .int x] [t0, t1] h Q ↔ zEv sc 2 72 [l0, l1, l2, l3, .int x] [.int x, t0, t1] h Q := zE_pure (q := (72, [l0, l1, l2, l3, .int x], [.int x, t0, t1])) dz2_70 rfl rfl rfl
theorem dz2_72 : decode (z_code 2) 72 = .ok (.iastore, 1) := by decide +kernel
theorem u2_72 (ho : zO a 100) : zEv sc 2 72 [l0, l1, l2, l3, l4] [.int x2, .int x1, .ref a] (zst p iv) Q ↔ (vp_in x1 (zLn a) ∧ zEv sc 2 73 [l0, l1, l2, l3, l4] [] (zst p (w2 iv a x1.toNatClampNeg x2)) Q) := zE_ast (Or.inl ⟨rfl, rfl, rfl⟩) dz2_72 ho
theorem dz2_73 : decode (z_code 2) 73 = .ok (.aload_n 0, 1) := by decide +kernel
theorem u2_73 : zEv sc 2 73 [.ref a, l1, l2, l3, l4] [] h Q ↔ zEv sc 2 74 [.ref a, l1, l2, l3, l4] [.ref a] h Q := zE_pure (q := (74, [.ref a, l1, l2, l3, l4], [.ref a])) dz2_73 rfl rfl rfl
theorem dz2_74 : decode (z_code 2) 74 = .ok (.dup, 1) := by decide +kernel
theorem u2_74 : zEv sc 2 74 [l0, l1, l2, l3, l4] [.ref a] h Q ↔ zEv sc 2 75 [l0, l1, l2, l3, l4] [.ref a, .ref a] h Q := zE_pure (q := (75, [l0, l1, l2, l3, l4], [.ref a, .ref a])) dz2_74 rfl rfl rfl
theorem dz2_75 : decode (z_code 2) 75 = .ok (.getfield 9, 3) := by decide +kernel
theorem u2_75 (ho : zO a 0) : zEv sc 2 75 [l0, l1, l2, l3, l4] [.ref a, t0] (zst p iv) Q ↔ zEv sc 2 78 [l0, l1, l2, l3, l4] [.int (iv a 0), t0] (zst p iv) Q := zE_gfI dz2_75 (by decide +kernel : z_lk3 zFT (z_cls 2) 9 = some (0, 0, 0, 175)) (by decide +kernel) ho
theorem dz2_78 : decode (z_code 2) 78 = .ok (.iconst 1, 1) := by decide +kernel
theorem u2_78 : zEv sc 2 78 [l0, l1, l2, l3, l4] [t0, t1] h Q ↔ zEv sc 2 79 [l0, l1, l2, l3, l4] [.int 1, t0, t1] h Q := zE_iconst dz2_78 (by decide +kernel)
theorem dz2_79 : decode (z_code 2) 79 = .ok (.iadd, 1) := by decide +kernel
theorem u2_79 : zEv sc 2 79 [l0, l1, l2, l3, l4] [.int x2, .int x1, t0] h Q ↔ zEv sc 2 80 [l0, l1, l2, l3, l4] [.int (x1 + x2), t0] h Q := zE_pure (q := (80, [l0, l1, l2, l3, l4], [.int (x1 + x2), t0])) dz2_79 rfl rfl rfl
theorem dz2_80 : decode (z_code 2) 80 = .ok (.putfield 9, 3) := by decide +kernel
theorem u2_80 (ho : zO a 0) : zEv sc 2 80 [l0, l1, l2, l3, l4] [.int x, .ref a] (zst p iv) Q ↔ zEv sc 2 83 [l0, l1, l2, l3, l4] [] (zst p (w2 iv a 0 x)) Q := zE_pfI dz2_80 (by decide +kernel : z_lk3 zFT (z_cls 2) 9 = some (0, 0, 0, 175)) (by decide +kernel) (by decide +kernel) (by decide +kernel) ho
theorem dz2_83 : decode (z_code 2) 83 = .ok (.iinc 4 9, 3) := by decide +kernel
theorem u2_83 : zEv sc 2 83 [l0, l1, l2, l3, .int x] [] h Q ↔ zEv sc 2 86 [l0, l1, l2, l3, .int (x + 9)] [] h Q := zE_iinc (ls2 := [l0, l1, l2, l3, .int (x + 9)]) dz2_83 (by decide +kernel) rfl (by simp) rfl
theorem dz2_86 : decode (z_code 2) 86 = .ok (.goto (-50), 3) := by decide +kernel
theorem u2_86 : zEv sc 2 86 [l0, l1, l2, l3, l4] [] h Q ↔ zEv sc 2 36 [l0, l1, l2, l3, l4] [] h Q := zE_go 36 dz2_86 rfl
theorem dz2_89 : decode (z_code 2) 89 = .ok (.return_, 1) := by decide +kernel
theorem u2_89 : zEv sc 2 89 [l0, l1, l2, l3, l4] [] h Q ↔ Q none h := zE_rv dz2_89 (by decide +kernel)
/-! method 4: FieldMixtures$Scores.of(I)I -/
theorem dz4_0 : decode (z_code 4) 0 = .ok (.iload_n 1, 1) := by decide +kernel
theorem u4_0 : zEv sc 4 0 [l0, .int x, l2, l3, l4] [] h Q ↔ zEv sc 4 1 [l0, .int x, l2, l3, l4] [.int x] h Q := zE_pure (q := (1, [l0, .int x, l2, l3, l4], [.int x])) dz4_0 rfl rfl rfl
theorem dz4_1 : decode (z_code 4) 1 = .ok (.istore_n 2, 1) := by decide +kernel
theorem u4_1 : zEv sc 4 1 [l0, l1, l2, l3, l4] [.int x] h Q ↔ zEv sc 4 2 [l0, l1, .int x, l3, l4] [] h Q := zE_pure (q := (2, [l0, l1, .int x, l3, l4], [])) dz4_1 rfl rfl rfl
theorem dz4_2 : decode (z_code 4) 2 = .ok (.iconst 0, 1) := by decide +kernel
theorem u4_2 : zEv sc 4 2 [l0, l1, l2, l3, l4] [] h Q ↔ zEv sc 4 3 [l0, l1, l2, l3, l4] [.int 0] h Q := zE_iconst dz4_2 (by decide +kernel)
theorem dz4_3 : decode (z_code 4) 3 = .ok (.istore_n 3, 1) := by decide +kernel
theorem u4_3 : zEv sc 4 3 [l0, l1, l2, l3, l4] [.int x] h Q ↔ zEv sc 4 4 [l0, l1, l2, .int x, l4] [] h Q := zE_pure (q := (4, [l0, l1, l2, .int x, l4], [])) dz4_3 rfl rfl rfl
theorem dz4_4 : decode (z_code 4) 4 = .ok (.aload_n 0, 1) := by decide +kernel
theorem u4_4 : zEv sc 4 4 [.ref a, l1, l2, l3, l4] [] h Q ↔ zEv sc 4 5 [.ref a, l1, l2, l3, l4] [.ref a] h Q := zE_pure (q := (5, [.ref a, l1, l2, l3, l4], [.ref a])) dz4_4 rfl rfl rfl
theorem dz4_5 : decode (z_code 4) 5 = .ok (.getfield 9, 3) := by decide +kernel
theorem u4_5 (ho : zO a 5) : zEv sc 4 5 [l0, l1, l2, l3, l4] [.ref a] (zst p iv) Q ↔ zEv sc 4 8 [l0, l1, l2, l3, l4] [.int (iv a 0)] (zst p iv) Q := zE_gfI dz4_5 (by decide +kernel : z_lk3 zFT (z_cls 4) 9 = some (5, 0, 0, 194)) (by decide +kernel) ho
theorem dz4_8 : decode (z_code 4) 8 = .ok (.iconst 1, 1) := by decide +kernel
theorem u4_8 : zEv sc 4 8 [l0, l1, l2, l3, l4] [t0] h Q ↔ zEv sc 4 9 [l0, l1, l2, l3, l4] [.int 1, t0] h Q := zE_iconst dz4_8 (by decide +kernel)
theorem dz4_9 : decode (z_code 4) 9 = .ok (.isub, 1) := by decide +kernel
theorem u4_9 : zEv sc 4 9 [l0, l1, l2, l3, l4] [.int x2, .int x1] h Q ↔ zEv sc 4 10 [l0, l1, l2, l3, l4] [.int (x1 - x2)] h Q := zE_pure (q := (10, [l0, l1, l2, l3, l4], [.int (x1 - x2)])) dz4_9 rfl rfl rfl
theorem dz4_10 : decode (z_code 4) 10 = .ok (.istore 4, 2) := by decide +kernel
theorem u4_10 : zEv sc 4 10 [l0, l1, l2, l3, l4] [.int x] h Q ↔ zEv sc 4 12 [l0, l1, l2, l3, .int x] [] h Q := zE_pure (q := (12, [l0, l1, l2, l3, .int x], [])) dz4_10 rfl rfl rfl
theorem dz4_12 : decode (z_code 4) 12 = .ok (.iload 4, 2) := by decide +kernel
theorem u4_12 : zEv sc 4 12 [l0, l1, l2, l3, .int x] [] h Q ↔ zEv sc 4 14 [l0, l1, l2, l3, .int x] [.int x] h Q := zE_pure (q := (14, [l0, l1, l2, l3, .int x], [.int x])) dz4_12 rfl rfl rfl
theorem dz4_14 : decode (z_code 4) 14 = .ok (.ifCond .lt 29, 3) := by decide +kernel
theorem u4_14 : zEv sc 4 14 [l0, l1, l2, l3, l4] [.int x] h Q ↔ (if x < 0 then zEv sc 4 43 [l0, l1, l2, l3, l4] [] h Q else zEv sc 4 17 [l0, l1, l2, l3, l4] [] h Q) := zE_ifP (P := x < 0) inferInstance 43 dz4_14 rfl rfl
theorem dz4_17 : decode (z_code 4) 17 = .ok (.iload_n 3, 1) := by decide +kernel
theorem u4_17 : zEv sc 4 17 [l0, l1, l2, .int x, l4] [] h Q ↔ zEv sc 4 18 [l0, l1, l2, .int x, l4] [.int x] h Q := zE_pure (q := (18, [l0, l1, l2, .int x, l4], [.int x])) dz4_17 rfl rfl rfl
theorem dz4_18 : decode (z_code 4) 18 = .ok (.aload_n 0, 1) := by decide +kernel
theorem u4_18 : zEv sc 4 18 [.ref a, l1, l2, l3, l4] [t0] h Q ↔ zEv sc 4 19 [.ref a, l1, l2, l3, l4] [.ref a, t0] h Q := zE_pure (q := (19, [.ref a, l1, l2, l3, l4], [.ref a, t0])) dz4_18 rfl rfl rfl
theorem dz4_19 : decode (z_code 4) 19 = .ok (.getfield 20, 3) := by decide +kernel
theorem u4_19 (ho : zO a 5) : zEv sc 4 19 [l0, l1, l2, l3, l4] [.ref a, t0] (zst p iv) Q ↔ zRef (zRV p a 2) (fun j => zEv sc 4 22 [l0, l1, l2, l3, l4] [.ref j, t0] (zst p iv) Q) := zE_gfR dz4_19 (by decide +kernel : z_lk3 zFT (z_cls 4) 20 = some (5, 2, 0, 197)) (by decide +kernel) ho
theorem dz4_22 : decode (z_code 4) 22 = .ok (.iload 4, 2) := by decide +kernel
theorem u4_22 : zEv sc 4 22 [l0, l1, l2, l3, .int x] [t0, t1] h Q ↔ zEv sc 4 24 [l0, l1, l2, l3, .int x] [.int x, t0, t1] h Q := zE_pure (q := (24, [l0, l1, l2, l3, .int x], [.int x, t0, t1])) dz4_22 rfl rfl rfl
theorem dz4_24 : decode (z_code 4) 24 = .ok (.aaload, 1) := by decide +kernel
theorem u4_24 (ho : zO a 103) : zEv sc 4 24 [l0, l1, l2, l3, l4] [.int x, .ref a, t0] (zst p iv) Q ↔ (vp_in x (zLn a) ∧ zRef (zRV p a x.toNatClampNeg) (fun j => zEv sc 4 25 [l0, l1, l2, l3, l4] [.ref j, t0] (zst p iv) Q)) := zE_aald dz4_24 (Or.inr ho)
theorem dz4_25 : decode (z_code 4) 25 = .ok (.iload_n 2, 1) := by decide +kernel
theorem u4_25 : zEv sc 4 25 [l0, l1, .int x, l3, l4] [t0, t1] h Q ↔ zEv sc 4 26 [l0, l1, .int x, l3, l4] [.int x, t0, t1] h Q := zE_pure (q := (26, [l0, l1, .int x, l3, l4], [.int x, t0, t1])) dz4_25 rfl rfl rfl
theorem dz4_26 : decode (z_code 4) 26 = .ok (.bipush 10, 2) := by decide +kernel
theorem u4_26 : zEv sc 4 26 [l0, l1, l2, l3, l4] [t0, t1, t2] h Q ↔ zEv sc 4 28 [l0, l1, l2, l3, l4] [.int 10, t0, t1, t2] h Q := zE_bipush dz4_26 (by decide +kernel)
theorem dz4_28 : decode (z_code 4) 28 = .ok (.irem, 1) := by decide +kernel
theorem u4_28 : zEv sc 4 28 [l0, l1, l2, l3, l4] [.int x2, .int x1, t0, t1] h Q ↔ (¬ x2 = 0 ∧ zEv sc 4 29 [l0, l1, l2, l3, l4] [.int (x1 - x1 / x2 * x2), t0, t1] h Q) := zE_rem dz4_28
theorem dz4_29 : decode (z_code 4) 29 = .ok (.iaload, 1) := by decide +kernel
theorem u4_29 (ho : zO a 100) : zEv sc 4 29 [l0, l1, l2, l3, l4] [.int x, .ref a, t0] (zst p iv) Q ↔ (vp_in x (zLn a) ∧ zEv sc 4 30 [l0, l1, l2, l3, l4] [.int (iv a x.toNatClampNeg), t0] (zst p iv) Q) := zE_ald (Or.inl ⟨rfl, rfl⟩) dz4_29 ho
theorem dz4_30 : decode (z_code 4) 30 = .ok (.iadd, 1) := by decide +kernel
theorem u4_30 : zEv sc 4 30 [l0, l1, l2, l3, l4] [.int x2, .int x1] h Q ↔ zEv sc 4 31 [l0, l1, l2, l3, l4] [.int (x1 + x2)] h Q := zE_pure (q := (31, [l0, l1, l2, l3, l4], [.int (x1 + x2)])) dz4_30 rfl rfl rfl
theorem dz4_31 : decode (z_code 4) 31 = .ok (.istore_n 3, 1) := by decide +kernel
theorem u4_31 : zEv sc 4 31 [l0, l1, l2, l3, l4] [.int x] h Q ↔ zEv sc 4 32 [l0, l1, l2, .int x, l4] [] h Q := zE_pure (q := (32, [l0, l1, l2, .int x, l4], [])) dz4_31 rfl rfl rfl
theorem dz4_32 : decode (z_code 4) 32 = .ok (.iload_n 2, 1) := by decide +kernel
theorem u4_32 : zEv sc 4 32 [l0, l1, .int x, l3, l4] [] h Q ↔ zEv sc 4 33 [l0, l1, .int x, l3, l4] [.int x] h Q := zE_pure (q := (33, [l0, l1, .int x, l3, l4], [.int x])) dz4_32 rfl rfl rfl
theorem dz4_33 : decode (z_code 4) 33 = .ok (.bipush 10, 2) := by decide +kernel
theorem u4_33 : zEv sc 4 33 [l0, l1, l2, l3, l4] [t0] h Q ↔ zEv sc 4 35 [l0, l1, l2, l3, l4] [.int 10, t0] h Q := zE_bipush dz4_33 (by decide +kernel)
theorem dz4_35 : decode (z_code 4) 35 = .ok (.idiv, 1) := by decide +kernel
theorem u4_35 : zEv sc 4 35 [l0, l1, l2, l3, l4] [.int x2, .int x1] h Q ↔ (¬ x2 = 0 ∧ zEv sc 4 36 [l0, l1, l2, l3, l4] [.int (x1 / x2)] h Q) := zE_div dz4_35
theorem dz4_36 : decode (z_code 4) 36 = .ok (.istore_n 2, 1) := by decide +kernel
theorem u4_36 : zEv sc 4 36 [l0, l1, l2, l3, l4] [.int x] h Q ↔ zEv sc 4 37 [l0, l1, .int x, l3, l4] [] h Q := zE_pure (q := (37, [l0, l1, .int x, l3, l4], [])) dz4_36 rfl rfl rfl
theorem dz4_37 : decode (z_code 4) 37 = .ok (.iinc 4 (-1), 3) := by decide +kernel
theorem u4_37 : zEv sc 4 37 [l0, l1, l2, l3, .int x] [] h Q ↔ zEv sc 4 40 [l0, l1, l2, l3, .int (x + (-1))] [] h Q := zE_iinc (ls2 := [l0, l1, l2, l3, .int (x + (-1))]) dz4_37 (by decide +kernel) rfl (by simp) rfl
theorem dz4_40 : decode (z_code 4) 40 = .ok (.goto (-28), 3) := by decide +kernel
theorem u4_40 : zEv sc 4 40 [l0, l1, l2, l3, l4] [] h Q ↔ zEv sc 4 12 [l0, l1, l2, l3, l4] [] h Q := zE_go 12 dz4_40 rfl
theorem dz4_43 : decode (z_code 4) 43 = .ok (.iload_n 3, 1) := by decide +kernel
theorem u4_43 : zEv sc 4 43 [l0, l1, l2, .int x, l4] [] h Q ↔ zEv sc 4 44 [l0, l1, l2, .int x, l4] [.int x] h Q := zE_pure (q := (44, [l0, l1, l2, .int x, l4], [.int x])) dz4_43 rfl rfl rfl
theorem dz4_44 : decode (z_code 4) 44 = .ok (.ireturn, 1) := by decide +kernel
theorem u4_44 : zEv sc 4 44 [l0, l1, l2, l3, l4] [.int x] h Q ↔ Q (some (.int x)) h := zE_ri dz4_44 (by decide +kernel)
/-! method 5: FieldMixtures$BestReply.find(LFieldMixtures$AllocationList;LFieldMixtures$Scores;)V -/
theorem dz5_0 : decode (z_code 5) 0 = .ok (.aload_n 0, 1) := by decide +kernel
theorem u5_0 : zEv sc 5 0 [.ref a, l1, l2, l3, l4] [] h Q ↔ zEv sc 5 1 [.ref a, l1, l2, l3, l4] [.ref a] h Q := zE_pure (q := (1, [.ref a, l1, l2, l3, l4], [.ref a])) dz5_0 rfl rfl rfl
theorem dz5_1 : decode (z_code 5) 1 = .ok (.iconst 0, 1) := by decide +kernel
theorem u5_1 : zEv sc 5 1 [l0, l1, l2, l3, l4] [t0] h Q ↔ zEv sc 5 2 [l0, l1, l2, l3, l4] [.int 0, t0] h Q := zE_iconst dz5_1 (by decide +kernel)
theorem dz5_2 : decode (z_code 5) 2 = .ok (.putfield 16, 3) := by decide +kernel
theorem u5_2 (ho : zO a 1) : zEv sc 5 2 [l0, l1, l2, l3, l4] [.int x, .ref a] (zst p iv) Q ↔ zEv sc 5 5 [l0, l1, l2, l3, l4] [] (zst p (w2 iv a 2 x)) Q := zE_pfI dz5_2 (by decide +kernel : z_lk3 zFT (z_cls 5) 16 = some (1, 2, 0, 214)) (by decide +kernel) (by decide +kernel) (by decide +kernel) ho
theorem dz5_5 : decode (z_code 5) 5 = .ok (.iconst 0, 1) := by decide +kernel
theorem u5_5 : zEv sc 5 5 [l0, l1, l2, l3, l4] [] h Q ↔ zEv sc 5 6 [l0, l1, l2, l3, l4] [.int 0] h Q := zE_iconst dz5_5 (by decide +kernel)
theorem dz5_6 : decode (z_code 5) 6 = .ok (.istore_n 3, 1) := by decide +kernel
theorem u5_6 : zEv sc 5 6 [l0, l1, l2, l3, l4] [.int x] h Q ↔ zEv sc 5 7 [l0, l1, l2, .int x, l4] [] h Q := zE_pure (q := (7, [l0, l1, l2, .int x, l4], [])) dz5_6 rfl rfl rfl
theorem dz5_7 : decode (z_code 5) 7 = .ok (.iload_n 3, 1) := by decide +kernel
theorem u5_7 : zEv sc 5 7 [l0, l1, l2, .int x, l4] [] h Q ↔ zEv sc 5 8 [l0, l1, l2, .int x, l4] [.int x] h Q := zE_pure (q := (8, [l0, l1, l2, .int x, l4], [.int x])) dz5_7 rfl rfl rfl
theorem dz5_8 : decode (z_code 5) 8 = .ok (.aload_n 1, 1) := by decide +kernel
theorem u5_8 : zEv sc 5 8 [l0, .ref a, l2, l3, l4] [t0] h Q ↔ zEv sc 5 9 [l0, .ref a, l2, l3, l4] [.ref a, t0] h Q := zE_pure (q := (9, [l0, .ref a, l2, l3, l4], [.ref a, t0])) dz5_8 rfl rfl rfl
theorem dz5_9 : decode (z_code 5) 9 = .ok (.getfield 19, 3) := by decide +kernel
theorem u5_9 (ho : zO a 0) : zEv sc 5 9 [l0, l1, l2, l3, l4] [.ref a, t0] (zst p iv) Q ↔ zEv sc 5 12 [l0, l1, l2, l3, l4] [.int (iv a 0), t0] (zst p iv) Q := zE_gfI dz5_9 (by decide +kernel : z_lk3 zFT (z_cls 5) 19 = some (0, 0, 1, 176)) (by decide +kernel) ho
theorem dz5_12 : decode (z_code 5) 12 = .ok (.if_icmp .ge 80, 3) := by decide +kernel
theorem u5_12 : zEv sc 5 12 [l0, l1, l2, l3, l4] [.int x2, .int x1] h Q ↔ (if x2 ≤ x1 then zEv sc 5 92 [l0, l1, l2, l3, l4] [] h Q else zEv sc 5 15 [l0, l1, l2, l3, l4] [] h Q) := zE_icP (P := x2 ≤ x1) inferInstance 92 dz5_12 rfl rfl
theorem dz5_15 : decode (z_code 5) 15 = .ok (.aload_n 2, 1) := by decide +kernel
theorem u5_15 : zEv sc 5 15 [l0, l1, .ref a, l3, l4] [] h Q ↔ zEv sc 5 16 [l0, l1, .ref a, l3, l4] [.ref a] h Q := zE_pure (q := (16, [l0, l1, .ref a, l3, l4], [.ref a])) dz5_15 rfl rfl rfl
theorem dz5_16 : decode (z_code 5) 16 = .ok (.aload_n 1, 1) := by decide +kernel
theorem u5_16 : zEv sc 5 16 [l0, .ref a, l2, l3, l4] [t0] h Q ↔ zEv sc 5 17 [l0, .ref a, l2, l3, l4] [.ref a, t0] h Q := zE_pure (q := (17, [l0, .ref a, l2, l3, l4], [.ref a, t0])) dz5_16 rfl rfl rfl
theorem dz5_17 : decode (z_code 5) 17 = .ok (.getfield 24, 3) := by decide +kernel
theorem u5_17 (ho : zO a 0) : zEv sc 5 17 [l0, l1, l2, l3, l4] [.ref a, t0] (zst p iv) Q ↔ zRef (zRV p a 1) (fun j => zEv sc 5 20 [l0, l1, l2, l3, l4] [.ref j, t0] (zst p iv) Q) := zE_gfR dz5_17 (by decide +kernel : z_lk3 zFT (z_cls 5) 24 = some (0, 1, 1, 179)) (by decide +kernel) ho
theorem dz5_20 : decode (z_code 5) 20 = .ok (.iload_n 3, 1) := by decide +kernel
theorem u5_20 : zEv sc 5 20 [l0, l1, l2, .int x, l4] [t0, t1] h Q ↔ zEv sc 5 21 [l0, l1, l2, .int x, l4] [.int x, t0, t1] h Q := zE_pure (q := (21, [l0, l1, l2, .int x, l4], [.int x, t0, t1])) dz5_20 rfl rfl rfl
theorem dz5_21 : decode (z_code 5) 21 = .ok (.iaload, 1) := by decide +kernel
theorem u5_21 (ho : zO a 100) : zEv sc 5 21 [l0, l1, l2, l3, l4] [.int x, .ref a, t0] (zst p iv) Q ↔ (vp_in x (zLn a) ∧ zEv sc 5 22 [l0, l1, l2, l3, l4] [.int (iv a x.toNatClampNeg), t0] (zst p iv) Q) := zE_ald (Or.inl ⟨rfl, rfl⟩) dz5_21 ho
theorem dz5_22 : decode (z_code 5) 22 = .ok (.invokevirtual 28, 3) := by decide +kernel
theorem u5_22 (ho : zO a 5) : zEv sc 5 22 [l0, l1, l2, l3, l4] [.int z0, .ref a] (zst p iv) Q ↔ zEv sc 4 0 [.ref a, .int z0, .null, .null, .null] [] (zst p iv) (fun r h9 => zEv sc 5 25 [l0, l1, l2, l3, l4] (r.toList ++ []) h9 Q) := zE_call (kd := 0) (na := 2) (nr := 0) (as := [.ref a, .int z0]) (rest := []) (Or.inl ⟨rfl, rfl⟩) dz5_22 (by decide +kernel : z_lk2 zCT (z_cls 5) 28 = some (4, 1, 527)) (fun z => by cases z) rfl rfl rfl (by decide +kernel) rfl rfl (Or.inr (zE_rc ho))
theorem dz5_25 : decode (z_code 5) 25 = .ok (.istore 4, 2) := by decide +kernel
theorem u5_25 : zEv sc 5 25 [l0, l1, l2, l3, l4] [.int x] h Q ↔ zEv sc 5 27 [l0, l1, l2, l3, .int x] [] h Q := zE_pure (q := (27, [l0, l1, l2, l3, .int x], [])) dz5_25 rfl rfl rfl
theorem dz5_27 : decode (z_code 5) 27 = .ok (.aload_n 0, 1) := by decide +kernel
theorem u5_27 : zEv sc 5 27 [.ref a, l1, l2, l3, l4] [] h Q ↔ zEv sc 5 28 [.ref a, l1, l2, l3, l4] [.ref a] h Q := zE_pure (q := (28, [.ref a, l1, l2, l3, l4], [.ref a])) dz5_27 rfl rfl rfl
theorem dz5_28 : decode (z_code 5) 28 = .ok (.getfield 16, 3) := by decide +kernel
theorem u5_28 (ho : zO a 1) : zEv sc 5 28 [l0, l1, l2, l3, l4] [.ref a] (zst p iv) Q ↔ zEv sc 5 31 [l0, l1, l2, l3, l4] [.int (iv a 2)] (zst p iv) Q := zE_gfI dz5_28 (by decide +kernel : z_lk3 zFT (z_cls 5) 16 = some (1, 2, 0, 214)) (by decide +kernel) ho
theorem dz5_31 : decode (z_code 5) 31 = .ok (.ifCond .eq 12, 3) := by decide +kernel
theorem u5_31 : zEv sc 5 31 [l0, l1, l2, l3, l4] [.int x] h Q ↔ (if x = 0 then zEv sc 5 43 [l0, l1, l2, l3, l4] [] h Q else zEv sc 5 34 [l0, l1, l2, l3, l4] [] h Q) := zE_ifP (P := x = 0) inferInstance 43 dz5_31 rfl rfl
theorem dz5_34 : decode (z_code 5) 34 = .ok (.iload 4, 2) := by decide +kernel
theorem u5_34 : zEv sc 5 34 [l0, l1, l2, l3, .int x] [] h Q ↔ zEv sc 5 36 [l0, l1, l2, l3, .int x] [.int x] h Q := zE_pure (q := (36, [l0, l1, l2, l3, .int x], [.int x])) dz5_34 rfl rfl rfl
theorem dz5_36 : decode (z_code 5) 36 = .ok (.aload_n 0, 1) := by decide +kernel
theorem u5_36 : zEv sc 5 36 [.ref a, l1, l2, l3, l4] [t0] h Q ↔ zEv sc 5 37 [.ref a, l1, l2, l3, l4] [.ref a, t0] h Q := zE_pure (q := (37, [.ref a, l1, l2, l3, l4], [.ref a, t0])) dz5_36 rfl rfl rfl
theorem dz5_37 : decode (z_code 5) 37 = .ok (.getfield 13, 3) := by decide +kernel
theorem u5_37 (ho : zO a 1) : zEv sc 5 37 [l0, l1, l2, l3, l4] [.ref a, t0] (zst p iv) Q ↔ zEv sc 5 40 [l0, l1, l2, l3, l4] [.int (iv a 1), t0] (zst p iv) Q := zE_gfI dz5_37 (by decide +kernel : z_lk3 zFT (z_cls 5) 13 = some (1, 1, 0, 213)) (by decide +kernel) ho
theorem dz5_40 : decode (z_code 5) 40 = .ok (.if_icmp .le 27, 3) := by decide +kernel
theorem u5_40 : zEv sc 5 40 [l0, l1, l2, l3, l4] [.int x2, .int x1] h Q ↔ (if x1 ≤ x2 then zEv sc 5 67 [l0, l1, l2, l3, l4] [] h Q else zEv sc 5 43 [l0, l1, l2, l3, l4] [] h Q) := zE_icP (P := x1 ≤ x2) inferInstance 67 dz5_40 rfl rfl
theorem dz5_67 : decode (z_code 5) 67 = .ok (.iload 4, 2) := by decide +kernel
theorem u5_67 : zEv sc 5 67 [l0, l1, l2, l3, .int x] [] h Q ↔ zEv sc 5 69 [l0, l1, l2, l3, .int x] [.int x] h Q := zE_pure (q := (69, [l0, l1, l2, l3, .int x], [.int x])) dz5_67 rfl rfl rfl
theorem dz5_69 : decode (z_code 5) 69 = .ok (.aload_n 0, 1) := by decide +kernel
theorem u5_69 : zEv sc 5 69 [.ref a, l1, l2, l3, l4] [t0] h Q ↔ zEv sc 5 70 [.ref a, l1, l2, l3, l4] [.ref a, t0] h Q := zE_pure (q := (70, [.ref a, l1, l2, l3, l4], [.ref a, t0])) dz5_69 rfl rfl rfl
theorem dz5_70 : decode (z_code 5) 70 = .ok (.getfield 13, 3) := by decide +kernel
theorem u5_70 (ho : zO a 1) : zEv sc 5 70 [l0, l1, l2, l3, l4] [.ref a, t0] (zst p iv) Q ↔ zEv sc 5 73 [l0, l1, l2, l3, l4] [.int (iv a 1), t0] (zst p iv) Q := zE_gfI dz5_70 (by decide +kernel : z_lk3 zFT (z_cls 5) 13 = some (1, 1, 0, 213)) (by decide +kernel) ho
theorem dz5_73 : decode (z_code 5) 73 = .ok (.if_icmp .ne 13, 3) := by decide +kernel
theorem u5_73 : zEv sc 5 73 [l0, l1, l2, l3, l4] [.int x2, .int x1] h Q ↔ (if ¬ x1 = x2 then zEv sc 5 86 [l0, l1, l2, l3, l4] [] h Q else zEv sc 5 76 [l0, l1, l2, l3, l4] [] h Q) := zE_icP (P := ¬ x1 = x2) inferInstance 86 dz5_73 rfl rfl
theorem dz5_76 : decode (z_code 5) 76 = .ok (.aload_n 0, 1) := by decide +kernel
theorem u5_76 : zEv sc 5 76 [.ref a, l1, l2, l3, l4] [] h Q ↔ zEv sc 5 77 [.ref a, l1, l2, l3, l4] [.ref a] h Q := zE_pure (q := (77, [.ref a, l1, l2, l3, l4], [.ref a])) dz5_76 rfl rfl rfl
theorem dz5_77 : decode (z_code 5) 77 = .ok (.dup, 1) := by decide +kernel
theorem u5_77 : zEv sc 5 77 [l0, l1, l2, l3, l4] [.ref a] h Q ↔ zEv sc 5 78 [l0, l1, l2, l3, l4] [.ref a, .ref a] h Q := zE_pure (q := (78, [l0, l1, l2, l3, l4], [.ref a, .ref a])) dz5_77 rfl rfl rfl
theorem dz5_78 : decode (z_code 5) 78 = .ok (.getfield 16, 3) := by decide +kernel
theorem u5_78 (ho : zO a 1) : zEv sc 5 78 [l0, l1, l2, l3, l4] [.ref a, t0] (zst p iv) Q ↔ zEv sc 5 81 [l0, l1, l2, l3, l4] [.int (iv a 2), t0] (zst p iv) Q := zE_gfI dz5_78 (by decide +kernel : z_lk3 zFT (z_cls 5) 16 = some (1, 2, 0, 214)) (by decide +kernel) ho
theorem dz5_81 : decode (z_code 5) 81 = .ok (.iconst 1, 1) := by decide +kernel
theorem u5_81 : zEv sc 5 81 [l0, l1, l2, l3, l4] [t0, t1] h Q ↔ zEv sc 5 82 [l0, l1, l2, l3, l4] [.int 1, t0, t1] h Q := zE_iconst dz5_81 (by decide +kernel)
theorem dz5_82 : decode (z_code 5) 82 = .ok (.iadd, 1) := by decide +kernel
theorem u5_82 : zEv sc 5 82 [l0, l1, l2, l3, l4] [.int x2, .int x1, t0] h Q ↔ zEv sc 5 83 [l0, l1, l2, l3, l4] [.int (x1 + x2), t0] h Q := zE_pure (q := (83, [l0, l1, l2, l3, l4], [.int (x1 + x2), t0])) dz5_82 rfl rfl rfl
theorem dz5_83 : decode (z_code 5) 83 = .ok (.putfield 16, 3) := by decide +kernel
theorem u5_83 (ho : zO a 1) : zEv sc 5 83 [l0, l1, l2, l3, l4] [.int x, .ref a] (zst p iv) Q ↔ zEv sc 5 86 [l0, l1, l2, l3, l4] [] (zst p (w2 iv a 2 x)) Q := zE_pfI dz5_83 (by decide +kernel : z_lk3 zFT (z_cls 5) 16 = some (1, 2, 0, 214)) (by decide +kernel) (by decide +kernel) (by decide +kernel) ho
theorem dz5_86 : decode (z_code 5) 86 = .ok (.iinc 3 1, 3) := by decide +kernel
theorem u5_86 : zEv sc 5 86 [l0, l1, l2, .int x, l4] [] h Q ↔ zEv sc 5 89 [l0, l1, l2, .int (x + 1), l4] [] h Q := zE_iinc (ls2 := [l0, l1, l2, .int (x + 1), l4]) dz5_86 (by decide +kernel) rfl (by simp) rfl
theorem dz5_89 : decode (z_code 5) 89 = .ok (.goto (-82), 3) := by decide +kernel
theorem u5_89 : zEv sc 5 89 [l0, l1, l2, l3, l4] [] h Q ↔ zEv sc 5 7 [l0, l1, l2, l3, l4] [] h Q := zE_go 7 dz5_89 rfl
theorem dz5_43 : decode (z_code 5) 43 = .ok (.aload_n 0, 1) := by decide +kernel
theorem u5_43 : zEv sc 5 43 [.ref a, l1, l2, l3, l4] [] h Q ↔ zEv sc 5 44 [.ref a, l1, l2, l3, l4] [.ref a] h Q := zE_pure (q := (44, [.ref a, l1, l2, l3, l4], [.ref a])) dz5_43 rfl rfl rfl
theorem dz5_44 : decode (z_code 5) 44 = .ok (.aload_n 1, 1) := by decide +kernel
theorem u5_44 : zEv sc 5 44 [l0, .ref a, l2, l3, l4] [t0] h Q ↔ zEv sc 5 45 [l0, .ref a, l2, l3, l4] [.ref a, t0] h Q := zE_pure (q := (45, [l0, .ref a, l2, l3, l4], [.ref a, t0])) dz5_44 rfl rfl rfl
theorem dz5_45 : decode (z_code 5) 45 = .ok (.getfield 24, 3) := by decide +kernel
theorem u5_45 (ho : zO a 0) : zEv sc 5 45 [l0, l1, l2, l3, l4] [.ref a, t0] (zst p iv) Q ↔ zRef (zRV p a 1) (fun j => zEv sc 5 48 [l0, l1, l2, l3, l4] [.ref j, t0] (zst p iv) Q) := zE_gfR dz5_45 (by decide +kernel : z_lk3 zFT (z_cls 5) 24 = some (0, 1, 1, 179)) (by decide +kernel) ho
theorem dz5_48 : decode (z_code 5) 48 = .ok (.iload_n 3, 1) := by decide +kernel
theorem u5_48 : zEv sc 5 48 [l0, l1, l2, .int x, l4] [t0, t1] h Q ↔ zEv sc 5 49 [l0, l1, l2, .int x, l4] [.int x, t0, t1] h Q := zE_pure (q := (49, [l0, l1, l2, .int x, l4], [.int x, t0, t1])) dz5_48 rfl rfl rfl
theorem dz5_49 : decode (z_code 5) 49 = .ok (.iaload, 1) := by decide +kernel
theorem u5_49 (ho : zO a 100) : zEv sc 5 49 [l0, l1, l2, l3, l4] [.int x, .ref a, t0] (zst p iv) Q ↔ (vp_in x (zLn a) ∧ zEv sc 5 50 [l0, l1, l2, l3, l4] [.int (iv a x.toNatClampNeg), t0] (zst p iv) Q) := zE_ald (Or.inl ⟨rfl, rfl⟩) dz5_49 ho
theorem dz5_50 : decode (z_code 5) 50 = .ok (.putfield 7, 3) := by decide +kernel
theorem u5_50 (ho : zO a 1) : zEv sc 5 50 [l0, l1, l2, l3, l4] [.int x, .ref a] (zst p iv) Q ↔ zEv sc 5 53 [l0, l1, l2, l3, l4] [] (zst p (w2 iv a 0 x)) Q := zE_pfI dz5_50 (by decide +kernel : z_lk3 zFT (z_cls 5) 7 = some (1, 0, 0, 211)) (by decide +kernel) (by decide +kernel) (by decide +kernel) ho
theorem dz5_53 : decode (z_code 5) 53 = .ok (.aload_n 0, 1) := by decide +kernel
theorem u5_53 : zEv sc 5 53 [.ref a, l1, l2, l3, l4] [] h Q ↔ zEv sc 5 54 [.ref a, l1, l2, l3, l4] [.ref a] h Q := zE_pure (q := (54, [.ref a, l1, l2, l3, l4], [.ref a])) dz5_53 rfl rfl rfl
theorem dz5_54 : decode (z_code 5) 54 = .ok (.iload 4, 2) := by decide +kernel
theorem u5_54 : zEv sc 5 54 [l0, l1, l2, l3, .int x] [t0] h Q ↔ zEv sc 5 56 [l0, l1, l2, l3, .int x] [.int x, t0] h Q := zE_pure (q := (56, [l0, l1, l2, l3, .int x], [.int x, t0])) dz5_54 rfl rfl rfl
theorem dz5_56 : decode (z_code 5) 56 = .ok (.putfield 13, 3) := by decide +kernel
theorem u5_56 (ho : zO a 1) : zEv sc 5 56 [l0, l1, l2, l3, l4] [.int x, .ref a] (zst p iv) Q ↔ zEv sc 5 59 [l0, l1, l2, l3, l4] [] (zst p (w2 iv a 1 x)) Q := zE_pfI dz5_56 (by decide +kernel : z_lk3 zFT (z_cls 5) 13 = some (1, 1, 0, 213)) (by decide +kernel) (by decide +kernel) (by decide +kernel) ho
theorem dz5_59 : decode (z_code 5) 59 = .ok (.aload_n 0, 1) := by decide +kernel
theorem u5_59 : zEv sc 5 59 [.ref a, l1, l2, l3, l4] [] h Q ↔ zEv sc 5 60 [.ref a, l1, l2, l3, l4] [.ref a] h Q := zE_pure (q := (60, [.ref a, l1, l2, l3, l4], [.ref a])) dz5_59 rfl rfl rfl
theorem dz5_60 : decode (z_code 5) 60 = .ok (.iconst 1, 1) := by decide +kernel
theorem u5_60 : zEv sc 5 60 [l0, l1, l2, l3, l4] [t0] h Q ↔ zEv sc 5 61 [l0, l1, l2, l3, l4] [.int 1, t0] h Q := zE_iconst dz5_60 (by decide +kernel)
theorem dz5_61 : decode (z_code 5) 61 = .ok (.putfield 16, 3) := by decide +kernel
theorem u5_61 (ho : zO a 1) : zEv sc 5 61 [l0, l1, l2, l3, l4] [.int x, .ref a] (zst p iv) Q ↔ zEv sc 5 64 [l0, l1, l2, l3, l4] [] (zst p (w2 iv a 2 x)) Q := zE_pfI dz5_61 (by decide +kernel : z_lk3 zFT (z_cls 5) 16 = some (1, 2, 0, 214)) (by decide +kernel) (by decide +kernel) (by decide +kernel) ho
theorem dz5_64 : decode (z_code 5) 64 = .ok (.goto 22, 3) := by decide +kernel
theorem u5_64 : zEv sc 5 64 [l0, l1, l2, l3, l4] [] h Q ↔ zEv sc 5 86 [l0, l1, l2, l3, l4] [] h Q := zE_go 86 dz5_64 rfl
theorem dz5_92 : decode (z_code 5) 92 = .ok (.return_, 1) := by decide +kernel
theorem u5_92 : zEv sc 5 92 [l0, l1, l2, l3, l4] [] h Q ↔ Q none h := zE_rv dz5_92 (by decide +kernel)
/-! method 8: FieldMixtures$Side.resetBounds()V -/
theorem dz8_0 : decode (z_code 8) 0 = .ok (.iconst 0, 1) := by decide +kernel
theorem u8_0 : zEv sc 8 0 [l0, l1] [] h Q ↔ zEv sc 8 1 [l0, l1] [.int 0] h Q := zE_iconst dz8_0 (by decide +kernel)
theorem dz8_1 : decode (z_code 8) 1 = .ok (.istore_n 1, 1) := by decide +kernel
theorem u8_1 : zEv sc 8 1 [l0, l1] [.int x] h Q ↔ zEv sc 8 2 [l0, .int x] [] h Q := zE_pure (q := (2, [l0, .int x], [])) dz8_1 rfl rfl rfl
theorem dz8_2 : decode (z_code 8) 2 = .ok (.iload_n 1, 1) := by decide +kernel
theorem u8_2 : zEv sc 8 2 [l0, .int x] [] h Q ↔ zEv sc 8 3 [l0, .int x] [.int x] h Q := zE_pure (q := (3, [l0, .int x], [.int x])) dz8_2 rfl rfl rfl
theorem dz8_3 : decode (z_code 8) 3 = .ok (.iconst 4, 1) := by decide +kernel
theorem u8_3 : zEv sc 8 3 [l0, l1] [t0] h Q ↔ zEv sc 8 4 [l0, l1] [.int 4, t0] h Q := zE_iconst dz8_3 (by decide +kernel)
theorem dz8_4 : decode (z_code 8) 4 = .ok (.if_icmp .ge 17, 3) := by decide +kernel
theorem u8_4 : zEv sc 8 4 [l0, l1] [.int x2, .int x1] h Q ↔ (if x2 ≤ x1 then zEv sc 8 21 [l0, l1] [] h Q else zEv sc 8 7 [l0, l1] [] h Q) := zE_icP (P := x2 ≤ x1) inferInstance 21 dz8_4 rfl rfl
theorem dz8_7 : decode (z_code 8) 7 = .ok (.aload_n 0, 1) := by decide +kernel
theorem u8_7 : zEv sc 8 7 [.ref a, l1] [] h Q ↔ zEv sc 8 8 [.ref a, l1] [.ref a] h Q := zE_pure (q := (8, [.ref a, l1], [.ref a])) dz8_7 rfl rfl rfl
theorem dz8_8 : decode (z_code 8) 8 = .ok (.getfield 15, 3) := by decide +kernel
theorem u8_8 (ho : zO a 6) : zEv sc 8 8 [l0, l1] [.ref a] (zst p iv) Q ↔ zRef (zRV p a 1) (fun j => zEv sc 8 11 [l0, l1] [.ref j] (zst p iv) Q) := zE_gfR dz8_8 (by decide +kernel : z_lk3 zFT (z_cls 8) 15 = some (6, 1, 0, 108)) (by decide +kernel) ho
theorem dz8_11 : decode (z_code 8) 11 = .ok (.iload_n 1, 1) := by decide +kernel
theorem u8_11 : zEv sc 8 11 [l0, .int x] [t0] h Q ↔ zEv sc 8 12 [l0, .int x] [.int x, t0] h Q := zE_pure (q := (12, [l0, .int x], [.int x, t0])) dz8_11 rfl rfl rfl
theorem dz8_12 : decode (z_code 8) 12 = .ok (.bipush 8, 2) := by decide +kernel
theorem u8_12 : zEv sc 8 12 [l0, l1] [t0, t1] h Q ↔ zEv sc 8 14 [l0, l1] [.int 8, t0, t1] h Q := zE_bipush dz8_12 (by decide +kernel)
theorem dz8_14 : decode (z_code 8) 14 = .ok (.iastore, 1) := by decide +kernel
theorem u8_14 (ho : zO a 100) : zEv sc 8 14 [l0, l1] [.int x2, .int x1, .ref a] (zst p iv) Q ↔ (vp_in x1 (zLn a) ∧ zEv sc 8 15 [l0, l1] [] (zst p (w2 iv a x1.toNatClampNeg x2)) Q) := zE_ast (Or.inl ⟨rfl, rfl, rfl⟩) dz8_14 ho
theorem dz8_15 : decode (z_code 8) 15 = .ok (.iinc 1 1, 3) := by decide +kernel
theorem u8_15 : zEv sc 8 15 [l0, .int x] [] h Q ↔ zEv sc 8 18 [l0, .int (x + 1)] [] h Q := zE_iinc (ls2 := [l0, .int (x + 1)]) dz8_15 (by decide +kernel) rfl (by simp) rfl
theorem dz8_18 : decode (z_code 8) 18 = .ok (.goto (-16), 3) := by decide +kernel
theorem u8_18 : zEv sc 8 18 [l0, l1] [] h Q ↔ zEv sc 8 2 [l0, l1] [] h Q := zE_go 2 dz8_18 rfl
theorem dz8_21 : decode (z_code 8) 21 = .ok (.return_, 1) := by decide +kernel
theorem u8_21 : zEv sc 8 21 [l0, l1] [] h Q ↔ Q none h := zE_rv dz8_21 (by decide +kernel)
/-! method 9: FieldMixtures$Contest.startWith(I)V -/
theorem dz9_0 : decode (z_code 9) 0 = .ok (.iload_n 1, 1) := by decide +kernel
theorem u9_0 : zEv sc 9 0 [l0, .int x, l2] [] h Q ↔ zEv sc 9 1 [l0, .int x, l2] [.int x] h Q := zE_pure (q := (1, [l0, .int x, l2], [.int x])) dz9_0 rfl rfl rfl
theorem dz9_1 : decode (z_code 9) 1 = .ok (.aload_n 0, 1) := by decide +kernel
theorem u9_1 : zEv sc 9 1 [.ref a, l1, l2] [t0] h Q ↔ zEv sc 9 2 [.ref a, l1, l2] [.ref a, t0] h Q := zE_pure (q := (2, [.ref a, l1, l2], [.ref a, t0])) dz9_1 rfl rfl rfl
theorem dz9_2 : decode (z_code 9) 2 = .ok (.getfield 25, 3) := by decide +kernel
theorem u9_2 (ho : zO a 2) : zEv sc 9 2 [l0, l1, l2] [.ref a, t0] (zst p iv) Q ↔ zEv sc 9 5 [l0, l1, l2] [.int (iv a 0), t0] (zst p iv) Q := zE_gfI dz9_2 (by decide +kernel : z_lk3 zFT (z_cls 9) 25 = some (2, 0, 0, 130)) (by decide +kernel) ho
theorem dz9_5 : decode (z_code 9) 5 = .ok (.if_icmp .eq 25, 3) := by decide +kernel
theorem u9_5 : zEv sc 9 5 [l0, l1, l2] [.int x2, .int x1] h Q ↔ (if x1 = x2 then zEv sc 9 30 [l0, l1, l2] [] h Q else zEv sc 9 8 [l0, l1, l2] [] h Q) := zE_icP (P := x1 = x2) inferInstance 30 dz9_5 rfl rfl
theorem dz9_8 : decode (z_code 9) 8 = .ok (.aload_n 0, 1) := by decide +kernel
theorem u9_8 : zEv sc 9 8 [.ref a, l1, l2] [] h Q ↔ zEv sc 9 9 [.ref a, l1, l2] [.ref a] h Q := zE_pure (q := (9, [.ref a, l1, l2], [.ref a])) dz9_8 rfl rfl rfl
theorem dz9_9 : decode (z_code 9) 9 = .ok (.getfield 18, 3) := by decide +kernel
theorem u9_9 (ho : zO a 2) : zEv sc 9 9 [l0, l1, l2] [.ref a] (zst p iv) Q ↔ zRef (zRV p a 3) (fun j => zEv sc 9 12 [l0, l1, l2] [.ref j] (zst p iv) Q) := zE_gfR dz9_9 (by decide +kernel : z_lk3 zFT (z_cls 9) 18 = some (2, 3, 0, 139)) (by decide +kernel) ho
theorem dz9_12 : decode (z_code 9) 12 = .ok (.getfield 36, 3) := by decide +kernel
theorem u9_12 (ho : zO a 6) : zEv sc 9 12 [l0, l1, l2] [.ref a] (zst p iv) Q ↔ zRef (zRV p a 2) (fun j => zEv sc 9 15 [l0, l1, l2] [.ref j] (zst p iv) Q) := zE_gfR dz9_12 (by decide +kernel : z_lk3 zFT (z_cls 9) 36 = some (6, 2, 1, 112)) (by decide +kernel) ho
theorem dz9_15 : decode (z_code 9) 15 = .ok (.iconst 0, 1) := by decide +kernel
theorem u9_15 : zEv sc 9 15 [l0, l1, l2] [t0] h Q ↔ zEv sc 9 16 [l0, l1, l2] [.int 0, t0] h Q := zE_iconst dz9_15 (by decide +kernel)
theorem dz9_16 : decode (z_code 9) 16 = .ok (.putfield 40, 3) := by decide +kernel
theorem u9_16 (ho : zO a 4) : zEv sc 9 16 [l0, l1, l2] [.int x, .ref a] (zst p iv) Q ↔ zEv sc 9 19 [l0, l1, l2] [] (zst p (w2 iv a 0 x)) Q := zE_pfI dz9_16 (by decide +kernel : z_lk3 zFT (z_cls 9) 40 = some (4, 0, 1, 86)) (by decide +kernel) (by decide +kernel) (by decide +kernel) ho
theorem dz9_19 : decode (z_code 9) 19 = .ok (.aload_n 0, 1) := by decide +kernel
theorem u9_19 : zEv sc 9 19 [.ref a, l1, l2] [] h Q ↔ zEv sc 9 20 [.ref a, l1, l2] [.ref a] h Q := zE_pure (q := (20, [.ref a, l1, l2], [.ref a])) dz9_19 rfl rfl rfl
theorem dz9_20 : decode (z_code 9) 20 = .ok (.getfield 22, 3) := by decide +kernel
theorem u9_20 (ho : zO a 2) : zEv sc 9 20 [l0, l1, l2] [.ref a] (zst p iv) Q ↔ zRef (zRV p a 4) (fun j => zEv sc 9 23 [l0, l1, l2] [.ref j] (zst p iv) Q) := zE_gfR dz9_20 (by decide +kernel : z_lk3 zFT (z_cls 9) 22 = some (2, 4, 0, 140)) (by decide +kernel) ho
theorem dz9_23 : decode (z_code 9) 23 = .ok (.getfield 36, 3) := by decide +kernel
theorem u9_23 (ho : zO a 6) : zEv sc 9 23 [l0, l1, l2] [.ref a] (zst p iv) Q ↔ zRef (zRV p a 2) (fun j => zEv sc 9 26 [l0, l1, l2] [.ref j] (zst p iv) Q) := zE_gfR dz9_23 (by decide +kernel : z_lk3 zFT (z_cls 9) 36 = some (6, 2, 1, 112)) (by decide +kernel) ho
theorem dz9_26 : decode (z_code 9) 26 = .ok (.iconst 0, 1) := by decide +kernel
theorem u9_26 : zEv sc 9 26 [l0, l1, l2] [t0] h Q ↔ zEv sc 9 27 [l0, l1, l2] [.int 0, t0] h Q := zE_iconst dz9_26 (by decide +kernel)
theorem dz9_27 : decode (z_code 9) 27 = .ok (.putfield 40, 3) := by decide +kernel
theorem u9_27 (ho : zO a 4) : zEv sc 9 27 [l0, l1, l2] [.int x, .ref a] (zst p iv) Q ↔ zEv sc 9 30 [l0, l1, l2] [] (zst p (w2 iv a 0 x)) Q := zE_pfI dz9_27 (by decide +kernel : z_lk3 zFT (z_cls 9) 40 = some (4, 0, 1, 86)) (by decide +kernel) (by decide +kernel) (by decide +kernel) ho
theorem dz9_30 : decode (z_code 9) 30 = .ok (.aload_n 0, 1) := by decide +kernel
theorem u9_30 : zEv sc 9 30 [.ref a, l1, l2] [] h Q ↔ zEv sc 9 31 [.ref a, l1, l2] [.ref a] h Q := zE_pure (q := (31, [.ref a, l1, l2], [.ref a])) dz9_30 rfl rfl rfl
theorem dz9_31 : decode (z_code 9) 31 = .ok (.iload_n 1, 1) := by decide +kernel
theorem u9_31 : zEv sc 9 31 [l0, .int x, l2] [t0] h Q ↔ zEv sc 9 32 [l0, .int x, l2] [.int x, t0] h Q := zE_pure (q := (32, [l0, .int x, l2], [.int x, t0])) dz9_31 rfl rfl rfl
theorem dz9_32 : decode (z_code 9) 32 = .ok (.putfield 25, 3) := by decide +kernel
theorem u9_32 (ho : zO a 2) : zEv sc 9 32 [l0, l1, l2] [.int x, .ref a] (zst p iv) Q ↔ zEv sc 9 35 [l0, l1, l2] [] (zst p (w2 iv a 0 x)) Q := zE_pfI dz9_32 (by decide +kernel : z_lk3 zFT (z_cls 9) 25 = some (2, 0, 0, 130)) (by decide +kernel) (by decide +kernel) (by decide +kernel) ho
theorem dz9_35 : decode (z_code 9) 35 = .ok (.iconst 0, 1) := by decide +kernel
theorem u9_35 : zEv sc 9 35 [l0, l1, l2] [] h Q ↔ zEv sc 9 36 [l0, l1, l2] [.int 0] h Q := zE_iconst dz9_35 (by decide +kernel)
theorem dz9_36 : decode (z_code 9) 36 = .ok (.istore_n 2, 1) := by decide +kernel
theorem u9_36 : zEv sc 9 36 [l0, l1, l2] [.int x] h Q ↔ zEv sc 9 37 [l0, l1, .int x] [] h Q := zE_pure (q := (37, [l0, l1, .int x], [])) dz9_36 rfl rfl rfl
theorem dz9_37 : decode (z_code 9) 37 = .ok (.iload_n 2, 1) := by decide +kernel
theorem u9_37 : zEv sc 9 37 [l0, l1, .int x] [] h Q ↔ zEv sc 9 38 [l0, l1, .int x] [.int x] h Q := zE_pure (q := (38, [l0, l1, .int x], [.int x])) dz9_37 rfl rfl rfl
theorem dz9_38 : decode (z_code 9) 38 = .ok (.iconst 4, 1) := by decide +kernel
theorem u9_38 : zEv sc 9 38 [l0, l1, l2] [t0] h Q ↔ zEv sc 9 39 [l0, l1, l2] [.int 4, t0] h Q := zE_iconst dz9_38 (by decide +kernel)
theorem dz9_39 : decode (z_code 9) 39 = .ok (.if_icmp .ge 16, 3) := by decide +kernel
theorem u9_39 : zEv sc 9 39 [l0, l1, l2] [.int x2, .int x1] h Q ↔ (if x2 ≤ x1 then zEv sc 9 55 [l0, l1, l2] [] h Q else zEv sc 9 42 [l0, l1, l2] [] h Q) := zE_icP (P := x2 ≤ x1) inferInstance 55 dz9_39 rfl rfl
theorem dz9_42 : decode (z_code 9) 42 = .ok (.aload_n 0, 1) := by decide +kernel
theorem u9_42 : zEv sc 9 42 [.ref a, l1, l2] [] h Q ↔ zEv sc 9 43 [.ref a, l1, l2] [.ref a] h Q := zE_pure (q := (43, [.ref a, l1, l2], [.ref a])) dz9_42 rfl rfl rfl
theorem dz9_43 : decode (z_code 9) 43 = .ok (.getfield 9, 3) := by decide +kernel
theorem u9_43 (ho : zO a 2) : zEv sc 9 43 [l0, l1, l2] [.ref a] (zst p iv) Q ↔ zRef (zRV p a 2) (fun j => zEv sc 9 46 [l0, l1, l2] [.ref j] (zst p iv) Q) := zE_gfR dz9_43 (by decide +kernel : z_lk3 zFT (z_cls 9) 9 = some (2, 2, 0, 136)) (by decide +kernel) ho
theorem dz9_46 : decode (z_code 9) 46 = .ok (.iload_n 2, 1) := by decide +kernel
theorem u9_46 : zEv sc 9 46 [l0, l1, .int x] [t0] h Q ↔ zEv sc 9 47 [l0, l1, .int x] [.int x, t0] h Q := zE_pure (q := (47, [l0, l1, .int x], [.int x, t0])) dz9_46 rfl rfl rfl
theorem dz9_47 : decode (z_code 9) 47 = .ok (.iconst 1, 1) := by decide +kernel
theorem u9_47 : zEv sc 9 47 [l0, l1, l2] [t0, t1] h Q ↔ zEv sc 9 48 [l0, l1, l2] [.int 1, t0, t1] h Q := zE_iconst dz9_47 (by decide +kernel)
theorem dz9_48 : decode (z_code 9) 48 = .ok (.iastore, 1) := by decide +kernel
theorem u9_48 (ho : zO a 100) : zEv sc 9 48 [l0, l1, l2] [.int x2, .int x1, .ref a] (zst p iv) Q ↔ (vp_in x1 (zLn a) ∧ zEv sc 9 49 [l0, l1, l2] [] (zst p (w2 iv a x1.toNatClampNeg x2)) Q) := zE_ast (Or.inl ⟨rfl, rfl, rfl⟩) dz9_48 ho
theorem dz9_49 : decode (z_code 9) 49 = .ok (.iinc 2 1, 3) := by decide +kernel
theorem u9_49 : zEv sc 9 49 [l0, l1, .int x] [] h Q ↔ zEv sc 9 52 [l0, l1, .int (x + 1)] [] h Q := zE_iinc (ls2 := [l0, l1, .int (x + 1)]) dz9_49 (by decide +kernel) rfl (by simp) rfl
theorem dz9_52 : decode (z_code 9) 52 = .ok (.goto (-15), 3) := by decide +kernel
theorem u9_52 : zEv sc 9 52 [l0, l1, l2] [] h Q ↔ zEv sc 9 37 [l0, l1, l2] [] h Q := zE_go 37 dz9_52 rfl
theorem dz9_55 : decode (z_code 9) 55 = .ok (.aload_n 0, 1) := by decide +kernel
theorem u9_55 : zEv sc 9 55 [.ref a, l1, l2] [] h Q ↔ zEv sc 9 56 [.ref a, l1, l2] [.ref a] h Q := zE_pure (q := (56, [.ref a, l1, l2], [.ref a])) dz9_55 rfl rfl rfl
theorem dz9_56 : decode (z_code 9) 56 = .ok (.getfield 18, 3) := by decide +kernel
theorem u9_56 (ho : zO a 2) : zEv sc 9 56 [l0, l1, l2] [.ref a] (zst p iv) Q ↔ zRef (zRV p a 3) (fun j => zEv sc 9 59 [l0, l1, l2] [.ref j] (zst p iv) Q) := zE_gfR dz9_56 (by decide +kernel : z_lk3 zFT (z_cls 9) 18 = some (2, 3, 0, 139)) (by decide +kernel) ho
theorem dz9_59 : decode (z_code 9) 59 = .ok (.invokevirtual 45, 3) := by decide +kernel
theorem u9_59 (ho : zO a 6) : zEv sc 9 59 [l0, l1, l2] [.ref a] (zst p iv) Q ↔ zEv sc 8 0 [.ref a, .null] [] (zst p iv) (fun r h9 => zEv sc 9 62 [l0, l1, l2] (r.toList ++ []) h9 Q) := zE_call (kd := 0) (na := 1) (nr := 0) (as := [.ref a]) (rest := []) (Or.inl ⟨rfl, rfl⟩) dz9_59 (by decide +kernel : z_lk2 zCT (z_cls 9) 45 = some (8, 1, 126)) (fun z => by cases z) rfl rfl rfl (by decide +kernel) rfl rfl (Or.inr (zE_rc ho))
theorem dz9_62 : decode (z_code 9) 62 = .ok (.aload_n 0, 1) := by decide +kernel
theorem u9_62 : zEv sc 9 62 [.ref a, l1, l2] [] h Q ↔ zEv sc 9 63 [.ref a, l1, l2] [.ref a] h Q := zE_pure (q := (63, [.ref a, l1, l2], [.ref a])) dz9_62 rfl rfl rfl
theorem dz9_63 : decode (z_code 9) 63 = .ok (.getfield 22, 3) := by decide +kernel
theorem u9_63 (ho : zO a 2) : zEv sc 9 63 [l0, l1, l2] [.ref a] (zst p iv) Q ↔ zRef (zRV p a 4) (fun j => zEv sc 9 66 [l0, l1, l2] [.ref j] (zst p iv) Q) := zE_gfR dz9_63 (by decide +kernel : z_lk3 zFT (z_cls 9) 22 = some (2, 4, 0, 140)) (by decide +kernel) ho
theorem dz9_66 : decode (z_code 9) 66 = .ok (.invokevirtual 45, 3) := by decide +kernel
theorem u9_66 (ho : zO a 6) : zEv sc 9 66 [l0, l1, l2] [.ref a] (zst p iv) Q ↔ zEv sc 8 0 [.ref a, .null] [] (zst p iv) (fun r h9 => zEv sc 9 69 [l0, l1, l2] (r.toList ++ []) h9 Q) := zE_call (kd := 0) (na := 1) (nr := 0) (as := [.ref a]) (rest := []) (Or.inl ⟨rfl, rfl⟩) dz9_66 (by decide +kernel : z_lk2 zCT (z_cls 9) 45 = some (8, 1, 126)) (fun z => by cases z) rfl rfl rfl (by decide +kernel) rfl rfl (Or.inr (zE_rc ho))
theorem dz9_69 : decode (z_code 9) 69 = .ok (.return_, 1) := by decide +kernel
theorem u9_69 : zEv sc 9 69 [l0, l1, l2] [] h Q ↔ Q none h := zE_rv dz9_69 (by decide +kernel)
/-! method 11: FieldMixtures$Mixture.copyFrom(LFieldMixtures$Mixture;)V -/
theorem dz11_0 : decode (z_code 11) 0 = .ok (.aload_n 0, 1) := by decide +kernel
theorem u11_0 : zEv sc 11 0 [.ref a, l1, l2] [] h Q ↔ zEv sc 11 1 [.ref a, l1, l2] [.ref a] h Q := zE_pure (q := (1, [.ref a, l1, l2], [.ref a])) dz11_0 rfl rfl rfl
theorem dz11_1 : decode (z_code 11) 1 = .ok (.aload_n 1, 1) := by decide +kernel
theorem u11_1 : zEv sc 11 1 [l0, .ref a, l2] [t0] h Q ↔ zEv sc 11 2 [l0, .ref a, l2] [.ref a, t0] h Q := zE_pure (q := (2, [l0, .ref a, l2], [.ref a, t0])) dz11_1 rfl rfl rfl
theorem dz11_2 : decode (z_code 11) 2 = .ok (.getfield 18, 3) := by decide +kernel
theorem u11_2 (ho : zO a 4) : zEv sc 11 2 [l0, l1, l2] [.ref a, t0] (zst p iv) Q ↔ zEv sc 11 5 [l0, l1, l2] [.int (iv a 0), t0] (zst p iv) Q := zE_gfI dz11_2 (by decide +kernel : z_lk3 zFT (z_cls 11) 18 = some (4, 0, 0, 85)) (by decide +kernel) ho
theorem dz11_5 : decode (z_code 11) 5 = .ok (.putfield 18, 3) := by decide +kernel
theorem u11_5 (ho : zO a 4) : zEv sc 11 5 [l0, l1, l2] [.int x, .ref a] (zst p iv) Q ↔ zEv sc 11 8 [l0, l1, l2] [] (zst p (w2 iv a 0 x)) Q := zE_pfI dz11_5 (by decide +kernel : z_lk3 zFT (z_cls 11) 18 = some (4, 0, 0, 85)) (by decide +kernel) (by decide +kernel) (by decide +kernel) ho
theorem dz11_8 : decode (z_code 11) 8 = .ok (.iconst 0, 1) := by decide +kernel
theorem u11_8 : zEv sc 11 8 [l0, l1, l2] [] h Q ↔ zEv sc 11 9 [l0, l1, l2] [.int 0] h Q := zE_iconst dz11_8 (by decide +kernel)
theorem dz11_9 : decode (z_code 11) 9 = .ok (.istore_n 2, 1) := by decide +kernel
theorem u11_9 : zEv sc 11 9 [l0, l1, l2] [.int x] h Q ↔ zEv sc 11 10 [l0, l1, .int x] [] h Q := zE_pure (q := (10, [l0, l1, .int x], [])) dz11_9 rfl rfl rfl
theorem dz11_10 : decode (z_code 11) 10 = .ok (.iload_n 2, 1) := by decide +kernel
theorem u11_10 : zEv sc 11 10 [l0, l1, .int x] [] h Q ↔ zEv sc 11 11 [l0, l1, .int x] [.int x] h Q := zE_pure (q := (11, [l0, l1, .int x], [.int x])) dz11_10 rfl rfl rfl
theorem dz11_11 : decode (z_code 11) 11 = .ok (.bipush 12, 2) := by decide +kernel
theorem u11_11 : zEv sc 11 11 [l0, l1, l2] [t0] h Q ↔ zEv sc 11 13 [l0, l1, l2] [.int 12, t0] h Q := zE_bipush dz11_11 (by decide +kernel)
theorem dz11_13 : decode (z_code 11) 13 = .ok (.if_icmp .ge 33, 3) := by decide +kernel
theorem u11_13 : zEv sc 11 13 [l0, l1, l2] [.int x2, .int x1] h Q ↔ (if x2 ≤ x1 then zEv sc 11 46 [l0, l1, l2] [] h Q else zEv sc 11 16 [l0, l1, l2] [] h Q) := zE_icP (P := x2 ≤ x1) inferInstance 46 dz11_13 rfl rfl
theorem dz11_16 : decode (z_code 11) 16 = .ok (.aload_n 0, 1) := by decide +kernel
theorem u11_16 : zEv sc 11 16 [.ref a, l1, l2] [] h Q ↔ zEv sc 11 17 [.ref a, l1, l2] [.ref a] h Q := zE_pure (q := (17, [.ref a, l1, l2], [.ref a])) dz11_16 rfl rfl rfl
theorem dz11_17 : decode (z_code 11) 17 = .ok (.getfield 9, 3) := by decide +kernel
theorem u11_17 (ho : zO a 4) : zEv sc 11 17 [l0, l1, l2] [.ref a] (zst p iv) Q ↔ zRef (zRV p a 1) (fun j => zEv sc 11 20 [l0, l1, l2] [.ref j] (zst p iv) Q) := zE_gfR dz11_17 (by decide +kernel : z_lk3 zFT (z_cls 11) 9 = some (4, 1, 0, 90)) (by decide +kernel) ho
theorem dz11_20 : decode (z_code 11) 20 = .ok (.iload_n 2, 1) := by decide +kernel
theorem u11_20 : zEv sc 11 20 [l0, l1, .int x] [t0] h Q ↔ zEv sc 11 21 [l0, l1, .int x] [.int x, t0] h Q := zE_pure (q := (21, [l0, l1, .int x], [.int x, t0])) dz11_20 rfl rfl rfl
theorem dz11_21 : decode (z_code 11) 21 = .ok (.aload_n 1, 1) := by decide +kernel
theorem u11_21 : zEv sc 11 21 [l0, .ref a, l2] [t0, t1] h Q ↔ zEv sc 11 22 [l0, .ref a, l2] [.ref a, t0, t1] h Q := zE_pure (q := (22, [l0, .ref a, l2], [.ref a, t0, t1])) dz11_21 rfl rfl rfl
theorem dz11_22 : decode (z_code 11) 22 = .ok (.getfield 9, 3) := by decide +kernel
theorem u11_22 (ho : zO a 4) : zEv sc 11 22 [l0, l1, l2] [.ref a, t0, t1] (zst p iv) Q ↔ zRef (zRV p a 1) (fun j => zEv sc 11 25 [l0, l1, l2] [.ref j, t0, t1] (zst p iv) Q) := zE_gfR dz11_22 (by decide +kernel : z_lk3 zFT (z_cls 11) 9 = some (4, 1, 0, 90)) (by decide +kernel) ho
theorem dz11_25 : decode (z_code 11) 25 = .ok (.iload_n 2, 1) := by decide +kernel
theorem u11_25 : zEv sc 11 25 [l0, l1, .int x] [t0, t1, t2] h Q ↔ zEv sc 11 26 [l0, l1, .int x] [.int x, t0, t1, t2] h Q := zE_pure (q := (26, [l0, l1, .int x], [.int x, t0, t1, t2])) dz11_25 rfl rfl rfl
theorem dz11_26 : decode (z_code 11) 26 = .ok (.iaload, 1) := by decide +kernel
theorem u11_26 (ho : zO a 100) : zEv sc 11 26 [l0, l1, l2] [.int x, .ref a, t0, t1] (zst p iv) Q ↔ (vp_in x (zLn a) ∧ zEv sc 11 27 [l0, l1, l2] [.int (iv a x.toNatClampNeg), t0, t1] (zst p iv) Q) := zE_ald (Or.inl ⟨rfl, rfl⟩) dz11_26 ho
theorem dz11_27 : decode (z_code 11) 27 = .ok (.iastore, 1) := by decide +kernel
theorem u11_27 (ho : zO a 100) : zEv sc 11 27 [l0, l1, l2] [.int x2, .int x1, .ref a] (zst p iv) Q ↔ (vp_in x1 (zLn a) ∧ zEv sc 11 28 [l0, l1, l2] [] (zst p (w2 iv a x1.toNatClampNeg x2)) Q) := zE_ast (Or.inl ⟨rfl, rfl, rfl⟩) dz11_27 ho
theorem dz11_28 : decode (z_code 11) 28 = .ok (.aload_n 0, 1) := by decide +kernel
theorem u11_28 : zEv sc 11 28 [.ref a, l1, l2] [] h Q ↔ zEv sc 11 29 [.ref a, l1, l2] [.ref a] h Q := zE_pure (q := (29, [.ref a, l1, l2], [.ref a])) dz11_28 rfl rfl rfl
theorem dz11_29 : decode (z_code 11) 29 = .ok (.getfield 15, 3) := by decide +kernel
theorem u11_29 (ho : zO a 4) : zEv sc 11 29 [l0, l1, l2] [.ref a] (zst p iv) Q ↔ zRef (zRV p a 2) (fun j => zEv sc 11 32 [l0, l1, l2] [.ref j] (zst p iv) Q) := zE_gfR dz11_29 (by decide +kernel : z_lk3 zFT (z_cls 11) 15 = some (4, 2, 0, 94)) (by decide +kernel) ho
theorem dz11_32 : decode (z_code 11) 32 = .ok (.iload_n 2, 1) := by decide +kernel
theorem u11_32 : zEv sc 11 32 [l0, l1, .int x] [t0] h Q ↔ zEv sc 11 33 [l0, l1, .int x] [.int x, t0] h Q := zE_pure (q := (33, [l0, l1, .int x], [.int x, t0])) dz11_32 rfl rfl rfl
theorem dz11_33 : decode (z_code 11) 33 = .ok (.aload_n 1, 1) := by decide +kernel
theorem u11_33 : zEv sc 11 33 [l0, .ref a, l2] [t0, t1] h Q ↔ zEv sc 11 34 [l0, .ref a, l2] [.ref a, t0, t1] h Q := zE_pure (q := (34, [l0, .ref a, l2], [.ref a, t0, t1])) dz11_33 rfl rfl rfl
theorem dz11_34 : decode (z_code 11) 34 = .ok (.getfield 15, 3) := by decide +kernel
theorem u11_34 (ho : zO a 4) : zEv sc 11 34 [l0, l1, l2] [.ref a, t0, t1] (zst p iv) Q ↔ zRef (zRV p a 2) (fun j => zEv sc 11 37 [l0, l1, l2] [.ref j, t0, t1] (zst p iv) Q) := zE_gfR dz11_34 (by decide +kernel : z_lk3 zFT (z_cls 11) 15 = some (4, 2, 0, 94)) (by decide +kernel) ho
theorem dz11_37 : decode (z_code 11) 37 = .ok (.iload_n 2, 1) := by decide +kernel
theorem u11_37 : zEv sc 11 37 [l0, l1, .int x] [t0, t1, t2] h Q ↔ zEv sc 11 38 [l0, l1, .int x] [.int x, t0, t1, t2] h Q := zE_pure (q := (38, [l0, l1, .int x], [.int x, t0, t1, t2])) dz11_37 rfl rfl rfl
theorem dz11_38 : decode (z_code 11) 38 = .ok (.iaload, 1) := by decide +kernel
theorem u11_38 (ho : zO a 100) : zEv sc 11 38 [l0, l1, l2] [.int x, .ref a, t0, t1] (zst p iv) Q ↔ (vp_in x (zLn a) ∧ zEv sc 11 39 [l0, l1, l2] [.int (iv a x.toNatClampNeg), t0, t1] (zst p iv) Q) := zE_ald (Or.inl ⟨rfl, rfl⟩) dz11_38 ho
theorem dz11_39 : decode (z_code 11) 39 = .ok (.iastore, 1) := by decide +kernel
theorem u11_39 (ho : zO a 100) : zEv sc 11 39 [l0, l1, l2] [.int x2, .int x1, .ref a] (zst p iv) Q ↔ (vp_in x1 (zLn a) ∧ zEv sc 11 40 [l0, l1, l2] [] (zst p (w2 iv a x1.toNatClampNeg x2)) Q) := zE_ast (Or.inl ⟨rfl, rfl, rfl⟩) dz11_39 ho
theorem dz11_40 : decode (z_code 11) 40 = .ok (.iinc 2 1, 3) := by decide +kernel
theorem u11_40 : zEv sc 11 40 [l0, l1, .int x] [] h Q ↔ zEv sc 11 43 [l0, l1, .int (x + 1)] [] h Q := zE_iinc (ls2 := [l0, l1, .int (x + 1)]) dz11_40 (by decide +kernel) rfl (by simp) rfl
theorem dz11_43 : decode (z_code 11) 43 = .ok (.goto (-33), 3) := by decide +kernel
theorem u11_43 : zEv sc 11 43 [l0, l1, l2] [] h Q ↔ zEv sc 11 10 [l0, l1, l2] [] h Q := zE_go 10 dz11_43 rfl
theorem dz11_46 : decode (z_code 11) 46 = .ok (.return_, 1) := by decide +kernel
theorem u11_46 : zEv sc 11 46 [l0, l1, l2] [] h Q ↔ Q none h := zE_rv dz11_46 (by decide +kernel)
/-! method 12: FieldMixtures$Side.copyFrom(LFieldMixtures$Side;)V -/
theorem dz12_0 : decode (z_code 12) 0 = .ok (.aload_n 0, 1) := by decide +kernel
theorem u12_0 : zEv sc 12 0 [.ref a, l1, l2] [] h Q ↔ zEv sc 12 1 [.ref a, l1, l2] [.ref a] h Q := zE_pure (q := (1, [.ref a, l1, l2], [.ref a])) dz12_0 rfl rfl rfl
theorem dz12_1 : decode (z_code 12) 1 = .ok (.aload_n 1, 1) := by decide +kernel
theorem u12_1 : zEv sc 12 1 [l0, .ref a, l2] [t0] h Q ↔ zEv sc 12 2 [l0, .ref a, l2] [.ref a, t0] h Q := zE_pure (q := (2, [l0, .ref a, l2], [.ref a, t0])) dz12_1 rfl rfl rfl
theorem dz12_2 : decode (z_code 12) 2 = .ok (.getfield 9, 3) := by decide +kernel
theorem u12_2 (ho : zO a 6) : zEv sc 12 2 [l0, l1, l2] [.ref a, t0] (zst p iv) Q ↔ zEv sc 12 5 [l0, l1, l2] [.int (iv a 0), t0] (zst p iv) Q := zE_gfI dz12_2 (by decide +kernel : z_lk3 zFT (z_cls 12) 9 = some (6, 0, 0, 105)) (by decide +kernel) ho
theorem dz12_5 : decode (z_code 12) 5 = .ok (.putfield 9, 3) := by decide +kernel
theorem u12_5 (ho : zO a 6) : zEv sc 12 5 [l0, l1, l2] [.int x, .ref a] (zst p iv) Q ↔ zEv sc 12 8 [l0, l1, l2] [] (zst p (w2 iv a 0 x)) Q := zE_pfI dz12_5 (by decide +kernel : z_lk3 zFT (z_cls 12) 9 = some (6, 0, 0, 105)) (by decide +kernel) (by decide +kernel) (by decide +kernel) ho
theorem dz12_8 : decode (z_code 12) 8 = .ok (.iconst 0, 1) := by decide +kernel
theorem u12_8 : zEv sc 12 8 [l0, l1, l2] [] h Q ↔ zEv sc 12 9 [l0, l1, l2] [.int 0] h Q := zE_iconst dz12_8 (by decide +kernel)
theorem dz12_9 : decode (z_code 12) 9 = .ok (.istore_n 2, 1) := by decide +kernel
theorem u12_9 : zEv sc 12 9 [l0, l1, l2] [.int x] h Q ↔ zEv sc 12 10 [l0, l1, .int x] [] h Q := zE_pure (q := (10, [l0, l1, .int x], [])) dz12_9 rfl rfl rfl
theorem dz12_10 : decode (z_code 12) 10 = .ok (.iload_n 2, 1) := by decide +kernel
theorem u12_10 : zEv sc 12 10 [l0, l1, .int x] [] h Q ↔ zEv sc 12 11 [l0, l1, .int x] [.int x] h Q := zE_pure (q := (11, [l0, l1, .int x], [.int x])) dz12_10 rfl rfl rfl
theorem dz12_11 : decode (z_code 12) 11 = .ok (.iconst 4, 1) := by decide +kernel
theorem u12_11 : zEv sc 12 11 [l0, l1, l2] [t0] h Q ↔ zEv sc 12 12 [l0, l1, l2] [.int 4, t0] h Q := zE_iconst dz12_11 (by decide +kernel)
theorem dz12_12 : decode (z_code 12) 12 = .ok (.if_icmp .ge 21, 3) := by decide +kernel
theorem u12_12 : zEv sc 12 12 [l0, l1, l2] [.int x2, .int x1] h Q ↔ (if x2 ≤ x1 then zEv sc 12 33 [l0, l1, l2] [] h Q else zEv sc 12 15 [l0, l1, l2] [] h Q) := zE_icP (P := x2 ≤ x1) inferInstance 33 dz12_12 rfl rfl
theorem dz12_15 : decode (z_code 12) 15 = .ok (.aload_n 0, 1) := by decide +kernel
theorem u12_15 : zEv sc 12 15 [.ref a, l1, l2] [] h Q ↔ zEv sc 12 16 [.ref a, l1, l2] [.ref a] h Q := zE_pure (q := (16, [.ref a, l1, l2], [.ref a])) dz12_15 rfl rfl rfl
theorem dz12_16 : decode (z_code 12) 16 = .ok (.getfield 15, 3) := by decide +kernel
theorem u12_16 (ho : zO a 6) : zEv sc 12 16 [l0, l1, l2] [.ref a] (zst p iv) Q ↔ zRef (zRV p a 1) (fun j => zEv sc 12 19 [l0, l1, l2] [.ref j] (zst p iv) Q) := zE_gfR dz12_16 (by decide +kernel : z_lk3 zFT (z_cls 12) 15 = some (6, 1, 0, 108)) (by decide +kernel) ho
theorem dz12_19 : decode (z_code 12) 19 = .ok (.iload_n 2, 1) := by decide +kernel
theorem u12_19 : zEv sc 12 19 [l0, l1, .int x] [t0] h Q ↔ zEv sc 12 20 [l0, l1, .int x] [.int x, t0] h Q := zE_pure (q := (20, [l0, l1, .int x], [.int x, t0])) dz12_19 rfl rfl rfl
theorem dz12_20 : decode (z_code 12) 20 = .ok (.aload_n 1, 1) := by decide +kernel
theorem u12_20 : zEv sc 12 20 [l0, .ref a, l2] [t0, t1] h Q ↔ zEv sc 12 21 [l0, .ref a, l2] [.ref a, t0, t1] h Q := zE_pure (q := (21, [l0, .ref a, l2], [.ref a, t0, t1])) dz12_20 rfl rfl rfl
theorem dz12_21 : decode (z_code 12) 21 = .ok (.getfield 15, 3) := by decide +kernel
theorem u12_21 (ho : zO a 6) : zEv sc 12 21 [l0, l1, l2] [.ref a, t0, t1] (zst p iv) Q ↔ zRef (zRV p a 1) (fun j => zEv sc 12 24 [l0, l1, l2] [.ref j, t0, t1] (zst p iv) Q) := zE_gfR dz12_21 (by decide +kernel : z_lk3 zFT (z_cls 12) 15 = some (6, 1, 0, 108)) (by decide +kernel) ho
theorem dz12_24 : decode (z_code 12) 24 = .ok (.iload_n 2, 1) := by decide +kernel
theorem u12_24 : zEv sc 12 24 [l0, l1, .int x] [t0, t1, t2] h Q ↔ zEv sc 12 25 [l0, l1, .int x] [.int x, t0, t1, t2] h Q := zE_pure (q := (25, [l0, l1, .int x], [.int x, t0, t1, t2])) dz12_24 rfl rfl rfl
theorem dz12_25 : decode (z_code 12) 25 = .ok (.iaload, 1) := by decide +kernel
theorem u12_25 (ho : zO a 100) : zEv sc 12 25 [l0, l1, l2] [.int x, .ref a, t0, t1] (zst p iv) Q ↔ (vp_in x (zLn a) ∧ zEv sc 12 26 [l0, l1, l2] [.int (iv a x.toNatClampNeg), t0, t1] (zst p iv) Q) := zE_ald (Or.inl ⟨rfl, rfl⟩) dz12_25 ho
theorem dz12_26 : decode (z_code 12) 26 = .ok (.iastore, 1) := by decide +kernel
theorem u12_26 (ho : zO a 100) : zEv sc 12 26 [l0, l1, l2] [.int x2, .int x1, .ref a] (zst p iv) Q ↔ (vp_in x1 (zLn a) ∧ zEv sc 12 27 [l0, l1, l2] [] (zst p (w2 iv a x1.toNatClampNeg x2)) Q) := zE_ast (Or.inl ⟨rfl, rfl, rfl⟩) dz12_26 ho
theorem dz12_27 : decode (z_code 12) 27 = .ok (.iinc 2 1, 3) := by decide +kernel
theorem u12_27 : zEv sc 12 27 [l0, l1, .int x] [] h Q ↔ zEv sc 12 30 [l0, l1, .int (x + 1)] [] h Q := zE_iinc (ls2 := [l0, l1, .int (x + 1)]) dz12_27 (by decide +kernel) rfl (by simp) rfl
theorem dz12_30 : decode (z_code 12) 30 = .ok (.goto (-20), 3) := by decide +kernel
theorem u12_30 : zEv sc 12 30 [l0, l1, l2] [] h Q ↔ zEv sc 12 10 [l0, l1, l2] [] h Q := zE_go 10 dz12_30 rfl
theorem dz12_33 : decode (z_code 12) 33 = .ok (.aload_n 0, 1) := by decide +kernel
theorem u12_33 : zEv sc 12 33 [.ref a, l1, l2] [] h Q ↔ zEv sc 12 34 [.ref a, l1, l2] [.ref a] h Q := zE_pure (q := (34, [.ref a, l1, l2], [.ref a])) dz12_33 rfl rfl rfl
theorem dz12_34 : decode (z_code 12) 34 = .ok (.getfield 22, 3) := by decide +kernel
theorem u12_34 (ho : zO a 6) : zEv sc 12 34 [l0, l1, l2] [.ref a] (zst p iv) Q ↔ zRef (zRV p a 2) (fun j => zEv sc 12 37 [l0, l1, l2] [.ref j] (zst p iv) Q) := zE_gfR dz12_34 (by decide +kernel : z_lk3 zFT (z_cls 12) 22 = some (6, 2, 0, 110)) (by decide +kernel) ho
theorem dz12_37 : decode (z_code 12) 37 = .ok (.aload_n 1, 1) := by decide +kernel
theorem u12_37 : zEv sc 12 37 [l0, .ref a, l2] [t0] h Q ↔ zEv sc 12 38 [l0, .ref a, l2] [.ref a, t0] h Q := zE_pure (q := (38, [l0, .ref a, l2], [.ref a, t0])) dz12_37 rfl rfl rfl
theorem dz12_38 : decode (z_code 12) 38 = .ok (.getfield 22, 3) := by decide +kernel
theorem u12_38 (ho : zO a 6) : zEv sc 12 38 [l0, l1, l2] [.ref a, t0] (zst p iv) Q ↔ zRef (zRV p a 2) (fun j => zEv sc 12 41 [l0, l1, l2] [.ref j, t0] (zst p iv) Q) := zE_gfR dz12_38 (by decide +kernel : z_lk3 zFT (z_cls 12) 22 = some (6, 2, 0, 110)) (by decide +kernel) ho
theorem dz12_41 : decode (z_code 12) 41 = .ok (.invokevirtual 26, 3) := by decide +kernel
theorem u12_41 (ho : zO a 4) : zEv sc 12 41 [l0, l1, l2] [.ref b0, .ref a] (zst p iv) Q ↔ zEv sc 11 0 [.ref a, .ref b0, .null] [] (zst p iv) (fun r h9 => zEv sc 12 44 [l0, l1, l2] (r.toList ++ []) h9 Q) := zE_call (kd := 0) (na := 2) (nr := 0) (as := [.ref a, .ref b0]) (rest := []) (Or.inl ⟨rfl, rfl⟩) dz12_41 (by decide +kernel : z_lk2 zCT (z_cls 12) 26 = some (11, 1, 337)) (fun z => by cases z) rfl rfl rfl (by decide +kernel) rfl rfl (Or.inr (zE_rc ho))
theorem dz12_44 : decode (z_code 12) 44 = .ok (.return_, 1) := by decide +kernel
theorem u12_44 : zEv sc 12 44 [l0, l1, l2] [] h Q ↔ Q none h := zE_rv dz12_44 (by decide +kernel)
/-! method 13: FieldMixtures$Contest.copyFrom(LFieldMixtures$Contest;)V -/
theorem dz13_0 : decode (z_code 13) 0 = .ok (.aload_n 0, 1) := by decide +kernel
theorem u13_0 : zEv sc 13 0 [.ref a, l1, l2] [] h Q ↔ zEv sc 13 1 [.ref a, l1, l2] [.ref a] h Q := zE_pure (q := (1, [.ref a, l1, l2], [.ref a])) dz13_0 rfl rfl rfl
theorem dz13_1 : decode (z_code 13) 1 = .ok (.aload_n 1, 1) := by decide +kernel
theorem u13_1 : zEv sc 13 1 [l0, .ref a, l2] [t0] h Q ↔ zEv sc 13 2 [l0, .ref a, l2] [.ref a, t0] h Q := zE_pure (q := (2, [l0, .ref a, l2], [.ref a, t0])) dz13_1 rfl rfl rfl
theorem dz13_2 : decode (z_code 13) 2 = .ok (.getfield 25, 3) := by decide +kernel
theorem u13_2 (ho : zO a 2) : zEv sc 13 2 [l0, l1, l2] [.ref a, t0] (zst p iv) Q ↔ zEv sc 13 5 [l0, l1, l2] [.int (iv a 0), t0] (zst p iv) Q := zE_gfI dz13_2 (by decide +kernel : z_lk3 zFT (z_cls 13) 25 = some (2, 0, 0, 130)) (by decide +kernel) ho
theorem dz13_5 : decode (z_code 13) 5 = .ok (.putfield 25, 3) := by decide +kernel
theorem u13_5 (ho : zO a 2) : zEv sc 13 5 [l0, l1, l2] [.int x, .ref a] (zst p iv) Q ↔ zEv sc 13 8 [l0, l1, l2] [] (zst p (w2 iv a 0 x)) Q := zE_pfI dz13_5 (by decide +kernel : z_lk3 zFT (z_cls 13) 25 = some (2, 0, 0, 130)) (by decide +kernel) (by decide +kernel) (by decide +kernel) ho
theorem dz13_8 : decode (z_code 13) 8 = .ok (.aload_n 0, 1) := by decide +kernel
theorem u13_8 : zEv sc 13 8 [.ref a, l1, l2] [] h Q ↔ zEv sc 13 9 [.ref a, l1, l2] [.ref a] h Q := zE_pure (q := (9, [.ref a, l1, l2], [.ref a])) dz13_8 rfl rfl rfl
theorem dz13_9 : decode (z_code 13) 9 = .ok (.aload_n 1, 1) := by decide +kernel
theorem u13_9 : zEv sc 13 9 [l0, .ref a, l2] [t0] h Q ↔ zEv sc 13 10 [l0, .ref a, l2] [.ref a, t0] h Q := zE_pure (q := (10, [l0, .ref a, l2], [.ref a, t0])) dz13_9 rfl rfl rfl
theorem dz13_10 : decode (z_code 13) 10 = .ok (.getfield 29, 3) := by decide +kernel
theorem u13_10 (ho : zO a 2) : zEv sc 13 10 [l0, l1, l2] [.ref a, t0] (zst p iv) Q ↔ zEv sc 13 13 [l0, l1, l2] [.int (iv a 1), t0] (zst p iv) Q := zE_gfI dz13_10 (by decide +kernel : z_lk3 zFT (z_cls 13) 29 = some (2, 1, 0, 134)) (by decide +kernel) ho
theorem dz13_13 : decode (z_code 13) 13 = .ok (.putfield 29, 3) := by decide +kernel
theorem u13_13 (ho : zO a 2) : zEv sc 13 13 [l0, l1, l2] [.int x, .ref a] (zst p iv) Q ↔ zEv sc 13 16 [l0, l1, l2] [] (zst p (w2 iv a 1 x)) Q := zE_pfI dz13_13 (by decide +kernel : z_lk3 zFT (z_cls 13) 29 = some (2, 1, 0, 134)) (by decide +kernel) (by decide +kernel) (by decide +kernel) ho
theorem dz13_16 : decode (z_code 13) 16 = .ok (.iconst 0, 1) := by decide +kernel
theorem u13_16 : zEv sc 13 16 [l0, l1, l2] [] h Q ↔ zEv sc 13 17 [l0, l1, l2] [.int 0] h Q := zE_iconst dz13_16 (by decide +kernel)
theorem dz13_17 : decode (z_code 13) 17 = .ok (.istore_n 2, 1) := by decide +kernel
theorem u13_17 : zEv sc 13 17 [l0, l1, l2] [.int x] h Q ↔ zEv sc 13 18 [l0, l1, .int x] [] h Q := zE_pure (q := (18, [l0, l1, .int x], [])) dz13_17 rfl rfl rfl
theorem dz13_18 : decode (z_code 13) 18 = .ok (.iload_n 2, 1) := by decide +kernel
theorem u13_18 : zEv sc 13 18 [l0, l1, .int x] [] h Q ↔ zEv sc 13 19 [l0, l1, .int x] [.int x] h Q := zE_pure (q := (19, [l0, l1, .int x], [.int x])) dz13_18 rfl rfl rfl
theorem dz13_19 : decode (z_code 13) 19 = .ok (.iconst 4, 1) := by decide +kernel
theorem u13_19 : zEv sc 13 19 [l0, l1, l2] [t0] h Q ↔ zEv sc 13 20 [l0, l1, l2] [.int 4, t0] h Q := zE_iconst dz13_19 (by decide +kernel)
theorem dz13_20 : decode (z_code 13) 20 = .ok (.if_icmp .ge 21, 3) := by decide +kernel
theorem u13_20 : zEv sc 13 20 [l0, l1, l2] [.int x2, .int x1] h Q ↔ (if x2 ≤ x1 then zEv sc 13 41 [l0, l1, l2] [] h Q else zEv sc 13 23 [l0, l1, l2] [] h Q) := zE_icP (P := x2 ≤ x1) inferInstance 41 dz13_20 rfl rfl
theorem dz13_23 : decode (z_code 13) 23 = .ok (.aload_n 0, 1) := by decide +kernel
theorem u13_23 : zEv sc 13 23 [.ref a, l1, l2] [] h Q ↔ zEv sc 13 24 [.ref a, l1, l2] [.ref a] h Q := zE_pure (q := (24, [.ref a, l1, l2], [.ref a])) dz13_23 rfl rfl rfl
theorem dz13_24 : decode (z_code 13) 24 = .ok (.getfield 9, 3) := by decide +kernel
theorem u13_24 (ho : zO a 2) : zEv sc 13 24 [l0, l1, l2] [.ref a] (zst p iv) Q ↔ zRef (zRV p a 2) (fun j => zEv sc 13 27 [l0, l1, l2] [.ref j] (zst p iv) Q) := zE_gfR dz13_24 (by decide +kernel : z_lk3 zFT (z_cls 13) 9 = some (2, 2, 0, 136)) (by decide +kernel) ho
theorem dz13_27 : decode (z_code 13) 27 = .ok (.iload_n 2, 1) := by decide +kernel
theorem u13_27 : zEv sc 13 27 [l0, l1, .int x] [t0] h Q ↔ zEv sc 13 28 [l0, l1, .int x] [.int x, t0] h Q := zE_pure (q := (28, [l0, l1, .int x], [.int x, t0])) dz13_27 rfl rfl rfl
theorem dz13_28 : decode (z_code 13) 28 = .ok (.aload_n 1, 1) := by decide +kernel
theorem u13_28 : zEv sc 13 28 [l0, .ref a, l2] [t0, t1] h Q ↔ zEv sc 13 29 [l0, .ref a, l2] [.ref a, t0, t1] h Q := zE_pure (q := (29, [l0, .ref a, l2], [.ref a, t0, t1])) dz13_28 rfl rfl rfl
theorem dz13_29 : decode (z_code 13) 29 = .ok (.getfield 9, 3) := by decide +kernel
theorem u13_29 (ho : zO a 2) : zEv sc 13 29 [l0, l1, l2] [.ref a, t0, t1] (zst p iv) Q ↔ zRef (zRV p a 2) (fun j => zEv sc 13 32 [l0, l1, l2] [.ref j, t0, t1] (zst p iv) Q) := zE_gfR dz13_29 (by decide +kernel : z_lk3 zFT (z_cls 13) 9 = some (2, 2, 0, 136)) (by decide +kernel) ho
theorem dz13_32 : decode (z_code 13) 32 = .ok (.iload_n 2, 1) := by decide +kernel
theorem u13_32 : zEv sc 13 32 [l0, l1, .int x] [t0, t1, t2] h Q ↔ zEv sc 13 33 [l0, l1, .int x] [.int x, t0, t1, t2] h Q := zE_pure (q := (33, [l0, l1, .int x], [.int x, t0, t1, t2])) dz13_32 rfl rfl rfl
theorem dz13_33 : decode (z_code 13) 33 = .ok (.iaload, 1) := by decide +kernel
theorem u13_33 (ho : zO a 100) : zEv sc 13 33 [l0, l1, l2] [.int x, .ref a, t0, t1] (zst p iv) Q ↔ (vp_in x (zLn a) ∧ zEv sc 13 34 [l0, l1, l2] [.int (iv a x.toNatClampNeg), t0, t1] (zst p iv) Q) := zE_ald (Or.inl ⟨rfl, rfl⟩) dz13_33 ho
theorem dz13_34 : decode (z_code 13) 34 = .ok (.iastore, 1) := by decide +kernel
theorem u13_34 (ho : zO a 100) : zEv sc 13 34 [l0, l1, l2] [.int x2, .int x1, .ref a] (zst p iv) Q ↔ (vp_in x1 (zLn a) ∧ zEv sc 13 35 [l0, l1, l2] [] (zst p (w2 iv a x1.toNatClampNeg x2)) Q) := zE_ast (Or.inl ⟨rfl, rfl, rfl⟩) dz13_34 ho
theorem dz13_35 : decode (z_code 13) 35 = .ok (.iinc 2 1, 3) := by decide +kernel
theorem u13_35 : zEv sc 13 35 [l0, l1, .int x] [] h Q ↔ zEv sc 13 38 [l0, l1, .int (x + 1)] [] h Q := zE_iinc (ls2 := [l0, l1, .int (x + 1)]) dz13_35 (by decide +kernel) rfl (by simp) rfl
theorem dz13_38 : decode (z_code 13) 38 = .ok (.goto (-20), 3) := by decide +kernel
theorem u13_38 : zEv sc 13 38 [l0, l1, l2] [] h Q ↔ zEv sc 13 18 [l0, l1, l2] [] h Q := zE_go 18 dz13_38 rfl
theorem dz13_41 : decode (z_code 13) 41 = .ok (.aload_n 0, 1) := by decide +kernel
theorem u13_41 : zEv sc 13 41 [.ref a, l1, l2] [] h Q ↔ zEv sc 13 42 [.ref a, l1, l2] [.ref a] h Q := zE_pure (q := (42, [.ref a, l1, l2], [.ref a])) dz13_41 rfl rfl rfl
theorem dz13_42 : decode (z_code 13) 42 = .ok (.getfield 18, 3) := by decide +kernel
theorem u13_42 (ho : zO a 2) : zEv sc 13 42 [l0, l1, l2] [.ref a] (zst p iv) Q ↔ zRef (zRV p a 3) (fun j => zEv sc 13 45 [l0, l1, l2] [.ref j] (zst p iv) Q) := zE_gfR dz13_42 (by decide +kernel : z_lk3 zFT (z_cls 13) 18 = some (2, 3, 0, 139)) (by decide +kernel) ho
theorem dz13_45 : decode (z_code 13) 45 = .ok (.aload_n 1, 1) := by decide +kernel
theorem u13_45 : zEv sc 13 45 [l0, .ref a, l2] [t0] h Q ↔ zEv sc 13 46 [l0, .ref a, l2] [.ref a, t0] h Q := zE_pure (q := (46, [l0, .ref a, l2], [.ref a, t0])) dz13_45 rfl rfl rfl
theorem dz13_46 : decode (z_code 13) 46 = .ok (.getfield 18, 3) := by decide +kernel
theorem u13_46 (ho : zO a 2) : zEv sc 13 46 [l0, l1, l2] [.ref a, t0] (zst p iv) Q ↔ zRef (zRV p a 3) (fun j => zEv sc 13 49 [l0, l1, l2] [.ref j, t0] (zst p iv) Q) := zE_gfR dz13_46 (by decide +kernel : z_lk3 zFT (z_cls 13) 18 = some (2, 3, 0, 139)) (by decide +kernel) ho
theorem dz13_49 : decode (z_code 13) 49 = .ok (.invokevirtual 48, 3) := by decide +kernel
theorem u13_49 (ho : zO a 6) : zEv sc 13 49 [l0, l1, l2] [.ref b0, .ref a] (zst p iv) Q ↔ zEv sc 12 0 [.ref a, .ref b0, .null] [] (zst p iv) (fun r h9 => zEv sc 13 52 [l0, l1, l2] (r.toList ++ []) h9 Q) := zE_call (kd := 0) (na := 2) (nr := 0) (as := [.ref a, .ref b0]) (rest := []) (Or.inl ⟨rfl, rfl⟩) dz13_49 (by decide +kernel : z_lk2 zCT (z_cls 13) 48 = some (12, 1, 333)) (fun z => by cases z) rfl rfl rfl (by decide +kernel) rfl rfl (Or.inr (zE_rc ho))
theorem dz13_52 : decode (z_code 13) 52 = .ok (.aload_n 0, 1) := by decide +kernel
theorem u13_52 : zEv sc 13 52 [.ref a, l1, l2] [] h Q ↔ zEv sc 13 53 [.ref a, l1, l2] [.ref a] h Q := zE_pure (q := (53, [.ref a, l1, l2], [.ref a])) dz13_52 rfl rfl rfl
theorem dz13_53 : decode (z_code 13) 53 = .ok (.getfield 22, 3) := by decide +kernel
theorem u13_53 (ho : zO a 2) : zEv sc 13 53 [l0, l1, l2] [.ref a] (zst p iv) Q ↔ zRef (zRV p a 4) (fun j => zEv sc 13 56 [l0, l1, l2] [.ref j] (zst p iv) Q) := zE_gfR dz13_53 (by decide +kernel : z_lk3 zFT (z_cls 13) 22 = some (2, 4, 0, 140)) (by decide +kernel) ho
theorem dz13_56 : decode (z_code 13) 56 = .ok (.aload_n 1, 1) := by decide +kernel
theorem u13_56 : zEv sc 13 56 [l0, .ref a, l2] [t0] h Q ↔ zEv sc 13 57 [l0, .ref a, l2] [.ref a, t0] h Q := zE_pure (q := (57, [l0, .ref a, l2], [.ref a, t0])) dz13_56 rfl rfl rfl
theorem dz13_57 : decode (z_code 13) 57 = .ok (.getfield 22, 3) := by decide +kernel
theorem u13_57 (ho : zO a 2) : zEv sc 13 57 [l0, l1, l2] [.ref a, t0] (zst p iv) Q ↔ zRef (zRV p a 4) (fun j => zEv sc 13 60 [l0, l1, l2] [.ref j, t0] (zst p iv) Q) := zE_gfR dz13_57 (by decide +kernel : z_lk3 zFT (z_cls 13) 22 = some (2, 4, 0, 140)) (by decide +kernel) ho
theorem dz13_60 : decode (z_code 13) 60 = .ok (.invokevirtual 48, 3) := by decide +kernel
theorem u13_60 (ho : zO a 6) : zEv sc 13 60 [l0, l1, l2] [.ref b0, .ref a] (zst p iv) Q ↔ zEv sc 12 0 [.ref a, .ref b0, .null] [] (zst p iv) (fun r h9 => zEv sc 13 63 [l0, l1, l2] (r.toList ++ []) h9 Q) := zE_call (kd := 0) (na := 2) (nr := 0) (as := [.ref a, .ref b0]) (rest := []) (Or.inl ⟨rfl, rfl⟩) dz13_60 (by decide +kernel : z_lk2 zCT (z_cls 13) 48 = some (12, 1, 333)) (fun z => by cases z) rfl rfl rfl (by decide +kernel) rfl rfl (Or.inr (zE_rc ho))
theorem dz13_63 : decode (z_code 13) 63 = .ok (.return_, 1) := by decide +kernel
theorem u13_63 : zEv sc 13 63 [l0, l1, l2] [] h Q ↔ Q none h := zE_rv dz13_63 (by decide +kernel)
/-! method 14: FieldMixtures$Contest.side(I)LFieldMixtures$Side; -/
theorem dz14_0 : decode (z_code 14) 0 = .ok (.iload_n 1, 1) := by decide +kernel
theorem u14_0 : zEv sc 14 0 [l0, .int x] [] h Q ↔ zEv sc 14 1 [l0, .int x] [.int x] h Q := zE_pure (q := (1, [l0, .int x], [.int x])) dz14_0 rfl rfl rfl
theorem dz14_1 : decode (z_code 14) 1 = .ok (.ifCond .ne 10, 3) := by decide +kernel
theorem u14_1 : zEv sc 14 1 [l0, l1] [.int x] h Q ↔ (if ¬ x = 0 then zEv sc 14 11 [l0, l1] [] h Q else zEv sc 14 4 [l0, l1] [] h Q) := zE_ifP (P := ¬ x = 0) inferInstance 11 dz14_1 rfl rfl
theorem dz14_4 : decode (z_code 14) 4 = .ok (.aload_n 0, 1) := by decide +kernel
theorem u14_4 : zEv sc 14 4 [.ref a, l1] [] h Q ↔ zEv sc 14 5 [.ref a, l1] [.ref a] h Q := zE_pure (q := (5, [.ref a, l1], [.ref a])) dz14_4 rfl rfl rfl
theorem dz14_5 : decode (z_code 14) 5 = .ok (.getfield 18, 3) := by decide +kernel
theorem u14_5 (ho : zO a 2) : zEv sc 14 5 [l0, l1] [.ref a] (zst p iv) Q ↔ zRef (zRV p a 3) (fun j => zEv sc 14 8 [l0, l1] [.ref j] (zst p iv) Q) := zE_gfR dz14_5 (by decide +kernel : z_lk3 zFT (z_cls 14) 18 = some (2, 3, 0, 139)) (by decide +kernel) ho
theorem dz14_8 : decode (z_code 14) 8 = .ok (.goto 7, 3) := by decide +kernel
theorem u14_8 : zEv sc 14 8 [l0, l1] [t0] h Q ↔ zEv sc 14 15 [l0, l1] [t0] h Q := zE_go 15 dz14_8 rfl
theorem dz14_15 : decode (z_code 14) 15 = .ok (.areturn, 1) := by decide +kernel
theorem u14_15 : zEv sc 14 15 [l0, l1] [.ref a] h Q ↔ Q (some (.ref a)) h := zE_ra dz14_15 (by decide +kernel)
theorem dz14_11 : decode (z_code 14) 11 = .ok (.aload_n 0, 1) := by decide +kernel
theorem u14_11 : zEv sc 14 11 [.ref a, l1] [] h Q ↔ zEv sc 14 12 [.ref a, l1] [.ref a] h Q := zE_pure (q := (12, [.ref a, l1], [.ref a])) dz14_11 rfl rfl rfl
theorem dz14_12 : decode (z_code 14) 12 = .ok (.getfield 22, 3) := by decide +kernel
theorem u14_12 (ho : zO a 2) : zEv sc 14 12 [l0, l1] [.ref a] (zst p iv) Q ↔ zRef (zRV p a 4) (fun j => zEv sc 14 15 [l0, l1] [.ref j] (zst p iv) Q) := zE_gfR dz14_12 (by decide +kernel : z_lk3 zFT (z_cls 14) 22 = some (2, 4, 0, 140)) (by decide +kernel) ho
/-! method 15: FieldMixtures.isIn(III)Z -/
theorem dz15_0 : decode (z_code 15) 0 = .ok (.iload_n 0, 1) := by decide +kernel
theorem u15_0 : zEv sc 15 0 [.int x, l1, l2] [] h Q ↔ zEv sc 15 1 [.int x, l1, l2] [.int x] h Q := zE_pure (q := (1, [.int x, l1, l2], [.int x])) dz15_0 rfl rfl rfl
theorem dz15_1 : decode (z_code 15) 1 = .ok (.iload_n 1, 1) := by decide +kernel
theorem u15_1 : zEv sc 15 1 [l0, .int x, l2] [t0] h Q ↔ zEv sc 15 2 [l0, .int x, l2] [.int x, t0] h Q := zE_pure (q := (2, [l0, .int x, l2], [.int x, t0])) dz15_1 rfl rfl rfl
theorem dz15_2 : decode (z_code 15) 2 = .ok (.if_icmp .lt 12, 3) := by decide +kernel
theorem u15_2 : zEv sc 15 2 [l0, l1, l2] [.int x2, .int x1] h Q ↔ (if x1 < x2 then zEv sc 15 14 [l0, l1, l2] [] h Q else zEv sc 15 5 [l0, l1, l2] [] h Q) := zE_icP (P := x1 < x2) inferInstance 14 dz15_2 rfl rfl
theorem dz15_5 : decode (z_code 15) 5 = .ok (.iload_n 0, 1) := by decide +kernel
theorem u15_5 : zEv sc 15 5 [.int x, l1, l2] [] h Q ↔ zEv sc 15 6 [.int x, l1, l2] [.int x] h Q := zE_pure (q := (6, [.int x, l1, l2], [.int x])) dz15_5 rfl rfl rfl
theorem dz15_6 : decode (z_code 15) 6 = .ok (.iload_n 2, 1) := by decide +kernel
theorem u15_6 : zEv sc 15 6 [l0, l1, .int x] [t0] h Q ↔ zEv sc 15 7 [l0, l1, .int x] [.int x, t0] h Q := zE_pure (q := (7, [l0, l1, .int x], [.int x, t0])) dz15_6 rfl rfl rfl
theorem dz15_7 : decode (z_code 15) 7 = .ok (.if_icmp .gt 7, 3) := by decide +kernel
theorem u15_7 : zEv sc 15 7 [l0, l1, l2] [.int x2, .int x1] h Q ↔ (if x2 < x1 then zEv sc 15 14 [l0, l1, l2] [] h Q else zEv sc 15 10 [l0, l1, l2] [] h Q) := zE_icP (P := x2 < x1) inferInstance 14 dz15_7 rfl rfl
theorem dz15_10 : decode (z_code 15) 10 = .ok (.iconst 1, 1) := by decide +kernel
theorem u15_10 : zEv sc 15 10 [l0, l1, l2] [] h Q ↔ zEv sc 15 11 [l0, l1, l2] [.int 1] h Q := zE_iconst dz15_10 (by decide +kernel)
theorem dz15_11 : decode (z_code 15) 11 = .ok (.goto 4, 3) := by decide +kernel
theorem u15_11 : zEv sc 15 11 [l0, l1, l2] [t0] h Q ↔ zEv sc 15 15 [l0, l1, l2] [t0] h Q := zE_go 15 dz15_11 rfl
theorem dz15_15 : decode (z_code 15) 15 = .ok (.ireturn, 1) := by decide +kernel
theorem u15_15 : zEv sc 15 15 [l0, l1, l2] [.int x] h Q ↔ ((x = 0 ∨ x = 1) ∧ Q (some (.int x)) h) := zE_rz dz15_15 (by decide +kernel)
theorem dz15_14 : decode (z_code 15) 14 = .ok (.iconst 0, 1) := by decide +kernel
theorem u15_14 : zEv sc 15 14 [l0, l1, l2] [] h Q ↔ zEv sc 15 15 [l0, l1, l2] [.int 0] h Q := zE_iconst dz15_14 (by decide +kernel)
/-! method 16: FieldMixtures$Contest.hasField(I)Z -/
theorem dz16_0 : decode (z_code 16) 0 = .ok (.iload_n 1, 1) := by decide +kernel
theorem u16_0 : zEv sc 16 0 [l0, .int x] [] h Q ↔ zEv sc 16 1 [l0, .int x] [.int x] h Q := zE_pure (q := (1, [l0, .int x], [.int x])) dz16_0 rfl rfl rfl
theorem dz16_1 : decode (z_code 16) 1 = .ok (.iconst 0, 1) := by decide +kernel
theorem u16_1 : zEv sc 16 1 [l0, l1] [t0] h Q ↔ zEv sc 16 2 [l0, l1] [.int 0, t0] h Q := zE_iconst dz16_1 (by decide +kernel)
theorem dz16_2 : decode (z_code 16) 2 = .ok (.aload_n 0, 1) := by decide +kernel
theorem u16_2 : zEv sc 16 2 [.ref a, l1] [t0, t1] h Q ↔ zEv sc 16 3 [.ref a, l1] [.ref a, t0, t1] h Q := zE_pure (q := (3, [.ref a, l1], [.ref a, t0, t1])) dz16_2 rfl rfl rfl
theorem dz16_3 : decode (z_code 16) 3 = .ok (.getfield 25, 3) := by decide +kernel
theorem u16_3 (ho : zO a 2) : zEv sc 16 3 [l0, l1] [.ref a, t0, t1] (zst p iv) Q ↔ zEv sc 16 6 [l0, l1] [.int (iv a 0), t0, t1] (zst p iv) Q := zE_gfI dz16_3 (by decide +kernel : z_lk3 zFT (z_cls 16) 25 = some (2, 0, 0, 130)) (by decide +kernel) ho
theorem dz16_6 : decode (z_code 16) 6 = .ok (.iconst 1, 1) := by decide +kernel
theorem u16_6 : zEv sc 16 6 [l0, l1] [t0, t1, t2] h Q ↔ zEv sc 16 7 [l0, l1] [.int 1, t0, t1, t2] h Q := zE_iconst dz16_6 (by decide +kernel)
theorem dz16_7 : decode (z_code 16) 7 = .ok (.isub, 1) := by decide +kernel
theorem u16_7 : zEv sc 16 7 [l0, l1] [.int x2, .int x1, t0, t1] h Q ↔ zEv sc 16 8 [l0, l1] [.int (x1 - x2), t0, t1] h Q := zE_pure (q := (8, [l0, l1], [.int (x1 - x2), t0, t1])) dz16_7 rfl rfl rfl
theorem dz16_8 : decode (z_code 16) 8 = .ok (.invokestatic 52, 3) := by decide +kernel
theorem u16_8 : zEv sc 16 8 [l0, l1] [.int z2, .int z1, .int z0] h Q ↔ zEv sc 15 0 [.int z0, .int z1, .int z2] [] h (fun r h9 => zEv sc 16 11 [l0, l1] (r.toList ++ []) h9 Q) := zE_call (kd := 1) (na := 3) (nr := 0) (as := [.int z0, .int z1, .int z2]) (rest := []) (Or.inr ⟨rfl, rfl⟩) dz16_8 (by decide +kernel : z_lk2 zCT (z_cls 16) 52 = some (15, 1, 425)) (fun _ => ⟨by decide +kernel, by decide +kernel⟩) rfl rfl rfl (by decide +kernel) rfl rfl (Or.inl rfl)
theorem dz16_11 : decode (z_code 16) 11 = .ok (.ireturn, 1) := by decide +kernel
theorem u16_11 : zEv sc 16 11 [l0, l1] [.int x] h Q ↔ ((x = 0 ∨ x = 1) ∧ Q (some (.int x)) h) := zE_rz dz16_11 (by decide +kernel)
/-! method 17: FieldMixtures$Contest.allows(II)Z -/
theorem dz17_0 : decode (z_code 17) 0 = .ok (.aload_n 0, 1) := by decide +kernel
theorem u17_0 : zEv sc 17 0 [.ref a, l1, l2] [] h Q ↔ zEv sc 17 1 [.ref a, l1, l2] [.ref a] h Q := zE_pure (q := (1, [.ref a, l1, l2], [.ref a])) dz17_0 rfl rfl rfl
theorem dz17_1 : decode (z_code 17) 1 = .ok (.iload_n 1, 1) := by decide +kernel
theorem u17_1 : zEv sc 17 1 [l0, .int x, l2] [t0] h Q ↔ zEv sc 17 2 [l0, .int x, l2] [.int x, t0] h Q := zE_pure (q := (2, [l0, .int x, l2], [.int x, t0])) dz17_1 rfl rfl rfl
theorem dz17_2 : decode (z_code 17) 2 = .ok (.invokevirtual 56, 3) := by decide +kernel
theorem u17_2 (ho : zO a 2) : zEv sc 17 2 [l0, l1, l2] [.int z0, .ref a] (zst p iv) Q ↔ zEv sc 14 0 [.ref a, .int z0] [] (zst p iv) (fun r h9 => zEv sc 17 5 [l0, l1, l2] (r.toList ++ []) h9 Q) := zE_call (kd := 0) (na := 2) (nr := 0) (as := [.ref a, .int z0]) (rest := []) (Or.inl ⟨rfl, rfl⟩) dz17_2 (by decide +kernel : z_lk2 zCT (z_cls 17) 56 = some (14, 0, 443)) (fun z => by cases z) rfl rfl rfl (by decide +kernel) rfl rfl (Or.inr (zE_rc ho))
theorem dz17_5 : decode (z_code 17) 5 = .ok (.iload_n 2, 1) := by decide +kernel
theorem u17_5 : zEv sc 17 5 [l0, l1, .int x] [t0] h Q ↔ zEv sc 17 6 [l0, l1, .int x] [.int x, t0] h Q := zE_pure (q := (6, [l0, l1, .int x], [.int x, t0])) dz17_5 rfl rfl rfl
theorem dz17_6 : decode (z_code 17) 6 = .ok (.aload_n 0, 1) := by decide +kernel
theorem u17_6 : zEv sc 17 6 [.ref a, l1, l2] [t0, t1] h Q ↔ zEv sc 17 7 [.ref a, l1, l2] [.ref a, t0, t1] h Q := zE_pure (q := (7, [.ref a, l1, l2], [.ref a, t0, t1])) dz17_6 rfl rfl rfl
theorem dz17_7 : decode (z_code 17) 7 = .ok (.getfield 25, 3) := by decide +kernel
theorem u17_7 (ho : zO a 2) : zEv sc 17 7 [l0, l1, l2] [.ref a, t0, t1] (zst p iv) Q ↔ zEv sc 17 10 [l0, l1, l2] [.int (iv a 0), t0, t1] (zst p iv) Q := zE_gfI dz17_7 (by decide +kernel : z_lk3 zFT (z_cls 17) 25 = some (2, 0, 0, 130)) (by decide +kernel) ho
theorem dz17_10 : decode (z_code 17) 10 = .ok (.invokevirtual 60, 3) := by decide +kernel
theorem u17_10 (ho : zO a 6) : zEv sc 17 10 [l0, l1, l2] [.int z1, .int z0, .ref a] (zst p iv) Q ↔ zEv sc 1 0 [.ref a, .int z0, .int z1, .null, .null, .null, .null] [] (zst p iv) (fun r h9 => zEv sc 17 13 [l0, l1, l2] (r.toList ++ []) h9 Q) := zE_call (kd := 0) (na := 3) (nr := 0) (as := [.ref a, .int z0, .int z1]) (rest := []) (Or.inl ⟨rfl, rfl⟩) dz17_10 (by decide +kernel : z_lk2 zCT (z_cls 17) 60 = some (1, 1, 444)) (fun z => by cases z) rfl rfl rfl (by decide +kernel) rfl rfl (Or.inr (zE_rc ho))
theorem dz17_13 : decode (z_code 17) 13 = .ok (.ireturn, 1) := by decide +kernel
theorem u17_13 : zEv sc 17 13 [l0, l1, l2] [.int x] h Q ↔ ((x = 0 ∨ x = 1) ∧ Q (some (.int x)) h) := zE_rz dz17_13 (by decide +kernel)
/-! method 18: FieldMixtures$Contest.lacksMixture()Z -/
theorem dz18_0 : decode (z_code 18) 0 = .ok (.aload_n 0, 1) := by decide +kernel
theorem u18_0 : zEv sc 18 0 [.ref a] [] h Q ↔ zEv sc 18 1 [.ref a] [.ref a] h Q := zE_pure (q := (1, [.ref a], [.ref a])) dz18_0 rfl rfl rfl
theorem dz18_1 : decode (z_code 18) 1 = .ok (.getfield 18, 3) := by decide +kernel
theorem u18_1 (ho : zO a 2) : zEv sc 18 1 [l0] [.ref a] (zst p iv) Q ↔ zRef (zRV p a 3) (fun j => zEv sc 18 4 [l0] [.ref j] (zst p iv) Q) := zE_gfR dz18_1 (by decide +kernel : z_lk3 zFT (z_cls 18) 18 = some (2, 3, 0, 139)) (by decide +kernel) ho
theorem dz18_4 : decode (z_code 18) 4 = .ok (.getfield 36, 3) := by decide +kernel
theorem u18_4 (ho : zO a 6) : zEv sc 18 4 [l0] [.ref a] (zst p iv) Q ↔ zRef (zRV p a 2) (fun j => zEv sc 18 7 [l0] [.ref j] (zst p iv) Q) := zE_gfR dz18_4 (by decide +kernel : z_lk3 zFT (z_cls 18) 36 = some (6, 2, 1, 112)) (by decide +kernel) ho
theorem dz18_7 : decode (z_code 18) 7 = .ok (.getfield 40, 3) := by decide +kernel
theorem u18_7 (ho : zO a 4) : zEv sc 18 7 [l0] [.ref a] (zst p iv) Q ↔ zEv sc 18 10 [l0] [.int (iv a 0)] (zst p iv) Q := zE_gfI dz18_7 (by decide +kernel : z_lk3 zFT (z_cls 18) 40 = some (4, 0, 1, 86)) (by decide +kernel) ho
theorem dz18_10 : decode (z_code 18) 10 = .ok (.ifCond .eq 16, 3) := by decide +kernel
theorem u18_10 : zEv sc 18 10 [l0] [.int x] h Q ↔ (if x = 0 then zEv sc 18 26 [l0] [] h Q else zEv sc 18 13 [l0] [] h Q) := zE_ifP (P := x = 0) inferInstance 26 dz18_10 rfl rfl
theorem dz18_13 : decode (z_code 18) 13 = .ok (.aload_n 0, 1) := by decide +kernel
theorem u18_13 : zEv sc 18 13 [.ref a] [] h Q ↔ zEv sc 18 14 [.ref a] [.ref a] h Q := zE_pure (q := (14, [.ref a], [.ref a])) dz18_13 rfl rfl rfl
theorem dz18_14 : decode (z_code 18) 14 = .ok (.getfield 22, 3) := by decide +kernel
theorem u18_14 (ho : zO a 2) : zEv sc 18 14 [l0] [.ref a] (zst p iv) Q ↔ zRef (zRV p a 4) (fun j => zEv sc 18 17 [l0] [.ref j] (zst p iv) Q) := zE_gfR dz18_14 (by decide +kernel : z_lk3 zFT (z_cls 18) 22 = some (2, 4, 0, 140)) (by decide +kernel) ho
theorem dz18_17 : decode (z_code 18) 17 = .ok (.getfield 36, 3) := by decide +kernel
theorem u18_17 (ho : zO a 6) : zEv sc 18 17 [l0] [.ref a] (zst p iv) Q ↔ zRef (zRV p a 2) (fun j => zEv sc 18 20 [l0] [.ref j] (zst p iv) Q) := zE_gfR dz18_17 (by decide +kernel : z_lk3 zFT (z_cls 18) 36 = some (6, 2, 1, 112)) (by decide +kernel) ho
theorem dz18_20 : decode (z_code 18) 20 = .ok (.getfield 40, 3) := by decide +kernel
theorem u18_20 (ho : zO a 4) : zEv sc 18 20 [l0] [.ref a] (zst p iv) Q ↔ zEv sc 18 23 [l0] [.int (iv a 0)] (zst p iv) Q := zE_gfI dz18_20 (by decide +kernel : z_lk3 zFT (z_cls 18) 40 = some (4, 0, 1, 86)) (by decide +kernel) ho
theorem dz18_23 : decode (z_code 18) 23 = .ok (.ifCond .ne 7, 3) := by decide +kernel
theorem u18_23 : zEv sc 18 23 [l0] [.int x] h Q ↔ (if ¬ x = 0 then zEv sc 18 30 [l0] [] h Q else zEv sc 18 26 [l0] [] h Q) := zE_ifP (P := ¬ x = 0) inferInstance 30 dz18_23 rfl rfl
theorem dz18_30 : decode (z_code 18) 30 = .ok (.iconst 0, 1) := by decide +kernel
theorem u18_30 : zEv sc 18 30 [l0] [] h Q ↔ zEv sc 18 31 [l0] [.int 0] h Q := zE_iconst dz18_30 (by decide +kernel)
theorem dz18_31 : decode (z_code 18) 31 = .ok (.ireturn, 1) := by decide +kernel
theorem u18_31 : zEv sc 18 31 [l0] [.int x] h Q ↔ ((x = 0 ∨ x = 1) ∧ Q (some (.int x)) h) := zE_rz dz18_31 (by decide +kernel)
theorem dz18_26 : decode (z_code 18) 26 = .ok (.iconst 1, 1) := by decide +kernel
theorem u18_26 : zEv sc 18 26 [l0] [] h Q ↔ zEv sc 18 27 [l0] [.int 1] h Q := zE_iconst dz18_26 (by decide +kernel)
theorem dz18_27 : decode (z_code 18) 27 = .ok (.goto 4, 3) := by decide +kernel
theorem u18_27 : zEv sc 18 27 [l0] [t0] h Q ↔ zEv sc 18 31 [l0] [t0] h Q := zE_go 31 dz18_27 rfl
/-! method 19: FieldMixtures$Contest.sizeOfMixtures()I -/
theorem dz19_0 : decode (z_code 19) 0 = .ok (.aload_n 0, 1) := by decide +kernel
theorem u19_0 : zEv sc 19 0 [.ref a] [] h Q ↔ zEv sc 19 1 [.ref a] [.ref a] h Q := zE_pure (q := (1, [.ref a], [.ref a])) dz19_0 rfl rfl rfl
theorem dz19_1 : decode (z_code 19) 1 = .ok (.getfield 18, 3) := by decide +kernel
theorem u19_1 (ho : zO a 2) : zEv sc 19 1 [l0] [.ref a] (zst p iv) Q ↔ zRef (zRV p a 3) (fun j => zEv sc 19 4 [l0] [.ref j] (zst p iv) Q) := zE_gfR dz19_1 (by decide +kernel : z_lk3 zFT (z_cls 19) 18 = some (2, 3, 0, 139)) (by decide +kernel) ho
theorem dz19_4 : decode (z_code 19) 4 = .ok (.getfield 36, 3) := by decide +kernel
theorem u19_4 (ho : zO a 6) : zEv sc 19 4 [l0] [.ref a] (zst p iv) Q ↔ zRef (zRV p a 2) (fun j => zEv sc 19 7 [l0] [.ref j] (zst p iv) Q) := zE_gfR dz19_4 (by decide +kernel : z_lk3 zFT (z_cls 19) 36 = some (6, 2, 1, 112)) (by decide +kernel) ho
theorem dz19_7 : decode (z_code 19) 7 = .ok (.getfield 40, 3) := by decide +kernel
theorem u19_7 (ho : zO a 4) : zEv sc 19 7 [l0] [.ref a] (zst p iv) Q ↔ zEv sc 19 10 [l0] [.int (iv a 0)] (zst p iv) Q := zE_gfI dz19_7 (by decide +kernel : z_lk3 zFT (z_cls 19) 40 = some (4, 0, 1, 86)) (by decide +kernel) ho
theorem dz19_10 : decode (z_code 19) 10 = .ok (.aload_n 0, 1) := by decide +kernel
theorem u19_10 : zEv sc 19 10 [.ref a] [t0] h Q ↔ zEv sc 19 11 [.ref a] [.ref a, t0] h Q := zE_pure (q := (11, [.ref a], [.ref a, t0])) dz19_10 rfl rfl rfl
theorem dz19_11 : decode (z_code 19) 11 = .ok (.getfield 22, 3) := by decide +kernel
theorem u19_11 (ho : zO a 2) : zEv sc 19 11 [l0] [.ref a, t0] (zst p iv) Q ↔ zRef (zRV p a 4) (fun j => zEv sc 19 14 [l0] [.ref j, t0] (zst p iv) Q) := zE_gfR dz19_11 (by decide +kernel : z_lk3 zFT (z_cls 19) 22 = some (2, 4, 0, 140)) (by decide +kernel) ho
theorem dz19_14 : decode (z_code 19) 14 = .ok (.getfield 36, 3) := by decide +kernel
theorem u19_14 (ho : zO a 6) : zEv sc 19 14 [l0] [.ref a, t0] (zst p iv) Q ↔ zRef (zRV p a 2) (fun j => zEv sc 19 17 [l0] [.ref j, t0] (zst p iv) Q) := zE_gfR dz19_14 (by decide +kernel : z_lk3 zFT (z_cls 19) 36 = some (6, 2, 1, 112)) (by decide +kernel) ho
theorem dz19_17 : decode (z_code 19) 17 = .ok (.getfield 40, 3) := by decide +kernel
theorem u19_17 (ho : zO a 4) : zEv sc 19 17 [l0] [.ref a, t0] (zst p iv) Q ↔ zEv sc 19 20 [l0] [.int (iv a 0), t0] (zst p iv) Q := zE_gfI dz19_17 (by decide +kernel : z_lk3 zFT (z_cls 19) 40 = some (4, 0, 1, 86)) (by decide +kernel) ho
theorem dz19_20 : decode (z_code 19) 20 = .ok (.iadd, 1) := by decide +kernel
theorem u19_20 : zEv sc 19 20 [l0] [.int x2, .int x1] h Q ↔ zEv sc 19 21 [l0] [.int (x1 + x2)] h Q := zE_pure (q := (21, [l0], [.int (x1 + x2)])) dz19_20 rfl rfl rfl
theorem dz19_21 : decode (z_code 19) 21 = .ok (.ireturn, 1) := by decide +kernel
theorem u19_21 : zEv sc 19 21 [l0] [.int x] h Q ↔ Q (some (.int x)) h := zE_ri dz19_21 (by decide +kernel)
/-! method 20: FieldMixtures$Contest.sumOfValues()I -/
theorem dz20_0 : decode (z_code 20) 0 = .ok (.iconst 0, 1) := by decide +kernel
theorem u20_0 : zEv sc 20 0 [l0, l1, l2] [] h Q ↔ zEv sc 20 1 [l0, l1, l2] [.int 0] h Q := zE_iconst dz20_0 (by decide +kernel)
theorem dz20_1 : decode (z_code 20) 1 = .ok (.istore_n 1, 1) := by decide +kernel
theorem u20_1 : zEv sc 20 1 [l0, l1, l2] [.int x] h Q ↔ zEv sc 20 2 [l0, .int x, l2] [] h Q := zE_pure (q := (2, [l0, .int x, l2], [])) dz20_1 rfl rfl rfl
theorem dz20_2 : decode (z_code 20) 2 = .ok (.iconst 0, 1) := by decide +kernel
theorem u20_2 : zEv sc 20 2 [l0, l1, l2] [] h Q ↔ zEv sc 20 3 [l0, l1, l2] [.int 0] h Q := zE_iconst dz20_2 (by decide +kernel)
theorem dz20_3 : decode (z_code 20) 3 = .ok (.istore_n 2, 1) := by decide +kernel
theorem u20_3 : zEv sc 20 3 [l0, l1, l2] [.int x] h Q ↔ zEv sc 20 4 [l0, l1, .int x] [] h Q := zE_pure (q := (4, [l0, l1, .int x], [])) dz20_3 rfl rfl rfl
theorem dz20_4 : decode (z_code 20) 4 = .ok (.iload_n 2, 1) := by decide +kernel
theorem u20_4 : zEv sc 20 4 [l0, l1, .int x] [] h Q ↔ zEv sc 20 5 [l0, l1, .int x] [.int x] h Q := zE_pure (q := (5, [l0, l1, .int x], [.int x])) dz20_4 rfl rfl rfl
theorem dz20_5 : decode (z_code 20) 5 = .ok (.aload_n 0, 1) := by decide +kernel
theorem u20_5 : zEv sc 20 5 [.ref a, l1, l2] [t0] h Q ↔ zEv sc 20 6 [.ref a, l1, l2] [.ref a, t0] h Q := zE_pure (q := (6, [.ref a, l1, l2], [.ref a, t0])) dz20_5 rfl rfl rfl
theorem dz20_6 : decode (z_code 20) 6 = .ok (.getfield 25, 3) := by decide +kernel
theorem u20_6 (ho : zO a 2) : zEv sc 20 6 [l0, l1, l2] [.ref a, t0] (zst p iv) Q ↔ zEv sc 20 9 [l0, l1, l2] [.int (iv a 0), t0] (zst p iv) Q := zE_gfI dz20_6 (by decide +kernel : z_lk3 zFT (z_cls 20) 25 = some (2, 0, 0, 130)) (by decide +kernel) ho
theorem dz20_9 : decode (z_code 20) 9 = .ok (.if_icmp .ge 18, 3) := by decide +kernel
theorem u20_9 : zEv sc 20 9 [l0, l1, l2] [.int x2, .int x1] h Q ↔ (if x2 ≤ x1 then zEv sc 20 27 [l0, l1, l2] [] h Q else zEv sc 20 12 [l0, l1, l2] [] h Q) := zE_icP (P := x2 ≤ x1) inferInstance 27 dz20_9 rfl rfl
theorem dz20_12 : decode (z_code 20) 12 = .ok (.iload_n 1, 1) := by decide +kernel
theorem u20_12 : zEv sc 20 12 [l0, .int x, l2] [] h Q ↔ zEv sc 20 13 [l0, .int x, l2] [.int x] h Q := zE_pure (q := (13, [l0, .int x, l2], [.int x])) dz20_12 rfl rfl rfl
theorem dz20_13 : decode (z_code 20) 13 = .ok (.aload_n 0, 1) := by decide +kernel
theorem u20_13 : zEv sc 20 13 [.ref a, l1, l2] [t0] h Q ↔ zEv sc 20 14 [.ref a, l1, l2] [.ref a, t0] h Q := zE_pure (q := (14, [.ref a, l1, l2], [.ref a, t0])) dz20_13 rfl rfl rfl
theorem dz20_14 : decode (z_code 20) 14 = .ok (.getfield 9, 3) := by decide +kernel
theorem u20_14 (ho : zO a 2) : zEv sc 20 14 [l0, l1, l2] [.ref a, t0] (zst p iv) Q ↔ zRef (zRV p a 2) (fun j => zEv sc 20 17 [l0, l1, l2] [.ref j, t0] (zst p iv) Q) := zE_gfR dz20_14 (by decide +kernel : z_lk3 zFT (z_cls 20) 9 = some (2, 2, 0, 136)) (by decide +kernel) ho
theorem dz20_17 : decode (z_code 20) 17 = .ok (.iload_n 2, 1) := by decide +kernel
theorem u20_17 : zEv sc 20 17 [l0, l1, .int x] [t0, t1] h Q ↔ zEv sc 20 18 [l0, l1, .int x] [.int x, t0, t1] h Q := zE_pure (q := (18, [l0, l1, .int x], [.int x, t0, t1])) dz20_17 rfl rfl rfl
theorem dz20_18 : decode (z_code 20) 18 = .ok (.iaload, 1) := by decide +kernel
theorem u20_18 (ho : zO a 100) : zEv sc 20 18 [l0, l1, l2] [.int x, .ref a, t0] (zst p iv) Q ↔ (vp_in x (zLn a) ∧ zEv sc 20 19 [l0, l1, l2] [.int (iv a x.toNatClampNeg), t0] (zst p iv) Q) := zE_ald (Or.inl ⟨rfl, rfl⟩) dz20_18 ho
theorem dz20_19 : decode (z_code 20) 19 = .ok (.iadd, 1) := by decide +kernel
theorem u20_19 : zEv sc 20 19 [l0, l1, l2] [.int x2, .int x1] h Q ↔ zEv sc 20 20 [l0, l1, l2] [.int (x1 + x2)] h Q := zE_pure (q := (20, [l0, l1, l2], [.int (x1 + x2)])) dz20_19 rfl rfl rfl
theorem dz20_20 : decode (z_code 20) 20 = .ok (.istore_n 1, 1) := by decide +kernel
theorem u20_20 : zEv sc 20 20 [l0, l1, l2] [.int x] h Q ↔ zEv sc 20 21 [l0, .int x, l2] [] h Q := zE_pure (q := (21, [l0, .int x, l2], [])) dz20_20 rfl rfl rfl
theorem dz20_21 : decode (z_code 20) 21 = .ok (.iinc 2 1, 3) := by decide +kernel
theorem u20_21 : zEv sc 20 21 [l0, l1, .int x] [] h Q ↔ zEv sc 20 24 [l0, l1, .int (x + 1)] [] h Q := zE_iinc (ls2 := [l0, l1, .int (x + 1)]) dz20_21 (by decide +kernel) rfl (by simp) rfl
theorem dz20_24 : decode (z_code 20) 24 = .ok (.goto (-20), 3) := by decide +kernel
theorem u20_24 : zEv sc 20 24 [l0, l1, l2] [] h Q ↔ zEv sc 20 4 [l0, l1, l2] [] h Q := zE_go 4 dz20_24 rfl
theorem dz20_27 : decode (z_code 20) 27 = .ok (.iload_n 1, 1) := by decide +kernel
theorem u20_27 : zEv sc 20 27 [l0, .int x, l2] [] h Q ↔ zEv sc 20 28 [l0, .int x, l2] [.int x] h Q := zE_pure (q := (28, [l0, .int x, l2], [.int x])) dz20_27 rfl rfl rfl
theorem dz20_28 : decode (z_code 20) 28 = .ok (.ireturn, 1) := by decide +kernel
theorem u20_28 : zEv sc 20 28 [l0, l1, l2] [.int x] h Q ↔ Q (some (.int x)) h := zE_ri dz20_28 (by decide +kernel)
/-! method 21: FieldMixtures$Contest.amountIn(II)I -/
theorem dz21_0 : decode (z_code 21) 0 = .ok (.iload_n 2, 1) := by decide +kernel
theorem u21_0 : zEv sc 21 0 [l0, l1, .int x, l3, l4] [] h Q ↔ zEv sc 21 1 [l0, l1, .int x, l3, l4] [.int x] h Q := zE_pure (q := (1, [l0, l1, .int x, l3, l4], [.int x])) dz21_0 rfl rfl rfl
theorem dz21_1 : decode (z_code 21) 1 = .ok (.istore_n 3, 1) := by decide +kernel
theorem u21_1 : zEv sc 21 1 [l0, l1, l2, l3, l4] [.int x] h Q ↔ zEv sc 21 2 [l0, l1, l2, .int x, l4] [] h Q := zE_pure (q := (2, [l0, l1, l2, .int x, l4], [])) dz21_1 rfl rfl rfl
theorem dz21_2 : decode (z_code 21) 2 = .ok (.aload_n 0, 1) := by decide +kernel
theorem u21_2 : zEv sc 21 2 [.ref a, l1, l2, l3, l4] [] h Q ↔ zEv sc 21 3 [.ref a, l1, l2, l3, l4] [.ref a] h Q := zE_pure (q := (3, [.ref a, l1, l2, l3, l4], [.ref a])) dz21_2 rfl rfl rfl
theorem dz21_3 : decode (z_code 21) 3 = .ok (.getfield 25, 3) := by decide +kernel
theorem u21_3 (ho : zO a 2) : zEv sc 21 3 [l0, l1, l2, l3, l4] [.ref a] (zst p iv) Q ↔ zEv sc 21 6 [l0, l1, l2, l3, l4] [.int (iv a 0)] (zst p iv) Q := zE_gfI dz21_3 (by decide +kernel : z_lk3 zFT (z_cls 21) 25 = some (2, 0, 0, 130)) (by decide +kernel) ho
theorem dz21_6 : decode (z_code 21) 6 = .ok (.iconst 1, 1) := by decide +kernel
theorem u21_6 : zEv sc 21 6 [l0, l1, l2, l3, l4] [t0] h Q ↔ zEv sc 21 7 [l0, l1, l2, l3, l4] [.int 1, t0] h Q := zE_iconst dz21_6 (by decide +kernel)
theorem dz21_7 : decode (z_code 21) 7 = .ok (.isub, 1) := by decide +kernel
theorem u21_7 : zEv sc 21 7 [l0, l1, l2, l3, l4] [.int x2, .int x1] h Q ↔ zEv sc 21 8 [l0, l1, l2, l3, l4] [.int (x1 - x2)] h Q := zE_pure (q := (8, [l0, l1, l2, l3, l4], [.int (x1 - x2)])) dz21_7 rfl rfl rfl
theorem dz21_8 : decode (z_code 21) 8 = .ok (.istore 4, 2) := by decide +kernel
theorem u21_8 : zEv sc 21 8 [l0, l1, l2, l3, l4] [.int x] h Q ↔ zEv sc 21 10 [l0, l1, l2, l3, .int x] [] h Q := zE_pure (q := (10, [l0, l1, l2, l3, .int x], [])) dz21_8 rfl rfl rfl
theorem dz21_10 : decode (z_code 21) 10 = .ok (.iload 4, 2) := by decide +kernel
theorem u21_10 : zEv sc 21 10 [l0, l1, l2, l3, .int x] [] h Q ↔ zEv sc 21 12 [l0, l1, l2, l3, .int x] [.int x] h Q := zE_pure (q := (12, [l0, l1, l2, l3, .int x], [.int x])) dz21_10 rfl rfl rfl
theorem dz21_12 : decode (z_code 21) 12 = .ok (.iload_n 1, 1) := by decide +kernel
theorem u21_12 : zEv sc 21 12 [l0, .int x, l2, l3, l4] [t0] h Q ↔ zEv sc 21 13 [l0, .int x, l2, l3, l4] [.int x, t0] h Q := zE_pure (q := (13, [l0, .int x, l2, l3, l4], [.int x, t0])) dz21_12 rfl rfl rfl
theorem dz21_13 : decode (z_code 21) 13 = .ok (.if_icmp .le 14, 3) := by decide +kernel
theorem u21_13 : zEv sc 21 13 [l0, l1, l2, l3, l4] [.int x2, .int x1] h Q ↔ (if x1 ≤ x2 then zEv sc 21 27 [l0, l1, l2, l3, l4] [] h Q else zEv sc 21 16 [l0, l1, l2, l3, l4] [] h Q) := zE_icP (P := x1 ≤ x2) inferInstance 27 dz21_13 rfl rfl
theorem dz21_16 : decode (z_code 21) 16 = .ok (.iload_n 3, 1) := by decide +kernel
theorem u21_16 : zEv sc 21 16 [l0, l1, l2, .int x, l4] [] h Q ↔ zEv sc 21 17 [l0, l1, l2, .int x, l4] [.int x] h Q := zE_pure (q := (17, [l0, l1, l2, .int x, l4], [.int x])) dz21_16 rfl rfl rfl
theorem dz21_17 : decode (z_code 21) 17 = .ok (.bipush 10, 2) := by decide +kernel
theorem u21_17 : zEv sc 21 17 [l0, l1, l2, l3, l4] [t0] h Q ↔ zEv sc 21 19 [l0, l1, l2, l3, l4] [.int 10, t0] h Q := zE_bipush dz21_17 (by decide +kernel)
theorem dz21_19 : decode (z_code 21) 19 = .ok (.idiv, 1) := by decide +kernel
theorem u21_19 : zEv sc 21 19 [l0, l1, l2, l3, l4] [.int x2, .int x1] h Q ↔ (¬ x2 = 0 ∧ zEv sc 21 20 [l0, l1, l2, l3, l4] [.int (x1 / x2)] h Q) := zE_div dz21_19
theorem dz21_20 : decode (z_code 21) 20 = .ok (.istore_n 3, 1) := by decide +kernel
theorem u21_20 : zEv sc 21 20 [l0, l1, l2, l3, l4] [.int x] h Q ↔ zEv sc 21 21 [l0, l1, l2, .int x, l4] [] h Q := zE_pure (q := (21, [l0, l1, l2, .int x, l4], [])) dz21_20 rfl rfl rfl
theorem dz21_21 : decode (z_code 21) 21 = .ok (.iinc 4 (-1), 3) := by decide +kernel
theorem u21_21 : zEv sc 21 21 [l0, l1, l2, l3, .int x] [] h Q ↔ zEv sc 21 24 [l0, l1, l2, l3, .int (x + (-1))] [] h Q := zE_iinc (ls2 := [l0, l1, l2, l3, .int (x + (-1))]) dz21_21 (by decide +kernel) rfl (by simp) rfl
theorem dz21_24 : decode (z_code 21) 24 = .ok (.goto (-14), 3) := by decide +kernel
theorem u21_24 : zEv sc 21 24 [l0, l1, l2, l3, l4] [] h Q ↔ zEv sc 21 10 [l0, l1, l2, l3, l4] [] h Q := zE_go 10 dz21_24 rfl
theorem dz21_27 : decode (z_code 21) 27 = .ok (.iload_n 3, 1) := by decide +kernel
theorem u21_27 : zEv sc 21 27 [l0, l1, l2, .int x, l4] [] h Q ↔ zEv sc 21 28 [l0, l1, l2, .int x, l4] [.int x] h Q := zE_pure (q := (28, [l0, l1, l2, .int x, l4], [.int x])) dz21_27 rfl rfl rfl
theorem dz21_28 : decode (z_code 21) 28 = .ok (.bipush 10, 2) := by decide +kernel
theorem u21_28 : zEv sc 21 28 [l0, l1, l2, l3, l4] [t0] h Q ↔ zEv sc 21 30 [l0, l1, l2, l3, l4] [.int 10, t0] h Q := zE_bipush dz21_28 (by decide +kernel)
theorem dz21_30 : decode (z_code 21) 30 = .ok (.irem, 1) := by decide +kernel
theorem u21_30 : zEv sc 21 30 [l0, l1, l2, l3, l4] [.int x2, .int x1] h Q ↔ (¬ x2 = 0 ∧ zEv sc 21 31 [l0, l1, l2, l3, l4] [.int (x1 - x1 / x2 * x2)] h Q) := zE_rem dz21_30
theorem dz21_31 : decode (z_code 21) 31 = .ok (.ireturn, 1) := by decide +kernel
theorem u21_31 : zEv sc 21 31 [l0, l1, l2, l3, l4] [.int x] h Q ↔ Q (some (.int x)) h := zE_ri dz21_31 (by decide +kernel)
/-! method 22: FieldMixtures$Contest.outcome(III)I -/
theorem dz22_0 : decode (z_code 22) 0 = .ok (.iload_n 2, 1) := by decide +kernel
theorem u22_0 : zEv sc 22 0 [l0, l1, .int x, l3] [] h Q ↔ zEv sc 22 1 [l0, l1, .int x, l3] [.int x] h Q := zE_pure (q := (1, [l0, l1, .int x, l3], [.int x])) dz22_0 rfl rfl rfl
theorem dz22_1 : decode (z_code 22) 1 = .ok (.iload_n 3, 1) := by decide +kernel
theorem u22_1 : zEv sc 22 1 [l0, l1, l2, .int x] [t0] h Q ↔ zEv sc 22 2 [l0, l1, l2, .int x] [.int x, t0] h Q := zE_pure (q := (2, [l0, l1, l2, .int x], [.int x, t0])) dz22_1 rfl rfl rfl
theorem dz22_2 : decode (z_code 22) 2 = .ok (.if_icmp .eq 14, 3) := by decide +kernel
theorem u22_2 : zEv sc 22 2 [l0, l1, l2, l3] [.int x2, .int x1] h Q ↔ (if x1 = x2 then zEv sc 22 16 [l0, l1, l2, l3] [] h Q else zEv sc 22 5 [l0, l1, l2, l3] [] h Q) := zE_icP (P := x1 = x2) inferInstance 16 dz22_2 rfl rfl
theorem dz22_5 : decode (z_code 22) 5 = .ok (.iload_n 2, 1) := by decide +kernel
theorem u22_5 : zEv sc 22 5 [l0, l1, .int x, l3] [] h Q ↔ zEv sc 22 6 [l0, l1, .int x, l3] [.int x] h Q := zE_pure (q := (6, [l0, l1, .int x, l3], [.int x])) dz22_5 rfl rfl rfl
theorem dz22_6 : decode (z_code 22) 6 = .ok (.iload_n 3, 1) := by decide +kernel
theorem u22_6 : zEv sc 22 6 [l0, l1, l2, .int x] [t0] h Q ↔ zEv sc 22 7 [l0, l1, l2, .int x] [.int x, t0] h Q := zE_pure (q := (7, [l0, l1, l2, .int x], [.int x, t0])) dz22_6 rfl rfl rfl
theorem dz22_7 : decode (z_code 22) 7 = .ok (.if_icmp .le 7, 3) := by decide +kernel
theorem u22_7 : zEv sc 22 7 [l0, l1, l2, l3] [.int x2, .int x1] h Q ↔ (if x1 ≤ x2 then zEv sc 22 14 [l0, l1, l2, l3] [] h Q else zEv sc 22 10 [l0, l1, l2, l3] [] h Q) := zE_icP (P := x1 ≤ x2) inferInstance 14 dz22_7 rfl rfl
theorem dz22_10 : decode (z_code 22) 10 = .ok (.iconst 1, 1) := by decide +kernel
theorem u22_10 : zEv sc 22 10 [l0, l1, l2, l3] [] h Q ↔ zEv sc 22 11 [l0, l1, l2, l3] [.int 1] h Q := zE_iconst dz22_10 (by decide +kernel)
theorem dz22_11 : decode (z_code 22) 11 = .ok (.goto 4, 3) := by decide +kernel
theorem u22_11 : zEv sc 22 11 [l0, l1, l2, l3] [t0] h Q ↔ zEv sc 22 15 [l0, l1, l2, l3] [t0] h Q := zE_go 15 dz22_11 rfl
theorem dz22_15 : decode (z_code 22) 15 = .ok (.ireturn, 1) := by decide +kernel
theorem u22_15 : zEv sc 22 15 [l0, l1, l2, l3] [.int x] h Q ↔ Q (some (.int x)) h := zE_ri dz22_15 (by decide +kernel)
theorem dz22_14 : decode (z_code 22) 14 = .ok (.iconst (-1), 1) := by decide +kernel
theorem u22_14 : zEv sc 22 14 [l0, l1, l2, l3] [] h Q ↔ zEv sc 22 15 [l0, l1, l2, l3] [.int (-1)] h Q := zE_iconst dz22_14 (by decide +kernel)
theorem dz22_16 : decode (z_code 22) 16 = .ok (.aload_n 0, 1) := by decide +kernel
theorem u22_16 : zEv sc 22 16 [.ref a, l1, l2, l3] [] h Q ↔ zEv sc 22 17 [.ref a, l1, l2, l3] [.ref a] h Q := zE_pure (q := (17, [.ref a, l1, l2, l3], [.ref a])) dz22_16 rfl rfl rfl
theorem dz22_17 : decode (z_code 22) 17 = .ok (.getfield 29, 3) := by decide +kernel
theorem u22_17 (ho : zO a 2) : zEv sc 22 17 [l0, l1, l2, l3] [.ref a] (zst p iv) Q ↔ zEv sc 22 20 [l0, l1, l2, l3] [.int (iv a 1)] (zst p iv) Q := zE_gfI dz22_17 (by decide +kernel : z_lk3 zFT (z_cls 22) 29 = some (2, 1, 0, 134)) (by decide +kernel) ho
theorem dz22_20 : decode (z_code 22) 20 = .ok (.ifCond .ne 5, 3) := by decide +kernel
theorem u22_20 : zEv sc 22 20 [l0, l1, l2, l3] [.int x] h Q ↔ (if ¬ x = 0 then zEv sc 22 25 [l0, l1, l2, l3] [] h Q else zEv sc 22 23 [l0, l1, l2, l3] [] h Q) := zE_ifP (P := ¬ x = 0) inferInstance 25 dz22_20 rfl rfl
theorem dz22_23 : decode (z_code 22) 23 = .ok (.iconst 0, 1) := by decide +kernel
theorem u22_23 : zEv sc 22 23 [l0, l1, l2, l3] [] h Q ↔ zEv sc 22 24 [l0, l1, l2, l3] [.int 0] h Q := zE_iconst dz22_23 (by decide +kernel)
theorem dz22_24 : decode (z_code 22) 24 = .ok (.ireturn, 1) := by decide +kernel
theorem u22_24 : zEv sc 22 24 [l0, l1, l2, l3] [.int x] h Q ↔ Q (some (.int x)) h := zE_ri dz22_24 (by decide +kernel)
theorem dz22_25 : decode (z_code 22) 25 = .ok (.aload_n 0, 1) := by decide +kernel
theorem u22_25 : zEv sc 22 25 [.ref a, l1, l2, l3] [] h Q ↔ zEv sc 22 26 [.ref a, l1, l2, l3] [.ref a] h Q := zE_pure (q := (26, [.ref a, l1, l2, l3], [.ref a])) dz22_25 rfl rfl rfl
theorem dz22_26 : decode (z_code 22) 26 = .ok (.getfield 29, 3) := by decide +kernel
theorem u22_26 (ho : zO a 2) : zEv sc 22 26 [l0, l1, l2, l3] [.ref a] (zst p iv) Q ↔ zEv sc 22 29 [l0, l1, l2, l3] [.int (iv a 1)] (zst p iv) Q := zE_gfI dz22_26 (by decide +kernel : z_lk3 zFT (z_cls 22) 29 = some (2, 1, 0, 134)) (by decide +kernel) ho
theorem dz22_29 : decode (z_code 22) 29 = .ok (.iconst 1, 1) := by decide +kernel
theorem u22_29 : zEv sc 22 29 [l0, l1, l2, l3] [t0] h Q ↔ zEv sc 22 30 [l0, l1, l2, l3] [.int 1, t0] h Q := zE_iconst dz22_29 (by decide +kernel)
theorem dz22_30 : decode (z_code 22) 30 = .ok (.isub, 1) := by decide +kernel
theorem u22_30 : zEv sc 22 30 [l0, l1, l2, l3] [.int x2, .int x1] h Q ↔ zEv sc 22 31 [l0, l1, l2, l3] [.int (x1 - x2)] h Q := zE_pure (q := (31, [l0, l1, l2, l3], [.int (x1 - x2)])) dz22_30 rfl rfl rfl
theorem dz22_31 : decode (z_code 22) 31 = .ok (.iload_n 1, 1) := by decide +kernel
theorem u22_31 : zEv sc 22 31 [l0, .int x, l2, l3] [t0] h Q ↔ zEv sc 22 32 [l0, .int x, l2, l3] [.int x, t0] h Q := zE_pure (q := (32, [l0, .int x, l2, l3], [.int x, t0])) dz22_31 rfl rfl rfl
theorem dz22_32 : decode (z_code 22) 32 = .ok (.if_icmp .ne 7, 3) := by decide +kernel
theorem u22_32 : zEv sc 22 32 [l0, l1, l2, l3] [.int x2, .int x1] h Q ↔ (if ¬ x1 = x2 then zEv sc 22 39 [l0, l1, l2, l3] [] h Q else zEv sc 22 35 [l0, l1, l2, l3] [] h Q) := zE_icP (P := ¬ x1 = x2) inferInstance 39 dz22_32 rfl rfl
theorem dz22_35 : decode (z_code 22) 35 = .ok (.iconst 1, 1) := by decide +kernel
theorem u22_35 : zEv sc 22 35 [l0, l1, l2, l3] [] h Q ↔ zEv sc 22 36 [l0, l1, l2, l3] [.int 1] h Q := zE_iconst dz22_35 (by decide +kernel)
theorem dz22_36 : decode (z_code 22) 36 = .ok (.goto 4, 3) := by decide +kernel
theorem u22_36 : zEv sc 22 36 [l0, l1, l2, l3] [t0] h Q ↔ zEv sc 22 40 [l0, l1, l2, l3] [t0] h Q := zE_go 40 dz22_36 rfl
theorem dz22_40 : decode (z_code 22) 40 = .ok (.ireturn, 1) := by decide +kernel
theorem u22_40 : zEv sc 22 40 [l0, l1, l2, l3] [.int x] h Q ↔ Q (some (.int x)) h := zE_ri dz22_40 (by decide +kernel)
theorem dz22_39 : decode (z_code 22) 39 = .ok (.iconst (-1), 1) := by decide +kernel
theorem u22_39 : zEv sc 22 39 [l0, l1, l2, l3] [] h Q ↔ zEv sc 22 40 [l0, l1, l2, l3] [.int (-1)] h Q := zE_iconst dz22_39 (by decide +kernel)
/-! method 23: FieldMixtures$Contest.gainOf(III)I -/
theorem dz23_0 : decode (z_code 23) 0 = .ok (.iload_n 2, 1) := by decide +kernel
theorem u23_0 : zEv sc 23 0 [l0, l1, .int x, l3, l4, l5, l6, l7] [] h Q ↔ zEv sc 23 1 [l0, l1, .int x, l3, l4, l5, l6, l7] [.int x] h Q := zE_pure (q := (1, [l0, l1, .int x, l3, l4, l5, l6, l7], [.int x])) dz23_0 rfl rfl rfl
theorem dz23_1 : decode (z_code 23) 1 = .ok (.istore 4, 2) := by decide +kernel
theorem u23_1 : zEv sc 23 1 [l0, l1, l2, l3, l4, l5, l6, l7] [.int x] h Q ↔ zEv sc 23 3 [l0, l1, l2, l3, .int x, l5, l6, l7] [] h Q := zE_pure (q := (3, [l0, l1, l2, l3, .int x, l5, l6, l7], [])) dz23_1 rfl rfl rfl
theorem dz23_3 : decode (z_code 23) 3 = .ok (.iload_n 3, 1) := by decide +kernel
theorem u23_3 : zEv sc 23 3 [l0, l1, l2, .int x, l4, l5, l6, l7] [] h Q ↔ zEv sc 23 4 [l0, l1, l2, .int x, l4, l5, l6, l7] [.int x] h Q := zE_pure (q := (4, [l0, l1, l2, .int x, l4, l5, l6, l7], [.int x])) dz23_3 rfl rfl rfl
theorem dz23_4 : decode (z_code 23) 4 = .ok (.istore 5, 2) := by decide +kernel
theorem u23_4 : zEv sc 23 4 [l0, l1, l2, l3, l4, l5, l6, l7] [.int x] h Q ↔ zEv sc 23 6 [l0, l1, l2, l3, l4, .int x, l6, l7] [] h Q := zE_pure (q := (6, [l0, l1, l2, l3, l4, .int x, l6, l7], [])) dz23_4 rfl rfl rfl
theorem dz23_6 : decode (z_code 23) 6 = .ok (.iconst 0, 1) := by decide +kernel
theorem u23_6 : zEv sc 23 6 [l0, l1, l2, l3, l4, l5, l6, l7] [] h Q ↔ zEv sc 23 7 [l0, l1, l2, l3, l4, l5, l6, l7] [.int 0] h Q := zE_iconst dz23_6 (by decide +kernel)
theorem dz23_7 : decode (z_code 23) 7 = .ok (.istore 6, 2) := by decide +kernel
theorem u23_7 : zEv sc 23 7 [l0, l1, l2, l3, l4, l5, l6, l7] [.int x] h Q ↔ zEv sc 23 9 [l0, l1, l2, l3, l4, l5, .int x, l7] [] h Q := zE_pure (q := (9, [l0, l1, l2, l3, l4, l5, .int x, l7], [])) dz23_7 rfl rfl rfl
theorem dz23_9 : decode (z_code 23) 9 = .ok (.aload_n 0, 1) := by decide +kernel
theorem u23_9 : zEv sc 23 9 [.ref a, l1, l2, l3, l4, l5, l6, l7] [] h Q ↔ zEv sc 23 10 [.ref a, l1, l2, l3, l4, l5, l6, l7] [.ref a] h Q := zE_pure (q := (10, [.ref a, l1, l2, l3, l4, l5, l6, l7], [.ref a])) dz23_9 rfl rfl rfl
theorem dz23_10 : decode (z_code 23) 10 = .ok (.getfield 25, 3) := by decide +kernel
theorem u23_10 (ho : zO a 2) : zEv sc 23 10 [l0, l1, l2, l3, l4, l5, l6, l7] [.ref a] (zst p iv) Q ↔ zEv sc 23 13 [l0, l1, l2, l3, l4, l5, l6, l7] [.int (iv a 0)] (zst p iv) Q := zE_gfI dz23_10 (by decide +kernel : z_lk3 zFT (z_cls 23) 25 = some (2, 0, 0, 130)) (by decide +kernel) ho
theorem dz23_13 : decode (z_code 23) 13 = .ok (.iconst 1, 1) := by decide +kernel
theorem u23_13 : zEv sc 23 13 [l0, l1, l2, l3, l4, l5, l6, l7] [t0] h Q ↔ zEv sc 23 14 [l0, l1, l2, l3, l4, l5, l6, l7] [.int 1, t0] h Q := zE_iconst dz23_13 (by decide +kernel)
theorem dz23_14 : decode (z_code 23) 14 = .ok (.isub, 1) := by decide +kernel
theorem u23_14 : zEv sc 23 14 [l0, l1, l2, l3, l4, l5, l6, l7] [.int x2, .int x1] h Q ↔ zEv sc 23 15 [l0, l1, l2, l3, l4, l5, l6, l7] [.int (x1 - x2)] h Q := zE_pure (q := (15, [l0, l1, l2, l3, l4, l5, l6, l7], [.int (x1 - x2)])) dz23_14 rfl rfl rfl
theorem dz23_15 : decode (z_code 23) 15 = .ok (.istore 7, 2) := by decide +kernel
theorem u23_15 : zEv sc 23 15 [l0, l1, l2, l3, l4, l5, l6, l7] [.int x] h Q ↔ zEv sc 23 17 [l0, l1, l2, l3, l4, l5, l6, .int x] [] h Q := zE_pure (q := (17, [l0, l1, l2, l3, l4, l5, l6, .int x], [])) dz23_15 rfl rfl rfl
theorem dz23_17 : decode (z_code 23) 17 = .ok (.iload 7, 2) := by decide +kernel
theorem u23_17 : zEv sc 23 17 [l0, l1, l2, l3, l4, l5, l6, .int x] [] h Q ↔ zEv sc 23 19 [l0, l1, l2, l3, l4, l5, l6, .int x] [.int x] h Q := zE_pure (q := (19, [l0, l1, l2, l3, l4, l5, l6, .int x], [.int x])) dz23_17 rfl rfl rfl
theorem dz23_19 : decode (z_code 23) 19 = .ok (.ifCond .lt 51, 3) := by decide +kernel
theorem u23_19 : zEv sc 23 19 [l0, l1, l2, l3, l4, l5, l6, l7] [.int x] h Q ↔ (if x < 0 then zEv sc 23 70 [l0, l1, l2, l3, l4, l5, l6, l7] [] h Q else zEv sc 23 22 [l0, l1, l2, l3, l4, l5, l6, l7] [] h Q) := zE_ifP (P := x < 0) inferInstance 70 dz23_19 rfl rfl
theorem dz23_22 : decode (z_code 23) 22 = .ok (.iload 6, 2) := by decide +kernel
theorem u23_22 : zEv sc 23 22 [l0, l1, l2, l3, l4, l5, .int x, l7] [] h Q ↔ zEv sc 23 24 [l0, l1, l2, l3, l4, l5, .int x, l7] [.int x] h Q := zE_pure (q := (24, [l0, l1, l2, l3, l4, l5, .int x, l7], [.int x])) dz23_22 rfl rfl rfl
theorem dz23_24 : decode (z_code 23) 24 = .ok (.aload_n 0, 1) := by decide +kernel
theorem u23_24 : zEv sc 23 24 [.ref a, l1, l2, l3, l4, l5, l6, l7] [t0] h Q ↔ zEv sc 23 25 [.ref a, l1, l2, l3, l4, l5, l6, l7] [.ref a, t0] h Q := zE_pure (q := (25, [.ref a, l1, l2, l3, l4, l5, l6, l7], [.ref a, t0])) dz23_24 rfl rfl rfl
theorem dz23_25 : decode (z_code 23) 25 = .ok (.getfield 9, 3) := by decide +kernel
theorem u23_25 (ho : zO a 2) : zEv sc 23 25 [l0, l1, l2, l3, l4, l5, l6, l7] [.ref a, t0] (zst p iv) Q ↔ zRef (zRV p a 2) (fun j => zEv sc 23 28 [l0, l1, l2, l3, l4, l5, l6, l7] [.ref j, t0] (zst p iv) Q) := zE_gfR dz23_25 (by decide +kernel : z_lk3 zFT (z_cls 23) 9 = some (2, 2, 0, 136)) (by decide +kernel) ho
theorem dz23_28 : decode (z_code 23) 28 = .ok (.iload 7, 2) := by decide +kernel
theorem u23_28 : zEv sc 23 28 [l0, l1, l2, l3, l4, l5, l6, .int x] [t0, t1] h Q ↔ zEv sc 23 30 [l0, l1, l2, l3, l4, l5, l6, .int x] [.int x, t0, t1] h Q := zE_pure (q := (30, [l0, l1, l2, l3, l4, l5, l6, .int x], [.int x, t0, t1])) dz23_28 rfl rfl rfl
theorem dz23_30 : decode (z_code 23) 30 = .ok (.iaload, 1) := by decide +kernel
theorem u23_30 (ho : zO a 100) : zEv sc 23 30 [l0, l1, l2, l3, l4, l5, l6, l7] [.int x, .ref a, t0] (zst p iv) Q ↔ (vp_in x (zLn a) ∧ zEv sc 23 31 [l0, l1, l2, l3, l4, l5, l6, l7] [.int (iv a x.toNatClampNeg), t0] (zst p iv) Q) := zE_ald (Or.inl ⟨rfl, rfl⟩) dz23_30 ho
theorem dz23_31 : decode (z_code 23) 31 = .ok (.aload_n 0, 1) := by decide +kernel
theorem u23_31 : zEv sc 23 31 [.ref a, l1, l2, l3, l4, l5, l6, l7] [t0, t1] h Q ↔ zEv sc 23 32 [.ref a, l1, l2, l3, l4, l5, l6, l7] [.ref a, t0, t1] h Q := zE_pure (q := (32, [.ref a, l1, l2, l3, l4, l5, l6, l7], [.ref a, t0, t1])) dz23_31 rfl rfl rfl
theorem dz23_32 : decode (z_code 23) 32 = .ok (.iload_n 1, 1) := by decide +kernel
theorem u23_32 : zEv sc 23 32 [l0, .int x, l2, l3, l4, l5, l6, l7] [t0, t1, t2] h Q ↔ zEv sc 23 33 [l0, .int x, l2, l3, l4, l5, l6, l7] [.int x, t0, t1, t2] h Q := zE_pure (q := (33, [l0, .int x, l2, l3, l4, l5, l6, l7], [.int x, t0, t1, t2])) dz23_32 rfl rfl rfl
theorem dz23_33 : decode (z_code 23) 33 = .ok (.iload 4, 2) := by decide +kernel
theorem u23_33 : zEv sc 23 33 [l0, l1, l2, l3, .int x, l5, l6, l7] [t0, t1, t2, t3] h Q ↔ zEv sc 23 35 [l0, l1, l2, l3, .int x, l5, l6, l7] [.int x, t0, t1, t2, t3] h Q := zE_pure (q := (35, [l0, l1, l2, l3, .int x, l5, l6, l7], [.int x, t0, t1, t2, t3])) dz23_33 rfl rfl rfl
theorem dz23_35 : decode (z_code 23) 35 = .ok (.bipush 10, 2) := by decide +kernel
theorem u23_35 : zEv sc 23 35 [l0, l1, l2, l3, l4, l5, l6, l7] [t0, t1, t2, t3, t4] h Q ↔ zEv sc 23 37 [l0, l1, l2, l3, l4, l5, l6, l7] [.int 10, t0, t1, t2, t3, t4] h Q := zE_bipush dz23_35 (by decide +kernel)
theorem dz23_37 : decode (z_code 23) 37 = .ok (.irem, 1) := by decide +kernel
theorem u23_37 : zEv sc 23 37 [l0, l1, l2, l3, l4, l5, l6, l7] [.int x2, .int x1, t0, t1, t2, t3] h Q ↔ (¬ x2 = 0 ∧ zEv sc 23 38 [l0, l1, l2, l3, l4, l5, l6, l7] [.int (x1 - x1 / x2 * x2), t0, t1, t2, t3] h Q) := zE_rem dz23_37
theorem dz23_38 : decode (z_code 23) 38 = .ok (.iload 5, 2) := by decide +kernel
theorem u23_38 : zEv sc 23 38 [l0, l1, l2, l3, l4, .int x, l6, l7] [t0, t1, t2, t3, t4] h Q ↔ zEv sc 23 40 [l0, l1, l2, l3, l4, .int x, l6, l7] [.int x, t0, t1, t2, t3, t4] h Q := zE_pure (q := (40, [l0, l1, l2, l3, l4, .int x, l6, l7], [.int x, t0, t1, t2, t3, t4])) dz23_38 rfl rfl rfl
theorem dz23_40 : decode (z_code 23) 40 = .ok (.bipush 10, 2) := by decide +kernel
theorem u23_40 : zEv sc 23 40 [l0, l1, l2, l3, l4, l5, l6, l7] [t0, t1, t2, t3, t4, t5] h Q ↔ zEv sc 23 42 [l0, l1, l2, l3, l4, l5, l6, l7] [.int 10, t0, t1, t2, t3, t4, t5] h Q := zE_bipush dz23_40 (by decide +kernel)
theorem dz23_42 : decode (z_code 23) 42 = .ok (.irem, 1) := by decide +kernel
theorem u23_42 : zEv sc 23 42 [l0, l1, l2, l3, l4, l5, l6, l7] [.int x2, .int x1, t0, t1, t2, t3, t4] h Q ↔ (¬ x2 = 0 ∧ zEv sc 23 43 [l0, l1, l2, l3, l4, l5, l6, l7] [.int (x1 - x1 / x2 * x2), t0, t1, t2, t3, t4] h Q) := zE_rem dz23_42
theorem dz23_43 : decode (z_code 23) 43 = .ok (.invokevirtual 64, 3) := by decide +kernel
theorem u23_43 (ho : zO a 2) : zEv sc 23 43 [l0, l1, l2, l3, l4, l5, l6, l7] [.int z2, .int z1, .int z0, .ref a, t0, t1] (zst p iv) Q ↔ zEv sc 22 0 [.ref a, .int z0, .int z1, .int z2] [] (zst p iv) (fun r h9 => zEv sc 23 46 [l0, l1, l2, l3, l4, l5, l6, l7] (r.toList ++ [t0, t1]) h9 Q) := zE_call (kd := 0) (na := 4) (nr := 2) (as := [.ref a, .int z0, .int z1, .int z2]) (rest := [t0, t1]) (Or.inl ⟨rfl, rfl⟩) dz23_43 (by decide +kernel : z_lk2 zCT (z_cls 23) 64 = some (22, 0, 449)) (fun z => by cases z) rfl rfl rfl (by decide +kernel) rfl rfl (Or.inr (zE_rc ho))
theorem dz23_46 : decode (z_code 23) 46 = .ok (.imul, 1) := by decide +kernel
theorem u23_46 : zEv sc 23 46 [l0, l1, l2, l3, l4, l5, l6, l7] [.int x2, .int x1, t0] h Q ↔ zEv sc 23 47 [l0, l1, l2, l3, l4, l5, l6, l7] [.int (x1 * x2), t0] h Q := zE_pure (q := (47, [l0, l1, l2, l3, l4, l5, l6, l7], [.int (x1 * x2), t0])) dz23_46 rfl rfl rfl
theorem dz23_47 : decode (z_code 23) 47 = .ok (.iadd, 1) := by decide +kernel
theorem u23_47 : zEv sc 23 47 [l0, l1, l2, l3, l4, l5, l6, l7] [.int x2, .int x1] h Q ↔ zEv sc 23 48 [l0, l1, l2, l3, l4, l5, l6, l7] [.int (x1 + x2)] h Q := zE_pure (q := (48, [l0, l1, l2, l3, l4, l5, l6, l7], [.int (x1 + x2)])) dz23_47 rfl rfl rfl
theorem dz23_48 : decode (z_code 23) 48 = .ok (.istore 6, 2) := by decide +kernel
theorem u23_48 : zEv sc 23 48 [l0, l1, l2, l3, l4, l5, l6, l7] [.int x] h Q ↔ zEv sc 23 50 [l0, l1, l2, l3, l4, l5, .int x, l7] [] h Q := zE_pure (q := (50, [l0, l1, l2, l3, l4, l5, .int x, l7], [])) dz23_48 rfl rfl rfl
theorem dz23_50 : decode (z_code 23) 50 = .ok (.iload 4, 2) := by decide +kernel
theorem u23_50 : zEv sc 23 50 [l0, l1, l2, l3, .int x, l5, l6, l7] [] h Q ↔ zEv sc 23 52 [l0, l1, l2, l3, .int x, l5, l6, l7] [.int x] h Q := zE_pure (q := (52, [l0, l1, l2, l3, .int x, l5, l6, l7], [.int x])) dz23_50 rfl rfl rfl
theorem dz23_52 : decode (z_code 23) 52 = .ok (.bipush 10, 2) := by decide +kernel
theorem u23_52 : zEv sc 23 52 [l0, l1, l2, l3, l4, l5, l6, l7] [t0] h Q ↔ zEv sc 23 54 [l0, l1, l2, l3, l4, l5, l6, l7] [.int 10, t0] h Q := zE_bipush dz23_52 (by decide +kernel)
theorem dz23_54 : decode (z_code 23) 54 = .ok (.idiv, 1) := by decide +kernel
theorem u23_54 : zEv sc 23 54 [l0, l1, l2, l3, l4, l5, l6, l7] [.int x2, .int x1] h Q ↔ (¬ x2 = 0 ∧ zEv sc 23 55 [l0, l1, l2, l3, l4, l5, l6, l7] [.int (x1 / x2)] h Q) := zE_div dz23_54
theorem dz23_55 : decode (z_code 23) 55 = .ok (.istore 4, 2) := by decide +kernel
theorem u23_55 : zEv sc 23 55 [l0, l1, l2, l3, l4, l5, l6, l7] [.int x] h Q ↔ zEv sc 23 57 [l0, l1, l2, l3, .int x, l5, l6, l7] [] h Q := zE_pure (q := (57, [l0, l1, l2, l3, .int x, l5, l6, l7], [])) dz23_55 rfl rfl rfl
theorem dz23_57 : decode (z_code 23) 57 = .ok (.iload 5, 2) := by decide +kernel
theorem u23_57 : zEv sc 23 57 [l0, l1, l2, l3, l4, .int x, l6, l7] [] h Q ↔ zEv sc 23 59 [l0, l1, l2, l3, l4, .int x, l6, l7] [.int x] h Q := zE_pure (q := (59, [l0, l1, l2, l3, l4, .int x, l6, l7], [.int x])) dz23_57 rfl rfl rfl
theorem dz23_59 : decode (z_code 23) 59 = .ok (.bipush 10, 2) := by decide +kernel
theorem u23_59 : zEv sc 23 59 [l0, l1, l2, l3, l4, l5, l6, l7] [t0] h Q ↔ zEv sc 23 61 [l0, l1, l2, l3, l4, l5, l6, l7] [.int 10, t0] h Q := zE_bipush dz23_59 (by decide +kernel)
theorem dz23_61 : decode (z_code 23) 61 = .ok (.idiv, 1) := by decide +kernel
theorem u23_61 : zEv sc 23 61 [l0, l1, l2, l3, l4, l5, l6, l7] [.int x2, .int x1] h Q ↔ (¬ x2 = 0 ∧ zEv sc 23 62 [l0, l1, l2, l3, l4, l5, l6, l7] [.int (x1 / x2)] h Q) := zE_div dz23_61
theorem dz23_62 : decode (z_code 23) 62 = .ok (.istore 5, 2) := by decide +kernel
theorem u23_62 : zEv sc 23 62 [l0, l1, l2, l3, l4, l5, l6, l7] [.int x] h Q ↔ zEv sc 23 64 [l0, l1, l2, l3, l4, .int x, l6, l7] [] h Q := zE_pure (q := (64, [l0, l1, l2, l3, l4, .int x, l6, l7], [])) dz23_62 rfl rfl rfl
theorem dz23_64 : decode (z_code 23) 64 = .ok (.iinc 7 (-1), 3) := by decide +kernel
theorem u23_64 : zEv sc 23 64 [l0, l1, l2, l3, l4, l5, l6, .int x] [] h Q ↔ zEv sc 23 67 [l0, l1, l2, l3, l4, l5, l6, .int (x + (-1))] [] h Q := zE_iinc (ls2 := [l0, l1, l2, l3, l4, l5, l6, .int (x + (-1))]) dz23_64 (by decide +kernel) rfl (by simp) rfl
theorem dz23_67 : decode (z_code 23) 67 = .ok (.goto (-50), 3) := by decide +kernel
theorem u23_67 : zEv sc 23 67 [l0, l1, l2, l3, l4, l5, l6, l7] [] h Q ↔ zEv sc 23 17 [l0, l1, l2, l3, l4, l5, l6, l7] [] h Q := zE_go 17 dz23_67 rfl
theorem dz23_70 : decode (z_code 23) 70 = .ok (.iload 6, 2) := by decide +kernel
theorem u23_70 : zEv sc 23 70 [l0, l1, l2, l3, l4, l5, .int x, l7] [] h Q ↔ zEv sc 23 72 [l0, l1, l2, l3, l4, l5, .int x, l7] [.int x] h Q := zE_pure (q := (72, [l0, l1, l2, l3, l4, l5, .int x, l7], [.int x])) dz23_70 rfl rfl rfl
theorem dz23_72 : decode (z_code 23) 72 = .ok (.ireturn, 1) := by decide +kernel
theorem u23_72 : zEv sc 23 72 [l0, l1, l2, l3, l4, l5, l6, l7] [.int x] h Q ↔ Q (some (.int x)) h := zE_ri dz23_72 (by decide +kernel)
/-! method 25: FieldMixtures$History.dropOldest()V -/
theorem dz25_0 : decode (z_code 25) 0 = .ok (.aload_n 0, 1) := by decide +kernel
theorem u25_0 : zEv sc 25 0 [.ref a, l1, l2] [] h Q ↔ zEv sc 25 1 [.ref a, l1, l2] [.ref a] h Q := zE_pure (q := (1, [.ref a, l1, l2], [.ref a])) dz25_0 rfl rfl rfl
theorem dz25_1 : decode (z_code 25) 1 = .ok (.getfield 17, 3) := by decide +kernel
theorem u25_1 (ho : zO a 3) : zEv sc 25 1 [l0, l1, l2] [.ref a] (zst p iv) Q ↔ zRef (zRV p a 1) (fun j => zEv sc 25 4 [l0, l1, l2] [.ref j] (zst p iv) Q) := zE_gfR dz25_1 (by decide +kernel : z_lk3 zFT (z_cls 25) 17 = some (3, 1, 0, 163)) (by decide +kernel) ho
theorem dz25_4 : decode (z_code 25) 4 = .ok (.iconst 0, 1) := by decide +kernel
theorem u25_4 : zEv sc 25 4 [l0, l1, l2] [t0] h Q ↔ zEv sc 25 5 [l0, l1, l2] [.int 0, t0] h Q := zE_iconst dz25_4 (by decide +kernel)
theorem dz25_5 : decode (z_code 25) 5 = .ok (.aaload, 1) := by decide +kernel
theorem u25_5 (ho : zO a 102) : zEv sc 25 5 [l0, l1, l2] [.int x, .ref a] (zst p iv) Q ↔ (vp_in x (zLn a) ∧ zRef (zRV p a x.toNatClampNeg) (fun j => zEv sc 25 6 [l0, l1, l2] [.ref j] (zst p iv) Q)) := zE_aald dz25_5 (Or.inl ho)
theorem dz25_6 : decode (z_code 25) 6 = .ok (.astore_n 1, 1) := by decide +kernel
theorem u25_6 : zEv sc 25 6 [l0, l1, l2] [.ref a] h Q ↔ zEv sc 25 7 [l0, .ref a, l2] [] h Q := zE_pure (q := (7, [l0, .ref a, l2], [])) dz25_6 rfl rfl rfl
theorem dz25_7 : decode (z_code 25) 7 = .ok (.iconst 1, 1) := by decide +kernel
theorem u25_7 : zEv sc 25 7 [l0, l1, l2] [] h Q ↔ zEv sc 25 8 [l0, l1, l2] [.int 1] h Q := zE_iconst dz25_7 (by decide +kernel)
theorem dz25_8 : decode (z_code 25) 8 = .ok (.istore_n 2, 1) := by decide +kernel
theorem u25_8 : zEv sc 25 8 [l0, l1, l2] [.int x] h Q ↔ zEv sc 25 9 [l0, l1, .int x] [] h Q := zE_pure (q := (9, [l0, l1, .int x], [])) dz25_8 rfl rfl rfl
theorem dz25_9 : decode (z_code 25) 9 = .ok (.iload_n 2, 1) := by decide +kernel
theorem u25_9 : zEv sc 25 9 [l0, l1, .int x] [] h Q ↔ zEv sc 25 10 [l0, l1, .int x] [.int x] h Q := zE_pure (q := (10, [l0, l1, .int x], [.int x])) dz25_9 rfl rfl rfl
theorem dz25_10 : decode (z_code 25) 10 = .ok (.iconst 4, 1) := by decide +kernel
theorem u25_10 : zEv sc 25 10 [l0, l1, l2] [t0] h Q ↔ zEv sc 25 11 [l0, l1, l2] [.int 4, t0] h Q := zE_iconst dz25_10 (by decide +kernel)
theorem dz25_11 : decode (z_code 25) 11 = .ok (.if_icmp .ge 23, 3) := by decide +kernel
theorem u25_11 : zEv sc 25 11 [l0, l1, l2] [.int x2, .int x1] h Q ↔ (if x2 ≤ x1 then zEv sc 25 34 [l0, l1, l2] [] h Q else zEv sc 25 14 [l0, l1, l2] [] h Q) := zE_icP (P := x2 ≤ x1) inferInstance 34 dz25_11 rfl rfl
theorem dz25_14 : decode (z_code 25) 14 = .ok (.aload_n 0, 1) := by decide +kernel
theorem u25_14 : zEv sc 25 14 [.ref a, l1, l2] [] h Q ↔ zEv sc 25 15 [.ref a, l1, l2] [.ref a] h Q := zE_pure (q := (15, [.ref a, l1, l2], [.ref a])) dz25_14 rfl rfl rfl
theorem dz25_15 : decode (z_code 25) 15 = .ok (.getfield 17, 3) := by decide +kernel
theorem u25_15 (ho : zO a 3) : zEv sc 25 15 [l0, l1, l2] [.ref a] (zst p iv) Q ↔ zRef (zRV p a 1) (fun j => zEv sc 25 18 [l0, l1, l2] [.ref j] (zst p iv) Q) := zE_gfR dz25_15 (by decide +kernel : z_lk3 zFT (z_cls 25) 17 = some (3, 1, 0, 163)) (by decide +kernel) ho
theorem dz25_18 : decode (z_code 25) 18 = .ok (.iload_n 2, 1) := by decide +kernel
theorem u25_18 : zEv sc 25 18 [l0, l1, .int x] [t0] h Q ↔ zEv sc 25 19 [l0, l1, .int x] [.int x, t0] h Q := zE_pure (q := (19, [l0, l1, .int x], [.int x, t0])) dz25_18 rfl rfl rfl
theorem dz25_19 : decode (z_code 25) 19 = .ok (.iconst 1, 1) := by decide +kernel
theorem u25_19 : zEv sc 25 19 [l0, l1, l2] [t0, t1] h Q ↔ zEv sc 25 20 [l0, l1, l2] [.int 1, t0, t1] h Q := zE_iconst dz25_19 (by decide +kernel)
theorem dz25_20 : decode (z_code 25) 20 = .ok (.isub, 1) := by decide +kernel
theorem u25_20 : zEv sc 25 20 [l0, l1, l2] [.int x2, .int x1, t0] h Q ↔ zEv sc 25 21 [l0, l1, l2] [.int (x1 - x2), t0] h Q := zE_pure (q := (21, [l0, l1, l2], [.int (x1 - x2), t0])) dz25_20 rfl rfl rfl
theorem dz25_21 : decode (z_code 25) 21 = .ok (.aload_n 0, 1) := by decide +kernel
theorem u25_21 : zEv sc 25 21 [.ref a, l1, l2] [t0, t1] h Q ↔ zEv sc 25 22 [.ref a, l1, l2] [.ref a, t0, t1] h Q := zE_pure (q := (22, [.ref a, l1, l2], [.ref a, t0, t1])) dz25_21 rfl rfl rfl
theorem dz25_22 : decode (z_code 25) 22 = .ok (.getfield 17, 3) := by decide +kernel
theorem u25_22 (ho : zO a 3) : zEv sc 25 22 [l0, l1, l2] [.ref a, t0, t1] (zst p iv) Q ↔ zRef (zRV p a 1) (fun j => zEv sc 25 25 [l0, l1, l2] [.ref j, t0, t1] (zst p iv) Q) := zE_gfR dz25_22 (by decide +kernel : z_lk3 zFT (z_cls 25) 17 = some (3, 1, 0, 163)) (by decide +kernel) ho
theorem dz25_25 : decode (z_code 25) 25 = .ok (.iload_n 2, 1) := by decide +kernel
theorem u25_25 : zEv sc 25 25 [l0, l1, .int x] [t0, t1, t2] h Q ↔ zEv sc 25 26 [l0, l1, .int x] [.int x, t0, t1, t2] h Q := zE_pure (q := (26, [l0, l1, .int x], [.int x, t0, t1, t2])) dz25_25 rfl rfl rfl
theorem dz25_26 : decode (z_code 25) 26 = .ok (.aaload, 1) := by decide +kernel
theorem u25_26 (ho : zO a 102) : zEv sc 25 26 [l0, l1, l2] [.int x, .ref a, t0, t1] (zst p iv) Q ↔ (vp_in x (zLn a) ∧ zRef (zRV p a x.toNatClampNeg) (fun j => zEv sc 25 27 [l0, l1, l2] [.ref j, t0, t1] (zst p iv) Q)) := zE_aald dz25_26 (Or.inl ho)
theorem dz25_27 : decode (z_code 25) 27 = .ok (.aastore, 1) := by decide +kernel
theorem u25_27 (ho : zO 27 102) (hv : zO a 2) (hx : vp_in x (zLn 27)) : zEv sc 25 27 [l0, l1, l2] [.ref a, .int x, .ref 27] (zst p iv) Q ↔ zEv sc 25 28 [l0, l1, l2] [] (zst (va_up p x.toNatClampNeg (some a)) iv) Q := zE_aast dz25_27 ho hv hx
theorem dz25_28 : decode (z_code 25) 28 = .ok (.iinc 2 1, 3) := by decide +kernel
theorem u25_28 : zEv sc 25 28 [l0, l1, .int x] [] h Q ↔ zEv sc 25 31 [l0, l1, .int (x + 1)] [] h Q := zE_iinc (ls2 := [l0, l1, .int (x + 1)]) dz25_28 (by decide +kernel) rfl (by simp) rfl
theorem dz25_31 : decode (z_code 25) 31 = .ok (.goto (-22), 3) := by decide +kernel
theorem u25_31 : zEv sc 25 31 [l0, l1, l2] [] h Q ↔ zEv sc 25 9 [l0, l1, l2] [] h Q := zE_go 9 dz25_31 rfl
theorem dz25_34 : decode (z_code 25) 34 = .ok (.aload_n 0, 1) := by decide +kernel
theorem u25_34 : zEv sc 25 34 [.ref a, l1, l2] [] h Q ↔ zEv sc 25 35 [.ref a, l1, l2] [.ref a] h Q := zE_pure (q := (35, [.ref a, l1, l2], [.ref a])) dz25_34 rfl rfl rfl
theorem dz25_35 : decode (z_code 25) 35 = .ok (.getfield 17, 3) := by decide +kernel
theorem u25_35 (ho : zO a 3) : zEv sc 25 35 [l0, l1, l2] [.ref a] (zst p iv) Q ↔ zRef (zRV p a 1) (fun j => zEv sc 25 38 [l0, l1, l2] [.ref j] (zst p iv) Q) := zE_gfR dz25_35 (by decide +kernel : z_lk3 zFT (z_cls 25) 17 = some (3, 1, 0, 163)) (by decide +kernel) ho
theorem dz25_38 : decode (z_code 25) 38 = .ok (.iconst 3, 1) := by decide +kernel
theorem u25_38 : zEv sc 25 38 [l0, l1, l2] [t0] h Q ↔ zEv sc 25 39 [l0, l1, l2] [.int 3, t0] h Q := zE_iconst dz25_38 (by decide +kernel)
theorem dz25_39 : decode (z_code 25) 39 = .ok (.aload_n 1, 1) := by decide +kernel
theorem u25_39 : zEv sc 25 39 [l0, .ref a, l2] [t0, t1] h Q ↔ zEv sc 25 40 [l0, .ref a, l2] [.ref a, t0, t1] h Q := zE_pure (q := (40, [l0, .ref a, l2], [.ref a, t0, t1])) dz25_39 rfl rfl rfl
theorem dz25_40 : decode (z_code 25) 40 = .ok (.aastore, 1) := by decide +kernel
theorem u25_40 (ho : zO 27 102) (hv : zO a 2) (hx : vp_in x (zLn 27)) : zEv sc 25 40 [l0, l1, l2] [.ref a, .int x, .ref 27] (zst p iv) Q ↔ zEv sc 25 41 [l0, l1, l2] [] (zst (va_up p x.toNatClampNeg (some a)) iv) Q := zE_aast dz25_40 ho hv hx
theorem dz25_41 : decode (z_code 25) 41 = .ok (.aload_n 0, 1) := by decide +kernel
theorem u25_41 : zEv sc 25 41 [.ref a, l1, l2] [] h Q ↔ zEv sc 25 42 [.ref a, l1, l2] [.ref a] h Q := zE_pure (q := (42, [.ref a, l1, l2], [.ref a])) dz25_41 rfl rfl rfl
theorem dz25_42 : decode (z_code 25) 42 = .ok (.iconst 3, 1) := by decide +kernel
theorem u25_42 : zEv sc 25 42 [l0, l1, l2] [t0] h Q ↔ zEv sc 25 43 [l0, l1, l2] [.int 3, t0] h Q := zE_iconst dz25_42 (by decide +kernel)
theorem dz25_43 : decode (z_code 25) 43 = .ok (.putfield 9, 3) := by decide +kernel
theorem u25_43 (ho : zO a 3) : zEv sc 25 43 [l0, l1, l2] [.int x, .ref a] (zst p iv) Q ↔ zEv sc 25 46 [l0, l1, l2] [] (zst p (w2 iv a 0 x)) Q := zE_pfI dz25_43 (by decide +kernel : z_lk3 zFT (z_cls 25) 9 = some (3, 0, 0, 161)) (by decide +kernel) (by decide +kernel) (by decide +kernel) ho
theorem dz25_46 : decode (z_code 25) 46 = .ok (.return_, 1) := by decide +kernel
theorem u25_46 : zEv sc 25 46 [l0, l1, l2] [] h Q ↔ Q none h := zE_rv dz25_46 (by decide +kernel)
/-! method 26: FieldMixtures$History.record(LFieldMixtures$Contest;)V -/
theorem dz26_0 : decode (z_code 26) 0 = .ok (.aload_n 0, 1) := by decide +kernel
theorem u26_0 : zEv sc 26 0 [.ref a, l1] [] h Q ↔ zEv sc 26 1 [.ref a, l1] [.ref a] h Q := zE_pure (q := (1, [.ref a, l1], [.ref a])) dz26_0 rfl rfl rfl
theorem dz26_1 : decode (z_code 26) 1 = .ok (.getfield 9, 3) := by decide +kernel
theorem u26_1 (ho : zO a 3) : zEv sc 26 1 [l0, l1] [.ref a] (zst p iv) Q ↔ zEv sc 26 4 [l0, l1] [.int (iv a 0)] (zst p iv) Q := zE_gfI dz26_1 (by decide +kernel : z_lk3 zFT (z_cls 26) 9 = some (3, 0, 0, 161)) (by decide +kernel) ho
theorem dz26_4 : decode (z_code 26) 4 = .ok (.iconst 4, 1) := by decide +kernel
theorem u26_4 : zEv sc 26 4 [l0, l1] [t0] h Q ↔ zEv sc 26 5 [l0, l1] [.int 4, t0] h Q := zE_iconst dz26_4 (by decide +kernel)
theorem dz26_5 : decode (z_code 26) 5 = .ok (.if_icmp .lt 7, 3) := by decide +kernel
theorem u26_5 : zEv sc 26 5 [l0, l1] [.int x2, .int x1] h Q ↔ (if x1 < x2 then zEv sc 26 12 [l0, l1] [] h Q else zEv sc 26 8 [l0, l1] [] h Q) := zE_icP (P := x1 < x2) inferInstance 12 dz26_5 rfl rfl
theorem dz26_8 : decode (z_code 26) 8 = .ok (.aload_n 0, 1) := by decide +kernel
theorem u26_8 : zEv sc 26 8 [.ref a, l1] [] h Q ↔ zEv sc 26 9 [.ref a, l1] [.ref a] h Q := zE_pure (q := (9, [.ref a, l1], [.ref a])) dz26_8 rfl rfl rfl
theorem dz26_9 : decode (z_code 26) 9 = .ok (.invokevirtual 22, 3) := by decide +kernel
theorem u26_9 (ho : zO a 3) : zEv sc 26 9 [l0, l1] [.ref a] (zst p iv) Q ↔ zEv sc 25 0 [.ref a, .null, .null] [] (zst p iv) (fun r h9 => zEv sc 26 12 [l0, l1] (r.toList ++ []) h9 Q) := zE_call (kd := 0) (na := 1) (nr := 0) (as := [.ref a]) (rest := []) (Or.inl ⟨rfl, rfl⟩) dz26_9 (by decide +kernel : z_lk2 zCT (z_cls 26) 22 = some (25, 0, 492)) (fun z => by cases z) rfl rfl rfl (by decide +kernel) rfl rfl (Or.inr (zE_rc ho))
theorem dz26_12 : decode (z_code 26) 12 = .ok (.aload_n 0, 1) := by decide +kernel
theorem u26_12 : zEv sc 26 12 [.ref a, l1] [] h Q ↔ zEv sc 26 13 [.ref a, l1] [.ref a] h Q := zE_pure (q := (13, [.ref a, l1], [.ref a])) dz26_12 rfl rfl rfl
theorem dz26_13 : decode (z_code 26) 13 = .ok (.getfield 17, 3) := by decide +kernel
theorem u26_13 (ho : zO a 3) : zEv sc 26 13 [l0, l1] [.ref a] (zst p iv) Q ↔ zRef (zRV p a 1) (fun j => zEv sc 26 16 [l0, l1] [.ref j] (zst p iv) Q) := zE_gfR dz26_13 (by decide +kernel : z_lk3 zFT (z_cls 26) 17 = some (3, 1, 0, 163)) (by decide +kernel) ho
theorem dz26_16 : decode (z_code 26) 16 = .ok (.aload_n 0, 1) := by decide +kernel
theorem u26_16 : zEv sc 26 16 [.ref a, l1] [t0] h Q ↔ zEv sc 26 17 [.ref a, l1] [.ref a, t0] h Q := zE_pure (q := (17, [.ref a, l1], [.ref a, t0])) dz26_16 rfl rfl rfl
theorem dz26_17 : decode (z_code 26) 17 = .ok (.getfield 9, 3) := by decide +kernel
theorem u26_17 (ho : zO a 3) : zEv sc 26 17 [l0, l1] [.ref a, t0] (zst p iv) Q ↔ zEv sc 26 20 [l0, l1] [.int (iv a 0), t0] (zst p iv) Q := zE_gfI dz26_17 (by decide +kernel : z_lk3 zFT (z_cls 26) 9 = some (3, 0, 0, 161)) (by decide +kernel) ho
theorem dz26_20 : decode (z_code 26) 20 = .ok (.aaload, 1) := by decide +kernel
theorem u26_20 (ho : zO a 102) : zEv sc 26 20 [l0, l1] [.int x, .ref a] (zst p iv) Q ↔ (vp_in x (zLn a) ∧ zRef (zRV p a x.toNatClampNeg) (fun j => zEv sc 26 21 [l0, l1] [.ref j] (zst p iv) Q)) := zE_aald dz26_20 (Or.inl ho)
theorem dz26_21 : decode (z_code 26) 21 = .ok (.aload_n 1, 1) := by decide +kernel
theorem u26_21 : zEv sc 26 21 [l0, .ref a] [t0] h Q ↔ zEv sc 26 22 [l0, .ref a] [.ref a, t0] h Q := zE_pure (q := (22, [l0, .ref a], [.ref a, t0])) dz26_21 rfl rfl rfl
theorem dz26_22 : decode (z_code 26) 22 = .ok (.invokevirtual 25, 3) := by decide +kernel
theorem u26_22 (ho : zO a 2) : zEv sc 26 22 [l0, l1] [.ref b0, .ref a] (zst p iv) Q ↔ zEv sc 13 0 [.ref a, .ref b0, .null] [] (zst p iv) (fun r h9 => zEv sc 26 25 [l0, l1] (r.toList ++ []) h9 Q) := zE_call (kd := 0) (na := 2) (nr := 0) (as := [.ref a, .ref b0]) (rest := []) (Or.inl ⟨rfl, rfl⟩) dz26_22 (by decide +kernel : z_lk2 zCT (z_cls 26) 25 = some (13, 1, 329)) (fun z => by cases z) rfl rfl rfl (by decide +kernel) rfl rfl (Or.inr (zE_rc ho))
theorem dz26_25 : decode (z_code 26) 25 = .ok (.aload_n 0, 1) := by decide +kernel
theorem u26_25 : zEv sc 26 25 [.ref a, l1] [] h Q ↔ zEv sc 26 26 [.ref a, l1] [.ref a] h Q := zE_pure (q := (26, [.ref a, l1], [.ref a])) dz26_25 rfl rfl rfl
theorem dz26_26 : decode (z_code 26) 26 = .ok (.dup, 1) := by decide +kernel
theorem u26_26 : zEv sc 26 26 [l0, l1] [.ref a] h Q ↔ zEv sc 26 27 [l0, l1] [.ref a, .ref a] h Q := zE_pure (q := (27, [l0, l1], [.ref a, .ref a])) dz26_26 rfl rfl rfl
theorem dz26_27 : decode (z_code 26) 27 = .ok (.getfield 9, 3) := by decide +kernel
theorem u26_27 (ho : zO a 3) : zEv sc 26 27 [l0, l1] [.ref a, t0] (zst p iv) Q ↔ zEv sc 26 30 [l0, l1] [.int (iv a 0), t0] (zst p iv) Q := zE_gfI dz26_27 (by decide +kernel : z_lk3 zFT (z_cls 26) 9 = some (3, 0, 0, 161)) (by decide +kernel) ho
theorem dz26_30 : decode (z_code 26) 30 = .ok (.iconst 1, 1) := by decide +kernel
theorem u26_30 : zEv sc 26 30 [l0, l1] [t0, t1] h Q ↔ zEv sc 26 31 [l0, l1] [.int 1, t0, t1] h Q := zE_iconst dz26_30 (by decide +kernel)
theorem dz26_31 : decode (z_code 26) 31 = .ok (.iadd, 1) := by decide +kernel
theorem u26_31 : zEv sc 26 31 [l0, l1] [.int x2, .int x1, t0] h Q ↔ zEv sc 26 32 [l0, l1] [.int (x1 + x2), t0] h Q := zE_pure (q := (32, [l0, l1], [.int (x1 + x2), t0])) dz26_31 rfl rfl rfl
theorem dz26_32 : decode (z_code 26) 32 = .ok (.putfield 9, 3) := by decide +kernel
theorem u26_32 (ho : zO a 3) : zEv sc 26 32 [l0, l1] [.int x, .ref a] (zst p iv) Q ↔ zEv sc 26 35 [l0, l1] [] (zst p (w2 iv a 0 x)) Q := zE_pfI dz26_32 (by decide +kernel : z_lk3 zFT (z_cls 26) 9 = some (3, 0, 0, 161)) (by decide +kernel) (by decide +kernel) (by decide +kernel) ho
theorem dz26_35 : decode (z_code 26) 35 = .ok (.return_, 1) := by decide +kernel
theorem u26_35 : zEv sc 26 35 [l0, l1] [] h Q ↔ Q none h := zE_rv dz26_35 (by decide +kernel)
/-! method 27: FieldMixtures$History.restoreLatest(LFieldMixtures$Contest;)V -/
theorem dz27_0 : decode (z_code 27) 0 = .ok (.aload_n 0, 1) := by decide +kernel
theorem u27_0 : zEv sc 27 0 [.ref a, l1] [] h Q ↔ zEv sc 27 1 [.ref a, l1] [.ref a] h Q := zE_pure (q := (1, [.ref a, l1], [.ref a])) dz27_0 rfl rfl rfl
theorem dz27_1 : decode (z_code 27) 1 = .ok (.getfield 9, 3) := by decide +kernel
theorem u27_1 (ho : zO a 3) : zEv sc 27 1 [l0, l1] [.ref a] (zst p iv) Q ↔ zEv sc 27 4 [l0, l1] [.int (iv a 0)] (zst p iv) Q := zE_gfI dz27_1 (by decide +kernel : z_lk3 zFT (z_cls 27) 9 = some (3, 0, 0, 161)) (by decide +kernel) ho
theorem dz27_4 : decode (z_code 27) 4 = .ok (.ifCond .le 26, 3) := by decide +kernel
theorem u27_4 : zEv sc 27 4 [l0, l1] [.int x] h Q ↔ (if x ≤ 0 then zEv sc 27 30 [l0, l1] [] h Q else zEv sc 27 7 [l0, l1] [] h Q) := zE_ifP (P := x ≤ 0) inferInstance 30 dz27_4 rfl rfl
theorem dz27_7 : decode (z_code 27) 7 = .ok (.aload_n 0, 1) := by decide +kernel
theorem u27_7 : zEv sc 27 7 [.ref a, l1] [] h Q ↔ zEv sc 27 8 [.ref a, l1] [.ref a] h Q := zE_pure (q := (8, [.ref a, l1], [.ref a])) dz27_7 rfl rfl rfl
theorem dz27_8 : decode (z_code 27) 8 = .ok (.dup, 1) := by decide +kernel
theorem u27_8 : zEv sc 27 8 [l0, l1] [.ref a] h Q ↔ zEv sc 27 9 [l0, l1] [.ref a, .ref a] h Q := zE_pure (q := (9, [l0, l1], [.ref a, .ref a])) dz27_8 rfl rfl rfl
theorem dz27_9 : decode (z_code 27) 9 = .ok (.getfield 9, 3) := by decide +kernel
theorem u27_9 (ho : zO a 3) : zEv sc 27 9 [l0, l1] [.ref a, t0] (zst p iv) Q ↔ zEv sc 27 12 [l0, l1] [.int (iv a 0), t0] (zst p iv) Q := zE_gfI dz27_9 (by decide +kernel : z_lk3 zFT (z_cls 27) 9 = some (3, 0, 0, 161)) (by decide +kernel) ho
theorem dz27_12 : decode (z_code 27) 12 = .ok (.iconst 1, 1) := by decide +kernel
theorem u27_12 : zEv sc 27 12 [l0, l1] [t0, t1] h Q ↔ zEv sc 27 13 [l0, l1] [.int 1, t0, t1] h Q := zE_iconst dz27_12 (by decide +kernel)
theorem dz27_13 : decode (z_code 27) 13 = .ok (.isub, 1) := by decide +kernel
theorem u27_13 : zEv sc 27 13 [l0, l1] [.int x2, .int x1, t0] h Q ↔ zEv sc 27 14 [l0, l1] [.int (x1 - x2), t0] h Q := zE_pure (q := (14, [l0, l1], [.int (x1 - x2), t0])) dz27_13 rfl rfl rfl
theorem dz27_14 : decode (z_code 27) 14 = .ok (.putfield 9, 3) := by decide +kernel
theorem u27_14 (ho : zO a 3) : zEv sc 27 14 [l0, l1] [.int x, .ref a] (zst p iv) Q ↔ zEv sc 27 17 [l0, l1] [] (zst p (w2 iv a 0 x)) Q := zE_pfI dz27_14 (by decide +kernel : z_lk3 zFT (z_cls 27) 9 = some (3, 0, 0, 161)) (by decide +kernel) (by decide +kernel) (by decide +kernel) ho
theorem dz27_17 : decode (z_code 27) 17 = .ok (.aload_n 1, 1) := by decide +kernel
theorem u27_17 : zEv sc 27 17 [l0, .ref a] [] h Q ↔ zEv sc 27 18 [l0, .ref a] [.ref a] h Q := zE_pure (q := (18, [l0, .ref a], [.ref a])) dz27_17 rfl rfl rfl
theorem dz27_18 : decode (z_code 27) 18 = .ok (.aload_n 0, 1) := by decide +kernel
theorem u27_18 : zEv sc 27 18 [.ref a, l1] [t0] h Q ↔ zEv sc 27 19 [.ref a, l1] [.ref a, t0] h Q := zE_pure (q := (19, [.ref a, l1], [.ref a, t0])) dz27_18 rfl rfl rfl
theorem dz27_19 : decode (z_code 27) 19 = .ok (.getfield 17, 3) := by decide +kernel
theorem u27_19 (ho : zO a 3) : zEv sc 27 19 [l0, l1] [.ref a, t0] (zst p iv) Q ↔ zRef (zRV p a 1) (fun j => zEv sc 27 22 [l0, l1] [.ref j, t0] (zst p iv) Q) := zE_gfR dz27_19 (by decide +kernel : z_lk3 zFT (z_cls 27) 17 = some (3, 1, 0, 163)) (by decide +kernel) ho
theorem dz27_22 : decode (z_code 27) 22 = .ok (.aload_n 0, 1) := by decide +kernel
theorem u27_22 : zEv sc 27 22 [.ref a, l1] [t0, t1] h Q ↔ zEv sc 27 23 [.ref a, l1] [.ref a, t0, t1] h Q := zE_pure (q := (23, [.ref a, l1], [.ref a, t0, t1])) dz27_22 rfl rfl rfl
theorem dz27_23 : decode (z_code 27) 23 = .ok (.getfield 9, 3) := by decide +kernel
theorem u27_23 (ho : zO a 3) : zEv sc 27 23 [l0, l1] [.ref a, t0, t1] (zst p iv) Q ↔ zEv sc 27 26 [l0, l1] [.int (iv a 0), t0, t1] (zst p iv) Q := zE_gfI dz27_23 (by decide +kernel : z_lk3 zFT (z_cls 27) 9 = some (3, 0, 0, 161)) (by decide +kernel) ho
theorem dz27_26 : decode (z_code 27) 26 = .ok (.aaload, 1) := by decide +kernel
theorem u27_26 (ho : zO a 102) : zEv sc 27 26 [l0, l1] [.int x, .ref a, t0] (zst p iv) Q ↔ (vp_in x (zLn a) ∧ zRef (zRV p a x.toNatClampNeg) (fun j => zEv sc 27 27 [l0, l1] [.ref j, t0] (zst p iv) Q)) := zE_aald dz27_26 (Or.inl ho)
theorem dz27_27 : decode (z_code 27) 27 = .ok (.invokevirtual 25, 3) := by decide +kernel
theorem u27_27 (ho : zO a 2) : zEv sc 27 27 [l0, l1] [.ref b0, .ref a] (zst p iv) Q ↔ zEv sc 13 0 [.ref a, .ref b0, .null] [] (zst p iv) (fun r h9 => zEv sc 27 30 [l0, l1] (r.toList ++ []) h9 Q) := zE_call (kd := 0) (na := 2) (nr := 0) (as := [.ref a, .ref b0]) (rest := []) (Or.inl ⟨rfl, rfl⟩) dz27_27 (by decide +kernel : z_lk2 zCT (z_cls 27) 25 = some (13, 1, 329)) (fun z => by cases z) rfl rfl rfl (by decide +kernel) rfl rfl (Or.inr (zE_rc ho))
theorem dz27_30 : decode (z_code 27) 30 = .ok (.return_, 1) := by decide +kernel
theorem u27_30 : zEv sc 27 30 [l0, l1] [] h Q ↔ Q none h := zE_rv dz27_30 (by decide +kernel)
/-! method 28: FieldMixtures$Mixture.placeOf(I)I -/
theorem dz28_0 : decode (z_code 28) 0 = .ok (.iconst 0, 1) := by decide +kernel
theorem u28_0 : zEv sc 28 0 [l0, l1, l2] [] h Q ↔ zEv sc 28 1 [l0, l1, l2] [.int 0] h Q := zE_iconst dz28_0 (by decide +kernel)
theorem dz28_1 : decode (z_code 28) 1 = .ok (.istore_n 2, 1) := by decide +kernel
theorem u28_1 : zEv sc 28 1 [l0, l1, l2] [.int x] h Q ↔ zEv sc 28 2 [l0, l1, .int x] [] h Q := zE_pure (q := (2, [l0, l1, .int x], [])) dz28_1 rfl rfl rfl
theorem dz28_2 : decode (z_code 28) 2 = .ok (.iload_n 2, 1) := by decide +kernel
theorem u28_2 : zEv sc 28 2 [l0, l1, .int x] [] h Q ↔ zEv sc 28 3 [l0, l1, .int x] [.int x] h Q := zE_pure (q := (3, [l0, l1, .int x], [.int x])) dz28_2 rfl rfl rfl
theorem dz28_3 : decode (z_code 28) 3 = .ok (.aload_n 0, 1) := by decide +kernel
theorem u28_3 : zEv sc 28 3 [.ref a, l1, l2] [t0] h Q ↔ zEv sc 28 4 [.ref a, l1, l2] [.ref a, t0] h Q := zE_pure (q := (4, [.ref a, l1, l2], [.ref a, t0])) dz28_3 rfl rfl rfl
theorem dz28_4 : decode (z_code 28) 4 = .ok (.getfield 18, 3) := by decide +kernel
theorem u28_4 (ho : zO a 4) : zEv sc 28 4 [l0, l1, l2] [.ref a, t0] (zst p iv) Q ↔ zEv sc 28 7 [l0, l1, l2] [.int (iv a 0), t0] (zst p iv) Q := zE_gfI dz28_4 (by decide +kernel : z_lk3 zFT (z_cls 28) 18 = some (4, 0, 0, 85)) (by decide +kernel) ho
theorem dz28_7 : decode (z_code 28) 7 = .ok (.if_icmp .ge 19, 3) := by decide +kernel
theorem u28_7 : zEv sc 28 7 [l0, l1, l2] [.int x2, .int x1] h Q ↔ (if x2 ≤ x1 then zEv sc 28 26 [l0, l1, l2] [] h Q else zEv sc 28 10 [l0, l1, l2] [] h Q) := zE_icP (P := x2 ≤ x1) inferInstance 26 dz28_7 rfl rfl
theorem dz28_10 : decode (z_code 28) 10 = .ok (.aload_n 0, 1) := by decide +kernel
theorem u28_10 : zEv sc 28 10 [.ref a, l1, l2] [] h Q ↔ zEv sc 28 11 [.ref a, l1, l2] [.ref a] h Q := zE_pure (q := (11, [.ref a, l1, l2], [.ref a])) dz28_10 rfl rfl rfl
theorem dz28_11 : decode (z_code 28) 11 = .ok (.getfield 9, 3) := by decide +kernel
theorem u28_11 (ho : zO a 4) : zEv sc 28 11 [l0, l1, l2] [.ref a] (zst p iv) Q ↔ zRef (zRV p a 1) (fun j => zEv sc 28 14 [l0, l1, l2] [.ref j] (zst p iv) Q) := zE_gfR dz28_11 (by decide +kernel : z_lk3 zFT (z_cls 28) 9 = some (4, 1, 0, 90)) (by decide +kernel) ho
theorem dz28_14 : decode (z_code 28) 14 = .ok (.iload_n 2, 1) := by decide +kernel
theorem u28_14 : zEv sc 28 14 [l0, l1, .int x] [t0] h Q ↔ zEv sc 28 15 [l0, l1, .int x] [.int x, t0] h Q := zE_pure (q := (15, [l0, l1, .int x], [.int x, t0])) dz28_14 rfl rfl rfl
theorem dz28_15 : decode (z_code 28) 15 = .ok (.iaload, 1) := by decide +kernel
theorem u28_15 (ho : zO a 100) : zEv sc 28 15 [l0, l1, l2] [.int x, .ref a] (zst p iv) Q ↔ (vp_in x (zLn a) ∧ zEv sc 28 16 [l0, l1, l2] [.int (iv a x.toNatClampNeg)] (zst p iv) Q) := zE_ald (Or.inl ⟨rfl, rfl⟩) dz28_15 ho
theorem dz28_16 : decode (z_code 28) 16 = .ok (.iload_n 1, 1) := by decide +kernel
theorem u28_16 : zEv sc 28 16 [l0, .int x, l2] [t0] h Q ↔ zEv sc 28 17 [l0, .int x, l2] [.int x, t0] h Q := zE_pure (q := (17, [l0, .int x, l2], [.int x, t0])) dz28_16 rfl rfl rfl
theorem dz28_17 : decode (z_code 28) 17 = .ok (.if_icmp .ge 9, 3) := by decide +kernel
theorem u28_17 : zEv sc 28 17 [l0, l1, l2] [.int x2, .int x1] h Q ↔ (if x2 ≤ x1 then zEv sc 28 26 [l0, l1, l2] [] h Q else zEv sc 28 20 [l0, l1, l2] [] h Q) := zE_icP (P := x2 ≤ x1) inferInstance 26 dz28_17 rfl rfl
theorem dz28_20 : decode (z_code 28) 20 = .ok (.iinc 2 1, 3) := by decide +kernel
theorem u28_20 : zEv sc 28 20 [l0, l1, .int x] [] h Q ↔ zEv sc 28 23 [l0, l1, .int (x + 1)] [] h Q := zE_iinc (ls2 := [l0, l1, .int (x + 1)]) dz28_20 (by decide +kernel) rfl (by simp) rfl
theorem dz28_23 : decode (z_code 28) 23 = .ok (.goto (-21), 3) := by decide +kernel
theorem u28_23 : zEv sc 28 23 [l0, l1, l2] [] h Q ↔ zEv sc 28 2 [l0, l1, l2] [] h Q := zE_go 2 dz28_23 rfl
theorem dz28_26 : decode (z_code 28) 26 = .ok (.iload_n 2, 1) := by decide +kernel
theorem u28_26 : zEv sc 28 26 [l0, l1, .int x] [] h Q ↔ zEv sc 28 27 [l0, l1, .int x] [.int x] h Q := zE_pure (q := (27, [l0, l1, .int x], [.int x])) dz28_26 rfl rfl rfl
theorem dz28_27 : decode (z_code 28) 27 = .ok (.ireturn, 1) := by decide +kernel
theorem u28_27 : zEv sc 28 27 [l0, l1, l2] [.int x] h Q ↔ Q (some (.int x)) h := zE_ri dz28_27 (by decide +kernel)
/-! method 29: FieldMixtures$Mixture.standsAt(II)Z -/
theorem dz29_0 : decode (z_code 29) 0 = .ok (.iload_n 1, 1) := by decide +kernel
theorem u29_0 : zEv sc 29 0 [l0, .int x, l2] [] h Q ↔ zEv sc 29 1 [l0, .int x, l2] [.int x] h Q := zE_pure (q := (1, [l0, .int x, l2], [.int x])) dz29_0 rfl rfl rfl
theorem dz29_1 : decode (z_code 29) 1 = .ok (.aload_n 0, 1) := by decide +kernel
theorem u29_1 : zEv sc 29 1 [.ref a, l1, l2] [t0] h Q ↔ zEv sc 29 2 [.ref a, l1, l2] [.ref a, t0] h Q := zE_pure (q := (2, [.ref a, l1, l2], [.ref a, t0])) dz29_1 rfl rfl rfl
theorem dz29_2 : decode (z_code 29) 2 = .ok (.getfield 18, 3) := by decide +kernel
theorem u29_2 (ho : zO a 4) : zEv sc 29 2 [l0, l1, l2] [.ref a, t0] (zst p iv) Q ↔ zEv sc 29 5 [l0, l1, l2] [.int (iv a 0), t0] (zst p iv) Q := zE_gfI dz29_2 (by decide +kernel : z_lk3 zFT (z_cls 29) 18 = some (4, 0, 0, 85)) (by decide +kernel) ho
theorem dz29_5 : decode (z_code 29) 5 = .ok (.if_icmp .ge 17, 3) := by decide +kernel
theorem u29_5 : zEv sc 29 5 [l0, l1, l2] [.int x2, .int x1] h Q ↔ (if x2 ≤ x1 then zEv sc 29 22 [l0, l1, l2] [] h Q else zEv sc 29 8 [l0, l1, l2] [] h Q) := zE_icP (P := x2 ≤ x1) inferInstance 22 dz29_5 rfl rfl
theorem dz29_8 : decode (z_code 29) 8 = .ok (.aload_n 0, 1) := by decide +kernel
theorem u29_8 : zEv sc 29 8 [.ref a, l1, l2] [] h Q ↔ zEv sc 29 9 [.ref a, l1, l2] [.ref a] h Q := zE_pure (q := (9, [.ref a, l1, l2], [.ref a])) dz29_8 rfl rfl rfl
theorem dz29_9 : decode (z_code 29) 9 = .ok (.getfield 9, 3) := by decide +kernel
theorem u29_9 (ho : zO a 4) : zEv sc 29 9 [l0, l1, l2] [.ref a] (zst p iv) Q ↔ zRef (zRV p a 1) (fun j => zEv sc 29 12 [l0, l1, l2] [.ref j] (zst p iv) Q) := zE_gfR dz29_9 (by decide +kernel : z_lk3 zFT (z_cls 29) 9 = some (4, 1, 0, 90)) (by decide +kernel) ho
theorem dz29_12 : decode (z_code 29) 12 = .ok (.iload_n 1, 1) := by decide +kernel
theorem u29_12 : zEv sc 29 12 [l0, .int x, l2] [t0] h Q ↔ zEv sc 29 13 [l0, .int x, l2] [.int x, t0] h Q := zE_pure (q := (13, [l0, .int x, l2], [.int x, t0])) dz29_12 rfl rfl rfl
theorem dz29_13 : decode (z_code 29) 13 = .ok (.iaload, 1) := by decide +kernel
theorem u29_13 (ho : zO a 100) : zEv sc 29 13 [l0, l1, l2] [.int x, .ref a] (zst p iv) Q ↔ (vp_in x (zLn a) ∧ zEv sc 29 14 [l0, l1, l2] [.int (iv a x.toNatClampNeg)] (zst p iv) Q) := zE_ald (Or.inl ⟨rfl, rfl⟩) dz29_13 ho
theorem dz29_14 : decode (z_code 29) 14 = .ok (.iload_n 2, 1) := by decide +kernel
theorem u29_14 : zEv sc 29 14 [l0, l1, .int x] [t0] h Q ↔ zEv sc 29 15 [l0, l1, .int x] [.int x, t0] h Q := zE_pure (q := (15, [l0, l1, .int x], [.int x, t0])) dz29_14 rfl rfl rfl
theorem dz29_15 : decode (z_code 29) 15 = .ok (.if_icmp .ne 7, 3) := by decide +kernel
theorem u29_15 : zEv sc 29 15 [l0, l1, l2] [.int x2, .int x1] h Q ↔ (if ¬ x1 = x2 then zEv sc 29 22 [l0, l1, l2] [] h Q else zEv sc 29 18 [l0, l1, l2] [] h Q) := zE_icP (P := ¬ x1 = x2) inferInstance 22 dz29_15 rfl rfl
theorem dz29_18 : decode (z_code 29) 18 = .ok (.iconst 1, 1) := by decide +kernel
theorem u29_18 : zEv sc 29 18 [l0, l1, l2] [] h Q ↔ zEv sc 29 19 [l0, l1, l2] [.int 1] h Q := zE_iconst dz29_18 (by decide +kernel)
theorem dz29_19 : decode (z_code 29) 19 = .ok (.goto 4, 3) := by decide +kernel
theorem u29_19 : zEv sc 29 19 [l0, l1, l2] [t0] h Q ↔ zEv sc 29 23 [l0, l1, l2] [t0] h Q := zE_go 23 dz29_19 rfl
theorem dz29_23 : decode (z_code 29) 23 = .ok (.ireturn, 1) := by decide +kernel
theorem u29_23 : zEv sc 29 23 [l0, l1, l2] [.int x] h Q ↔ ((x = 0 ∨ x = 1) ∧ Q (some (.int x)) h) := zE_rz dz29_23 (by decide +kernel)
theorem dz29_22 : decode (z_code 29) 22 = .ok (.iconst 0, 1) := by decide +kernel
theorem u29_22 : zEv sc 29 22 [l0, l1, l2] [] h Q ↔ zEv sc 29 23 [l0, l1, l2] [.int 0] h Q := zE_iconst dz29_22 (by decide +kernel)
/-! method 30: FieldMixtures$Mixture.weightOf(I)I -/
theorem dz30_0 : decode (z_code 30) 0 = .ok (.aload_n 0, 1) := by decide +kernel
theorem u30_0 : zEv sc 30 0 [.ref a, l1, l2] [] h Q ↔ zEv sc 30 1 [.ref a, l1, l2] [.ref a] h Q := zE_pure (q := (1, [.ref a, l1, l2], [.ref a])) dz30_0 rfl rfl rfl
theorem dz30_1 : decode (z_code 30) 1 = .ok (.iload_n 1, 1) := by decide +kernel
theorem u30_1 : zEv sc 30 1 [l0, .int x, l2] [t0] h Q ↔ zEv sc 30 2 [l0, .int x, l2] [.int x, t0] h Q := zE_pure (q := (2, [l0, .int x, l2], [.int x, t0])) dz30_1 rfl rfl rfl
theorem dz30_2 : decode (z_code 30) 2 = .ok (.invokevirtual 22, 3) := by decide +kernel
theorem u30_2 (ho : zO a 4) : zEv sc 30 2 [l0, l1, l2] [.int z0, .ref a] (zst p iv) Q ↔ zEv sc 28 0 [.ref a, .int z0, .null] [] (zst p iv) (fun r h9 => zEv sc 30 5 [l0, l1, l2] (r.toList ++ []) h9 Q) := zE_call (kd := 0) (na := 2) (nr := 0) (as := [.ref a, .int z0]) (rest := []) (Or.inl ⟨rfl, rfl⟩) dz30_2 (by decide +kernel : z_lk2 zCT (z_cls 30) 22 = some (28, 0, 478)) (fun z => by cases z) rfl rfl rfl (by decide +kernel) rfl rfl (Or.inr (zE_rc ho))
theorem dz30_5 : decode (z_code 30) 5 = .ok (.istore_n 2, 1) := by decide +kernel
theorem u30_5 : zEv sc 30 5 [l0, l1, l2] [.int x] h Q ↔ zEv sc 30 6 [l0, l1, .int x] [] h Q := zE_pure (q := (6, [l0, l1, .int x], [])) dz30_5 rfl rfl rfl
theorem dz30_6 : decode (z_code 30) 6 = .ok (.aload_n 0, 1) := by decide +kernel
theorem u30_6 : zEv sc 30 6 [.ref a, l1, l2] [] h Q ↔ zEv sc 30 7 [.ref a, l1, l2] [.ref a] h Q := zE_pure (q := (7, [.ref a, l1, l2], [.ref a])) dz30_6 rfl rfl rfl
theorem dz30_7 : decode (z_code 30) 7 = .ok (.iload_n 2, 1) := by decide +kernel
theorem u30_7 : zEv sc 30 7 [l0, l1, .int x] [t0] h Q ↔ zEv sc 30 8 [l0, l1, .int x] [.int x, t0] h Q := zE_pure (q := (8, [l0, l1, .int x], [.int x, t0])) dz30_7 rfl rfl rfl
theorem dz30_8 : decode (z_code 30) 8 = .ok (.iload_n 1, 1) := by decide +kernel
theorem u30_8 : zEv sc 30 8 [l0, .int x, l2] [t0, t1] h Q ↔ zEv sc 30 9 [l0, .int x, l2] [.int x, t0, t1] h Q := zE_pure (q := (9, [l0, .int x, l2], [.int x, t0, t1])) dz30_8 rfl rfl rfl
theorem dz30_9 : decode (z_code 30) 9 = .ok (.invokevirtual 26, 3) := by decide +kernel
theorem u30_9 (ho : zO a 4) : zEv sc 30 9 [l0, l1, l2] [.int z1, .int z0, .ref a] (zst p iv) Q ↔ zEv sc 29 0 [.ref a, .int z0, .int z1] [] (zst p iv) (fun r h9 => zEv sc 30 12 [l0, l1, l2] (r.toList ++ []) h9 Q) := zE_call (kd := 0) (na := 3) (nr := 0) (as := [.ref a, .int z0, .int z1]) (rest := []) (Or.inl ⟨rfl, rfl⟩) dz30_9 (by decide +kernel : z_lk2 zCT (z_cls 30) 26 = some (29, 0, 482)) (fun z => by cases z) rfl rfl rfl (by decide +kernel) rfl rfl (Or.inr (zE_rc ho))
theorem dz30_12 : decode (z_code 30) 12 = .ok (.ifCond .eq 12, 3) := by decide +kernel
theorem u30_12 : zEv sc 30 12 [l0, l1, l2] [.int x] h Q ↔ (if x = 0 then zEv sc 30 24 [l0, l1, l2] [] h Q else zEv sc 30 15 [l0, l1, l2] [] h Q) := zE_ifP (P := x = 0) inferInstance 24 dz30_12 rfl rfl
theorem dz30_15 : decode (z_code 30) 15 = .ok (.aload_n 0, 1) := by decide +kernel
theorem u30_15 : zEv sc 30 15 [.ref a, l1, l2] [] h Q ↔ zEv sc 30 16 [.ref a, l1, l2] [.ref a] h Q := zE_pure (q := (16, [.ref a, l1, l2], [.ref a])) dz30_15 rfl rfl rfl
theorem dz30_16 : decode (z_code 30) 16 = .ok (.getfield 15, 3) := by decide +kernel
theorem u30_16 (ho : zO a 4) : zEv sc 30 16 [l0, l1, l2] [.ref a] (zst p iv) Q ↔ zRef (zRV p a 2) (fun j => zEv sc 30 19 [l0, l1, l2] [.ref j] (zst p iv) Q) := zE_gfR dz30_16 (by decide +kernel : z_lk3 zFT (z_cls 30) 15 = some (4, 2, 0, 94)) (by decide +kernel) ho
theorem dz30_19 : decode (z_code 30) 19 = .ok (.iload_n 2, 1) := by decide +kernel
theorem u30_19 : zEv sc 30 19 [l0, l1, .int x] [t0] h Q ↔ zEv sc 30 20 [l0, l1, .int x] [.int x, t0] h Q := zE_pure (q := (20, [l0, l1, .int x], [.int x, t0])) dz30_19 rfl rfl rfl
theorem dz30_20 : decode (z_code 30) 20 = .ok (.iaload, 1) := by decide +kernel
theorem u30_20 (ho : zO a 100) : zEv sc 30 20 [l0, l1, l2] [.int x, .ref a] (zst p iv) Q ↔ (vp_in x (zLn a) ∧ zEv sc 30 21 [l0, l1, l2] [.int (iv a x.toNatClampNeg)] (zst p iv) Q) := zE_ald (Or.inl ⟨rfl, rfl⟩) dz30_20 ho
theorem dz30_21 : decode (z_code 30) 21 = .ok (.goto 4, 3) := by decide +kernel
theorem u30_21 : zEv sc 30 21 [l0, l1, l2] [t0] h Q ↔ zEv sc 30 25 [l0, l1, l2] [t0] h Q := zE_go 25 dz30_21 rfl
theorem dz30_25 : decode (z_code 30) 25 = .ok (.ireturn, 1) := by decide +kernel
theorem u30_25 : zEv sc 30 25 [l0, l1, l2] [.int x] h Q ↔ Q (some (.int x)) h := zE_ri dz30_25 (by decide +kernel)
theorem dz30_24 : decode (z_code 30) 24 = .ok (.iconst 0, 1) := by decide +kernel
theorem u30_24 : zEv sc 30 24 [l0, l1, l2] [] h Q ↔ zEv sc 30 25 [l0, l1, l2] [.int 0] h Q := zE_iconst dz30_24 (by decide +kernel)
/-! method 31: FieldMixtures$Mixture.hasRoomFor(I)Z -/
theorem dz31_0 : decode (z_code 31) 0 = .ok (.aload_n 0, 1) := by decide +kernel
theorem u31_0 : zEv sc 31 0 [.ref a, l1] [] h Q ↔ zEv sc 31 1 [.ref a, l1] [.ref a] h Q := zE_pure (q := (1, [.ref a, l1], [.ref a])) dz31_0 rfl rfl rfl
theorem dz31_1 : decode (z_code 31) 1 = .ok (.getfield 18, 3) := by decide +kernel
theorem u31_1 (ho : zO a 4) : zEv sc 31 1 [l0, l1] [.ref a] (zst p iv) Q ↔ zEv sc 31 4 [l0, l1] [.int (iv a 0)] (zst p iv) Q := zE_gfI dz31_1 (by decide +kernel : z_lk3 zFT (z_cls 31) 18 = some (4, 0, 0, 85)) (by decide +kernel) ho
theorem dz31_4 : decode (z_code 31) 4 = .ok (.bipush 12, 2) := by decide +kernel
theorem u31_4 : zEv sc 31 4 [l0, l1] [t0] h Q ↔ zEv sc 31 6 [l0, l1] [.int 12, t0] h Q := zE_bipush dz31_4 (by decide +kernel)
theorem dz31_6 : decode (z_code 31) 6 = .ok (.if_icmp .lt 11, 3) := by decide +kernel
theorem u31_6 : zEv sc 31 6 [l0, l1] [.int x2, .int x1] h Q ↔ (if x1 < x2 then zEv sc 31 17 [l0, l1] [] h Q else zEv sc 31 9 [l0, l1] [] h Q) := zE_icP (P := x1 < x2) inferInstance 17 dz31_6 rfl rfl
theorem dz31_9 : decode (z_code 31) 9 = .ok (.aload_n 0, 1) := by decide +kernel
theorem u31_9 : zEv sc 31 9 [.ref a, l1] [] h Q ↔ zEv sc 31 10 [.ref a, l1] [.ref a] h Q := zE_pure (q := (10, [.ref a, l1], [.ref a])) dz31_9 rfl rfl rfl
theorem dz31_10 : decode (z_code 31) 10 = .ok (.iload_n 1, 1) := by decide +kernel
theorem u31_10 : zEv sc 31 10 [l0, .int x] [t0] h Q ↔ zEv sc 31 11 [l0, .int x] [.int x, t0] h Q := zE_pure (q := (11, [l0, .int x], [.int x, t0])) dz31_10 rfl rfl rfl
theorem dz31_11 : decode (z_code 31) 11 = .ok (.invokevirtual 30, 3) := by decide +kernel
theorem u31_11 (ho : zO a 4) : zEv sc 31 11 [l0, l1] [.int z0, .ref a] (zst p iv) Q ↔ zEv sc 30 0 [.ref a, .int z0, .null] [] (zst p iv) (fun r h9 => zEv sc 31 14 [l0, l1] (r.toList ++ []) h9 Q) := zE_call (kd := 0) (na := 2) (nr := 0) (as := [.ref a, .int z0]) (rest := []) (Or.inl ⟨rfl, rfl⟩) dz31_11 (by decide +kernel : z_lk2 zCT (z_cls 31) 30 = some (30, 0, 474)) (fun z => by cases z) rfl rfl rfl (by decide +kernel) rfl rfl (Or.inr (zE_rc ho))
theorem dz31_14 : decode (z_code 31) 14 = .ok (.ifCond .le 7, 3) := by decide +kernel
theorem u31_14 : zEv sc 31 14 [l0, l1] [.int x] h Q ↔ (if x ≤ 0 then zEv sc 31 21 [l0, l1] [] h Q else zEv sc 31 17 [l0, l1] [] h Q) := zE_ifP (P := x ≤ 0) inferInstance 21 dz31_14 rfl rfl
theorem dz31_21 : decode (z_code 31) 21 = .ok (.iconst 0, 1) := by decide +kernel
theorem u31_21 : zEv sc 31 21 [l0, l1] [] h Q ↔ zEv sc 31 22 [l0, l1] [.int 0] h Q := zE_iconst dz31_21 (by decide +kernel)
theorem dz31_22 : decode (z_code 31) 22 = .ok (.ireturn, 1) := by decide +kernel
theorem u31_22 : zEv sc 31 22 [l0, l1] [.int x] h Q ↔ ((x = 0 ∨ x = 1) ∧ Q (some (.int x)) h) := zE_rz dz31_22 (by decide +kernel)
theorem dz31_17 : decode (z_code 31) 17 = .ok (.iconst 1, 1) := by decide +kernel
theorem u31_17 : zEv sc 31 17 [l0, l1] [] h Q ↔ zEv sc 31 18 [l0, l1] [.int 1] h Q := zE_iconst dz31_17 (by decide +kernel)
theorem dz31_18 : decode (z_code 31) 18 = .ok (.goto 4, 3) := by decide +kernel
theorem u31_18 : zEv sc 31 18 [l0, l1] [t0] h Q ↔ zEv sc 31 22 [l0, l1] [t0] h Q := zE_go 22 dz31_18 rfl
/-! method 32: FieldMixtures$Mixture.openGap(I)V -/
theorem dz32_0 : decode (z_code 32) 0 = .ok (.aload_n 0, 1) := by decide +kernel
theorem u32_0 : zEv sc 32 0 [.ref a, l1, l2] [] h Q ↔ zEv sc 32 1 [.ref a, l1, l2] [.ref a] h Q := zE_pure (q := (1, [.ref a, l1, l2], [.ref a])) dz32_0 rfl rfl rfl
theorem dz32_1 : decode (z_code 32) 1 = .ok (.getfield 18, 3) := by decide +kernel
theorem u32_1 (ho : zO a 4) : zEv sc 32 1 [l0, l1, l2] [.ref a] (zst p iv) Q ↔ zEv sc 32 4 [l0, l1, l2] [.int (iv a 0)] (zst p iv) Q := zE_gfI dz32_1 (by decide +kernel : z_lk3 zFT (z_cls 32) 18 = some (4, 0, 0, 85)) (by decide +kernel) ho
theorem dz32_4 : decode (z_code 32) 4 = .ok (.istore_n 2, 1) := by decide +kernel
theorem u32_4 : zEv sc 32 4 [l0, l1, l2] [.int x] h Q ↔ zEv sc 32 5 [l0, l1, .int x] [] h Q := zE_pure (q := (5, [l0, l1, .int x], [])) dz32_4 rfl rfl rfl
theorem dz32_5 : decode (z_code 32) 5 = .ok (.iload_n 2, 1) := by decide +kernel
theorem u32_5 : zEv sc 32 5 [l0, l1, .int x] [] h Q ↔ zEv sc 32 6 [l0, l1, .int x] [.int x] h Q := zE_pure (q := (6, [l0, l1, .int x], [.int x])) dz32_5 rfl rfl rfl
theorem dz32_6 : decode (z_code 32) 6 = .ok (.iload_n 1, 1) := by decide +kernel
theorem u32_6 : zEv sc 32 6 [l0, .int x, l2] [t0] h Q ↔ zEv sc 32 7 [l0, .int x, l2] [.int x, t0] h Q := zE_pure (q := (7, [l0, .int x, l2], [.int x, t0])) dz32_6 rfl rfl rfl
theorem dz32_7 : decode (z_code 32) 7 = .ok (.if_icmp .le 37, 3) := by decide +kernel
theorem u32_7 : zEv sc 32 7 [l0, l1, l2] [.int x2, .int x1] h Q ↔ (if x1 ≤ x2 then zEv sc 32 44 [l0, l1, l2] [] h Q else zEv sc 32 10 [l0, l1, l2] [] h Q) := zE_icP (P := x1 ≤ x2) inferInstance 44 dz32_7 rfl rfl
theorem dz32_10 : decode (z_code 32) 10 = .ok (.aload_n 0, 1) := by decide +kernel
theorem u32_10 : zEv sc 32 10 [.ref a, l1, l2] [] h Q ↔ zEv sc 32 11 [.ref a, l1, l2] [.ref a] h Q := zE_pure (q := (11, [.ref a, l1, l2], [.ref a])) dz32_10 rfl rfl rfl
theorem dz32_11 : decode (z_code 32) 11 = .ok (.getfield 9, 3) := by decide +kernel
theorem u32_11 (ho : zO a 4) : zEv sc 32 11 [l0, l1, l2] [.ref a] (zst p iv) Q ↔ zRef (zRV p a 1) (fun j => zEv sc 32 14 [l0, l1, l2] [.ref j] (zst p iv) Q) := zE_gfR dz32_11 (by decide +kernel : z_lk3 zFT (z_cls 32) 9 = some (4, 1, 0, 90)) (by decide +kernel) ho
theorem dz32_14 : decode (z_code 32) 14 = .ok (.iload_n 2, 1) := by decide +kernel
theorem u32_14 : zEv sc 32 14 [l0, l1, .int x] [t0] h Q ↔ zEv sc 32 15 [l0, l1, .int x] [.int x, t0] h Q := zE_pure (q := (15, [l0, l1, .int x], [.int x, t0])) dz32_14 rfl rfl rfl
theorem dz32_15 : decode (z_code 32) 15 = .ok (.aload_n 0, 1) := by decide +kernel
theorem u32_15 : zEv sc 32 15 [.ref a, l1, l2] [t0, t1] h Q ↔ zEv sc 32 16 [.ref a, l1, l2] [.ref a, t0, t1] h Q := zE_pure (q := (16, [.ref a, l1, l2], [.ref a, t0, t1])) dz32_15 rfl rfl rfl
theorem dz32_16 : decode (z_code 32) 16 = .ok (.getfield 9, 3) := by decide +kernel
theorem u32_16 (ho : zO a 4) : zEv sc 32 16 [l0, l1, l2] [.ref a, t0, t1] (zst p iv) Q ↔ zRef (zRV p a 1) (fun j => zEv sc 32 19 [l0, l1, l2] [.ref j, t0, t1] (zst p iv) Q) := zE_gfR dz32_16 (by decide +kernel : z_lk3 zFT (z_cls 32) 9 = some (4, 1, 0, 90)) (by decide +kernel) ho
theorem dz32_19 : decode (z_code 32) 19 = .ok (.iload_n 2, 1) := by decide +kernel
theorem u32_19 : zEv sc 32 19 [l0, l1, .int x] [t0, t1, t2] h Q ↔ zEv sc 32 20 [l0, l1, .int x] [.int x, t0, t1, t2] h Q := zE_pure (q := (20, [l0, l1, .int x], [.int x, t0, t1, t2])) dz32_19 rfl rfl rfl
theorem dz32_20 : decode (z_code 32) 20 = .ok (.iconst 1, 1) := by decide +kernel
theorem u32_20 : zEv sc 32 20 [l0, l1, l2] [t0, t1, t2, t3] h Q ↔ zEv sc 32 21 [l0, l1, l2] [.int 1, t0, t1, t2, t3] h Q := zE_iconst dz32_20 (by decide +kernel)
theorem dz32_21 : decode (z_code 32) 21 = .ok (.isub, 1) := by decide +kernel
theorem u32_21 : zEv sc 32 21 [l0, l1, l2] [.int x2, .int x1, t0, t1, t2] h Q ↔ zEv sc 32 22 [l0, l1, l2] [.int (x1 - x2), t0, t1, t2] h Q := zE_pure (q := (22, [l0, l1, l2], [.int (x1 - x2), t0, t1, t2])) dz32_21 rfl rfl rfl
theorem dz32_22 : decode (z_code 32) 22 = .ok (.iaload, 1) := by decide +kernel
theorem u32_22 (ho : zO a 100) : zEv sc 32 22 [l0, l1, l2] [.int x, .ref a, t0, t1] (zst p iv) Q ↔ (vp_in x (zLn a) ∧ zEv sc 32 23 [l0, l1, l2] [.int (iv a x.toNatClampNeg), t0, t1] (zst p iv) Q) := zE_ald (Or.inl ⟨rfl, rfl⟩) dz32_22 ho
theorem dz32_23 : decode (z_code 32) 23 = .ok (.iastore, 1) := by decide +kernel
theorem u32_23 (ho : zO a 100) : zEv sc 32 23 [l0, l1, l2] [.int x2, .int x1, .ref a] (zst p iv) Q ↔ (vp_in x1 (zLn a) ∧ zEv sc 32 24 [l0, l1, l2] [] (zst p (w2 iv a x1.toNatClampNeg x2)) Q) := zE_ast (Or.inl ⟨rfl, rfl, rfl⟩) dz32_23 ho
theorem dz32_24 : decode (z_code 32) 24 = .ok (.aload_n 0, 1) := by decide +kernel
theorem u32_24 : zEv sc 32 24 [.ref a, l1, l2] [] h Q ↔ zEv sc 32 25 [.ref a, l1, l2] [.ref a] h Q := zE_pure (q := (25, [.ref a, l1, l2], [.ref a])) dz32_24 rfl rfl rfl
theorem dz32_25 : decode (z_code 32) 25 = .ok (.getfield 15, 3) := by decide +kernel
theorem u32_25 (ho : zO a 4) : zEv sc 32 25 [l0, l1, l2] [.ref a] (zst p iv) Q ↔ zRef (zRV p a 2) (fun j => zEv sc 32 28 [l0, l1, l2] [.ref j] (zst p iv) Q) := zE_gfR dz32_25 (by decide +kernel : z_lk3 zFT (z_cls 32) 15 = some (4, 2, 0, 94)) (by decide +kernel) ho
theorem dz32_28 : decode (z_code 32) 28 = .ok (.iload_n 2, 1) := by decide +kernel
theorem u32_28 : zEv sc 32 28 [l0, l1, .int x] [t0] h Q ↔ zEv sc 32 29 [l0, l1, .int x] [.int x, t0] h Q := zE_pure (q := (29, [l0, l1, .int x], [.int x, t0])) dz32_28 rfl rfl rfl
theorem dz32_29 : decode (z_code 32) 29 = .ok (.aload_n 0, 1) := by decide +kernel
theorem u32_29 : zEv sc 32 29 [.ref a, l1, l2] [t0, t1] h Q ↔ zEv sc 32 30 [.ref a, l1, l2] [.ref a, t0, t1] h Q := zE_pure (q := (30, [.ref a, l1, l2], [.ref a, t0, t1])) dz32_29 rfl rfl rfl
theorem dz32_30 : decode (z_code 32) 30 = .ok (.getfield 15, 3) := by decide +kernel
theorem u32_30 (ho : zO a 4) : zEv sc 32 30 [l0, l1, l2] [.ref a, t0, t1] (zst p iv) Q ↔ zRef (zRV p a 2) (fun j => zEv sc 32 33 [l0, l1, l2] [.ref j, t0, t1] (zst p iv) Q) := zE_gfR dz32_30 (by decide +kernel : z_lk3 zFT (z_cls 32) 15 = some (4, 2, 0, 94)) (by decide +kernel) ho
theorem dz32_33 : decode (z_code 32) 33 = .ok (.iload_n 2, 1) := by decide +kernel
theorem u32_33 : zEv sc 32 33 [l0, l1, .int x] [t0, t1, t2] h Q ↔ zEv sc 32 34 [l0, l1, .int x] [.int x, t0, t1, t2] h Q := zE_pure (q := (34, [l0, l1, .int x], [.int x, t0, t1, t2])) dz32_33 rfl rfl rfl
theorem dz32_34 : decode (z_code 32) 34 = .ok (.iconst 1, 1) := by decide +kernel
theorem u32_34 : zEv sc 32 34 [l0, l1, l2] [t0, t1, t2, t3] h Q ↔ zEv sc 32 35 [l0, l1, l2] [.int 1, t0, t1, t2, t3] h Q := zE_iconst dz32_34 (by decide +kernel)
theorem dz32_35 : decode (z_code 32) 35 = .ok (.isub, 1) := by decide +kernel
theorem u32_35 : zEv sc 32 35 [l0, l1, l2] [.int x2, .int x1, t0, t1, t2] h Q ↔ zEv sc 32 36 [l0, l1, l2] [.int (x1 - x2), t0, t1, t2] h Q := zE_pure (q := (36, [l0, l1, l2], [.int (x1 - x2), t0, t1, t2])) dz32_35 rfl rfl rfl
theorem dz32_36 : decode (z_code 32) 36 = .ok (.iaload, 1) := by decide +kernel
theorem u32_36 (ho : zO a 100) : zEv sc 32 36 [l0, l1, l2] [.int x, .ref a, t0, t1] (zst p iv) Q ↔ (vp_in x (zLn a) ∧ zEv sc 32 37 [l0, l1, l2] [.int (iv a x.toNatClampNeg), t0, t1] (zst p iv) Q) := zE_ald (Or.inl ⟨rfl, rfl⟩) dz32_36 ho
theorem dz32_37 : decode (z_code 32) 37 = .ok (.iastore, 1) := by decide +kernel
theorem u32_37 (ho : zO a 100) : zEv sc 32 37 [l0, l1, l2] [.int x2, .int x1, .ref a] (zst p iv) Q ↔ (vp_in x1 (zLn a) ∧ zEv sc 32 38 [l0, l1, l2] [] (zst p (w2 iv a x1.toNatClampNeg x2)) Q) := zE_ast (Or.inl ⟨rfl, rfl, rfl⟩) dz32_37 ho
theorem dz32_38 : decode (z_code 32) 38 = .ok (.iinc 2 (-1), 3) := by decide +kernel
theorem u32_38 : zEv sc 32 38 [l0, l1, .int x] [] h Q ↔ zEv sc 32 41 [l0, l1, .int (x + (-1))] [] h Q := zE_iinc (ls2 := [l0, l1, .int (x + (-1))]) dz32_38 (by decide +kernel) rfl (by simp) rfl
theorem dz32_41 : decode (z_code 32) 41 = .ok (.goto (-36), 3) := by decide +kernel
theorem u32_41 : zEv sc 32 41 [l0, l1, l2] [] h Q ↔ zEv sc 32 5 [l0, l1, l2] [] h Q := zE_go 5 dz32_41 rfl
theorem dz32_44 : decode (z_code 32) 44 = .ok (.aload_n 0, 1) := by decide +kernel
theorem u32_44 : zEv sc 32 44 [.ref a, l1, l2] [] h Q ↔ zEv sc 32 45 [.ref a, l1, l2] [.ref a] h Q := zE_pure (q := (45, [.ref a, l1, l2], [.ref a])) dz32_44 rfl rfl rfl
theorem dz32_45 : decode (z_code 32) 45 = .ok (.dup, 1) := by decide +kernel
theorem u32_45 : zEv sc 32 45 [l0, l1, l2] [.ref a] h Q ↔ zEv sc 32 46 [l0, l1, l2] [.ref a, .ref a] h Q := zE_pure (q := (46, [l0, l1, l2], [.ref a, .ref a])) dz32_45 rfl rfl rfl
theorem dz32_46 : decode (z_code 32) 46 = .ok (.getfield 18, 3) := by decide +kernel
theorem u32_46 (ho : zO a 4) : zEv sc 32 46 [l0, l1, l2] [.ref a, t0] (zst p iv) Q ↔ zEv sc 32 49 [l0, l1, l2] [.int (iv a 0), t0] (zst p iv) Q := zE_gfI dz32_46 (by decide +kernel : z_lk3 zFT (z_cls 32) 18 = some (4, 0, 0, 85)) (by decide +kernel) ho
theorem dz32_49 : decode (z_code 32) 49 = .ok (.iconst 1, 1) := by decide +kernel
theorem u32_49 : zEv sc 32 49 [l0, l1, l2] [t0, t1] h Q ↔ zEv sc 32 50 [l0, l1, l2] [.int 1, t0, t1] h Q := zE_iconst dz32_49 (by decide +kernel)
theorem dz32_50 : decode (z_code 32) 50 = .ok (.iadd, 1) := by decide +kernel
theorem u32_50 : zEv sc 32 50 [l0, l1, l2] [.int x2, .int x1, t0] h Q ↔ zEv sc 32 51 [l0, l1, l2] [.int (x1 + x2), t0] h Q := zE_pure (q := (51, [l0, l1, l2], [.int (x1 + x2), t0])) dz32_50 rfl rfl rfl
theorem dz32_51 : decode (z_code 32) 51 = .ok (.putfield 18, 3) := by decide +kernel
theorem u32_51 (ho : zO a 4) : zEv sc 32 51 [l0, l1, l2] [.int x, .ref a] (zst p iv) Q ↔ zEv sc 32 54 [l0, l1, l2] [] (zst p (w2 iv a 0 x)) Q := zE_pfI dz32_51 (by decide +kernel : z_lk3 zFT (z_cls 32) 18 = some (4, 0, 0, 85)) (by decide +kernel) (by decide +kernel) (by decide +kernel) ho
theorem dz32_54 : decode (z_code 32) 54 = .ok (.return_, 1) := by decide +kernel
theorem u32_54 : zEv sc 32 54 [l0, l1, l2] [] h Q ↔ Q none h := zE_rv dz32_54 (by decide +kernel)
/-! method 33: FieldMixtures$Mixture.setWeight(II)V -/
theorem dz33_0 : decode (z_code 33) 0 = .ok (.aload_n 0, 1) := by decide +kernel
theorem u33_0 : zEv sc 33 0 [.ref a, l1, l2, l3] [] h Q ↔ zEv sc 33 1 [.ref a, l1, l2, l3] [.ref a] h Q := zE_pure (q := (1, [.ref a, l1, l2, l3], [.ref a])) dz33_0 rfl rfl rfl
theorem dz33_1 : decode (z_code 33) 1 = .ok (.iload_n 1, 1) := by decide +kernel
theorem u33_1 : zEv sc 33 1 [l0, .int x, l2, l3] [t0] h Q ↔ zEv sc 33 2 [l0, .int x, l2, l3] [.int x, t0] h Q := zE_pure (q := (2, [l0, .int x, l2, l3], [.int x, t0])) dz33_1 rfl rfl rfl
theorem dz33_2 : decode (z_code 33) 2 = .ok (.invokevirtual 22, 3) := by decide +kernel
theorem u33_2 (ho : zO a 4) : zEv sc 33 2 [l0, l1, l2, l3] [.int z0, .ref a] (zst p iv) Q ↔ zEv sc 28 0 [.ref a, .int z0, .null] [] (zst p iv) (fun r h9 => zEv sc 33 5 [l0, l1, l2, l3] (r.toList ++ []) h9 Q) := zE_call (kd := 0) (na := 2) (nr := 0) (as := [.ref a, .int z0]) (rest := []) (Or.inl ⟨rfl, rfl⟩) dz33_2 (by decide +kernel : z_lk2 zCT (z_cls 33) 22 = some (28, 0, 478)) (fun z => by cases z) rfl rfl rfl (by decide +kernel) rfl rfl (Or.inr (zE_rc ho))
theorem dz33_5 : decode (z_code 33) 5 = .ok (.istore_n 3, 1) := by decide +kernel
theorem u33_5 : zEv sc 33 5 [l0, l1, l2, l3] [.int x] h Q ↔ zEv sc 33 6 [l0, l1, l2, .int x] [] h Q := zE_pure (q := (6, [l0, l1, l2, .int x], [])) dz33_5 rfl rfl rfl
theorem dz33_6 : decode (z_code 33) 6 = .ok (.aload_n 0, 1) := by decide +kernel
theorem u33_6 : zEv sc 33 6 [.ref a, l1, l2, l3] [] h Q ↔ zEv sc 33 7 [.ref a, l1, l2, l3] [.ref a] h Q := zE_pure (q := (7, [.ref a, l1, l2, l3], [.ref a])) dz33_6 rfl rfl rfl
theorem dz33_7 : decode (z_code 33) 7 = .ok (.iload_n 3, 1) := by decide +kernel
theorem u33_7 : zEv sc 33 7 [l0, l1, l2, .int x] [t0] h Q ↔ zEv sc 33 8 [l0, l1, l2, .int x] [.int x, t0] h Q := zE_pure (q := (8, [l0, l1, l2, .int x], [.int x, t0])) dz33_7 rfl rfl rfl
theorem dz33_8 : decode (z_code 33) 8 = .ok (.iload_n 1, 1) := by decide +kernel
theorem u33_8 : zEv sc 33 8 [l0, .int x, l2, l3] [t0, t1] h Q ↔ zEv sc 33 9 [l0, .int x, l2, l3] [.int x, t0, t1] h Q := zE_pure (q := (9, [l0, .int x, l2, l3], [.int x, t0, t1])) dz33_8 rfl rfl rfl
theorem dz33_9 : decode (z_code 33) 9 = .ok (.invokevirtual 26, 3) := by decide +kernel
theorem u33_9 (ho : zO a 4) : zEv sc 33 9 [l0, l1, l2, l3] [.int z1, .int z0, .ref a] (zst p iv) Q ↔ zEv sc 29 0 [.ref a, .int z0, .int z1] [] (zst p iv) (fun r h9 => zEv sc 33 12 [l0, l1, l2, l3] (r.toList ++ []) h9 Q) := zE_call (kd := 0) (na := 3) (nr := 0) (as := [.ref a, .int z0, .int z1]) (rest := []) (Or.inl ⟨rfl, rfl⟩) dz33_9 (by decide +kernel : z_lk2 zCT (z_cls 33) 26 = some (29, 0, 482)) (fun z => by cases z) rfl rfl rfl (by decide +kernel) rfl rfl (Or.inr (zE_rc ho))
theorem dz33_12 : decode (z_code 33) 12 = .ok (.ifCond .eq 13, 3) := by decide +kernel
theorem u33_12 : zEv sc 33 12 [l0, l1, l2, l3] [.int x] h Q ↔ (if x = 0 then zEv sc 33 25 [l0, l1, l2, l3] [] h Q else zEv sc 33 15 [l0, l1, l2, l3] [] h Q) := zE_ifP (P := x = 0) inferInstance 25 dz33_12 rfl rfl
theorem dz33_15 : decode (z_code 33) 15 = .ok (.aload_n 0, 1) := by decide +kernel
theorem u33_15 : zEv sc 33 15 [.ref a, l1, l2, l3] [] h Q ↔ zEv sc 33 16 [.ref a, l1, l2, l3] [.ref a] h Q := zE_pure (q := (16, [.ref a, l1, l2, l3], [.ref a])) dz33_15 rfl rfl rfl
theorem dz33_16 : decode (z_code 33) 16 = .ok (.getfield 15, 3) := by decide +kernel
theorem u33_16 (ho : zO a 4) : zEv sc 33 16 [l0, l1, l2, l3] [.ref a] (zst p iv) Q ↔ zRef (zRV p a 2) (fun j => zEv sc 33 19 [l0, l1, l2, l3] [.ref j] (zst p iv) Q) := zE_gfR dz33_16 (by decide +kernel : z_lk3 zFT (z_cls 33) 15 = some (4, 2, 0, 94)) (by decide +kernel) ho
theorem dz33_19 : decode (z_code 33) 19 = .ok (.iload_n 3, 1) := by decide +kernel
theorem u33_19 : zEv sc 33 19 [l0, l1, l2, .int x] [t0] h Q ↔ zEv sc 33 20 [l0, l1, l2, .int x] [.int x, t0] h Q := zE_pure (q := (20, [l0, l1, l2, .int x], [.int x, t0])) dz33_19 rfl rfl rfl
theorem dz33_20 : decode (z_code 33) 20 = .ok (.iload_n 2, 1) := by decide +kernel
theorem u33_20 : zEv sc 33 20 [l0, l1, .int x, l3] [t0, t1] h Q ↔ zEv sc 33 21 [l0, l1, .int x, l3] [.int x, t0, t1] h Q := zE_pure (q := (21, [l0, l1, .int x, l3], [.int x, t0, t1])) dz33_20 rfl rfl rfl
theorem dz33_21 : decode (z_code 33) 21 = .ok (.iastore, 1) := by decide +kernel
theorem u33_21 (ho : zO a 100) : zEv sc 33 21 [l0, l1, l2, l3] [.int x2, .int x1, .ref a] (zst p iv) Q ↔ (vp_in x1 (zLn a) ∧ zEv sc 33 22 [l0, l1, l2, l3] [] (zst p (w2 iv a x1.toNatClampNeg x2)) Q) := zE_ast (Or.inl ⟨rfl, rfl, rfl⟩) dz33_21 ho
theorem dz33_22 : decode (z_code 33) 22 = .ok (.goto 31, 3) := by decide +kernel
theorem u33_22 : zEv sc 33 22 [l0, l1, l2, l3] [] h Q ↔ zEv sc 33 53 [l0, l1, l2, l3] [] h Q := zE_go 53 dz33_22 rfl
theorem dz33_53 : decode (z_code 33) 53 = .ok (.return_, 1) := by decide +kernel
theorem u33_53 : zEv sc 33 53 [l0, l1, l2, l3] [] h Q ↔ Q none h := zE_rv dz33_53 (by decide +kernel)
theorem dz33_25 : decode (z_code 33) 25 = .ok (.aload_n 0, 1) := by decide +kernel
theorem u33_25 : zEv sc 33 25 [.ref a, l1, l2, l3] [] h Q ↔ zEv sc 33 26 [.ref a, l1, l2, l3] [.ref a] h Q := zE_pure (q := (26, [.ref a, l1, l2, l3], [.ref a])) dz33_25 rfl rfl rfl
theorem dz33_26 : decode (z_code 33) 26 = .ok (.getfield 18, 3) := by decide +kernel
theorem u33_26 (ho : zO a 4) : zEv sc 33 26 [l0, l1, l2, l3] [.ref a] (zst p iv) Q ↔ zEv sc 33 29 [l0, l1, l2, l3] [.int (iv a 0)] (zst p iv) Q := zE_gfI dz33_26 (by decide +kernel : z_lk3 zFT (z_cls 33) 18 = some (4, 0, 0, 85)) (by decide +kernel) ho
theorem dz33_29 : decode (z_code 33) 29 = .ok (.bipush 12, 2) := by decide +kernel
theorem u33_29 : zEv sc 33 29 [l0, l1, l2, l3] [t0] h Q ↔ zEv sc 33 31 [l0, l1, l2, l3] [.int 12, t0] h Q := zE_bipush dz33_29 (by decide +kernel)
theorem dz33_31 : decode (z_code 33) 31 = .ok (.if_icmp .ge 22, 3) := by decide +kernel
theorem u33_31 : zEv sc 33 31 [l0, l1, l2, l3] [.int x2, .int x1] h Q ↔ (if x2 ≤ x1 then zEv sc 33 53 [l0, l1, l2, l3] [] h Q else zEv sc 33 34 [l0, l1, l2, l3] [] h Q) := zE_icP (P := x2 ≤ x1) inferInstance 53 dz33_31 rfl rfl
theorem dz33_34 : decode (z_code 33) 34 = .ok (.aload_n 0, 1) := by decide +kernel
theorem u33_34 : zEv sc 33 34 [.ref a, l1, l2, l3] [] h Q ↔ zEv sc 33 35 [.ref a, l1, l2, l3] [.ref a] h Q := zE_pure (q := (35, [.ref a, l1, l2, l3], [.ref a])) dz33_34 rfl rfl rfl
theorem dz33_35 : decode (z_code 33) 35 = .ok (.iload_n 3, 1) := by decide +kernel
theorem u33_35 : zEv sc 33 35 [l0, l1, l2, .int x] [t0] h Q ↔ zEv sc 33 36 [l0, l1, l2, .int x] [.int x, t0] h Q := zE_pure (q := (36, [l0, l1, l2, .int x], [.int x, t0])) dz33_35 rfl rfl rfl
theorem dz33_36 : decode (z_code 33) 36 = .ok (.invokevirtual 33, 3) := by decide +kernel
theorem u33_36 (ho : zO a 4) : zEv sc 33 36 [l0, l1, l2, l3] [.int z0, .ref a] (zst p iv) Q ↔ zEv sc 32 0 [.ref a, .int z0, .null] [] (zst p iv) (fun r h9 => zEv sc 33 39 [l0, l1, l2, l3] (r.toList ++ []) h9 Q) := zE_call (kd := 0) (na := 2) (nr := 0) (as := [.ref a, .int z0]) (rest := []) (Or.inl ⟨rfl, rfl⟩) dz33_36 (by decide +kernel : z_lk2 zCT (z_cls 33) 33 = some (32, 0, 500)) (fun z => by cases z) rfl rfl rfl (by decide +kernel) rfl rfl (Or.inr (zE_rc ho))
theorem dz33_39 : decode (z_code 33) 39 = .ok (.aload_n 0, 1) := by decide +kernel
theorem u33_39 : zEv sc 33 39 [.ref a, l1, l2, l3] [] h Q ↔ zEv sc 33 40 [.ref a, l1, l2, l3] [.ref a] h Q := zE_pure (q := (40, [.ref a, l1, l2, l3], [.ref a])) dz33_39 rfl rfl rfl
theorem dz33_40 : decode (z_code 33) 40 = .ok (.getfield 9, 3) := by decide +kernel
theorem u33_40 (ho : zO a 4) : zEv sc 33 40 [l0, l1, l2, l3] [.ref a] (zst p iv) Q ↔ zRef (zRV p a 1) (fun j => zEv sc 33 43 [l0, l1, l2, l3] [.ref j] (zst p iv) Q) := zE_gfR dz33_40 (by decide +kernel : z_lk3 zFT (z_cls 33) 9 = some (4, 1, 0, 90)) (by decide +kernel) ho
theorem dz33_43 : decode (z_code 33) 43 = .ok (.iload_n 3, 1) := by decide +kernel
theorem u33_43 : zEv sc 33 43 [l0, l1, l2, .int x] [t0] h Q ↔ zEv sc 33 44 [l0, l1, l2, .int x] [.int x, t0] h Q := zE_pure (q := (44, [l0, l1, l2, .int x], [.int x, t0])) dz33_43 rfl rfl rfl
theorem dz33_44 : decode (z_code 33) 44 = .ok (.iload_n 1, 1) := by decide +kernel
theorem u33_44 : zEv sc 33 44 [l0, .int x, l2, l3] [t0, t1] h Q ↔ zEv sc 33 45 [l0, .int x, l2, l3] [.int x, t0, t1] h Q := zE_pure (q := (45, [l0, .int x, l2, l3], [.int x, t0, t1])) dz33_44 rfl rfl rfl
theorem dz33_45 : decode (z_code 33) 45 = .ok (.iastore, 1) := by decide +kernel
theorem u33_45 (ho : zO a 100) : zEv sc 33 45 [l0, l1, l2, l3] [.int x2, .int x1, .ref a] (zst p iv) Q ↔ (vp_in x1 (zLn a) ∧ zEv sc 33 46 [l0, l1, l2, l3] [] (zst p (w2 iv a x1.toNatClampNeg x2)) Q) := zE_ast (Or.inl ⟨rfl, rfl, rfl⟩) dz33_45 ho
theorem dz33_46 : decode (z_code 33) 46 = .ok (.aload_n 0, 1) := by decide +kernel
theorem u33_46 : zEv sc 33 46 [.ref a, l1, l2, l3] [] h Q ↔ zEv sc 33 47 [.ref a, l1, l2, l3] [.ref a] h Q := zE_pure (q := (47, [.ref a, l1, l2, l3], [.ref a])) dz33_46 rfl rfl rfl
theorem dz33_47 : decode (z_code 33) 47 = .ok (.getfield 15, 3) := by decide +kernel
theorem u33_47 (ho : zO a 4) : zEv sc 33 47 [l0, l1, l2, l3] [.ref a] (zst p iv) Q ↔ zRef (zRV p a 2) (fun j => zEv sc 33 50 [l0, l1, l2, l3] [.ref j] (zst p iv) Q) := zE_gfR dz33_47 (by decide +kernel : z_lk3 zFT (z_cls 33) 15 = some (4, 2, 0, 94)) (by decide +kernel) ho
theorem dz33_50 : decode (z_code 33) 50 = .ok (.iload_n 3, 1) := by decide +kernel
theorem u33_50 : zEv sc 33 50 [l0, l1, l2, .int x] [t0] h Q ↔ zEv sc 33 51 [l0, l1, l2, .int x] [.int x, t0] h Q := zE_pure (q := (51, [l0, l1, l2, .int x], [.int x, t0])) dz33_50 rfl rfl rfl
theorem dz33_51 : decode (z_code 33) 51 = .ok (.iload_n 2, 1) := by decide +kernel
theorem u33_51 : zEv sc 33 51 [l0, l1, .int x, l3] [t0, t1] h Q ↔ zEv sc 33 52 [l0, l1, .int x, l3] [.int x, t0, t1] h Q := zE_pure (q := (52, [l0, l1, .int x, l3], [.int x, t0, t1])) dz33_51 rfl rfl rfl
theorem dz33_52 : decode (z_code 33) 52 = .ok (.iastore, 1) := by decide +kernel
theorem u33_52 (ho : zO a 100) : zEv sc 33 52 [l0, l1, l2, l3] [.int x2, .int x1, .ref a] (zst p iv) Q ↔ (vp_in x1 (zLn a) ∧ zEv sc 33 53 [l0, l1, l2, l3] [] (zst p (w2 iv a x1.toNatClampNeg x2)) Q) := zE_ast (Or.inl ⟨rfl, rfl, rfl⟩) dz33_52 ho
/-! method 34: FieldMixtures$Mixture.remove(I)V -/
theorem dz34_0 : decode (z_code 34) 0 = .ok (.aload_n 0, 1) := by decide +kernel
theorem u34_0 : zEv sc 34 0 [.ref a, l1, l2, l3] [] h Q ↔ zEv sc 34 1 [.ref a, l1, l2, l3] [.ref a] h Q := zE_pure (q := (1, [.ref a, l1, l2, l3], [.ref a])) dz34_0 rfl rfl rfl
theorem dz34_1 : decode (z_code 34) 1 = .ok (.iload_n 1, 1) := by decide +kernel
theorem u34_1 : zEv sc 34 1 [l0, .int x, l2, l3] [t0] h Q ↔ zEv sc 34 2 [l0, .int x, l2, l3] [.int x, t0] h Q := zE_pure (q := (2, [l0, .int x, l2, l3], [.int x, t0])) dz34_1 rfl rfl rfl
theorem dz34_2 : decode (z_code 34) 2 = .ok (.invokevirtual 22, 3) := by decide +kernel
theorem u34_2 (ho : zO a 4) : zEv sc 34 2 [l0, l1, l2, l3] [.int z0, .ref a] (zst p iv) Q ↔ zEv sc 28 0 [.ref a, .int z0, .null] [] (zst p iv) (fun r h9 => zEv sc 34 5 [l0, l1, l2, l3] (r.toList ++ []) h9 Q) := zE_call (kd := 0) (na := 2) (nr := 0) (as := [.ref a, .int z0]) (rest := []) (Or.inl ⟨rfl, rfl⟩) dz34_2 (by decide +kernel : z_lk2 zCT (z_cls 34) 22 = some (28, 0, 478)) (fun z => by cases z) rfl rfl rfl (by decide +kernel) rfl rfl (Or.inr (zE_rc ho))
theorem dz34_5 : decode (z_code 34) 5 = .ok (.istore_n 2, 1) := by decide +kernel
theorem u34_5 : zEv sc 34 5 [l0, l1, l2, l3] [.int x] h Q ↔ zEv sc 34 6 [l0, l1, .int x, l3] [] h Q := zE_pure (q := (6, [l0, l1, .int x, l3], [])) dz34_5 rfl rfl rfl
theorem dz34_6 : decode (z_code 34) 6 = .ok (.aload_n 0, 1) := by decide +kernel
theorem u34_6 : zEv sc 34 6 [.ref a, l1, l2, l3] [] h Q ↔ zEv sc 34 7 [.ref a, l1, l2, l3] [.ref a] h Q := zE_pure (q := (7, [.ref a, l1, l2, l3], [.ref a])) dz34_6 rfl rfl rfl
theorem dz34_7 : decode (z_code 34) 7 = .ok (.iload_n 2, 1) := by decide +kernel
theorem u34_7 : zEv sc 34 7 [l0, l1, .int x, l3] [t0] h Q ↔ zEv sc 34 8 [l0, l1, .int x, l3] [.int x, t0] h Q := zE_pure (q := (8, [l0, l1, .int x, l3], [.int x, t0])) dz34_7 rfl rfl rfl
theorem dz34_8 : decode (z_code 34) 8 = .ok (.iload_n 1, 1) := by decide +kernel
theorem u34_8 : zEv sc 34 8 [l0, .int x, l2, l3] [t0, t1] h Q ↔ zEv sc 34 9 [l0, .int x, l2, l3] [.int x, t0, t1] h Q := zE_pure (q := (9, [l0, .int x, l2, l3], [.int x, t0, t1])) dz34_8 rfl rfl rfl
theorem dz34_9 : decode (z_code 34) 9 = .ok (.invokevirtual 26, 3) := by decide +kernel
theorem u34_9 (ho : zO a 4) : zEv sc 34 9 [l0, l1, l2, l3] [.int z1, .int z0, .ref a] (zst p iv) Q ↔ zEv sc 29 0 [.ref a, .int z0, .int z1] [] (zst p iv) (fun r h9 => zEv sc 34 12 [l0, l1, l2, l3] (r.toList ++ []) h9 Q) := zE_call (kd := 0) (na := 3) (nr := 0) (as := [.ref a, .int z0, .int z1]) (rest := []) (Or.inl ⟨rfl, rfl⟩) dz34_9 (by decide +kernel : z_lk2 zCT (z_cls 34) 26 = some (29, 0, 482)) (fun z => by cases z) rfl rfl rfl (by decide +kernel) rfl rfl (Or.inr (zE_rc ho))
theorem dz34_12 : decode (z_code 34) 12 = .ok (.ifCond .ne 4, 3) := by decide +kernel
theorem u34_12 : zEv sc 34 12 [l0, l1, l2, l3] [.int x] h Q ↔ (if ¬ x = 0 then zEv sc 34 16 [l0, l1, l2, l3] [] h Q else zEv sc 34 15 [l0, l1, l2, l3] [] h Q) := zE_ifP (P := ¬ x = 0) inferInstance 16 dz34_12 rfl rfl
theorem dz34_15 : decode (z_code 34) 15 = .ok (.return_, 1) := by decide +kernel
theorem u34_15 : zEv sc 34 15 [l0, l1, l2, l3] [] h Q ↔ Q none h := zE_rv dz34_15 (by decide +kernel)
theorem dz34_16 : decode (z_code 34) 16 = .ok (.iload_n 2, 1) := by decide +kernel
theorem u34_16 : zEv sc 34 16 [l0, l1, .int x, l3] [] h Q ↔ zEv sc 34 17 [l0, l1, .int x, l3] [.int x] h Q := zE_pure (q := (17, [l0, l1, .int x, l3], [.int x])) dz34_16 rfl rfl rfl
theorem dz34_17 : decode (z_code 34) 17 = .ok (.iconst 1, 1) := by decide +kernel
theorem u34_17 : zEv sc 34 17 [l0, l1, l2, l3] [t0] h Q ↔ zEv sc 34 18 [l0, l1, l2, l3] [.int 1, t0] h Q := zE_iconst dz34_17 (by decide +kernel)
theorem dz34_18 : decode (z_code 34) 18 = .ok (.iadd, 1) := by decide +kernel
theorem u34_18 : zEv sc 34 18 [l0, l1, l2, l3] [.int x2, .int x1] h Q ↔ zEv sc 34 19 [l0, l1, l2, l3] [.int (x1 + x2)] h Q := zE_pure (q := (19, [l0, l1, l2, l3], [.int (x1 + x2)])) dz34_18 rfl rfl rfl
theorem dz34_19 : decode (z_code 34) 19 = .ok (.istore_n 3, 1) := by decide +kernel
theorem u34_19 : zEv sc 34 19 [l0, l1, l2, l3] [.int x] h Q ↔ zEv sc 34 20 [l0, l1, l2, .int x] [] h Q := zE_pure (q := (20, [l0, l1, l2, .int x], [])) dz34_19 rfl rfl rfl
theorem dz34_20 : decode (z_code 34) 20 = .ok (.iload_n 3, 1) := by decide +kernel
theorem u34_20 : zEv sc 34 20 [l0, l1, l2, .int x] [] h Q ↔ zEv sc 34 21 [l0, l1, l2, .int x] [.int x] h Q := zE_pure (q := (21, [l0, l1, l2, .int x], [.int x])) dz34_20 rfl rfl rfl
theorem dz34_21 : decode (z_code 34) 21 = .ok (.aload_n 0, 1) := by decide +kernel
theorem u34_21 : zEv sc 34 21 [.ref a, l1, l2, l3] [t0] h Q ↔ zEv sc 34 22 [.ref a, l1, l2, l3] [.ref a, t0] h Q := zE_pure (q := (22, [.ref a, l1, l2, l3], [.ref a, t0])) dz34_21 rfl rfl rfl
theorem dz34_22 : decode (z_code 34) 22 = .ok (.getfield 18, 3) := by decide +kernel
theorem u34_22 (ho : zO a 4) : zEv sc 34 22 [l0, l1, l2, l3] [.ref a, t0] (zst p iv) Q ↔ zEv sc 34 25 [l0, l1, l2, l3] [.int (iv a 0), t0] (zst p iv) Q := zE_gfI dz34_22 (by decide +kernel : z_lk3 zFT (z_cls 34) 18 = some (4, 0, 0, 85)) (by decide +kernel) ho
theorem dz34_25 : decode (z_code 34) 25 = .ok (.if_icmp .ge 37, 3) := by decide +kernel
theorem u34_25 : zEv sc 34 25 [l0, l1, l2, l3] [.int x2, .int x1] h Q ↔ (if x2 ≤ x1 then zEv sc 34 62 [l0, l1, l2, l3] [] h Q else zEv sc 34 28 [l0, l1, l2, l3] [] h Q) := zE_icP (P := x2 ≤ x1) inferInstance 62 dz34_25 rfl rfl
theorem dz34_28 : decode (z_code 34) 28 = .ok (.aload_n 0, 1) := by decide +kernel
theorem u34_28 : zEv sc 34 28 [.ref a, l1, l2, l3] [] h Q ↔ zEv sc 34 29 [.ref a, l1, l2, l3] [.ref a] h Q := zE_pure (q := (29, [.ref a, l1, l2, l3], [.ref a])) dz34_28 rfl rfl rfl
theorem dz34_29 : decode (z_code 34) 29 = .ok (.getfield 9, 3) := by decide +kernel
theorem u34_29 (ho : zO a 4) : zEv sc 34 29 [l0, l1, l2, l3] [.ref a] (zst p iv) Q ↔ zRef (zRV p a 1) (fun j => zEv sc 34 32 [l0, l1, l2, l3] [.ref j] (zst p iv) Q) := zE_gfR dz34_29 (by decide +kernel : z_lk3 zFT (z_cls 34) 9 = some (4, 1, 0, 90)) (by decide +kernel) ho
theorem dz34_32 : decode (z_code 34) 32 = .ok (.iload_n 3, 1) := by decide +kernel
theorem u34_32 : zEv sc 34 32 [l0, l1, l2, .int x] [t0] h Q ↔ zEv sc 34 33 [l0, l1, l2, .int x] [.int x, t0] h Q := zE_pure (q := (33, [l0, l1, l2, .int x], [.int x, t0])) dz34_32 rfl rfl rfl
theorem dz34_33 : decode (z_code 34) 33 = .ok (.iconst 1, 1) := by decide +kernel
theorem u34_33 : zEv sc 34 33 [l0, l1, l2, l3] [t0, t1] h Q ↔ zEv sc 34 34 [l0, l1, l2, l3] [.int 1, t0, t1] h Q := zE_iconst dz34_33 (by decide +kernel)
theorem dz34_34 : decode (z_code 34) 34 = .ok (.isub, 1) := by decide +kernel
theorem u34_34 : zEv sc 34 34 [l0, l1, l2, l3] [.int x2, .int x1, t0] h Q ↔ zEv sc 34 35 [l0, l1, l2, l3] [.int (x1 - x2), t0] h Q := zE_pure (q := (35, [l0, l1, l2, l3], [.int (x1 - x2), t0])) dz34_34 rfl rfl rfl
theorem dz34_35 : decode (z_code 34) 35 = .ok (.aload_n 0, 1) := by decide +kernel
theorem u34_35 : zEv sc 34 35 [.ref a, l1, l2, l3] [t0, t1] h Q ↔ zEv sc 34 36 [.ref a, l1, l2, l3] [.ref a, t0, t1] h Q := zE_pure (q := (36, [.ref a, l1, l2, l3], [.ref a, t0, t1])) dz34_35 rfl rfl rfl
theorem dz34_36 : decode (z_code 34) 36 = .ok (.getfield 9, 3) := by decide +kernel
theorem u34_36 (ho : zO a 4) : zEv sc 34 36 [l0, l1, l2, l3] [.ref a, t0, t1] (zst p iv) Q ↔ zRef (zRV p a 1) (fun j => zEv sc 34 39 [l0, l1, l2, l3] [.ref j, t0, t1] (zst p iv) Q) := zE_gfR dz34_36 (by decide +kernel : z_lk3 zFT (z_cls 34) 9 = some (4, 1, 0, 90)) (by decide +kernel) ho
theorem dz34_39 : decode (z_code 34) 39 = .ok (.iload_n 3, 1) := by decide +kernel
theorem u34_39 : zEv sc 34 39 [l0, l1, l2, .int x] [t0, t1, t2] h Q ↔ zEv sc 34 40 [l0, l1, l2, .int x] [.int x, t0, t1, t2] h Q := zE_pure (q := (40, [l0, l1, l2, .int x], [.int x, t0, t1, t2])) dz34_39 rfl rfl rfl
theorem dz34_40 : decode (z_code 34) 40 = .ok (.iaload, 1) := by decide +kernel
theorem u34_40 (ho : zO a 100) : zEv sc 34 40 [l0, l1, l2, l3] [.int x, .ref a, t0, t1] (zst p iv) Q ↔ (vp_in x (zLn a) ∧ zEv sc 34 41 [l0, l1, l2, l3] [.int (iv a x.toNatClampNeg), t0, t1] (zst p iv) Q) := zE_ald (Or.inl ⟨rfl, rfl⟩) dz34_40 ho
theorem dz34_41 : decode (z_code 34) 41 = .ok (.iastore, 1) := by decide +kernel
theorem u34_41 (ho : zO a 100) : zEv sc 34 41 [l0, l1, l2, l3] [.int x2, .int x1, .ref a] (zst p iv) Q ↔ (vp_in x1 (zLn a) ∧ zEv sc 34 42 [l0, l1, l2, l3] [] (zst p (w2 iv a x1.toNatClampNeg x2)) Q) := zE_ast (Or.inl ⟨rfl, rfl, rfl⟩) dz34_41 ho
theorem dz34_42 : decode (z_code 34) 42 = .ok (.aload_n 0, 1) := by decide +kernel
theorem u34_42 : zEv sc 34 42 [.ref a, l1, l2, l3] [] h Q ↔ zEv sc 34 43 [.ref a, l1, l2, l3] [.ref a] h Q := zE_pure (q := (43, [.ref a, l1, l2, l3], [.ref a])) dz34_42 rfl rfl rfl
theorem dz34_43 : decode (z_code 34) 43 = .ok (.getfield 15, 3) := by decide +kernel
theorem u34_43 (ho : zO a 4) : zEv sc 34 43 [l0, l1, l2, l3] [.ref a] (zst p iv) Q ↔ zRef (zRV p a 2) (fun j => zEv sc 34 46 [l0, l1, l2, l3] [.ref j] (zst p iv) Q) := zE_gfR dz34_43 (by decide +kernel : z_lk3 zFT (z_cls 34) 15 = some (4, 2, 0, 94)) (by decide +kernel) ho
theorem dz34_46 : decode (z_code 34) 46 = .ok (.iload_n 3, 1) := by decide +kernel
theorem u34_46 : zEv sc 34 46 [l0, l1, l2, .int x] [t0] h Q ↔ zEv sc 34 47 [l0, l1, l2, .int x] [.int x, t0] h Q := zE_pure (q := (47, [l0, l1, l2, .int x], [.int x, t0])) dz34_46 rfl rfl rfl
theorem dz34_47 : decode (z_code 34) 47 = .ok (.iconst 1, 1) := by decide +kernel
theorem u34_47 : zEv sc 34 47 [l0, l1, l2, l3] [t0, t1] h Q ↔ zEv sc 34 48 [l0, l1, l2, l3] [.int 1, t0, t1] h Q := zE_iconst dz34_47 (by decide +kernel)
theorem dz34_48 : decode (z_code 34) 48 = .ok (.isub, 1) := by decide +kernel
theorem u34_48 : zEv sc 34 48 [l0, l1, l2, l3] [.int x2, .int x1, t0] h Q ↔ zEv sc 34 49 [l0, l1, l2, l3] [.int (x1 - x2), t0] h Q := zE_pure (q := (49, [l0, l1, l2, l3], [.int (x1 - x2), t0])) dz34_48 rfl rfl rfl
theorem dz34_49 : decode (z_code 34) 49 = .ok (.aload_n 0, 1) := by decide +kernel
theorem u34_49 : zEv sc 34 49 [.ref a, l1, l2, l3] [t0, t1] h Q ↔ zEv sc 34 50 [.ref a, l1, l2, l3] [.ref a, t0, t1] h Q := zE_pure (q := (50, [.ref a, l1, l2, l3], [.ref a, t0, t1])) dz34_49 rfl rfl rfl
theorem dz34_50 : decode (z_code 34) 50 = .ok (.getfield 15, 3) := by decide +kernel
theorem u34_50 (ho : zO a 4) : zEv sc 34 50 [l0, l1, l2, l3] [.ref a, t0, t1] (zst p iv) Q ↔ zRef (zRV p a 2) (fun j => zEv sc 34 53 [l0, l1, l2, l3] [.ref j, t0, t1] (zst p iv) Q) := zE_gfR dz34_50 (by decide +kernel : z_lk3 zFT (z_cls 34) 15 = some (4, 2, 0, 94)) (by decide +kernel) ho
theorem dz34_53 : decode (z_code 34) 53 = .ok (.iload_n 3, 1) := by decide +kernel
theorem u34_53 : zEv sc 34 53 [l0, l1, l2, .int x] [t0, t1, t2] h Q ↔ zEv sc 34 54 [l0, l1, l2, .int x] [.int x, t0, t1, t2] h Q := zE_pure (q := (54, [l0, l1, l2, .int x], [.int x, t0, t1, t2])) dz34_53 rfl rfl rfl
theorem dz34_54 : decode (z_code 34) 54 = .ok (.iaload, 1) := by decide +kernel
theorem u34_54 (ho : zO a 100) : zEv sc 34 54 [l0, l1, l2, l3] [.int x, .ref a, t0, t1] (zst p iv) Q ↔ (vp_in x (zLn a) ∧ zEv sc 34 55 [l0, l1, l2, l3] [.int (iv a x.toNatClampNeg), t0, t1] (zst p iv) Q) := zE_ald (Or.inl ⟨rfl, rfl⟩) dz34_54 ho
theorem dz34_55 : decode (z_code 34) 55 = .ok (.iastore, 1) := by decide +kernel
theorem u34_55 (ho : zO a 100) : zEv sc 34 55 [l0, l1, l2, l3] [.int x2, .int x1, .ref a] (zst p iv) Q ↔ (vp_in x1 (zLn a) ∧ zEv sc 34 56 [l0, l1, l2, l3] [] (zst p (w2 iv a x1.toNatClampNeg x2)) Q) := zE_ast (Or.inl ⟨rfl, rfl, rfl⟩) dz34_55 ho
theorem dz34_56 : decode (z_code 34) 56 = .ok (.iinc 3 1, 3) := by decide +kernel
theorem u34_56 : zEv sc 34 56 [l0, l1, l2, .int x] [] h Q ↔ zEv sc 34 59 [l0, l1, l2, .int (x + 1)] [] h Q := zE_iinc (ls2 := [l0, l1, l2, .int (x + 1)]) dz34_56 (by decide +kernel) rfl (by simp) rfl
theorem dz34_59 : decode (z_code 34) 59 = .ok (.goto (-39), 3) := by decide +kernel
theorem u34_59 : zEv sc 34 59 [l0, l1, l2, l3] [] h Q ↔ zEv sc 34 20 [l0, l1, l2, l3] [] h Q := zE_go 20 dz34_59 rfl
theorem dz34_62 : decode (z_code 34) 62 = .ok (.aload_n 0, 1) := by decide +kernel
theorem u34_62 : zEv sc 34 62 [.ref a, l1, l2, l3] [] h Q ↔ zEv sc 34 63 [.ref a, l1, l2, l3] [.ref a] h Q := zE_pure (q := (63, [.ref a, l1, l2, l3], [.ref a])) dz34_62 rfl rfl rfl
theorem dz34_63 : decode (z_code 34) 63 = .ok (.dup, 1) := by decide +kernel
theorem u34_63 : zEv sc 34 63 [l0, l1, l2, l3] [.ref a] h Q ↔ zEv sc 34 64 [l0, l1, l2, l3] [.ref a, .ref a] h Q := zE_pure (q := (64, [l0, l1, l2, l3], [.ref a, .ref a])) dz34_63 rfl rfl rfl
theorem dz34_64 : decode (z_code 34) 64 = .ok (.getfield 18, 3) := by decide +kernel
theorem u34_64 (ho : zO a 4) : zEv sc 34 64 [l0, l1, l2, l3] [.ref a, t0] (zst p iv) Q ↔ zEv sc 34 67 [l0, l1, l2, l3] [.int (iv a 0), t0] (zst p iv) Q := zE_gfI dz34_64 (by decide +kernel : z_lk3 zFT (z_cls 34) 18 = some (4, 0, 0, 85)) (by decide +kernel) ho
theorem dz34_67 : decode (z_code 34) 67 = .ok (.iconst 1, 1) := by decide +kernel
theorem u34_67 : zEv sc 34 67 [l0, l1, l2, l3] [t0, t1] h Q ↔ zEv sc 34 68 [l0, l1, l2, l3] [.int 1, t0, t1] h Q := zE_iconst dz34_67 (by decide +kernel)
theorem dz34_68 : decode (z_code 34) 68 = .ok (.isub, 1) := by decide +kernel
theorem u34_68 : zEv sc 34 68 [l0, l1, l2, l3] [.int x2, .int x1, t0] h Q ↔ zEv sc 34 69 [l0, l1, l2, l3] [.int (x1 - x2), t0] h Q := zE_pure (q := (69, [l0, l1, l2, l3], [.int (x1 - x2), t0])) dz34_68 rfl rfl rfl
theorem dz34_69 : decode (z_code 34) 69 = .ok (.putfield 18, 3) := by decide +kernel
theorem u34_69 (ho : zO a 4) : zEv sc 34 69 [l0, l1, l2, l3] [.int x, .ref a] (zst p iv) Q ↔ zEv sc 34 72 [l0, l1, l2, l3] [] (zst p (w2 iv a 0 x)) Q := zE_pfI dz34_69 (by decide +kernel : z_lk3 zFT (z_cls 34) 18 = some (4, 0, 0, 85)) (by decide +kernel) (by decide +kernel) (by decide +kernel) ho
theorem dz34_72 : decode (z_code 34) 72 = .ok (.return_, 1) := by decide +kernel
theorem u34_72 : zEv sc 34 72 [l0, l1, l2, l3] [] h Q ↔ Q none h := zE_rv dz34_72 (by decide +kernel)
/-! method 35: FieldMixtures$Mixture.addOne(I)Z -/
theorem dz35_0 : decode (z_code 35) 0 = .ok (.aload_n 0, 1) := by decide +kernel
theorem u35_0 : zEv sc 35 0 [.ref a, l1, l2] [] h Q ↔ zEv sc 35 1 [.ref a, l1, l2] [.ref a] h Q := zE_pure (q := (1, [.ref a, l1, l2], [.ref a])) dz35_0 rfl rfl rfl
theorem dz35_1 : decode (z_code 35) 1 = .ok (.iload_n 1, 1) := by decide +kernel
theorem u35_1 : zEv sc 35 1 [l0, .int x, l2] [t0] h Q ↔ zEv sc 35 2 [l0, .int x, l2] [.int x, t0] h Q := zE_pure (q := (2, [l0, .int x, l2], [.int x, t0])) dz35_1 rfl rfl rfl
theorem dz35_2 : decode (z_code 35) 2 = .ok (.invokevirtual 30, 3) := by decide +kernel
theorem u35_2 (ho : zO a 4) : zEv sc 35 2 [l0, l1, l2] [.int z0, .ref a] (zst p iv) Q ↔ zEv sc 30 0 [.ref a, .int z0, .null] [] (zst p iv) (fun r h9 => zEv sc 35 5 [l0, l1, l2] (r.toList ++ []) h9 Q) := zE_call (kd := 0) (na := 2) (nr := 0) (as := [.ref a, .int z0]) (rest := []) (Or.inl ⟨rfl, rfl⟩) dz35_2 (by decide +kernel : z_lk2 zCT (z_cls 35) 30 = some (30, 0, 474)) (fun z => by cases z) rfl rfl rfl (by decide +kernel) rfl rfl (Or.inr (zE_rc ho))
theorem dz35_5 : decode (z_code 35) 5 = .ok (.iconst 1, 1) := by decide +kernel
theorem u35_5 : zEv sc 35 5 [l0, l1, l2] [t0] h Q ↔ zEv sc 35 6 [l0, l1, l2] [.int 1, t0] h Q := zE_iconst dz35_5 (by decide +kernel)
theorem dz35_6 : decode (z_code 35) 6 = .ok (.iadd, 1) := by decide +kernel
theorem u35_6 : zEv sc 35 6 [l0, l1, l2] [.int x2, .int x1] h Q ↔ zEv sc 35 7 [l0, l1, l2] [.int (x1 + x2)] h Q := zE_pure (q := (7, [l0, l1, l2], [.int (x1 + x2)])) dz35_6 rfl rfl rfl
theorem dz35_7 : decode (z_code 35) 7 = .ok (.istore_n 2, 1) := by decide +kernel
theorem u35_7 : zEv sc 35 7 [l0, l1, l2] [.int x] h Q ↔ zEv sc 35 8 [l0, l1, .int x] [] h Q := zE_pure (q := (8, [l0, l1, .int x], [])) dz35_7 rfl rfl rfl
theorem dz35_8 : decode (z_code 35) 8 = .ok (.iload_n 2, 1) := by decide +kernel
theorem u35_8 : zEv sc 35 8 [l0, l1, .int x] [] h Q ↔ zEv sc 35 9 [l0, l1, .int x] [.int x] h Q := zE_pure (q := (9, [l0, l1, .int x], [.int x])) dz35_8 rfl rfl rfl
theorem dz35_9 : decode (z_code 35) 9 = .ok (.bipush 99, 2) := by decide +kernel
theorem u35_9 : zEv sc 35 9 [l0, l1, l2] [t0] h Q ↔ zEv sc 35 11 [l0, l1, l2] [.int 99, t0] h Q := zE_bipush dz35_9 (by decide +kernel)
theorem dz35_11 : decode (z_code 35) 11 = .ok (.if_icmp .gt 11, 3) := by decide +kernel
theorem u35_11 : zEv sc 35 11 [l0, l1, l2] [.int x2, .int x1] h Q ↔ (if x2 < x1 then zEv sc 35 22 [l0, l1, l2] [] h Q else zEv sc 35 14 [l0, l1, l2] [] h Q) := zE_icP (P := x2 < x1) inferInstance 22 dz35_11 rfl rfl
theorem dz35_14 : decode (z_code 35) 14 = .ok (.aload_n 0, 1) := by decide +kernel
theorem u35_14 : zEv sc 35 14 [.ref a, l1, l2] [] h Q ↔ zEv sc 35 15 [.ref a, l1, l2] [.ref a] h Q := zE_pure (q := (15, [.ref a, l1, l2], [.ref a])) dz35_14 rfl rfl rfl
theorem dz35_15 : decode (z_code 35) 15 = .ok (.iload_n 1, 1) := by decide +kernel
theorem u35_15 : zEv sc 35 15 [l0, .int x, l2] [t0] h Q ↔ zEv sc 35 16 [l0, .int x, l2] [.int x, t0] h Q := zE_pure (q := (16, [l0, .int x, l2], [.int x, t0])) dz35_15 rfl rfl rfl
theorem dz35_16 : decode (z_code 35) 16 = .ok (.invokevirtual 37, 3) := by decide +kernel
theorem u35_16 (ho : zO a 4) : zEv sc 35 16 [l0, l1, l2] [.int z0, .ref a] (zst p iv) Q ↔ zEv sc 31 0 [.ref a, .int z0] [] (zst p iv) (fun r h9 => zEv sc 35 19 [l0, l1, l2] (r.toList ++ []) h9 Q) := zE_call (kd := 0) (na := 2) (nr := 0) (as := [.ref a, .int z0]) (rest := []) (Or.inl ⟨rfl, rfl⟩) dz35_16 (by decide +kernel : z_lk2 zCT (z_cls 35) 37 = some (31, 0, 532)) (fun z => by cases z) rfl rfl rfl (by decide +kernel) rfl rfl (Or.inr (zE_rc ho))
theorem dz35_19 : decode (z_code 35) 19 = .ok (.ifCond .ne 5, 3) := by decide +kernel
theorem u35_19 : zEv sc 35 19 [l0, l1, l2] [.int x] h Q ↔ (if ¬ x = 0 then zEv sc 35 24 [l0, l1, l2] [] h Q else zEv sc 35 22 [l0, l1, l2] [] h Q) := zE_ifP (P := ¬ x = 0) inferInstance 24 dz35_19 rfl rfl
theorem dz35_24 : decode (z_code 35) 24 = .ok (.aload_n 0, 1) := by decide +kernel
theorem u35_24 : zEv sc 35 24 [.ref a, l1, l2] [] h Q ↔ zEv sc 35 25 [.ref a, l1, l2] [.ref a] h Q := zE_pure (q := (25, [.ref a, l1, l2], [.ref a])) dz35_24 rfl rfl rfl
theorem dz35_25 : decode (z_code 35) 25 = .ok (.iload_n 1, 1) := by decide +kernel
theorem u35_25 : zEv sc 35 25 [l0, .int x, l2] [t0] h Q ↔ zEv sc 35 26 [l0, .int x, l2] [.int x, t0] h Q := zE_pure (q := (26, [l0, .int x, l2], [.int x, t0])) dz35_25 rfl rfl rfl
theorem dz35_26 : decode (z_code 35) 26 = .ok (.iload_n 2, 1) := by decide +kernel
theorem u35_26 : zEv sc 35 26 [l0, l1, .int x] [t0, t1] h Q ↔ zEv sc 35 27 [l0, l1, .int x] [.int x, t0, t1] h Q := zE_pure (q := (27, [l0, l1, .int x], [.int x, t0, t1])) dz35_26 rfl rfl rfl
theorem dz35_27 : decode (z_code 35) 27 = .ok (.invokevirtual 41, 3) := by decide +kernel
theorem u35_27 (ho : zO a 4) : zEv sc 35 27 [l0, l1, l2] [.int z1, .int z0, .ref a] (zst p iv) Q ↔ zEv sc 33 0 [.ref a, .int z0, .int z1, .null] [] (zst p iv) (fun r h9 => zEv sc 35 30 [l0, l1, l2] (r.toList ++ []) h9 Q) := zE_call (kd := 0) (na := 3) (nr := 0) (as := [.ref a, .int z0, .int z1]) (rest := []) (Or.inl ⟨rfl, rfl⟩) dz35_27 (by decide +kernel : z_lk2 zCT (z_cls 35) 41 = some (33, 0, 533)) (fun z => by cases z) rfl rfl rfl (by decide +kernel) rfl rfl (Or.inr (zE_rc ho))
theorem dz35_30 : decode (z_code 35) 30 = .ok (.iconst 1, 1) := by decide +kernel
theorem u35_30 : zEv sc 35 30 [l0, l1, l2] [] h Q ↔ zEv sc 35 31 [l0, l1, l2] [.int 1] h Q := zE_iconst dz35_30 (by decide +kernel)
theorem dz35_31 : decode (z_code 35) 31 = .ok (.ireturn, 1) := by decide +kernel
theorem u35_31 : zEv sc 35 31 [l0, l1, l2] [.int x] h Q ↔ ((x = 0 ∨ x = 1) ∧ Q (some (.int x)) h) := zE_rz dz35_31 (by decide +kernel)
theorem dz35_22 : decode (z_code 35) 22 = .ok (.iconst 0, 1) := by decide +kernel
theorem u35_22 : zEv sc 35 22 [l0, l1, l2] [] h Q ↔ zEv sc 35 23 [l0, l1, l2] [.int 0] h Q := zE_iconst dz35_22 (by decide +kernel)
theorem dz35_23 : decode (z_code 35) 23 = .ok (.ireturn, 1) := by decide +kernel
theorem u35_23 : zEv sc 35 23 [l0, l1, l2] [.int x] h Q ↔ ((x = 0 ∨ x = 1) ∧ Q (some (.int x)) h) := zE_rz dz35_23 (by decide +kernel)
/-! method 36: FieldMixtures$Mixture.weight()I -/
theorem dz36_0 : decode (z_code 36) 0 = .ok (.iconst 0, 1) := by decide +kernel
theorem u36_0 : zEv sc 36 0 [l0, l1, l2] [] h Q ↔ zEv sc 36 1 [l0, l1, l2] [.int 0] h Q := zE_iconst dz36_0 (by decide +kernel)
theorem dz36_1 : decode (z_code 36) 1 = .ok (.istore_n 1, 1) := by decide +kernel
theorem u36_1 : zEv sc 36 1 [l0, l1, l2] [.int x] h Q ↔ zEv sc 36 2 [l0, .int x, l2] [] h Q := zE_pure (q := (2, [l0, .int x, l2], [])) dz36_1 rfl rfl rfl
theorem dz36_2 : decode (z_code 36) 2 = .ok (.iconst 0, 1) := by decide +kernel
theorem u36_2 : zEv sc 36 2 [l0, l1, l2] [] h Q ↔ zEv sc 36 3 [l0, l1, l2] [.int 0] h Q := zE_iconst dz36_2 (by decide +kernel)
theorem dz36_3 : decode (z_code 36) 3 = .ok (.istore_n 2, 1) := by decide +kernel
theorem u36_3 : zEv sc 36 3 [l0, l1, l2] [.int x] h Q ↔ zEv sc 36 4 [l0, l1, .int x] [] h Q := zE_pure (q := (4, [l0, l1, .int x], [])) dz36_3 rfl rfl rfl
theorem dz36_4 : decode (z_code 36) 4 = .ok (.iload_n 2, 1) := by decide +kernel
theorem u36_4 : zEv sc 36 4 [l0, l1, .int x] [] h Q ↔ zEv sc 36 5 [l0, l1, .int x] [.int x] h Q := zE_pure (q := (5, [l0, l1, .int x], [.int x])) dz36_4 rfl rfl rfl
theorem dz36_5 : decode (z_code 36) 5 = .ok (.aload_n 0, 1) := by decide +kernel
theorem u36_5 : zEv sc 36 5 [.ref a, l1, l2] [t0] h Q ↔ zEv sc 36 6 [.ref a, l1, l2] [.ref a, t0] h Q := zE_pure (q := (6, [.ref a, l1, l2], [.ref a, t0])) dz36_5 rfl rfl rfl
theorem dz36_6 : decode (z_code 36) 6 = .ok (.getfield 18, 3) := by decide +kernel
theorem u36_6 (ho : zO a 4) : zEv sc 36 6 [l0, l1, l2] [.ref a, t0] (zst p iv) Q ↔ zEv sc 36 9 [l0, l1, l2] [.int (iv a 0), t0] (zst p iv) Q := zE_gfI dz36_6 (by decide +kernel : z_lk3 zFT (z_cls 36) 18 = some (4, 0, 0, 85)) (by decide +kernel) ho
theorem dz36_9 : decode (z_code 36) 9 = .ok (.if_icmp .ge 18, 3) := by decide +kernel
theorem u36_9 : zEv sc 36 9 [l0, l1, l2] [.int x2, .int x1] h Q ↔ (if x2 ≤ x1 then zEv sc 36 27 [l0, l1, l2] [] h Q else zEv sc 36 12 [l0, l1, l2] [] h Q) := zE_icP (P := x2 ≤ x1) inferInstance 27 dz36_9 rfl rfl
theorem dz36_12 : decode (z_code 36) 12 = .ok (.iload_n 1, 1) := by decide +kernel
theorem u36_12 : zEv sc 36 12 [l0, .int x, l2] [] h Q ↔ zEv sc 36 13 [l0, .int x, l2] [.int x] h Q := zE_pure (q := (13, [l0, .int x, l2], [.int x])) dz36_12 rfl rfl rfl
theorem dz36_13 : decode (z_code 36) 13 = .ok (.aload_n 0, 1) := by decide +kernel
theorem u36_13 : zEv sc 36 13 [.ref a, l1, l2] [t0] h Q ↔ zEv sc 36 14 [.ref a, l1, l2] [.ref a, t0] h Q := zE_pure (q := (14, [.ref a, l1, l2], [.ref a, t0])) dz36_13 rfl rfl rfl
theorem dz36_14 : decode (z_code 36) 14 = .ok (.getfield 15, 3) := by decide +kernel
theorem u36_14 (ho : zO a 4) : zEv sc 36 14 [l0, l1, l2] [.ref a, t0] (zst p iv) Q ↔ zRef (zRV p a 2) (fun j => zEv sc 36 17 [l0, l1, l2] [.ref j, t0] (zst p iv) Q) := zE_gfR dz36_14 (by decide +kernel : z_lk3 zFT (z_cls 36) 15 = some (4, 2, 0, 94)) (by decide +kernel) ho
theorem dz36_17 : decode (z_code 36) 17 = .ok (.iload_n 2, 1) := by decide +kernel
theorem u36_17 : zEv sc 36 17 [l0, l1, .int x] [t0, t1] h Q ↔ zEv sc 36 18 [l0, l1, .int x] [.int x, t0, t1] h Q := zE_pure (q := (18, [l0, l1, .int x], [.int x, t0, t1])) dz36_17 rfl rfl rfl
theorem dz36_18 : decode (z_code 36) 18 = .ok (.iaload, 1) := by decide +kernel
theorem u36_18 (ho : zO a 100) : zEv sc 36 18 [l0, l1, l2] [.int x, .ref a, t0] (zst p iv) Q ↔ (vp_in x (zLn a) ∧ zEv sc 36 19 [l0, l1, l2] [.int (iv a x.toNatClampNeg), t0] (zst p iv) Q) := zE_ald (Or.inl ⟨rfl, rfl⟩) dz36_18 ho
theorem dz36_19 : decode (z_code 36) 19 = .ok (.iadd, 1) := by decide +kernel
theorem u36_19 : zEv sc 36 19 [l0, l1, l2] [.int x2, .int x1] h Q ↔ zEv sc 36 20 [l0, l1, l2] [.int (x1 + x2)] h Q := zE_pure (q := (20, [l0, l1, l2], [.int (x1 + x2)])) dz36_19 rfl rfl rfl
theorem dz36_20 : decode (z_code 36) 20 = .ok (.istore_n 1, 1) := by decide +kernel
theorem u36_20 : zEv sc 36 20 [l0, l1, l2] [.int x] h Q ↔ zEv sc 36 21 [l0, .int x, l2] [] h Q := zE_pure (q := (21, [l0, .int x, l2], [])) dz36_20 rfl rfl rfl
theorem dz36_21 : decode (z_code 36) 21 = .ok (.iinc 2 1, 3) := by decide +kernel
theorem u36_21 : zEv sc 36 21 [l0, l1, .int x] [] h Q ↔ zEv sc 36 24 [l0, l1, .int (x + 1)] [] h Q := zE_iinc (ls2 := [l0, l1, .int (x + 1)]) dz36_21 (by decide +kernel) rfl (by simp) rfl
theorem dz36_24 : decode (z_code 36) 24 = .ok (.goto (-20), 3) := by decide +kernel
theorem u36_24 : zEv sc 36 24 [l0, l1, l2] [] h Q ↔ zEv sc 36 4 [l0, l1, l2] [] h Q := zE_go 4 dz36_24 rfl
theorem dz36_27 : decode (z_code 36) 27 = .ok (.iload_n 1, 1) := by decide +kernel
theorem u36_27 : zEv sc 36 27 [l0, .int x, l2] [] h Q ↔ zEv sc 36 28 [l0, .int x, l2] [.int x] h Q := zE_pure (q := (28, [l0, .int x, l2], [.int x])) dz36_27 rfl rfl rfl
theorem dz36_28 : decode (z_code 36) 28 = .ok (.ireturn, 1) := by decide +kernel
theorem u36_28 : zEv sc 36 28 [l0, l1, l2] [.int x] h Q ↔ Q (some (.int x)) h := zE_ri dz36_28 (by decide +kernel)
/-! method 38: FieldMixtures$Scores.balance(LFieldMixtures$Contest;III)I -/
theorem dz38_0 : decode (z_code 38) 0 = .ok (.aload_n 0, 1) := by decide +kernel
theorem u38_0 : zEv sc 38 0 [.ref a, l1, l2, l3, l4, l5, l6, l7] [] h Q ↔ zEv sc 38 1 [.ref a, l1, l2, l3, l4, l5, l6, l7] [.ref a] h Q := zE_pure (q := (1, [.ref a, l1, l2, l3, l4, l5, l6, l7], [.ref a])) dz38_0 rfl rfl rfl
theorem dz38_1 : decode (z_code 38) 1 = .ok (.iconst 1, 1) := by decide +kernel
theorem u38_1 : zEv sc 38 1 [l0, l1, l2, l3, l4, l5, l6, l7] [t0] h Q ↔ zEv sc 38 2 [l0, l1, l2, l3, l4, l5, l6, l7] [.int 1, t0] h Q := zE_iconst dz38_1 (by decide +kernel)
theorem dz38_2 : decode (z_code 38) 2 = .ok (.iload_n 1, 1) := by decide +kernel
theorem u38_2 : zEv sc 38 2 [l0, .int x, l2, l3, l4, l5, l6, l7] [t0, t1] h Q ↔ zEv sc 38 3 [l0, .int x, l2, l3, l4, l5, l6, l7] [.int x, t0, t1] h Q := zE_pure (q := (3, [l0, .int x, l2, l3, l4, l5, l6, l7], [.int x, t0, t1])) dz38_2 rfl rfl rfl
theorem dz38_3 : decode (z_code 38) 3 = .ok (.isub, 1) := by decide +kernel
theorem u38_3 : zEv sc 38 3 [l0, l1, l2, l3, l4, l5, l6, l7] [.int x2, .int x1, t0] h Q ↔ zEv sc 38 4 [l0, l1, l2, l3, l4, l5, l6, l7] [.int (x1 - x2), t0] h Q := zE_pure (q := (4, [l0, l1, l2, l3, l4, l5, l6, l7], [.int (x1 - x2), t0])) dz38_3 rfl rfl rfl
theorem dz38_4 : decode (z_code 38) 4 = .ok (.invokevirtual 23, 3) := by decide +kernel
theorem u38_4 (ho : zO a 2) : zEv sc 38 4 [l0, l1, l2, l3, l4, l5, l6, l7] [.int z0, .ref a] (zst p iv) Q ↔ zEv sc 14 0 [.ref a, .int z0] [] (zst p iv) (fun r h9 => zEv sc 38 7 [l0, l1, l2, l3, l4, l5, l6, l7] (r.toList ++ []) h9 Q) := zE_call (kd := 0) (na := 2) (nr := 0) (as := [.ref a, .int z0]) (rest := []) (Or.inl ⟨rfl, rfl⟩) dz38_4 (by decide +kernel : z_lk2 zCT (z_cls 38) 23 = some (14, 1, 367)) (fun z => by cases z) rfl rfl rfl (by decide +kernel) rfl rfl (Or.inr (zE_rc ho))
theorem dz38_7 : decode (z_code 38) 7 = .ok (.getfield 29, 3) := by decide +kernel
theorem u38_7 (ho : zO a 6) : zEv sc 38 7 [l0, l1, l2, l3, l4, l5, l6, l7] [.ref a] (zst p iv) Q ↔ zRef (zRV p a 2) (fun j => zEv sc 38 10 [l0, l1, l2, l3, l4, l5, l6, l7] [.ref j] (zst p iv) Q) := zE_gfR dz38_7 (by decide +kernel : z_lk3 zFT (z_cls 38) 29 = some (6, 2, 1, 111)) (by decide +kernel) ho
theorem dz38_10 : decode (z_code 38) 10 = .ok (.astore 4, 2) := by decide +kernel
theorem u38_10 : zEv sc 38 10 [l0, l1, l2, l3, l4, l5, l6, l7] [.ref a] h Q ↔ zEv sc 38 12 [l0, l1, l2, l3, .ref a, l5, l6, l7] [] h Q := zE_pure (q := (12, [l0, l1, l2, l3, .ref a, l5, l6, l7], [])) dz38_10 rfl rfl rfl
theorem dz38_12 : decode (z_code 38) 12 = .ok (.iconst 0, 1) := by decide +kernel
theorem u38_12 : zEv sc 38 12 [l0, l1, l2, l3, l4, l5, l6, l7] [] h Q ↔ zEv sc 38 13 [l0, l1, l2, l3, l4, l5, l6, l7] [.int 0] h Q := zE_iconst dz38_12 (by decide +kernel)
theorem dz38_13 : decode (z_code 38) 13 = .ok (.istore 5, 2) := by decide +kernel
theorem u38_13 : zEv sc 38 13 [l0, l1, l2, l3, l4, l5, l6, l7] [.int x] h Q ↔ zEv sc 38 15 [l0, l1, l2, l3, l4, .int x, l6, l7] [] h Q := zE_pure (q := (15, [l0, l1, l2, l3, l4, .int x, l6, l7], [])) dz38_13 rfl rfl rfl
theorem dz38_15 : decode (z_code 38) 15 = .ok (.iconst 0, 1) := by decide +kernel
theorem u38_15 : zEv sc 38 15 [l0, l1, l2, l3, l4, l5, l6, l7] [] h Q ↔ zEv sc 38 16 [l0, l1, l2, l3, l4, l5, l6, l7] [.int 0] h Q := zE_iconst dz38_15 (by decide +kernel)
theorem dz38_16 : decode (z_code 38) 16 = .ok (.istore 6, 2) := by decide +kernel
theorem u38_16 : zEv sc 38 16 [l0, l1, l2, l3, l4, l5, l6, l7] [.int x] h Q ↔ zEv sc 38 18 [l0, l1, l2, l3, l4, l5, .int x, l7] [] h Q := zE_pure (q := (18, [l0, l1, l2, l3, l4, l5, .int x, l7], [])) dz38_16 rfl rfl rfl
theorem dz38_18 : decode (z_code 38) 18 = .ok (.iload 6, 2) := by decide +kernel
theorem u38_18 : zEv sc 38 18 [l0, l1, l2, l3, l4, l5, .int x, l7] [] h Q ↔ zEv sc 38 20 [l0, l1, l2, l3, l4, l5, .int x, l7] [.int x] h Q := zE_pure (q := (20, [l0, l1, l2, l3, l4, l5, .int x, l7], [.int x])) dz38_18 rfl rfl rfl
theorem dz38_20 : decode (z_code 38) 20 = .ok (.aload 4, 2) := by decide +kernel
theorem u38_20 : zEv sc 38 20 [l0, l1, l2, l3, .ref a, l5, l6, l7] [t0] h Q ↔ zEv sc 38 22 [l0, l1, l2, l3, .ref a, l5, l6, l7] [.ref a, t0] h Q := zE_pure (q := (22, [l0, l1, l2, l3, .ref a, l5, l6, l7], [.ref a, t0])) dz38_20 rfl rfl rfl
theorem dz38_22 : decode (z_code 38) 22 = .ok (.getfield 49, 3) := by decide +kernel
theorem u38_22 (ho : zO a 4) : zEv sc 38 22 [l0, l1, l2, l3, l4, l5, l6, l7] [.ref a, t0] (zst p iv) Q ↔ zEv sc 38 25 [l0, l1, l2, l3, l4, l5, l6, l7] [.int (iv a 0), t0] (zst p iv) Q := zE_gfI dz38_22 (by decide +kernel : z_lk3 zFT (z_cls 38) 49 = some (4, 0, 1, 87)) (by decide +kernel) ho
theorem dz38_25 : decode (z_code 38) 25 = .ok (.if_icmp .ge 46, 3) := by decide +kernel
theorem u38_25 : zEv sc 38 25 [l0, l1, l2, l3, l4, l5, l6, l7] [.int x2, .int x1] h Q ↔ (if x2 ≤ x1 then zEv sc 38 71 [l0, l1, l2, l3, l4, l5, l6, l7] [] h Q else zEv sc 38 28 [l0, l1, l2, l3, l4, l5, l6, l7] [] h Q) := zE_icP (P := x2 ≤ x1) inferInstance 71 dz38_25 rfl rfl
theorem dz38_28 : decode (z_code 38) 28 = .ok (.aload_n 0, 1) := by decide +kernel
theorem u38_28 : zEv sc 38 28 [.ref a, l1, l2, l3, l4, l5, l6, l7] [] h Q ↔ zEv sc 38 29 [.ref a, l1, l2, l3, l4, l5, l6, l7] [.ref a] h Q := zE_pure (q := (29, [.ref a, l1, l2, l3, l4, l5, l6, l7], [.ref a])) dz38_28 rfl rfl rfl
theorem dz38_29 : decode (z_code 38) 29 = .ok (.iload_n 2, 1) := by decide +kernel
theorem u38_29 : zEv sc 38 29 [l0, l1, .int x, l3, l4, l5, l6, l7] [t0] h Q ↔ zEv sc 38 30 [l0, l1, .int x, l3, l4, l5, l6, l7] [.int x, t0] h Q := zE_pure (q := (30, [l0, l1, .int x, l3, l4, l5, l6, l7], [.int x, t0])) dz38_29 rfl rfl rfl
theorem dz38_30 : decode (z_code 38) 30 = .ok (.aload 4, 2) := by decide +kernel
theorem u38_30 : zEv sc 38 30 [l0, l1, l2, l3, .ref a, l5, l6, l7] [t0, t1] h Q ↔ zEv sc 38 32 [l0, l1, l2, l3, .ref a, l5, l6, l7] [.ref a, t0, t1] h Q := zE_pure (q := (32, [l0, l1, l2, l3, .ref a, l5, l6, l7], [.ref a, t0, t1])) dz38_30 rfl rfl rfl
theorem dz38_32 : decode (z_code 38) 32 = .ok (.getfield 52, 3) := by decide +kernel
theorem u38_32 (ho : zO a 4) : zEv sc 38 32 [l0, l1, l2, l3, l4, l5, l6, l7] [.ref a, t0, t1] (zst p iv) Q ↔ zRef (zRV p a 1) (fun j => zEv sc 38 35 [l0, l1, l2, l3, l4, l5, l6, l7] [.ref j, t0, t1] (zst p iv) Q) := zE_gfR dz38_32 (by decide +kernel : z_lk3 zFT (z_cls 38) 52 = some (4, 1, 1, 91)) (by decide +kernel) ho
theorem dz38_35 : decode (z_code 38) 35 = .ok (.iload 6, 2) := by decide +kernel
theorem u38_35 : zEv sc 38 35 [l0, l1, l2, l3, l4, l5, .int x, l7] [t0, t1, t2] h Q ↔ zEv sc 38 37 [l0, l1, l2, l3, l4, l5, .int x, l7] [.int x, t0, t1, t2] h Q := zE_pure (q := (37, [l0, l1, l2, l3, l4, l5, .int x, l7], [.int x, t0, t1, t2])) dz38_35 rfl rfl rfl
theorem dz38_37 : decode (z_code 38) 37 = .ok (.iaload, 1) := by decide +kernel
theorem u38_37 (ho : zO a 100) : zEv sc 38 37 [l0, l1, l2, l3, l4, l5, l6, l7] [.int x, .ref a, t0, t1] (zst p iv) Q ↔ (vp_in x (zLn a) ∧ zEv sc 38 38 [l0, l1, l2, l3, l4, l5, l6, l7] [.int (iv a x.toNatClampNeg), t0, t1] (zst p iv) Q) := zE_ald (Or.inl ⟨rfl, rfl⟩) dz38_37 ho
theorem dz38_38 : decode (z_code 38) 38 = .ok (.invokevirtual 55, 3) := by decide +kernel
theorem u38_38 (ho : zO a 2) : zEv sc 38 38 [l0, l1, l2, l3, l4, l5, l6, l7] [.int z1, .int z0, .ref a] (zst p iv) Q ↔ zEv sc 21 0 [.ref a, .int z0, .int z1, .null, .null] [] (zst p iv) (fun r h9 => zEv sc 38 41 [l0, l1, l2, l3, l4, l5, l6, l7] (r.toList ++ []) h9 Q) := zE_call (kd := 0) (na := 3) (nr := 0) (as := [.ref a, .int z0, .int z1]) (rest := []) (Or.inl ⟨rfl, rfl⟩) dz38_38 (by decide +kernel : z_lk2 zCT (z_cls 38) 55 = some (21, 1, 372)) (fun z => by cases z) rfl rfl rfl (by decide +kernel) rfl rfl (Or.inr (zE_rc ho))
theorem dz38_41 : decode (z_code 38) 41 = .ok (.istore 7, 2) := by decide +kernel
theorem u38_41 : zEv sc 38 41 [l0, l1, l2, l3, l4, l5, l6, l7] [.int x] h Q ↔ zEv sc 38 43 [l0, l1, l2, l3, l4, l5, l6, .int x] [] h Q := zE_pure (q := (43, [l0, l1, l2, l3, l4, l5, l6, .int x], [])) dz38_41 rfl rfl rfl
theorem dz38_43 : decode (z_code 38) 43 = .ok (.iload 5, 2) := by decide +kernel
theorem u38_43 : zEv sc 38 43 [l0, l1, l2, l3, l4, .int x, l6, l7] [] h Q ↔ zEv sc 38 45 [l0, l1, l2, l3, l4, .int x, l6, l7] [.int x] h Q := zE_pure (q := (45, [l0, l1, l2, l3, l4, .int x, l6, l7], [.int x])) dz38_43 rfl rfl rfl
theorem dz38_45 : decode (z_code 38) 45 = .ok (.aload 4, 2) := by decide +kernel
theorem u38_45 : zEv sc 38 45 [l0, l1, l2, l3, .ref a, l5, l6, l7] [t0] h Q ↔ zEv sc 38 47 [l0, l1, l2, l3, .ref a, l5, l6, l7] [.ref a, t0] h Q := zE_pure (q := (47, [l0, l1, l2, l3, .ref a, l5, l6, l7], [.ref a, t0])) dz38_45 rfl rfl rfl
theorem dz38_47 : decode (z_code 38) 47 = .ok (.getfield 59, 3) := by decide +kernel
theorem u38_47 (ho : zO a 4) : zEv sc 38 47 [l0, l1, l2, l3, l4, l5, l6, l7] [.ref a, t0] (zst p iv) Q ↔ zRef (zRV p a 2) (fun j => zEv sc 38 50 [l0, l1, l2, l3, l4, l5, l6, l7] [.ref j, t0] (zst p iv) Q) := zE_gfR dz38_47 (by decide +kernel : z_lk3 zFT (z_cls 38) 59 = some (4, 2, 1, 95)) (by decide +kernel) ho
theorem dz38_50 : decode (z_code 38) 50 = .ok (.iload 6, 2) := by decide +kernel
theorem u38_50 : zEv sc 38 50 [l0, l1, l2, l3, l4, l5, .int x, l7] [t0, t1] h Q ↔ zEv sc 38 52 [l0, l1, l2, l3, l4, l5, .int x, l7] [.int x, t0, t1] h Q := zE_pure (q := (52, [l0, l1, l2, l3, l4, l5, .int x, l7], [.int x, t0, t1])) dz38_50 rfl rfl rfl
theorem dz38_52 : decode (z_code 38) 52 = .ok (.iaload, 1) := by decide +kernel
theorem u38_52 (ho : zO a 100) : zEv sc 38 52 [l0, l1, l2, l3, l4, l5, l6, l7] [.int x, .ref a, t0] (zst p iv) Q ↔ (vp_in x (zLn a) ∧ zEv sc 38 53 [l0, l1, l2, l3, l4, l5, l6, l7] [.int (iv a x.toNatClampNeg), t0] (zst p iv) Q) := zE_ald (Or.inl ⟨rfl, rfl⟩) dz38_52 ho
theorem dz38_53 : decode (z_code 38) 53 = .ok (.aload_n 0, 1) := by decide +kernel
theorem u38_53 : zEv sc 38 53 [.ref a, l1, l2, l3, l4, l5, l6, l7] [t0, t1] h Q ↔ zEv sc 38 54 [.ref a, l1, l2, l3, l4, l5, l6, l7] [.ref a, t0, t1] h Q := zE_pure (q := (54, [.ref a, l1, l2, l3, l4, l5, l6, l7], [.ref a, t0, t1])) dz38_53 rfl rfl rfl
theorem dz38_54 : decode (z_code 38) 54 = .ok (.iload_n 1, 1) := by decide +kernel
theorem u38_54 : zEv sc 38 54 [l0, .int x, l2, l3, l4, l5, l6, l7] [t0, t1, t2] h Q ↔ zEv sc 38 55 [l0, .int x, l2, l3, l4, l5, l6, l7] [.int x, t0, t1, t2] h Q := zE_pure (q := (55, [l0, .int x, l2, l3, l4, l5, l6, l7], [.int x, t0, t1, t2])) dz38_54 rfl rfl rfl
theorem dz38_55 : decode (z_code 38) 55 = .ok (.iload_n 3, 1) := by decide +kernel
theorem u38_55 : zEv sc 38 55 [l0, l1, l2, .int x, l4, l5, l6, l7] [t0, t1, t2, t3] h Q ↔ zEv sc 38 56 [l0, l1, l2, .int x, l4, l5, l6, l7] [.int x, t0, t1, t2, t3] h Q := zE_pure (q := (56, [l0, l1, l2, .int x, l4, l5, l6, l7], [.int x, t0, t1, t2, t3])) dz38_55 rfl rfl rfl
theorem dz38_56 : decode (z_code 38) 56 = .ok (.iload 7, 2) := by decide +kernel
theorem u38_56 : zEv sc 38 56 [l0, l1, l2, l3, l4, l5, l6, .int x] [t0, t1, t2, t3, t4] h Q ↔ zEv sc 38 58 [l0, l1, l2, l3, l4, l5, l6, .int x] [.int x, t0, t1, t2, t3, t4] h Q := zE_pure (q := (58, [l0, l1, l2, l3, l4, l5, l6, .int x], [.int x, t0, t1, t2, t3, t4])) dz38_56 rfl rfl rfl
theorem dz38_58 : decode (z_code 38) 58 = .ok (.invokevirtual 62, 3) := by decide +kernel
theorem u38_58 (ho : zO a 2) : zEv sc 38 58 [l0, l1, l2, l3, l4, l5, l6, l7] [.int z2, .int z1, .int z0, .ref a, t0, t1] (zst p iv) Q ↔ zEv sc 22 0 [.ref a, .int z0, .int z1, .int z2] [] (zst p iv) (fun r h9 => zEv sc 38 61 [l0, l1, l2, l3, l4, l5, l6, l7] (r.toList ++ [t0, t1]) h9 Q) := zE_call (kd := 0) (na := 4) (nr := 2) (as := [.ref a, .int z0, .int z1, .int z2]) (rest := [t0, t1]) (Or.inl ⟨rfl, rfl⟩) dz38_58 (by decide +kernel : z_lk2 zCT (z_cls 38) 62 = some (22, 1, 376)) (fun z => by cases z) rfl rfl rfl (by decide +kernel) rfl rfl (Or.inr (zE_rc ho))
theorem dz38_61 : decode (z_code 38) 61 = .ok (.imul, 1) := by decide +kernel
theorem u38_61 : zEv sc 38 61 [l0, l1, l2, l3, l4, l5, l6, l7] [.int x2, .int x1, t0] h Q ↔ zEv sc 38 62 [l0, l1, l2, l3, l4, l5, l6, l7] [.int (x1 * x2), t0] h Q := zE_pure (q := (62, [l0, l1, l2, l3, l4, l5, l6, l7], [.int (x1 * x2), t0])) dz38_61 rfl rfl rfl
theorem dz38_62 : decode (z_code 38) 62 = .ok (.iadd, 1) := by decide +kernel
theorem u38_62 : zEv sc 38 62 [l0, l1, l2, l3, l4, l5, l6, l7] [.int x2, .int x1] h Q ↔ zEv sc 38 63 [l0, l1, l2, l3, l4, l5, l6, l7] [.int (x1 + x2)] h Q := zE_pure (q := (63, [l0, l1, l2, l3, l4, l5, l6, l7], [.int (x1 + x2)])) dz38_62 rfl rfl rfl
theorem dz38_63 : decode (z_code 38) 63 = .ok (.istore 5, 2) := by decide +kernel
theorem u38_63 : zEv sc 38 63 [l0, l1, l2, l3, l4, l5, l6, l7] [.int x] h Q ↔ zEv sc 38 65 [l0, l1, l2, l3, l4, .int x, l6, l7] [] h Q := zE_pure (q := (65, [l0, l1, l2, l3, l4, .int x, l6, l7], [])) dz38_63 rfl rfl rfl
theorem dz38_65 : decode (z_code 38) 65 = .ok (.iinc 6 1, 3) := by decide +kernel
theorem u38_65 : zEv sc 38 65 [l0, l1, l2, l3, l4, l5, .int x, l7] [] h Q ↔ zEv sc 38 68 [l0, l1, l2, l3, l4, l5, .int (x + 1), l7] [] h Q := zE_iinc (ls2 := [l0, l1, l2, l3, l4, l5, .int (x + 1), l7]) dz38_65 (by decide +kernel) rfl (by simp) rfl
theorem dz38_68 : decode (z_code 38) 68 = .ok (.goto (-50), 3) := by decide +kernel
theorem u38_68 : zEv sc 38 68 [l0, l1, l2, l3, l4, l5, l6, l7] [] h Q ↔ zEv sc 38 18 [l0, l1, l2, l3, l4, l5, l6, l7] [] h Q := zE_go 18 dz38_68 rfl
theorem dz38_71 : decode (z_code 38) 71 = .ok (.iload 5, 2) := by decide +kernel
theorem u38_71 : zEv sc 38 71 [l0, l1, l2, l3, l4, .int x, l6, l7] [] h Q ↔ zEv sc 38 73 [l0, l1, l2, l3, l4, .int x, l6, l7] [.int x] h Q := zE_pure (q := (73, [l0, l1, l2, l3, l4, .int x, l6, l7], [.int x])) dz38_71 rfl rfl rfl
theorem dz38_73 : decode (z_code 38) 73 = .ok (.ireturn, 1) := by decide +kernel
theorem u38_73 : zEv sc 38 73 [l0, l1, l2, l3, l4, l5, l6, l7] [.int x] h Q ↔ Q (some (.int x)) h := zE_ri dz38_73 (by decide +kernel)
/-! method 39: FieldMixtures$Scores.measure(LFieldMixtures$Contest;I)V -/
theorem dz39_0 : decode (z_code 39) 0 = .ok (.aload_n 1, 1) := by decide +kernel
theorem u39_0 : zEv sc 39 0 [l0, .ref a, l2, l3, l4, l5] [] h Q ↔ zEv sc 39 1 [l0, .ref a, l2, l3, l4, l5] [.ref a] h Q := zE_pure (q := (1, [l0, .ref a, l2, l3, l4, l5], [.ref a])) dz39_0 rfl rfl rfl
theorem dz39_1 : decode (z_code 39) 1 = .ok (.iconst 1, 1) := by decide +kernel
theorem u39_1 : zEv sc 39 1 [l0, l1, l2, l3, l4, l5] [t0] h Q ↔ zEv sc 39 2 [l0, l1, l2, l3, l4, l5] [.int 1, t0] h Q := zE_iconst dz39_1 (by decide +kernel)
theorem dz39_2 : decode (z_code 39) 2 = .ok (.iload_n 2, 1) := by decide +kernel
theorem u39_2 : zEv sc 39 2 [l0, l1, .int x, l3, l4, l5] [t0, t1] h Q ↔ zEv sc 39 3 [l0, l1, .int x, l3, l4, l5] [.int x, t0, t1] h Q := zE_pure (q := (3, [l0, l1, .int x, l3, l4, l5], [.int x, t0, t1])) dz39_2 rfl rfl rfl
theorem dz39_3 : decode (z_code 39) 3 = .ok (.isub, 1) := by decide +kernel
theorem u39_3 : zEv sc 39 3 [l0, l1, l2, l3, l4, l5] [.int x2, .int x1, t0] h Q ↔ zEv sc 39 4 [l0, l1, l2, l3, l4, l5] [.int (x1 - x2), t0] h Q := zE_pure (q := (4, [l0, l1, l2, l3, l4, l5], [.int (x1 - x2), t0])) dz39_3 rfl rfl rfl
theorem dz39_4 : decode (z_code 39) 4 = .ok (.invokevirtual 23, 3) := by decide +kernel
theorem u39_4 (ho : zO a 2) : zEv sc 39 4 [l0, l1, l2, l3, l4, l5] [.int z0, .ref a] (zst p iv) Q ↔ zEv sc 14 0 [.ref a, .int z0] [] (zst p iv) (fun r h9 => zEv sc 39 7 [l0, l1, l2, l3, l4, l5] (r.toList ++ []) h9 Q) := zE_call (kd := 0) (na := 2) (nr := 0) (as := [.ref a, .int z0]) (rest := []) (Or.inl ⟨rfl, rfl⟩) dz39_4 (by decide +kernel : z_lk2 zCT (z_cls 39) 23 = some (14, 1, 367)) (fun z => by cases z) rfl rfl rfl (by decide +kernel) rfl rfl (Or.inr (zE_rc ho))
theorem dz39_7 : decode (z_code 39) 7 = .ok (.getfield 29, 3) := by decide +kernel
theorem u39_7 (ho : zO a 6) : zEv sc 39 7 [l0, l1, l2, l3, l4, l5] [.ref a] (zst p iv) Q ↔ zRef (zRV p a 2) (fun j => zEv sc 39 10 [l0, l1, l2, l3, l4, l5] [.ref j] (zst p iv) Q) := zE_gfR dz39_7 (by decide +kernel : z_lk3 zFT (z_cls 39) 29 = some (6, 2, 1, 111)) (by decide +kernel) ho
theorem dz39_10 : decode (z_code 39) 10 = .ok (.astore_n 3, 1) := by decide +kernel
theorem u39_10 : zEv sc 39 10 [l0, l1, l2, l3, l4, l5] [.ref a] h Q ↔ zEv sc 39 11 [l0, l1, l2, .ref a, l4, l5] [] h Q := zE_pure (q := (11, [l0, l1, l2, .ref a, l4, l5], [])) dz39_10 rfl rfl rfl
theorem dz39_11 : decode (z_code 39) 11 = .ok (.aload_n 0, 1) := by decide +kernel
theorem u39_11 : zEv sc 39 11 [.ref a, l1, l2, l3, l4, l5] [] h Q ↔ zEv sc 39 12 [.ref a, l1, l2, l3, l4, l5] [.ref a] h Q := zE_pure (q := (12, [.ref a, l1, l2, l3, l4, l5], [.ref a])) dz39_11 rfl rfl rfl
theorem dz39_12 : decode (z_code 39) 12 = .ok (.aload_n 1, 1) := by decide +kernel
theorem u39_12 : zEv sc 39 12 [l0, .ref a, l2, l3, l4, l5] [t0] h Q ↔ zEv sc 39 13 [l0, .ref a, l2, l3, l4, l5] [.ref a, t0] h Q := zE_pure (q := (13, [l0, .ref a, l2, l3, l4, l5], [.ref a, t0])) dz39_12 rfl rfl rfl
theorem dz39_13 : decode (z_code 39) 13 = .ok (.getfield 35, 3) := by decide +kernel
theorem u39_13 (ho : zO a 2) : zEv sc 39 13 [l0, l1, l2, l3, l4, l5] [.ref a, t0] (zst p iv) Q ↔ zEv sc 39 16 [l0, l1, l2, l3, l4, l5] [.int (iv a 0), t0] (zst p iv) Q := zE_gfI dz39_13 (by decide +kernel : z_lk3 zFT (z_cls 39) 35 = some (2, 0, 1, 131)) (by decide +kernel) ho
theorem dz39_16 : decode (z_code 39) 16 = .ok (.putfield 9, 3) := by decide +kernel
theorem u39_16 (ho : zO a 5) : zEv sc 39 16 [l0, l1, l2, l3, l4, l5] [.int x, .ref a] (zst p iv) Q ↔ zEv sc 39 19 [l0, l1, l2, l3, l4, l5] [] (zst p (w2 iv a 0 x)) Q := zE_pfI dz39_16 (by decide +kernel : z_lk3 zFT (z_cls 39) 9 = some (5, 0, 0, 194)) (by decide +kernel) (by decide +kernel) (by decide +kernel) ho
theorem dz39_19 : decode (z_code 39) 19 = .ok (.aload_n 0, 1) := by decide +kernel
theorem u39_19 : zEv sc 39 19 [.ref a, l1, l2, l3, l4, l5] [] h Q ↔ zEv sc 39 20 [.ref a, l1, l2, l3, l4, l5] [.ref a] h Q := zE_pure (q := (20, [.ref a, l1, l2, l3, l4, l5], [.ref a])) dz39_19 rfl rfl rfl
theorem dz39_20 : decode (z_code 39) 20 = .ok (.aload_n 3, 1) := by decide +kernel
theorem u39_20 : zEv sc 39 20 [l0, l1, l2, .ref a, l4, l5] [t0] h Q ↔ zEv sc 39 21 [l0, l1, l2, .ref a, l4, l5] [.ref a, t0] h Q := zE_pure (q := (21, [l0, l1, l2, .ref a, l4, l5], [.ref a, t0])) dz39_20 rfl rfl rfl
theorem dz39_21 : decode (z_code 39) 21 = .ok (.invokevirtual 36, 3) := by decide +kernel
theorem u39_21 (ho : zO a 4) : zEv sc 39 21 [l0, l1, l2, l3, l4, l5] [.ref a, t0] (zst p iv) Q ↔ zEv sc 36 0 [.ref a, .null, .null] [] (zst p iv) (fun r h9 => zEv sc 39 24 [l0, l1, l2, l3, l4, l5] (r.toList ++ [t0]) h9 Q) := zE_call (kd := 0) (na := 1) (nr := 1) (as := [.ref a]) (rest := [t0]) (Or.inl ⟨rfl, rfl⟩) dz39_21 (by decide +kernel : z_lk2 zCT (z_cls 39) 36 = some (36, 1, 368)) (fun z => by cases z) rfl rfl rfl (by decide +kernel) rfl rfl (Or.inr (zE_rc ho))
theorem dz39_24 : decode (z_code 39) 24 = .ok (.putfield 15, 3) := by decide +kernel
theorem u39_24 (ho : zO a 5) : zEv sc 39 24 [l0, l1, l2, l3, l4, l5] [.int x, .ref a] (zst p iv) Q ↔ zEv sc 39 27 [l0, l1, l2, l3, l4, l5] [] (zst p (w2 iv a 1 x)) Q := zE_pfI dz39_24 (by decide +kernel : z_lk3 zFT (z_cls 39) 15 = some (5, 1, 0, 195)) (by decide +kernel) (by decide +kernel) (by decide +kernel) ho
theorem dz39_27 : decode (z_code 39) 27 = .ok (.iconst 0, 1) := by decide +kernel
theorem u39_27 : zEv sc 39 27 [l0, l1, l2, l3, l4, l5] [] h Q ↔ zEv sc 39 28 [l0, l1, l2, l3, l4, l5] [.int 0] h Q := zE_iconst dz39_27 (by decide +kernel)
theorem dz39_28 : decode (z_code 39) 28 = .ok (.istore 4, 2) := by decide +kernel
theorem u39_28 : zEv sc 39 28 [l0, l1, l2, l3, l4, l5] [.int x] h Q ↔ zEv sc 39 30 [l0, l1, l2, l3, .int x, l5] [] h Q := zE_pure (q := (30, [l0, l1, l2, l3, .int x, l5], [])) dz39_28 rfl rfl rfl
theorem dz39_30 : decode (z_code 39) 30 = .ok (.iload 4, 2) := by decide +kernel
theorem u39_30 : zEv sc 39 30 [l0, l1, l2, l3, .int x, l5] [] h Q ↔ zEv sc 39 32 [l0, l1, l2, l3, .int x, l5] [.int x] h Q := zE_pure (q := (32, [l0, l1, l2, l3, .int x, l5], [.int x])) dz39_30 rfl rfl rfl
theorem dz39_32 : decode (z_code 39) 32 = .ok (.aload_n 0, 1) := by decide +kernel
theorem u39_32 : zEv sc 39 32 [.ref a, l1, l2, l3, l4, l5] [t0] h Q ↔ zEv sc 39 33 [.ref a, l1, l2, l3, l4, l5] [.ref a, t0] h Q := zE_pure (q := (33, [.ref a, l1, l2, l3, l4, l5], [.ref a, t0])) dz39_32 rfl rfl rfl
theorem dz39_33 : decode (z_code 39) 33 = .ok (.getfield 9, 3) := by decide +kernel
theorem u39_33 (ho : zO a 5) : zEv sc 39 33 [l0, l1, l2, l3, l4, l5] [.ref a, t0] (zst p iv) Q ↔ zEv sc 39 36 [l0, l1, l2, l3, l4, l5] [.int (iv a 0), t0] (zst p iv) Q := zE_gfI dz39_33 (by decide +kernel : z_lk3 zFT (z_cls 39) 9 = some (5, 0, 0, 194)) (by decide +kernel) ho
theorem dz39_36 : decode (z_code 39) 36 = .ok (.if_icmp .ge 52, 3) := by decide +kernel
theorem u39_36 : zEv sc 39 36 [l0, l1, l2, l3, l4, l5] [.int x2, .int x1] h Q ↔ (if x2 ≤ x1 then zEv sc 39 88 [l0, l1, l2, l3, l4, l5] [] h Q else zEv sc 39 39 [l0, l1, l2, l3, l4, l5] [] h Q) := zE_icP (P := x2 ≤ x1) inferInstance 88 dz39_36 rfl rfl
theorem dz39_39 : decode (z_code 39) 39 = .ok (.iconst 0, 1) := by decide +kernel
theorem u39_39 : zEv sc 39 39 [l0, l1, l2, l3, l4, l5] [] h Q ↔ zEv sc 39 40 [l0, l1, l2, l3, l4, l5] [.int 0] h Q := zE_iconst dz39_39 (by decide +kernel)
theorem dz39_40 : decode (z_code 39) 40 = .ok (.istore 5, 2) := by decide +kernel
theorem u39_40 : zEv sc 39 40 [l0, l1, l2, l3, l4, l5] [.int x] h Q ↔ zEv sc 39 42 [l0, l1, l2, l3, l4, .int x] [] h Q := zE_pure (q := (42, [l0, l1, l2, l3, l4, .int x], [])) dz39_40 rfl rfl rfl
theorem dz39_42 : decode (z_code 39) 42 = .ok (.iload 5, 2) := by decide +kernel
theorem u39_42 : zEv sc 39 42 [l0, l1, l2, l3, l4, .int x] [] h Q ↔ zEv sc 39 44 [l0, l1, l2, l3, l4, .int x] [.int x] h Q := zE_pure (q := (44, [l0, l1, l2, l3, l4, .int x], [.int x])) dz39_42 rfl rfl rfl
theorem dz39_44 : decode (z_code 39) 44 = .ok (.bipush 10, 2) := by decide +kernel
theorem u39_44 : zEv sc 39 44 [l0, l1, l2, l3, l4, l5] [t0] h Q ↔ zEv sc 39 46 [l0, l1, l2, l3, l4, l5] [.int 10, t0] h Q := zE_bipush dz39_44 (by decide +kernel)
theorem dz39_46 : decode (z_code 39) 46 = .ok (.if_icmp .ge 36, 3) := by decide +kernel
theorem u39_46 : zEv sc 39 46 [l0, l1, l2, l3, l4, l5] [.int x2, .int x1] h Q ↔ (if x2 ≤ x1 then zEv sc 39 82 [l0, l1, l2, l3, l4, l5] [] h Q else zEv sc 39 49 [l0, l1, l2, l3, l4, l5] [] h Q) := zE_icP (P := x2 ≤ x1) inferInstance 82 dz39_46 rfl rfl
theorem dz39_49 : decode (z_code 39) 49 = .ok (.aload_n 0, 1) := by decide +kernel
theorem u39_49 : zEv sc 39 49 [.ref a, l1, l2, l3, l4, l5] [] h Q ↔ zEv sc 39 50 [.ref a, l1, l2, l3, l4, l5] [.ref a] h Q := zE_pure (q := (50, [.ref a, l1, l2, l3, l4, l5], [.ref a])) dz39_49 rfl rfl rfl
theorem dz39_50 : decode (z_code 39) 50 = .ok (.getfield 20, 3) := by decide +kernel
theorem u39_50 (ho : zO a 5) : zEv sc 39 50 [l0, l1, l2, l3, l4, l5] [.ref a] (zst p iv) Q ↔ zRef (zRV p a 2) (fun j => zEv sc 39 53 [l0, l1, l2, l3, l4, l5] [.ref j] (zst p iv) Q) := zE_gfR dz39_50 (by decide +kernel : z_lk3 zFT (z_cls 39) 20 = some (5, 2, 0, 197)) (by decide +kernel) ho
theorem dz39_53 : decode (z_code 39) 53 = .ok (.iload 4, 2) := by decide +kernel
theorem u39_53 : zEv sc 39 53 [l0, l1, l2, l3, .int x, l5] [t0] h Q ↔ zEv sc 39 55 [l0, l1, l2, l3, .int x, l5] [.int x, t0] h Q := zE_pure (q := (55, [l0, l1, l2, l3, .int x, l5], [.int x, t0])) dz39_53 rfl rfl rfl
theorem dz39_55 : decode (z_code 39) 55 = .ok (.aaload, 1) := by decide +kernel
theorem u39_55 (ho : zO a 103) : zEv sc 39 55 [l0, l1, l2, l3, l4, l5] [.int x, .ref a] (zst p iv) Q ↔ (vp_in x (zLn a) ∧ zRef (zRV p a x.toNatClampNeg) (fun j => zEv sc 39 56 [l0, l1, l2, l3, l4, l5] [.ref j] (zst p iv) Q)) := zE_aald dz39_55 (Or.inr ho)
theorem dz39_56 : decode (z_code 39) 56 = .ok (.iload 5, 2) := by decide +kernel
theorem u39_56 : zEv sc 39 56 [l0, l1, l2, l3, l4, .int x] [t0] h Q ↔ zEv sc 39 58 [l0, l1, l2, l3, l4, .int x] [.int x, t0] h Q := zE_pure (q := (58, [l0, l1, l2, l3, l4, .int x], [.int x, t0])) dz39_56 rfl rfl rfl
theorem dz39_58 : decode (z_code 39) 58 = .ok (.aload_n 1, 1) := by decide +kernel
theorem u39_58 : zEv sc 39 58 [l0, .ref a, l2, l3, l4, l5] [t0, t1] h Q ↔ zEv sc 39 59 [l0, .ref a, l2, l3, l4, l5] [.ref a, t0, t1] h Q := zE_pure (q := (59, [l0, .ref a, l2, l3, l4, l5], [.ref a, t0, t1])) dz39_58 rfl rfl rfl
theorem dz39_59 : decode (z_code 39) 59 = .ok (.getfield 41, 3) := by decide +kernel
theorem u39_59 (ho : zO a 2) : zEv sc 39 59 [l0, l1, l2, l3, l4, l5] [.ref a, t0, t1] (zst p iv) Q ↔ zRef (zRV p a 2) (fun j => zEv sc 39 62 [l0, l1, l2, l3, l4, l5] [.ref j, t0, t1] (zst p iv) Q) := zE_gfR dz39_59 (by decide +kernel : z_lk3 zFT (z_cls 39) 41 = some (2, 2, 1, 137)) (by decide +kernel) ho
theorem dz39_62 : decode (z_code 39) 62 = .ok (.iload 4, 2) := by decide +kernel
theorem u39_62 : zEv sc 39 62 [l0, l1, l2, l3, .int x, l5] [t0, t1, t2] h Q ↔ zEv sc 39 64 [l0, l1, l2, l3, .int x, l5] [.int x, t0, t1, t2] h Q := zE_pure (q := (64, [l0, l1, l2, l3, .int x, l5], [.int x, t0, t1, t2])) dz39_62 rfl rfl rfl
theorem dz39_64 : decode (z_code 39) 64 = .ok (.iaload, 1) := by decide +kernel
theorem u39_64 (ho : zO a 100) : zEv sc 39 64 [l0, l1, l2, l3, l4, l5] [.int x, .ref a, t0, t1] (zst p iv) Q ↔ (vp_in x (zLn a) ∧ zEv sc 39 65 [l0, l1, l2, l3, l4, l5] [.int (iv a x.toNatClampNeg), t0, t1] (zst p iv) Q) := zE_ald (Or.inl ⟨rfl, rfl⟩) dz39_64 ho
theorem dz39_65 : decode (z_code 39) 65 = .ok (.aload_n 1, 1) := by decide +kernel
theorem u39_65 : zEv sc 39 65 [l0, .ref a, l2, l3, l4, l5] [t0, t1, t2] h Q ↔ zEv sc 39 66 [l0, .ref a, l2, l3, l4, l5] [.ref a, t0, t1, t2] h Q := zE_pure (q := (66, [l0, .ref a, l2, l3, l4, l5], [.ref a, t0, t1, t2])) dz39_65 rfl rfl rfl
theorem dz39_66 : decode (z_code 39) 66 = .ok (.iload_n 2, 1) := by decide +kernel
theorem u39_66 : zEv sc 39 66 [l0, l1, .int x, l3, l4, l5] [t0, t1, t2, t3] h Q ↔ zEv sc 39 67 [l0, l1, .int x, l3, l4, l5] [.int x, t0, t1, t2, t3] h Q := zE_pure (q := (67, [l0, l1, .int x, l3, l4, l5], [.int x, t0, t1, t2, t3])) dz39_66 rfl rfl rfl
theorem dz39_67 : decode (z_code 39) 67 = .ok (.iload 4, 2) := by decide +kernel
theorem u39_67 : zEv sc 39 67 [l0, l1, l2, l3, .int x, l5] [t0, t1, t2, t3, t4] h Q ↔ zEv sc 39 69 [l0, l1, l2, l3, .int x, l5] [.int x, t0, t1, t2, t3, t4] h Q := zE_pure (q := (69, [l0, l1, l2, l3, .int x, l5], [.int x, t0, t1, t2, t3, t4])) dz39_67 rfl rfl rfl
theorem dz39_69 : decode (z_code 39) 69 = .ok (.iload 5, 2) := by decide +kernel
theorem u39_69 : zEv sc 39 69 [l0, l1, l2, l3, l4, .int x] [t0, t1, t2, t3, t4, t5] h Q ↔ zEv sc 39 71 [l0, l1, l2, l3, l4, .int x] [.int x, t0, t1, t2, t3, t4, t5] h Q := zE_pure (q := (71, [l0, l1, l2, l3, l4, .int x], [.int x, t0, t1, t2, t3, t4, t5])) dz39_69 rfl rfl rfl
theorem dz39_71 : decode (z_code 39) 71 = .ok (.invokestatic 45, 3) := by decide +kernel
theorem u39_71 : zEv sc 39 71 [l0, l1, l2, l3, l4, l5] [.int z2, .int z1, .int z0, .ref b0, t0, t1, t2] h Q ↔ zEv sc 38 0 [.ref b0, .int z0, .int z1, .int z2, .null, .null, .null, .null] [] h (fun r h9 => zEv sc 39 74 [l0, l1, l2, l3, l4, l5] (r.toList ++ [t0, t1, t2]) h9 Q) := zE_call (kd := 1) (na := 4) (nr := 3) (as := [.ref b0, .int z0, .int z1, .int z2]) (rest := [t0, t1, t2]) (Or.inr ⟨rfl, rfl⟩) dz39_71 (by decide +kernel : z_lk2 zCT (z_cls 39) 45 = some (38, 0, 369)) (fun _ => ⟨by decide +kernel, by decide +kernel⟩) rfl rfl rfl (by decide +kernel) rfl rfl (Or.inl rfl)
theorem dz39_74 : decode (z_code 39) 74 = .ok (.imul, 1) := by decide +kernel
theorem u39_74 : zEv sc 39 74 [l0, l1, l2, l3, l4, l5] [.int x2, .int x1, t0, t1] h Q ↔ zEv sc 39 75 [l0, l1, l2, l3, l4, l5] [.int (x1 * x2), t0, t1] h Q := zE_pure (q := (75, [l0, l1, l2, l3, l4, l5], [.int (x1 * x2), t0, t1])) dz39_74 rfl rfl rfl
theorem dz39_75 : decode (z_code 39) 75 = .ok (.iastore, 1) := by decide +kernel
theorem u39_75 (ho : zO a 100) : zEv sc 39 75 [l0, l1, l2, l3, l4, l5] [.int x2, .int x1, .ref a] (zst p iv) Q ↔ (vp_in x1 (zLn a) ∧ zEv sc 39 76 [l0, l1, l2, l3, l4, l5] [] (zst p (w2 iv a x1.toNatClampNeg x2)) Q) := zE_ast (Or.inl ⟨rfl, rfl, rfl⟩) dz39_75 ho
theorem dz39_76 : decode (z_code 39) 76 = .ok (.iinc 5 1, 3) := by decide +kernel
theorem u39_76 : zEv sc 39 76 [l0, l1, l2, l3, l4, .int x] [] h Q ↔ zEv sc 39 79 [l0, l1, l2, l3, l4, .int (x + 1)] [] h Q := zE_iinc (ls2 := [l0, l1, l2, l3, l4, .int (x + 1)]) dz39_76 (by decide +kernel) rfl (by simp) rfl
theorem dz39_79 : decode (z_code 39) 79 = .ok (.goto (-37), 3) := by decide +kernel
theorem u39_79 : zEv sc 39 79 [l0, l1, l2, l3, l4, l5] [] h Q ↔ zEv sc 39 42 [l0, l1, l2, l3, l4, l5] [] h Q := zE_go 42 dz39_79 rfl
theorem dz39_82 : decode (z_code 39) 82 = .ok (.iinc 4 1, 3) := by decide +kernel
theorem u39_82 : zEv sc 39 82 [l0, l1, l2, l3, .int x, l5] [] h Q ↔ zEv sc 39 85 [l0, l1, l2, l3, .int (x + 1), l5] [] h Q := zE_iinc (ls2 := [l0, l1, l2, l3, .int (x + 1), l5]) dz39_82 (by decide +kernel) rfl (by simp) rfl
theorem dz39_85 : decode (z_code 39) 85 = .ok (.goto (-55), 3) := by decide +kernel
theorem u39_85 : zEv sc 39 85 [l0, l1, l2, l3, l4, l5] [] h Q ↔ zEv sc 39 30 [l0, l1, l2, l3, l4, l5] [] h Q := zE_go 30 dz39_85 rfl
theorem dz39_88 : decode (z_code 39) 88 = .ok (.return_, 1) := by decide +kernel
theorem u39_88 : zEv sc 39 88 [l0, l1, l2, l3, l4, l5] [] h Q ↔ Q none h := zE_rv dz39_88 (by decide +kernel)
/-! method 40: FieldMixtures$Scores.ofMixture(LFieldMixtures$Mixture;)I -/
theorem dz40_0 : decode (z_code 40) 0 = .ok (.iconst 0, 1) := by decide +kernel
theorem u40_0 : zEv sc 40 0 [l0, l1, l2, l3] [] h Q ↔ zEv sc 40 1 [l0, l1, l2, l3] [.int 0] h Q := zE_iconst dz40_0 (by decide +kernel)
theorem dz40_1 : decode (z_code 40) 1 = .ok (.istore_n 2, 1) := by decide +kernel
theorem u40_1 : zEv sc 40 1 [l0, l1, l2, l3] [.int x] h Q ↔ zEv sc 40 2 [l0, l1, .int x, l3] [] h Q := zE_pure (q := (2, [l0, l1, .int x, l3], [])) dz40_1 rfl rfl rfl
theorem dz40_2 : decode (z_code 40) 2 = .ok (.iconst 0, 1) := by decide +kernel
theorem u40_2 : zEv sc 40 2 [l0, l1, l2, l3] [] h Q ↔ zEv sc 40 3 [l0, l1, l2, l3] [.int 0] h Q := zE_iconst dz40_2 (by decide +kernel)
theorem dz40_3 : decode (z_code 40) 3 = .ok (.istore_n 3, 1) := by decide +kernel
theorem u40_3 : zEv sc 40 3 [l0, l1, l2, l3] [.int x] h Q ↔ zEv sc 40 4 [l0, l1, l2, .int x] [] h Q := zE_pure (q := (4, [l0, l1, l2, .int x], [])) dz40_3 rfl rfl rfl
theorem dz40_4 : decode (z_code 40) 4 = .ok (.iload_n 3, 1) := by decide +kernel
theorem u40_4 : zEv sc 40 4 [l0, l1, l2, .int x] [] h Q ↔ zEv sc 40 5 [l0, l1, l2, .int x] [.int x] h Q := zE_pure (q := (5, [l0, l1, l2, .int x], [.int x])) dz40_4 rfl rfl rfl
theorem dz40_5 : decode (z_code 40) 5 = .ok (.aload_n 1, 1) := by decide +kernel
theorem u40_5 : zEv sc 40 5 [l0, .ref a, l2, l3] [t0] h Q ↔ zEv sc 40 6 [l0, .ref a, l2, l3] [.ref a, t0] h Q := zE_pure (q := (6, [l0, .ref a, l2, l3], [.ref a, t0])) dz40_5 rfl rfl rfl
theorem dz40_6 : decode (z_code 40) 6 = .ok (.getfield 49, 3) := by decide +kernel
theorem u40_6 (ho : zO a 4) : zEv sc 40 6 [l0, l1, l2, l3] [.ref a, t0] (zst p iv) Q ↔ zEv sc 40 9 [l0, l1, l2, l3] [.int (iv a 0), t0] (zst p iv) Q := zE_gfI dz40_6 (by decide +kernel : z_lk3 zFT (z_cls 40) 49 = some (4, 0, 1, 87)) (by decide +kernel) ho
theorem dz40_9 : decode (z_code 40) 9 = .ok (.if_icmp .ge 29, 3) := by decide +kernel
theorem u40_9 : zEv sc 40 9 [l0, l1, l2, l3] [.int x2, .int x1] h Q ↔ (if x2 ≤ x1 then zEv sc 40 38 [l0, l1, l2, l3] [] h Q else zEv sc 40 12 [l0, l1, l2, l3] [] h Q) := zE_icP (P := x2 ≤ x1) inferInstance 38 dz40_9 rfl rfl
theorem dz40_12 : decode (z_code 40) 12 = .ok (.iload_n 2, 1) := by decide +kernel
theorem u40_12 : zEv sc 40 12 [l0, l1, .int x, l3] [] h Q ↔ zEv sc 40 13 [l0, l1, .int x, l3] [.int x] h Q := zE_pure (q := (13, [l0, l1, .int x, l3], [.int x])) dz40_12 rfl rfl rfl
theorem dz40_13 : decode (z_code 40) 13 = .ok (.aload_n 1, 1) := by decide +kernel
theorem u40_13 : zEv sc 40 13 [l0, .ref a, l2, l3] [t0] h Q ↔ zEv sc 40 14 [l0, .ref a, l2, l3] [.ref a, t0] h Q := zE_pure (q := (14, [l0, .ref a, l2, l3], [.ref a, t0])) dz40_13 rfl rfl rfl
theorem dz40_14 : decode (z_code 40) 14 = .ok (.getfield 59, 3) := by decide +kernel
theorem u40_14 (ho : zO a 4) : zEv sc 40 14 [l0, l1, l2, l3] [.ref a, t0] (zst p iv) Q ↔ zRef (zRV p a 2) (fun j => zEv sc 40 17 [l0, l1, l2, l3] [.ref j, t0] (zst p iv) Q) := zE_gfR dz40_14 (by decide +kernel : z_lk3 zFT (z_cls 40) 59 = some (4, 2, 1, 95)) (by decide +kernel) ho
theorem dz40_17 : decode (z_code 40) 17 = .ok (.iload_n 3, 1) := by decide +kernel
theorem u40_17 : zEv sc 40 17 [l0, l1, l2, .int x] [t0, t1] h Q ↔ zEv sc 40 18 [l0, l1, l2, .int x] [.int x, t0, t1] h Q := zE_pure (q := (18, [l0, l1, l2, .int x], [.int x, t0, t1])) dz40_17 rfl rfl rfl
theorem dz40_18 : decode (z_code 40) 18 = .ok (.iaload, 1) := by decide +kernel
theorem u40_18 (ho : zO a 100) : zEv sc 40 18 [l0, l1, l2, l3] [.int x, .ref a, t0] (zst p iv) Q ↔ (vp_in x (zLn a) ∧ zEv sc 40 19 [l0, l1, l2, l3] [.int (iv a x.toNatClampNeg), t0] (zst p iv) Q) := zE_ald (Or.inl ⟨rfl, rfl⟩) dz40_18 ho
theorem dz40_19 : decode (z_code 40) 19 = .ok (.aload_n 0, 1) := by decide +kernel
theorem u40_19 : zEv sc 40 19 [.ref a, l1, l2, l3] [t0, t1] h Q ↔ zEv sc 40 20 [.ref a, l1, l2, l3] [.ref a, t0, t1] h Q := zE_pure (q := (20, [.ref a, l1, l2, l3], [.ref a, t0, t1])) dz40_19 rfl rfl rfl
theorem dz40_20 : decode (z_code 40) 20 = .ok (.aload_n 1, 1) := by decide +kernel
theorem u40_20 : zEv sc 40 20 [l0, .ref a, l2, l3] [t0, t1, t2] h Q ↔ zEv sc 40 21 [l0, .ref a, l2, l3] [.ref a, t0, t1, t2] h Q := zE_pure (q := (21, [l0, .ref a, l2, l3], [.ref a, t0, t1, t2])) dz40_20 rfl rfl rfl
theorem dz40_21 : decode (z_code 40) 21 = .ok (.getfield 52, 3) := by decide +kernel
theorem u40_21 (ho : zO a 4) : zEv sc 40 21 [l0, l1, l2, l3] [.ref a, t0, t1, t2] (zst p iv) Q ↔ zRef (zRV p a 1) (fun j => zEv sc 40 24 [l0, l1, l2, l3] [.ref j, t0, t1, t2] (zst p iv) Q) := zE_gfR dz40_21 (by decide +kernel : z_lk3 zFT (z_cls 40) 52 = some (4, 1, 1, 91)) (by decide +kernel) ho
theorem dz40_24 : decode (z_code 40) 24 = .ok (.iload_n 3, 1) := by decide +kernel
theorem u40_24 : zEv sc 40 24 [l0, l1, l2, .int x] [t0, t1, t2, t3] h Q ↔ zEv sc 40 25 [l0, l1, l2, .int x] [.int x, t0, t1, t2, t3] h Q := zE_pure (q := (25, [l0, l1, l2, .int x], [.int x, t0, t1, t2, t3])) dz40_24 rfl rfl rfl
theorem dz40_25 : decode (z_code 40) 25 = .ok (.iaload, 1) := by decide +kernel
theorem u40_25 (ho : zO a 100) : zEv sc 40 25 [l0, l1, l2, l3] [.int x, .ref a, t0, t1, t2] (zst p iv) Q ↔ (vp_in x (zLn a) ∧ zEv sc 40 26 [l0, l1, l2, l3] [.int (iv a x.toNatClampNeg), t0, t1, t2] (zst p iv) Q) := zE_ald (Or.inl ⟨rfl, rfl⟩) dz40_25 ho
theorem dz40_26 : decode (z_code 40) 26 = .ok (.invokevirtual 66, 3) := by decide +kernel
theorem u40_26 (ho : zO a 5) : zEv sc 40 26 [l0, l1, l2, l3] [.int z0, .ref a, t0, t1] (zst p iv) Q ↔ zEv sc 4 0 [.ref a, .int z0, .null, .null, .null] [] (zst p iv) (fun r h9 => zEv sc 40 29 [l0, l1, l2, l3] (r.toList ++ [t0, t1]) h9 Q) := zE_call (kd := 0) (na := 2) (nr := 2) (as := [.ref a, .int z0]) (rest := [t0, t1]) (Or.inl ⟨rfl, rfl⟩) dz40_26 (by decide +kernel : z_lk2 zCT (z_cls 40) 66 = some (4, 0, 462)) (fun z => by cases z) rfl rfl rfl (by decide +kernel) rfl rfl (Or.inr (zE_rc ho))
theorem dz40_29 : decode (z_code 40) 29 = .ok (.imul, 1) := by decide +kernel
theorem u40_29 : zEv sc 40 29 [l0, l1, l2, l3] [.int x2, .int x1, t0] h Q ↔ zEv sc 40 30 [l0, l1, l2, l3] [.int (x1 * x2), t0] h Q := zE_pure (q := (30, [l0, l1, l2, l3], [.int (x1 * x2), t0])) dz40_29 rfl rfl rfl
theorem dz40_30 : decode (z_code 40) 30 = .ok (.iadd, 1) := by decide +kernel
theorem u40_30 : zEv sc 40 30 [l0, l1, l2, l3] [.int x2, .int x1] h Q ↔ zEv sc 40 31 [l0, l1, l2, l3] [.int (x1 + x2)] h Q := zE_pure (q := (31, [l0, l1, l2, l3], [.int (x1 + x2)])) dz40_30 rfl rfl rfl
theorem dz40_31 : decode (z_code 40) 31 = .ok (.istore_n 2, 1) := by decide +kernel
theorem u40_31 : zEv sc 40 31 [l0, l1, l2, l3] [.int x] h Q ↔ zEv sc 40 32 [l0, l1, .int x, l3] [] h Q := zE_pure (q := (32, [l0, l1, .int x, l3], [])) dz40_31 rfl rfl rfl
theorem dz40_32 : decode (z_code 40) 32 = .ok (.iinc 3 1, 3) := by decide +kernel
theorem u40_32 : zEv sc 40 32 [l0, l1, l2, .int x] [] h Q ↔ zEv sc 40 35 [l0, l1, l2, .int (x + 1)] [] h Q := zE_iinc (ls2 := [l0, l1, l2, .int (x + 1)]) dz40_32 (by decide +kernel) rfl (by simp) rfl
theorem dz40_35 : decode (z_code 40) 35 = .ok (.goto (-31), 3) := by decide +kernel
theorem u40_35 : zEv sc 40 35 [l0, l1, l2, l3] [] h Q ↔ zEv sc 40 4 [l0, l1, l2, l3] [] h Q := zE_go 4 dz40_35 rfl
theorem dz40_38 : decode (z_code 40) 38 = .ok (.iload_n 2, 1) := by decide +kernel
theorem u40_38 : zEv sc 40 38 [l0, l1, .int x, l3] [] h Q ↔ zEv sc 40 39 [l0, l1, .int x, l3] [.int x] h Q := zE_pure (q := (39, [l0, l1, .int x, l3], [.int x])) dz40_38 rfl rfl rfl
theorem dz40_39 : decode (z_code 40) 39 = .ok (.ireturn, 1) := by decide +kernel
theorem u40_39 : zEv sc 40 39 [l0, l1, l2, l3] [.int x] h Q ↔ Q (some (.int x)) h := zE_ri dz40_39 (by decide +kernel)
end ZU0
