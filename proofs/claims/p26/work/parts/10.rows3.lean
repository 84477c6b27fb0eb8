/-! ===== rows of the methods, printed by wip/whole/gen2.py ===== -/
section ZU3
variable {sc : Nat × (Nat → Int32)} {h : zA} {Q : Option Value → zA → Prop} {p : Nat → Option Nat} {iv : Nat → Nat → Int32} {l0 l1 l2 l3 l4 l5 l6 l7 l8 l9 l10 l11 t0 t1 t2 t3 t4 t5 t6 v1 v2 : Value} {x x1 x2 z0 z1 z2 z3 : Int32} {j1 j2 : Int64} {a b0 b1 b2 : Nat}
/-! method 93: FieldMixturesLaw.law([I)Z -/
theorem dz93_8 : decode (z_code 93) 8 = .ok (.aload_n 1, 1) := by decide +kernel
theorem u93_8 : zEv sc 93 8 [l0, .ref a, l2, l3, l4, l5, l6, l7, l8, l9, l10] [] h Q ↔ zEv sc 93 9 [l0, .ref a, l2, l3, l4, l5, l6, l7, l8, l9, l10] [.ref a] h Q := zE_pure (q := (9, [l0, .ref a, l2, l3, l4, l5, l6, l7, l8, l9, l10], [.ref a])) dz93_8 rfl rfl rfl
theorem dz93_9 : decode (z_code 93) 9 = .ok (.iconst 0, 1) := by decide +kernel
theorem u93_9 : zEv sc 93 9 [l0, l1, l2, l3, l4, l5, l6, l7, l8, l9, l10] [t0] h Q ↔ zEv sc 93 10 [l0, l1, l2, l3, l4, l5, l6, l7, l8, l9, l10] [.int 0, t0] h Q := zE_iconst dz93_9 (by decide +kernel)
theorem dz93_10 : decode (z_code 93) 10 = .ok (.invokestatic 96, 3) := by decide +kernel
theorem u93_10 : zEv sc 93 10 [l0, l1, l2, l3, l4, l5, l6, l7, l8, l9, l10] [.int z0, .ref b0] h Q ↔ zEv sc 89 0 [.ref b0, .int z0, .null, .null, .null, .null, .null, .null, .null, .null, .null, .null] [] h (fun r h9 => zEv sc 93 13 [l0, l1, l2, l3, l4, l5, l6, l7, l8, l9, l10] (r.toList ++ []) h9 Q) := zE_call (kd := 1) (na := 2) (nr := 0) (as := [.ref b0, .int z0]) (rest := []) (Or.inr ⟨rfl, rfl⟩) dz93_10 (by decide +kernel : z_lk2 zCT (z_cls 93) 96 = some (89, 0, 397)) (fun _ => ⟨by decide +kernel, by decide +kernel⟩) rfl rfl rfl (by decide +kernel) rfl rfl (Or.inl rfl)
theorem dz93_13 : decode (z_code 93) 13 = .ok (.ifCond .eq 16, 3) := by decide +kernel
theorem u93_13 : zEv sc 93 13 [l0, l1, l2, l3, l4, l5, l6, l7, l8, l9, l10] [.int x] h Q ↔ (if x = 0 then zEv sc 93 29 [l0, l1, l2, l3, l4, l5, l6, l7, l8, l9, l10] [] h Q else zEv sc 93 16 [l0, l1, l2, l3, l4, l5, l6, l7, l8, l9, l10] [] h Q) := zE_ifP (P := x = 0) inferInstance 29 dz93_13 rfl rfl
theorem dz93_16 : decode (z_code 93) 16 = .ok (.aload_n 1, 1) := by decide +kernel
theorem u93_16 : zEv sc 93 16 [l0, .ref a, l2, l3, l4, l5, l6, l7, l8, l9, l10] [] h Q ↔ zEv sc 93 17 [l0, .ref a, l2, l3, l4, l5, l6, l7, l8, l9, l10] [.ref a] h Q := zE_pure (q := (17, [l0, .ref a, l2, l3, l4, l5, l6, l7, l8, l9, l10], [.ref a])) dz93_16 rfl rfl rfl
theorem dz93_17 : decode (z_code 93) 17 = .ok (.invokevirtual 99, 3) := by decide +kernel
theorem u93_17 (ho : zO a 9) : zEv sc 93 17 [l0, l1, l2, l3, l4, l5, l6, l7, l8, l9, l10] [.ref a] (zst p iv) Q ↔ zEv sc 82 0 [.ref a] [] (zst p iv) (fun r h9 => zEv sc 93 20 [l0, l1, l2, l3, l4, l5, l6, l7, l8, l9, l10] (r.toList ++ []) h9 Q) := zE_call (kd := 0) (na := 1) (nr := 0) (as := [.ref a]) (rest := []) (Or.inl ⟨rfl, rfl⟩) dz93_17 (by decide +kernel : z_lk2 zCT (z_cls 93) 99 = some (82, 0, 320)) (fun z => by cases z) rfl rfl rfl (by decide +kernel) rfl rfl (Or.inr (zE_rc ho))
theorem dz93_20 : decode (z_code 93) 20 = .ok (.ldc 38, 2) := by decide +kernel
theorem u93_20 : zEv sc 93 20 [l0, l1, l2, l3, l4, l5, l6, l7, l8, l9, l10] [t0] h Q ↔ zEv sc 93 22 [l0, l1, l2, l3, l4, l5, l6, l7, l8, l9, l10] [.int (-1000002), t0] h Q := zE_ldc (by decide +kernel : z_lkK zKT (z_cls 93) 38 = some ((-1000002), 430)) dz93_20
theorem dz93_22 : decode (z_code 93) 22 = .ok (.if_icmp .ne 7, 3) := by decide +kernel
theorem u93_22 : zEv sc 93 22 [l0, l1, l2, l3, l4, l5, l6, l7, l8, l9, l10] [.int x2, .int x1] h Q ↔ (if ¬ x1 = x2 then zEv sc 93 29 [l0, l1, l2, l3, l4, l5, l6, l7, l8, l9, l10] [] h Q else zEv sc 93 25 [l0, l1, l2, l3, l4, l5, l6, l7, l8, l9, l10] [] h Q) := zE_icP (P := ¬ x1 = x2) inferInstance 29 dz93_22 rfl rfl
theorem dz93_25 : decode (z_code 93) 25 = .ok (.iconst 1, 1) := by decide +kernel
theorem u93_25 : zEv sc 93 25 [l0, l1, l2, l3, l4, l5, l6, l7, l8, l9, l10] [] h Q ↔ zEv sc 93 26 [l0, l1, l2, l3, l4, l5, l6, l7, l8, l9, l10] [.int 1] h Q := zE_iconst dz93_25 (by decide +kernel)
theorem dz93_26 : decode (z_code 93) 26 = .ok (.goto 4, 3) := by decide +kernel
theorem u93_26 : zEv sc 93 26 [l0, l1, l2, l3, l4, l5, l6, l7, l8, l9, l10] [t0] h Q ↔ zEv sc 93 30 [l0, l1, l2, l3, l4, l5, l6, l7, l8, l9, l10] [t0] h Q := zE_go 30 dz93_26 rfl
theorem dz93_30 : decode (z_code 93) 30 = .ok (.istore_n 2, 1) := by decide +kernel
theorem u93_30 : zEv sc 93 30 [l0, l1, l2, l3, l4, l5, l6, l7, l8, l9, l10] [.int x] h Q ↔ zEv sc 93 31 [l0, l1, .int x, l3, l4, l5, l6, l7, l8, l9, l10] [] h Q := zE_pure (q := (31, [l0, l1, .int x, l3, l4, l5, l6, l7, l8, l9, l10], [])) dz93_30 rfl rfl rfl
theorem dz93_31 : decode (z_code 93) 31 = .ok (.iconst 0, 1) := by decide +kernel
theorem u93_31 : zEv sc 93 31 [l0, l1, l2, l3, l4, l5, l6, l7, l8, l9, l10] [] h Q ↔ zEv sc 93 32 [l0, l1, l2, l3, l4, l5, l6, l7, l8, l9, l10] [.int 0] h Q := zE_iconst dz93_31 (by decide +kernel)
theorem dz93_32 : decode (z_code 93) 32 = .ok (.istore_n 3, 1) := by decide +kernel
theorem u93_32 : zEv sc 93 32 [l0, l1, l2, l3, l4, l5, l6, l7, l8, l9, l10] [.int x] h Q ↔ zEv sc 93 33 [l0, l1, l2, .int x, l4, l5, l6, l7, l8, l9, l10] [] h Q := zE_pure (q := (33, [l0, l1, l2, .int x, l4, l5, l6, l7, l8, l9, l10], [])) dz93_32 rfl rfl rfl
theorem dz93_33 : decode (z_code 93) 33 = .ok (.iload_n 3, 1) := by decide +kernel
theorem u93_33 : zEv sc 93 33 [l0, l1, l2, .int x, l4, l5, l6, l7, l8, l9, l10] [] h Q ↔ zEv sc 93 34 [l0, l1, l2, .int x, l4, l5, l6, l7, l8, l9, l10] [.int x] h Q := zE_pure (q := (34, [l0, l1, l2, .int x, l4, l5, l6, l7, l8, l9, l10], [.int x])) dz93_33 rfl rfl rfl
theorem dz93_34 : decode (z_code 93) 34 = .ok (.bipush 26, 2) := by decide +kernel
theorem u93_34 : zEv sc 93 34 [l0, l1, l2, l3, l4, l5, l6, l7, l8, l9, l10] [t0] h Q ↔ zEv sc 93 36 [l0, l1, l2, l3, l4, l5, l6, l7, l8, l9, l10] [.int 26, t0] h Q := zE_bipush dz93_34 (by decide +kernel)
theorem dz93_36 : decode (z_code 93) 36 = .ok (.if_icmp .ge 234, 3) := by decide +kernel
theorem u93_36 : zEv sc 93 36 [l0, l1, l2, l3, l4, l5, l6, l7, l8, l9, l10] [.int x2, .int x1] h Q ↔ (if x2 ≤ x1 then zEv sc 93 270 [l0, l1, l2, l3, l4, l5, l6, l7, l8, l9, l10] [] h Q else zEv sc 93 39 [l0, l1, l2, l3, l4, l5, l6, l7, l8, l9, l10] [] h Q) := zE_icP (P := x2 ≤ x1) inferInstance 270 dz93_36 rfl rfl
theorem dz93_39 : decode (z_code 93) 39 = .ok (.iload_n 2, 1) := by decide +kernel
theorem u93_39 : zEv sc 93 39 [l0, l1, .int x, l3, l4, l5, l6, l7, l8, l9, l10] [] h Q ↔ zEv sc 93 40 [l0, l1, .int x, l3, l4, l5, l6, l7, l8, l9, l10] [.int x] h Q := zE_pure (q := (40, [l0, l1, .int x, l3, l4, l5, l6, l7, l8, l9, l10], [.int x])) dz93_39 rfl rfl rfl
theorem dz93_40 : decode (z_code 93) 40 = .ok (.ifCond .eq 230, 3) := by decide +kernel
theorem u93_40 : zEv sc 93 40 [l0, l1, l2, l3, l4, l5, l6, l7, l8, l9, l10] [.int x] h Q ↔ (if x = 0 then zEv sc 93 270 [l0, l1, l2, l3, l4, l5, l6, l7, l8, l9, l10] [] h Q else zEv sc 93 43 [l0, l1, l2, l3, l4, l5, l6, l7, l8, l9, l10] [] h Q) := zE_ifP (P := x = 0) inferInstance 270 dz93_40 rfl rfl
theorem dz93_43 : decode (z_code 93) 43 = .ok (.aload_n 0, 1) := by decide +kernel
theorem u93_43 : zEv sc 93 43 [.ref a, l1, l2, l3, l4, l5, l6, l7, l8, l9, l10] [] h Q ↔ zEv sc 93 44 [.ref a, l1, l2, l3, l4, l5, l6, l7, l8, l9, l10] [.ref a] h Q := zE_pure (q := (44, [.ref a, l1, l2, l3, l4, l5, l6, l7, l8, l9, l10], [.ref a])) dz93_43 rfl rfl rfl
theorem dz93_44 : decode (z_code 93) 44 = .ok (.iconst 2, 1) := by decide +kernel
theorem u93_44 : zEv sc 93 44 [l0, l1, l2, l3, l4, l5, l6, l7, l8, l9, l10] [t0] h Q ↔ zEv sc 93 45 [l0, l1, l2, l3, l4, l5, l6, l7, l8, l9, l10] [.int 2, t0] h Q := zE_iconst dz93_44 (by decide +kernel)
theorem dz93_45 : decode (z_code 93) 45 = .ok (.iload_n 3, 1) := by decide +kernel
theorem u93_45 : zEv sc 93 45 [l0, l1, l2, .int x, l4, l5, l6, l7, l8, l9, l10] [t0, t1] h Q ↔ zEv sc 93 46 [l0, l1, l2, .int x, l4, l5, l6, l7, l8, l9, l10] [.int x, t0, t1] h Q := zE_pure (q := (46, [l0, l1, l2, .int x, l4, l5, l6, l7, l8, l9, l10], [.int x, t0, t1])) dz93_45 rfl rfl rfl
theorem dz93_46 : decode (z_code 93) 46 = .ok (.imul, 1) := by decide +kernel
theorem u93_46 : zEv sc 93 46 [l0, l1, l2, l3, l4, l5, l6, l7, l8, l9, l10] [.int x2, .int x1, t0] h Q ↔ zEv sc 93 47 [l0, l1, l2, l3, l4, l5, l6, l7, l8, l9, l10] [.int (x1 * x2), t0] h Q := zE_pure (q := (47, [l0, l1, l2, l3, l4, l5, l6, l7, l8, l9, l10], [.int (x1 * x2), t0])) dz93_46 rfl rfl rfl
theorem dz93_47 : decode (z_code 93) 47 = .ok (.invokestatic 102, 3) := by decide +kernel
theorem u93_47 (hx : ¬ x < 0 ∧ sc.1 ≤ 2048) : zEv sc 93 47 [l0, l1, l2, l3, l4, l5, l6, l7, l8, l9, l10] [.int x, .ref 0] h Q ↔ zEv sc 93 50 [l0, l1, l2, l3, l4, l5, l6, l7, l8, l9, l10] [.int (z_lt sc x)] h Q := zE_lot dz93_47 (by decide +kernel : z_lk0 zVT (z_cls 93) 102 = some 341) hx (by decide +kernel)
theorem dz93_50 : decode (z_code 93) 50 = .ok (.istore 4, 2) := by decide +kernel
theorem u93_50 : zEv sc 93 50 [l0, l1, l2, l3, l4, l5, l6, l7, l8, l9, l10] [.int x] h Q ↔ zEv sc 93 52 [l0, l1, l2, l3, .int x, l5, l6, l7, l8, l9, l10] [] h Q := zE_pure (q := (52, [l0, l1, l2, l3, .int x, l5, l6, l7, l8, l9, l10], [])) dz93_50 rfl rfl rfl
theorem dz93_52 : decode (z_code 93) 52 = .ok (.aload_n 0, 1) := by decide +kernel
theorem u93_52 : zEv sc 93 52 [.ref a, l1, l2, l3, l4, l5, l6, l7, l8, l9, l10] [] h Q ↔ zEv sc 93 53 [.ref a, l1, l2, l3, l4, l5, l6, l7, l8, l9, l10] [.ref a] h Q := zE_pure (q := (53, [.ref a, l1, l2, l3, l4, l5, l6, l7, l8, l9, l10], [.ref a])) dz93_52 rfl rfl rfl
theorem dz93_53 : decode (z_code 93) 53 = .ok (.iconst 2, 1) := by decide +kernel
theorem u93_53 : zEv sc 93 53 [l0, l1, l2, l3, l4, l5, l6, l7, l8, l9, l10] [t0] h Q ↔ zEv sc 93 54 [l0, l1, l2, l3, l4, l5, l6, l7, l8, l9, l10] [.int 2, t0] h Q := zE_iconst dz93_53 (by decide +kernel)
theorem dz93_54 : decode (z_code 93) 54 = .ok (.iload_n 3, 1) := by decide +kernel
theorem u93_54 : zEv sc 93 54 [l0, l1, l2, .int x, l4, l5, l6, l7, l8, l9, l10] [t0, t1] h Q ↔ zEv sc 93 55 [l0, l1, l2, .int x, l4, l5, l6, l7, l8, l9, l10] [.int x, t0, t1] h Q := zE_pure (q := (55, [l0, l1, l2, .int x, l4, l5, l6, l7, l8, l9, l10], [.int x, t0, t1])) dz93_54 rfl rfl rfl
theorem dz93_55 : decode (z_code 93) 55 = .ok (.imul, 1) := by decide +kernel
theorem u93_55 : zEv sc 93 55 [l0, l1, l2, l3, l4, l5, l6, l7, l8, l9, l10] [.int x2, .int x1, t0] h Q ↔ zEv sc 93 56 [l0, l1, l2, l3, l4, l5, l6, l7, l8, l9, l10] [.int (x1 * x2), t0] h Q := zE_pure (q := (56, [l0, l1, l2, l3, l4, l5, l6, l7, l8, l9, l10], [.int (x1 * x2), t0])) dz93_55 rfl rfl rfl
theorem dz93_56 : decode (z_code 93) 56 = .ok (.iconst 1, 1) := by decide +kernel
theorem u93_56 : zEv sc 93 56 [l0, l1, l2, l3, l4, l5, l6, l7, l8, l9, l10] [t0, t1] h Q ↔ zEv sc 93 57 [l0, l1, l2, l3, l4, l5, l6, l7, l8, l9, l10] [.int 1, t0, t1] h Q := zE_iconst dz93_56 (by decide +kernel)
theorem dz93_57 : decode (z_code 93) 57 = .ok (.iadd, 1) := by decide +kernel
theorem u93_57 : zEv sc 93 57 [l0, l1, l2, l3, l4, l5, l6, l7, l8, l9, l10] [.int x2, .int x1, t0] h Q ↔ zEv sc 93 58 [l0, l1, l2, l3, l4, l5, l6, l7, l8, l9, l10] [.int (x1 + x2), t0] h Q := zE_pure (q := (58, [l0, l1, l2, l3, l4, l5, l6, l7, l8, l9, l10], [.int (x1 + x2), t0])) dz93_57 rfl rfl rfl
theorem dz93_58 : decode (z_code 93) 58 = .ok (.invokestatic 102, 3) := by decide +kernel
theorem u93_58 (hx : ¬ x < 0 ∧ sc.1 ≤ 2048) : zEv sc 93 58 [l0, l1, l2, l3, l4, l5, l6, l7, l8, l9, l10] [.int x, .ref 0] h Q ↔ zEv sc 93 61 [l0, l1, l2, l3, l4, l5, l6, l7, l8, l9, l10] [.int (z_lt sc x)] h Q := zE_lot dz93_58 (by decide +kernel : z_lk0 zVT (z_cls 93) 102 = some 341) hx (by decide +kernel)
theorem dz93_61 : decode (z_code 93) 61 = .ok (.istore 5, 2) := by decide +kernel
theorem u93_61 : zEv sc 93 61 [l0, l1, l2, l3, l4, l5, l6, l7, l8, l9, l10] [.int x] h Q ↔ zEv sc 93 63 [l0, l1, l2, l3, l4, .int x, l6, l7, l8, l9, l10] [] h Q := zE_pure (q := (63, [l0, l1, l2, l3, l4, .int x, l6, l7, l8, l9, l10], [])) dz93_61 rfl rfl rfl
theorem dz93_63 : decode (z_code 93) 63 = .ok (.aload_n 1, 1) := by decide +kernel
theorem u93_63 : zEv sc 93 63 [l0, .ref a, l2, l3, l4, l5, l6, l7, l8, l9, l10] [] h Q ↔ zEv sc 93 64 [l0, .ref a, l2, l3, l4, l5, l6, l7, l8, l9, l10] [.ref a] h Q := zE_pure (q := (64, [l0, .ref a, l2, l3, l4, l5, l6, l7, l8, l9, l10], [.ref a])) dz93_63 rfl rfl rfl
theorem dz93_64 : decode (z_code 93) 64 = .ok (.invokestatic 106, 3) := by decide +kernel
theorem u93_64 : zEv sc 93 64 [l0, l1, l2, l3, l4, l5, l6, l7, l8, l9, l10] [.ref b0] h Q ↔ zEv sc 88 0 [.ref b0, .null, .null, .null, .null] [] h (fun r h9 => zEv sc 93 67 [l0, l1, l2, l3, l4, l5, l6, l7, l8, l9, l10] (r.toList ++ []) h9 Q) := zE_call (kd := 1) (na := 1) (nr := 0) (as := [.ref b0]) (rest := []) (Or.inr ⟨rfl, rfl⟩) dz93_64 (by decide +kernel : z_lk2 zCT (z_cls 93) 106 = some (88, 0, 349)) (fun _ => ⟨by decide +kernel, by decide +kernel⟩) rfl rfl rfl (by decide +kernel) rfl rfl (Or.inl rfl)
theorem dz93_67 : decode (z_code 93) 67 = .ok (.lstore 6, 2) := by decide +kernel
theorem u93_67 : zEv sc 93 67 [l0, l1, l2, l3, l4, l5, l6, l7, l8, l9, l10] [.long j1] h Q ↔ zEv sc 93 69 [l0, l1, l2, l3, l4, l5, .long j1, .float 0, l8, l9, l10] [] h Q := zE_pure (q := (69, [l0, l1, l2, l3, l4, l5, .long j1, .float 0, l8, l9, l10], [])) dz93_67 rfl rfl rfl
theorem dz93_69 : decode (z_code 93) 69 = .ok (.aload_n 1, 1) := by decide +kernel
theorem u93_69 : zEv sc 93 69 [l0, .ref a, l2, l3, l4, l5, l6, l7, l8, l9, l10] [] h Q ↔ zEv sc 93 70 [l0, .ref a, l2, l3, l4, l5, l6, l7, l8, l9, l10] [.ref a] h Q := zE_pure (q := (70, [l0, .ref a, l2, l3, l4, l5, l6, l7, l8, l9, l10], [.ref a])) dz93_69 rfl rfl rfl
theorem dz93_70 : decode (z_code 93) 70 = .ok (.bipush 9, 2) := by decide +kernel
theorem u93_70 : zEv sc 93 70 [l0, l1, l2, l3, l4, l5, l6, l7, l8, l9, l10] [t0] h Q ↔ zEv sc 93 72 [l0, l1, l2, l3, l4, l5, l6, l7, l8, l9, l10] [.int 9, t0] h Q := zE_bipush dz93_70 (by decide +kernel)
theorem dz93_72 : decode (z_code 93) 72 = .ok (.invokevirtual 13, 3) := by decide +kernel
theorem u93_72 (ho : zO a 9) : zEv sc 93 72 [l0, l1, l2, l3, l4, l5, l6, l7, l8, l9, l10] [.int z0, .ref a] (zst p iv) Q ↔ zEv sc 81 0 [.ref a, .int z0] [] (zst p iv) (fun r h9 => zEv sc 93 75 [l0, l1, l2, l3, l4, l5, l6, l7, l8, l9, l10] (r.toList ++ []) h9 Q) := zE_call (kd := 0) (na := 2) (nr := 0) (as := [.ref a, .int z0]) (rest := []) (Or.inl ⟨rfl, rfl⟩) dz93_72 (by decide +kernel : z_lk2 zCT (z_cls 93) 13 = some (81, 0, 300)) (fun z => by cases z) rfl rfl rfl (by decide +kernel) rfl rfl (Or.inr (zE_rc ho))
theorem dz93_75 : decode (z_code 93) 75 = .ok (.istore 8, 2) := by decide +kernel
theorem u93_75 : zEv sc 93 75 [l0, l1, l2, l3, l4, l5, l6, l7, l8, l9, l10] [.int x] h Q ↔ zEv sc 93 77 [l0, l1, l2, l3, l4, l5, l6, l7, .int x, l9, l10] [] h Q := zE_pure (q := (77, [l0, l1, l2, l3, l4, l5, l6, l7, .int x, l9, l10], [])) dz93_75 rfl rfl rfl
theorem dz93_77 : decode (z_code 93) 77 = .ok (.aload_n 1, 1) := by decide +kernel
theorem u93_77 : zEv sc 93 77 [l0, .ref a, l2, l3, l4, l5, l6, l7, l8, l9, l10] [] h Q ↔ zEv sc 93 78 [l0, .ref a, l2, l3, l4, l5, l6, l7, l8, l9, l10] [.ref a] h Q := zE_pure (q := (78, [l0, .ref a, l2, l3, l4, l5, l6, l7, l8, l9, l10], [.ref a])) dz93_77 rfl rfl rfl
theorem dz93_78 : decode (z_code 93) 78 = .ok (.iload_n 3, 1) := by decide +kernel
theorem u93_78 : zEv sc 93 78 [l0, l1, l2, .int x, l4, l5, l6, l7, l8, l9, l10] [t0] h Q ↔ zEv sc 93 79 [l0, l1, l2, .int x, l4, l5, l6, l7, l8, l9, l10] [.int x, t0] h Q := zE_pure (q := (79, [l0, l1, l2, .int x, l4, l5, l6, l7, l8, l9, l10], [.int x, t0])) dz93_78 rfl rfl rfl
theorem dz93_79 : decode (z_code 93) 79 = .ok (.iconst 4, 1) := by decide +kernel
theorem u93_79 : zEv sc 93 79 [l0, l1, l2, l3, l4, l5, l6, l7, l8, l9, l10] [t0, t1] h Q ↔ zEv sc 93 80 [l0, l1, l2, l3, l4, l5, l6, l7, l8, l9, l10] [.int 4, t0, t1] h Q := zE_iconst dz93_79 (by decide +kernel)
theorem dz93_80 : decode (z_code 93) 80 = .ok (.if_icmp .ge 11, 3) := by decide +kernel
theorem u93_80 : zEv sc 93 80 [l0, l1, l2, l3, l4, l5, l6, l7, l8, l9, l10] [.int x2, .int x1, t0] h Q ↔ (if x2 ≤ x1 then zEv sc 93 91 [l0, l1, l2, l3, l4, l5, l6, l7, l8, l9, l10] [t0] h Q else zEv sc 93 83 [l0, l1, l2, l3, l4, l5, l6, l7, l8, l9, l10] [t0] h Q) := zE_icP (P := x2 ≤ x1) inferInstance 91 dz93_80 rfl rfl
theorem dz93_83 : decode (z_code 93) 83 = .ok (.iload 4, 2) := by decide +kernel
theorem u93_83 : zEv sc 93 83 [l0, l1, l2, l3, .int x, l5, l6, l7, l8, l9, l10] [t0] h Q ↔ zEv sc 93 85 [l0, l1, l2, l3, .int x, l5, l6, l7, l8, l9, l10] [.int x, t0] h Q := zE_pure (q := (85, [l0, l1, l2, l3, .int x, l5, l6, l7, l8, l9, l10], [.int x, t0])) dz93_83 rfl rfl rfl
theorem dz93_85 : decode (z_code 93) 85 = .ok (.bipush (-16), 2) := by decide +kernel
theorem u93_85 : zEv sc 93 85 [l0, l1, l2, l3, l4, l5, l6, l7, l8, l9, l10] [t0, t1] h Q ↔ zEv sc 93 87 [l0, l1, l2, l3, l4, l5, l6, l7, l8, l9, l10] [.int (-16), t0, t1] h Q := zE_bipush dz93_85 (by decide +kernel)
theorem dz93_87 : decode (z_code 93) 87 = .ok (.iand, 1) := by decide +kernel
theorem u93_87 : zEv sc 93 87 [l0, l1, l2, l3, l4, l5, l6, l7, l8, l9, l10] [.int x2, .int x1, t0] h Q ↔ zEv sc 93 88 [l0, l1, l2, l3, l4, l5, l6, l7, l8, l9, l10] [.int (x1 &&& x2), t0] h Q := zE_pure (q := (88, [l0, l1, l2, l3, l4, l5, l6, l7, l8, l9, l10], [.int (x1 &&& x2), t0])) dz93_87 rfl rfl rfl
theorem dz93_88 : decode (z_code 93) 88 = .ok (.goto 5, 3) := by decide +kernel
theorem u93_88 : zEv sc 93 88 [l0, l1, l2, l3, l4, l5, l6, l7, l8, l9, l10] [t0, t1] h Q ↔ zEv sc 93 93 [l0, l1, l2, l3, l4, l5, l6, l7, l8, l9, l10] [t0, t1] h Q := zE_go 93 dz93_88 rfl
theorem dz93_93 : decode (z_code 93) 93 = .ok (.iload 5, 2) := by decide +kernel
theorem u93_93 : zEv sc 93 93 [l0, l1, l2, l3, l4, .int x, l6, l7, l8, l9, l10] [t0, t1] h Q ↔ zEv sc 93 95 [l0, l1, l2, l3, l4, .int x, l6, l7, l8, l9, l10] [.int x, t0, t1] h Q := zE_pure (q := (95, [l0, l1, l2, l3, l4, .int x, l6, l7, l8, l9, l10], [.int x, t0, t1])) dz93_93 rfl rfl rfl
theorem dz93_95 : decode (z_code 93) 95 = .ok (.invokestatic 110, 3) := by decide +kernel
theorem u93_95 : zEv sc 93 95 [l0, l1, l2, l3, l4, l5, l6, l7, l8, l9, l10] [.int z1, .int z0, .ref b0] h Q ↔ zEv sc 92 0 [.ref b0, .int z0, .int z1, .null, .null, .null, .null, .null, .null, .null, .null] [] h (fun r h9 => zEv sc 93 98 [l0, l1, l2, l3, l4, l5, l6, l7, l8, l9, l10] (r.toList ++ []) h9 Q) := zE_call (kd := 1) (na := 3) (nr := 0) (as := [.ref b0, .int z0, .int z1]) (rest := []) (Or.inr ⟨rfl, rfl⟩) dz93_95 (by decide +kernel : z_lk2 zCT (z_cls 93) 110 = some (92, 0, 463)) (fun _ => ⟨by decide +kernel, by decide +kernel⟩) rfl rfl rfl (by decide +kernel) rfl rfl (Or.inl rfl)
theorem dz93_98 : decode (z_code 93) 98 = .ok (.ifCond .eq 18, 3) := by decide +kernel
theorem u93_98 : zEv sc 93 98 [l0, l1, l2, l3, l4, l5, l6, l7, l8, l9, l10] [.int x] h Q ↔ (if x = 0 then zEv sc 93 116 [l0, l1, l2, l3, l4, l5, l6, l7, l8, l9, l10] [] h Q else zEv sc 93 101 [l0, l1, l2, l3, l4, l5, l6, l7, l8, l9, l10] [] h Q) := zE_ifP (P := x = 0) inferInstance 116 dz93_98 rfl rfl
theorem dz93_101 : decode (z_code 93) 101 = .ok (.aload_n 1, 1) := by decide +kernel
theorem u93_101 : zEv sc 93 101 [l0, .ref a, l2, l3, l4, l5, l6, l7, l8, l9, l10] [] h Q ↔ zEv sc 93 102 [l0, .ref a, l2, l3, l4, l5, l6, l7, l8, l9, l10] [.ref a] h Q := zE_pure (q := (102, [l0, .ref a, l2, l3, l4, l5, l6, l7, l8, l9, l10], [.ref a])) dz93_101 rfl rfl rfl
theorem dz93_102 : decode (z_code 93) 102 = .ok (.iload 5, 2) := by decide +kernel
theorem u93_102 : zEv sc 93 102 [l0, l1, l2, l3, l4, .int x, l6, l7, l8, l9, l10] [t0] h Q ↔ zEv sc 93 104 [l0, l1, l2, l3, l4, .int x, l6, l7, l8, l9, l10] [.int x, t0] h Q := zE_pure (q := (104, [l0, l1, l2, l3, l4, .int x, l6, l7, l8, l9, l10], [.int x, t0])) dz93_102 rfl rfl rfl
theorem dz93_104 : decode (z_code 93) 104 = .ok (.iconst 5, 1) := by decide +kernel
theorem u93_104 : zEv sc 93 104 [l0, l1, l2, l3, l4, l5, l6, l7, l8, l9, l10] [t0, t1] h Q ↔ zEv sc 93 105 [l0, l1, l2, l3, l4, l5, l6, l7, l8, l9, l10] [.int 5, t0, t1] h Q := zE_iconst dz93_104 (by decide +kernel)
theorem dz93_105 : decode (z_code 93) 105 = .ok (.ishr, 1) := by decide +kernel
theorem u93_105 : zEv sc 93 105 [l0, l1, l2, l3, l4, l5, l6, l7, l8, l9, l10] [.int x2, .int x1, t0] h Q ↔ zEv sc 93 106 [l0, l1, l2, l3, l4, l5, l6, l7, l8, l9, l10] [.int (x1 >>> (x2 &&& 31)), t0] h Q := zE_pure (q := (106, [l0, l1, l2, l3, l4, l5, l6, l7, l8, l9, l10], [.int (x1 >>> (x2 &&& 31)), t0])) dz93_105 rfl rfl rfl
theorem dz93_106 : decode (z_code 93) 106 = .ok (.invokestatic 96, 3) := by decide +kernel
theorem u93_106 : zEv sc 93 106 [l0, l1, l2, l3, l4, l5, l6, l7, l8, l9, l10] [.int z0, .ref b0] h Q ↔ zEv sc 89 0 [.ref b0, .int z0, .null, .null, .null, .null, .null, .null, .null, .null, .null, .null] [] h (fun r h9 => zEv sc 93 109 [l0, l1, l2, l3, l4, l5, l6, l7, l8, l9, l10] (r.toList ++ []) h9 Q) := zE_call (kd := 1) (na := 2) (nr := 0) (as := [.ref b0, .int z0]) (rest := []) (Or.inr ⟨rfl, rfl⟩) dz93_106 (by decide +kernel : z_lk2 zCT (z_cls 93) 96 = some (89, 0, 397)) (fun _ => ⟨by decide +kernel, by decide +kernel⟩) rfl rfl rfl (by decide +kernel) rfl rfl (Or.inl rfl)
theorem dz93_109 : decode (z_code 93) 109 = .ok (.ifCond .eq 7, 3) := by decide +kernel
theorem u93_109 : zEv sc 93 109 [l0, l1, l2, l3, l4, l5, l6, l7, l8, l9, l10] [.int x] h Q ↔ (if x = 0 then zEv sc 93 116 [l0, l1, l2, l3, l4, l5, l6, l7, l8, l9, l10] [] h Q else zEv sc 93 112 [l0, l1, l2, l3, l4, l5, l6, l7, l8, l9, l10] [] h Q) := zE_ifP (P := x = 0) inferInstance 116 dz93_109 rfl rfl
theorem dz93_112 : decode (z_code 93) 112 = .ok (.iconst 1, 1) := by decide +kernel
theorem u93_112 : zEv sc 93 112 [l0, l1, l2, l3, l4, l5, l6, l7, l8, l9, l10] [] h Q ↔ zEv sc 93 113 [l0, l1, l2, l3, l4, l5, l6, l7, l8, l9, l10] [.int 1] h Q := zE_iconst dz93_112 (by decide +kernel)
theorem dz93_113 : decode (z_code 93) 113 = .ok (.goto 4, 3) := by decide +kernel
theorem u93_113 : zEv sc 93 113 [l0, l1, l2, l3, l4, l5, l6, l7, l8, l9, l10] [t0] h Q ↔ zEv sc 93 117 [l0, l1, l2, l3, l4, l5, l6, l7, l8, l9, l10] [t0] h Q := zE_go 117 dz93_113 rfl
theorem dz93_117 : decode (z_code 93) 117 = .ok (.istore_n 2, 1) := by decide +kernel
theorem u93_117 : zEv sc 93 117 [l0, l1, l2, l3, l4, l5, l6, l7, l8, l9, l10] [.int x] h Q ↔ zEv sc 93 118 [l0, l1, .int x, l3, l4, l5, l6, l7, l8, l9, l10] [] h Q := zE_pure (q := (118, [l0, l1, .int x, l3, l4, l5, l6, l7, l8, l9, l10], [])) dz93_117 rfl rfl rfl
theorem dz93_118 : decode (z_code 93) 118 = .ok (.aload_n 1, 1) := by decide +kernel
theorem u93_118 : zEv sc 93 118 [l0, .ref a, l2, l3, l4, l5, l6, l7, l8, l9, l10] [] h Q ↔ zEv sc 93 119 [l0, .ref a, l2, l3, l4, l5, l6, l7, l8, l9, l10] [.ref a] h Q := zE_pure (q := (119, [l0, .ref a, l2, l3, l4, l5, l6, l7, l8, l9, l10], [.ref a])) dz93_118 rfl rfl rfl
theorem dz93_119 : decode (z_code 93) 119 = .ok (.bipush 9, 2) := by decide +kernel
theorem u93_119 : zEv sc 93 119 [l0, l1, l2, l3, l4, l5, l6, l7, l8, l9, l10] [t0] h Q ↔ zEv sc 93 121 [l0, l1, l2, l3, l4, l5, l6, l7, l8, l9, l10] [.int 9, t0] h Q := zE_bipush dz93_119 (by decide +kernel)
theorem dz93_121 : decode (z_code 93) 121 = .ok (.invokevirtual 13, 3) := by decide +kernel
theorem u93_121 (ho : zO a 9) : zEv sc 93 121 [l0, l1, l2, l3, l4, l5, l6, l7, l8, l9, l10] [.int z0, .ref a] (zst p iv) Q ↔ zEv sc 81 0 [.ref a, .int z0] [] (zst p iv) (fun r h9 => zEv sc 93 124 [l0, l1, l2, l3, l4, l5, l6, l7, l8, l9, l10] (r.toList ++ []) h9 Q) := zE_call (kd := 0) (na := 2) (nr := 0) (as := [.ref a, .int z0]) (rest := []) (Or.inl ⟨rfl, rfl⟩) dz93_121 (by decide +kernel : z_lk2 zCT (z_cls 93) 13 = some (81, 0, 300)) (fun z => by cases z) rfl rfl rfl (by decide +kernel) rfl rfl (Or.inr (zE_rc ho))
theorem dz93_124 : decode (z_code 93) 124 = .ok (.istore 9, 2) := by decide +kernel
theorem u93_124 : zEv sc 93 124 [l0, l1, l2, l3, l4, l5, l6, l7, l8, l9, l10] [.int x] h Q ↔ zEv sc 93 126 [l0, l1, l2, l3, l4, l5, l6, l7, l8, .int x, l10] [] h Q := zE_pure (q := (126, [l0, l1, l2, l3, l4, l5, l6, l7, l8, .int x, l10], [])) dz93_124 rfl rfl rfl
theorem dz93_126 : decode (z_code 93) 126 = .ok (.iload_n 2, 1) := by decide +kernel
theorem u93_126 : zEv sc 93 126 [l0, l1, .int x, l3, l4, l5, l6, l7, l8, l9, l10] [] h Q ↔ zEv sc 93 127 [l0, l1, .int x, l3, l4, l5, l6, l7, l8, l9, l10] [.int x] h Q := zE_pure (q := (127, [l0, l1, .int x, l3, l4, l5, l6, l7, l8, l9, l10], [.int x])) dz93_126 rfl rfl rfl
theorem dz93_127 : decode (z_code 93) 127 = .ok (.ifCond .eq 39, 3) := by decide +kernel
theorem u93_127 : zEv sc 93 127 [l0, l1, l2, l3, l4, l5, l6, l7, l8, l9, l10] [.int x] h Q ↔ (if x = 0 then zEv sc 93 166 [l0, l1, l2, l3, l4, l5, l6, l7, l8, l9, l10] [] h Q else zEv sc 93 130 [l0, l1, l2, l3, l4, l5, l6, l7, l8, l9, l10] [] h Q) := zE_ifP (P := x = 0) inferInstance 166 dz93_127 rfl rfl
theorem dz93_130 : decode (z_code 93) 130 = .ok (.iload 9, 2) := by decide +kernel
theorem u93_130 : zEv sc 93 130 [l0, l1, l2, l3, l4, l5, l6, l7, l8, .int x, l10] [] h Q ↔ zEv sc 93 132 [l0, l1, l2, l3, l4, l5, l6, l7, l8, .int x, l10] [.int x] h Q := zE_pure (q := (132, [l0, l1, l2, l3, l4, l5, l6, l7, l8, .int x, l10], [.int x])) dz93_130 rfl rfl rfl
theorem dz93_132 : decode (z_code 93) 132 = .ok (.iload 8, 2) := by decide +kernel
theorem u93_132 : zEv sc 93 132 [l0, l1, l2, l3, l4, l5, l6, l7, .int x, l9, l10] [t0] h Q ↔ zEv sc 93 134 [l0, l1, l2, l3, l4, l5, l6, l7, .int x, l9, l10] [.int x, t0] h Q := zE_pure (q := (134, [l0, l1, l2, l3, l4, l5, l6, l7, .int x, l9, l10], [.int x, t0])) dz93_132 rfl rfl rfl
theorem dz93_134 : decode (z_code 93) 134 = .ok (.if_icmp .ne 19, 3) := by decide +kernel
theorem u93_134 : zEv sc 93 134 [l0, l1, l2, l3, l4, l5, l6, l7, l8, l9, l10] [.int x2, .int x1] h Q ↔ (if ¬ x1 = x2 then zEv sc 93 153 [l0, l1, l2, l3, l4, l5, l6, l7, l8, l9, l10] [] h Q else zEv sc 93 137 [l0, l1, l2, l3, l4, l5, l6, l7, l8, l9, l10] [] h Q) := zE_icP (P := ¬ x1 = x2) inferInstance 153 dz93_134 rfl rfl
theorem dz93_137 : decode (z_code 93) 137 = .ok (.iload 8, 2) := by decide +kernel
theorem u93_137 : zEv sc 93 137 [l0, l1, l2, l3, l4, l5, l6, l7, .int x, l9, l10] [] h Q ↔ zEv sc 93 139 [l0, l1, l2, l3, l4, l5, l6, l7, .int x, l9, l10] [.int x] h Q := zE_pure (q := (139, [l0, l1, l2, l3, l4, l5, l6, l7, .int x, l9, l10], [.int x])) dz93_137 rfl rfl rfl
theorem dz93_139 : decode (z_code 93) 139 = .ok (.iconst 4, 1) := by decide +kernel
theorem u93_139 : zEv sc 93 139 [l0, l1, l2, l3, l4, l5, l6, l7, l8, l9, l10] [t0] h Q ↔ zEv sc 93 140 [l0, l1, l2, l3, l4, l5, l6, l7, l8, l9, l10] [.int 4, t0] h Q := zE_iconst dz93_139 (by decide +kernel)
theorem dz93_140 : decode (z_code 93) 140 = .ok (.if_icmp .eq 22, 3) := by decide +kernel
theorem u93_140 : zEv sc 93 140 [l0, l1, l2, l3, l4, l5, l6, l7, l8, l9, l10] [.int x2, .int x1] h Q ↔ (if x1 = x2 then zEv sc 93 162 [l0, l1, l2, l3, l4, l5, l6, l7, l8, l9, l10] [] h Q else zEv sc 93 143 [l0, l1, l2, l3, l4, l5, l6, l7, l8, l9, l10] [] h Q) := zE_icP (P := x1 = x2) inferInstance 162 dz93_140 rfl rfl
theorem dz93_143 : decode (z_code 93) 143 = .ok (.aload_n 1, 1) := by decide +kernel
theorem u93_143 : zEv sc 93 143 [l0, .ref a, l2, l3, l4, l5, l6, l7, l8, l9, l10] [] h Q ↔ zEv sc 93 144 [l0, .ref a, l2, l3, l4, l5, l6, l7, l8, l9, l10] [.ref a] h Q := zE_pure (q := (144, [l0, .ref a, l2, l3, l4, l5, l6, l7, l8, l9, l10], [.ref a])) dz93_143 rfl rfl rfl
theorem dz93_144 : decode (z_code 93) 144 = .ok (.invokestatic 106, 3) := by decide +kernel
theorem u93_144 : zEv sc 93 144 [l0, l1, l2, l3, l4, l5, l6, l7, l8, l9, l10] [.ref b0] h Q ↔ zEv sc 88 0 [.ref b0, .null, .null, .null, .null] [] h (fun r h9 => zEv sc 93 147 [l0, l1, l2, l3, l4, l5, l6, l7, l8, l9, l10] (r.toList ++ []) h9 Q) := zE_call (kd := 1) (na := 1) (nr := 0) (as := [.ref b0]) (rest := []) (Or.inr ⟨rfl, rfl⟩) dz93_144 (by decide +kernel : z_lk2 zCT (z_cls 93) 106 = some (88, 0, 349)) (fun _ => ⟨by decide +kernel, by decide +kernel⟩) rfl rfl rfl (by decide +kernel) rfl rfl (Or.inl rfl)
theorem dz93_147 : decode (z_code 93) 147 = .ok (.lload 6, 2) := by decide +kernel
theorem u93_147 : zEv sc 93 147 [l0, l1, l2, l3, l4, l5, .long j1, .float 0, l8, l9, l10] [t0] h Q ↔ zEv sc 93 149 [l0, l1, l2, l3, l4, l5, .long j1, .float 0, l8, l9, l10] [.long j1, t0] h Q := zE_pure (q := (149, [l0, l1, l2, l3, l4, l5, .long j1, .float 0, l8, l9, l10], [.long j1, t0])) dz93_147 rfl rfl rfl
theorem dz93_149 : decode (z_code 93) 149 = .ok (.lcmp, 1) := by decide +kernel
theorem u93_149 : zEv sc 93 149 [l0, l1, l2, l3, l4, l5, l6, l7, l8, l9, l10] [.long j2, .long j1] h Q ↔ zEv sc 93 150 [l0, l1, l2, l3, l4, l5, l6, l7, l8, l9, l10] [.int (lg_cmp j1 j2)] h Q := zE_pure (q := (150, [l0, l1, l2, l3, l4, l5, l6, l7, l8, l9, l10], [.int (lg_cmp j1 j2)])) dz93_149 rfl rfl rfl
theorem dz93_150 : decode (z_code 93) 150 = .ok (.ifCond .eq 12, 3) := by decide +kernel
theorem u93_150 : zEv sc 93 150 [l0, l1, l2, l3, l4, l5, l6, l7, l8, l9, l10] [.int x] h Q ↔ (if x = 0 then zEv sc 93 162 [l0, l1, l2, l3, l4, l5, l6, l7, l8, l9, l10] [] h Q else zEv sc 93 153 [l0, l1, l2, l3, l4, l5, l6, l7, l8, l9, l10] [] h Q) := zE_ifP (P := x = 0) inferInstance 162 dz93_150 rfl rfl
theorem dz93_162 : decode (z_code 93) 162 = .ok (.iconst 1, 1) := by decide +kernel
theorem u93_162 : zEv sc 93 162 [l0, l1, l2, l3, l4, l5, l6, l7, l8, l9, l10] [] h Q ↔ zEv sc 93 163 [l0, l1, l2, l3, l4, l5, l6, l7, l8, l9, l10] [.int 1] h Q := zE_iconst dz93_162 (by decide +kernel)
theorem dz93_163 : decode (z_code 93) 163 = .ok (.goto 4, 3) := by decide +kernel
theorem u93_163 : zEv sc 93 163 [l0, l1, l2, l3, l4, l5, l6, l7, l8, l9, l10] [t0] h Q ↔ zEv sc 93 167 [l0, l1, l2, l3, l4, l5, l6, l7, l8, l9, l10] [t0] h Q := zE_go 167 dz93_163 rfl
theorem dz93_167 : decode (z_code 93) 167 = .ok (.istore_n 2, 1) := by decide +kernel
theorem u93_167 : zEv sc 93 167 [l0, l1, l2, l3, l4, l5, l6, l7, l8, l9, l10] [.int x] h Q ↔ zEv sc 93 168 [l0, l1, .int x, l3, l4, l5, l6, l7, l8, l9, l10] [] h Q := zE_pure (q := (168, [l0, l1, .int x, l3, l4, l5, l6, l7, l8, l9, l10], [])) dz93_167 rfl rfl rfl
theorem dz93_168 : decode (z_code 93) 168 = .ok (.iload_n 2, 1) := by decide +kernel
theorem u93_168 : zEv sc 93 168 [l0, l1, .int x, l3, l4, l5, l6, l7, l8, l9, l10] [] h Q ↔ zEv sc 93 169 [l0, l1, .int x, l3, l4, l5, l6, l7, l8, l9, l10] [.int x] h Q := zE_pure (q := (169, [l0, l1, .int x, l3, l4, l5, l6, l7, l8, l9, l10], [.int x])) dz93_168 rfl rfl rfl
theorem dz93_169 : decode (z_code 93) 169 = .ok (.ifCond .eq 49, 3) := by decide +kernel
theorem u93_169 : zEv sc 93 169 [l0, l1, l2, l3, l4, l5, l6, l7, l8, l9, l10] [.int x] h Q ↔ (if x = 0 then zEv sc 93 218 [l0, l1, l2, l3, l4, l5, l6, l7, l8, l9, l10] [] h Q else zEv sc 93 172 [l0, l1, l2, l3, l4, l5, l6, l7, l8, l9, l10] [] h Q) := zE_ifP (P := x = 0) inferInstance 218 dz93_169 rfl rfl
theorem dz93_172 : decode (z_code 93) 172 = .ok (.iload 9, 2) := by decide +kernel
theorem u93_172 : zEv sc 93 172 [l0, l1, l2, l3, l4, l5, l6, l7, l8, .int x, l10] [] h Q ↔ zEv sc 93 174 [l0, l1, l2, l3, l4, l5, l6, l7, l8, .int x, l10] [.int x] h Q := zE_pure (q := (174, [l0, l1, l2, l3, l4, l5, l6, l7, l8, .int x, l10], [.int x])) dz93_172 rfl rfl rfl
theorem dz93_174 : decode (z_code 93) 174 = .ok (.iload 8, 2) := by decide +kernel
theorem u93_174 : zEv sc 93 174 [l0, l1, l2, l3, l4, l5, l6, l7, .int x, l9, l10] [t0] h Q ↔ zEv sc 93 176 [l0, l1, l2, l3, l4, l5, l6, l7, .int x, l9, l10] [.int x, t0] h Q := zE_pure (q := (176, [l0, l1, l2, l3, l4, l5, l6, l7, .int x, l9, l10], [.int x, t0])) dz93_174 rfl rfl rfl
theorem dz93_176 : decode (z_code 93) 176 = .ok (.iconst 1, 1) := by decide +kernel
theorem u93_176 : zEv sc 93 176 [l0, l1, l2, l3, l4, l5, l6, l7, l8, l9, l10] [t0, t1] h Q ↔ zEv sc 93 177 [l0, l1, l2, l3, l4, l5, l6, l7, l8, l9, l10] [.int 1, t0, t1] h Q := zE_iconst dz93_176 (by decide +kernel)
theorem dz93_177 : decode (z_code 93) 177 = .ok (.iadd, 1) := by decide +kernel
theorem u93_177 : zEv sc 93 177 [l0, l1, l2, l3, l4, l5, l6, l7, l8, l9, l10] [.int x2, .int x1, t0] h Q ↔ zEv sc 93 178 [l0, l1, l2, l3, l4, l5, l6, l7, l8, l9, l10] [.int (x1 + x2), t0] h Q := zE_pure (q := (178, [l0, l1, l2, l3, l4, l5, l6, l7, l8, l9, l10], [.int (x1 + x2), t0])) dz93_177 rfl rfl rfl
theorem dz93_178 : decode (z_code 93) 178 = .ok (.if_icmp .ne 40, 3) := by decide +kernel
theorem u93_178 : zEv sc 93 178 [l0, l1, l2, l3, l4, l5, l6, l7, l8, l9, l10] [.int x2, .int x1] h Q ↔ (if ¬ x1 = x2 then zEv sc 93 218 [l0, l1, l2, l3, l4, l5, l6, l7, l8, l9, l10] [] h Q else zEv sc 93 181 [l0, l1, l2, l3, l4, l5, l6, l7, l8, l9, l10] [] h Q) := zE_icP (P := ¬ x1 = x2) inferInstance 218 dz93_178 rfl rfl
theorem dz93_181 : decode (z_code 93) 181 = .ok (.iload 5, 2) := by decide +kernel
theorem u93_181 : zEv sc 93 181 [l0, l1, l2, l3, l4, .int x, l6, l7, l8, l9, l10] [] h Q ↔ zEv sc 93 183 [l0, l1, l2, l3, l4, .int x, l6, l7, l8, l9, l10] [.int x] h Q := zE_pure (q := (183, [l0, l1, l2, l3, l4, .int x, l6, l7, l8, l9, l10], [.int x])) dz93_181 rfl rfl rfl
theorem dz93_183 : decode (z_code 93) 183 = .ok (.bipush 8, 2) := by decide +kernel
theorem u93_183 : zEv sc 93 183 [l0, l1, l2, l3, l4, l5, l6, l7, l8, l9, l10] [t0] h Q ↔ zEv sc 93 185 [l0, l1, l2, l3, l4, l5, l6, l7, l8, l9, l10] [.int 8, t0] h Q := zE_bipush dz93_183 (by decide +kernel)
theorem dz93_185 : decode (z_code 93) 185 = .ok (.ishr, 1) := by decide +kernel
theorem u93_185 : zEv sc 93 185 [l0, l1, l2, l3, l4, l5, l6, l7, l8, l9, l10] [.int x2, .int x1] h Q ↔ zEv sc 93 186 [l0, l1, l2, l3, l4, l5, l6, l7, l8, l9, l10] [.int (x1 >>> (x2 &&& 31))] h Q := zE_pure (q := (186, [l0, l1, l2, l3, l4, l5, l6, l7, l8, l9, l10], [.int (x1 >>> (x2 &&& 31))])) dz93_185 rfl rfl rfl
theorem dz93_186 : decode (z_code 93) 186 = .ok (.iconst 2, 1) := by decide +kernel
theorem u93_186 : zEv sc 93 186 [l0, l1, l2, l3, l4, l5, l6, l7, l8, l9, l10] [t0] h Q ↔ zEv sc 93 187 [l0, l1, l2, l3, l4, l5, l6, l7, l8, l9, l10] [.int 2, t0] h Q := zE_iconst dz93_186 (by decide +kernel)
theorem dz93_187 : decode (z_code 93) 187 = .ok (.invokestatic 25, 3) := by decide +kernel
theorem u93_187 : zEv sc 93 187 [l0, l1, l2, l3, l4, l5, l6, l7, l8, l9, l10] [.int z1, .int z0] h Q ↔ zEv sc 87 0 [.int z0, .int z1] [] h (fun r h9 => zEv sc 93 190 [l0, l1, l2, l3, l4, l5, l6, l7, l8, l9, l10] (r.toList ++ []) h9 Q) := zE_call (kd := 1) (na := 2) (nr := 0) (as := [.int z0, .int z1]) (rest := []) (Or.inr ⟨rfl, rfl⟩) dz93_187 (by decide +kernel : z_lk2 zCT (z_cls 93) 25 = some (87, 0, 345)) (fun _ => ⟨by decide +kernel, by decide +kernel⟩) rfl rfl rfl (by decide +kernel) rfl rfl (Or.inl rfl)
theorem dz93_190 : decode (z_code 93) 190 = .ok (.ifCond .ne 28, 3) := by decide +kernel
theorem u93_190 : zEv sc 93 190 [l0, l1, l2, l3, l4, l5, l6, l7, l8, l9, l10] [.int x] h Q ↔ (if ¬ x = 0 then zEv sc 93 218 [l0, l1, l2, l3, l4, l5, l6, l7, l8, l9, l10] [] h Q else zEv sc 93 193 [l0, l1, l2, l3, l4, l5, l6, l7, l8, l9, l10] [] h Q) := zE_ifP (P := ¬ x = 0) inferInstance 218 dz93_190 rfl rfl
theorem dz93_193 : decode (z_code 93) 193 = .ok (.aload_n 1, 1) := by decide +kernel
theorem u93_193 : zEv sc 93 193 [l0, .ref a, l2, l3, l4, l5, l6, l7, l8, l9, l10] [] h Q ↔ zEv sc 93 194 [l0, .ref a, l2, l3, l4, l5, l6, l7, l8, l9, l10] [.ref a] h Q := zE_pure (q := (194, [l0, .ref a, l2, l3, l4, l5, l6, l7, l8, l9, l10], [.ref a])) dz93_193 rfl rfl rfl
theorem dz93_194 : decode (z_code 93) 194 = .ok (.invokevirtual 99, 3) := by decide +kernel
theorem u93_194 (ho : zO a 9) : zEv sc 93 194 [l0, l1, l2, l3, l4, l5, l6, l7, l8, l9, l10] [.ref a] (zst p iv) Q ↔ zEv sc 82 0 [.ref a] [] (zst p iv) (fun r h9 => zEv sc 93 197 [l0, l1, l2, l3, l4, l5, l6, l7, l8, l9, l10] (r.toList ++ []) h9 Q) := zE_call (kd := 0) (na := 1) (nr := 0) (as := [.ref a]) (rest := []) (Or.inl ⟨rfl, rfl⟩) dz93_194 (by decide +kernel : z_lk2 zCT (z_cls 93) 99 = some (82, 0, 320)) (fun z => by cases z) rfl rfl rfl (by decide +kernel) rfl rfl (Or.inr (zE_rc ho))
theorem dz93_197 : decode (z_code 93) 197 = .ok (.iload 8, 2) := by decide +kernel
theorem u93_197 : zEv sc 93 197 [l0, l1, l2, l3, l4, l5, l6, l7, .int x, l9, l10] [t0] h Q ↔ zEv sc 93 199 [l0, l1, l2, l3, l4, l5, l6, l7, .int x, l9, l10] [.int x, t0] h Q := zE_pure (q := (199, [l0, l1, l2, l3, l4, l5, l6, l7, .int x, l9, l10], [.int x, t0])) dz93_197 rfl rfl rfl
theorem dz93_199 : decode (z_code 93) 199 = .ok (.if_icmp .ne 17, 3) := by decide +kernel
theorem u93_199 : zEv sc 93 199 [l0, l1, l2, l3, l4, l5, l6, l7, l8, l9, l10] [.int x2, .int x1] h Q ↔ (if ¬ x1 = x2 then zEv sc 93 216 [l0, l1, l2, l3, l4, l5, l6, l7, l8, l9, l10] [] h Q else zEv sc 93 202 [l0, l1, l2, l3, l4, l5, l6, l7, l8, l9, l10] [] h Q) := zE_icP (P := ¬ x1 = x2) inferInstance 216 dz93_199 rfl rfl
theorem dz93_202 : decode (z_code 93) 202 = .ok (.aload_n 1, 1) := by decide +kernel
theorem u93_202 : zEv sc 93 202 [l0, .ref a, l2, l3, l4, l5, l6, l7, l8, l9, l10] [] h Q ↔ zEv sc 93 203 [l0, .ref a, l2, l3, l4, l5, l6, l7, l8, l9, l10] [.ref a] h Q := zE_pure (q := (203, [l0, .ref a, l2, l3, l4, l5, l6, l7, l8, l9, l10], [.ref a])) dz93_202 rfl rfl rfl
theorem dz93_203 : decode (z_code 93) 203 = .ok (.invokestatic 106, 3) := by decide +kernel
theorem u93_203 : zEv sc 93 203 [l0, l1, l2, l3, l4, l5, l6, l7, l8, l9, l10] [.ref b0] h Q ↔ zEv sc 88 0 [.ref b0, .null, .null, .null, .null] [] h (fun r h9 => zEv sc 93 206 [l0, l1, l2, l3, l4, l5, l6, l7, l8, l9, l10] (r.toList ++ []) h9 Q) := zE_call (kd := 1) (na := 1) (nr := 0) (as := [.ref b0]) (rest := []) (Or.inr ⟨rfl, rfl⟩) dz93_203 (by decide +kernel : z_lk2 zCT (z_cls 93) 106 = some (88, 0, 349)) (fun _ => ⟨by decide +kernel, by decide +kernel⟩) rfl rfl rfl (by decide +kernel) rfl rfl (Or.inl rfl)
theorem dz93_206 : decode (z_code 93) 206 = .ok (.lload 6, 2) := by decide +kernel
theorem u93_206 : zEv sc 93 206 [l0, l1, l2, l3, l4, l5, .long j1, .float 0, l8, l9, l10] [t0] h Q ↔ zEv sc 93 208 [l0, l1, l2, l3, l4, l5, .long j1, .float 0, l8, l9, l10] [.long j1, t0] h Q := zE_pure (q := (208, [l0, l1, l2, l3, l4, l5, .long j1, .float 0, l8, l9, l10], [.long j1, t0])) dz93_206 rfl rfl rfl
theorem dz93_208 : decode (z_code 93) 208 = .ok (.lcmp, 1) := by decide +kernel
theorem u93_208 : zEv sc 93 208 [l0, l1, l2, l3, l4, l5, l6, l7, l8, l9, l10] [.long j2, .long j1] h Q ↔ zEv sc 93 209 [l0, l1, l2, l3, l4, l5, l6, l7, l8, l9, l10] [.int (lg_cmp j1 j2)] h Q := zE_pure (q := (209, [l0, l1, l2, l3, l4, l5, l6, l7, l8, l9, l10], [.int (lg_cmp j1 j2)])) dz93_208 rfl rfl rfl
theorem dz93_209 : decode (z_code 93) 209 = .ok (.ifCond .ne 7, 3) := by decide +kernel
theorem u93_209 : zEv sc 93 209 [l0, l1, l2, l3, l4, l5, l6, l7, l8, l9, l10] [.int x] h Q ↔ (if ¬ x = 0 then zEv sc 93 216 [l0, l1, l2, l3, l4, l5, l6, l7, l8, l9, l10] [] h Q else zEv sc 93 212 [l0, l1, l2, l3, l4, l5, l6, l7, l8, l9, l10] [] h Q) := zE_ifP (P := ¬ x = 0) inferInstance 216 dz93_209 rfl rfl
theorem dz93_212 : decode (z_code 93) 212 = .ok (.iconst 1, 1) := by decide +kernel
theorem u93_212 : zEv sc 93 212 [l0, l1, l2, l3, l4, l5, l6, l7, l8, l9, l10] [] h Q ↔ zEv sc 93 213 [l0, l1, l2, l3, l4, l5, l6, l7, l8, l9, l10] [.int 1] h Q := zE_iconst dz93_212 (by decide +kernel)
theorem dz93_213 : decode (z_code 93) 213 = .ok (.goto 4, 3) := by decide +kernel
theorem u93_213 : zEv sc 93 213 [l0, l1, l2, l3, l4, l5, l6, l7, l8, l9, l10] [t0] h Q ↔ zEv sc 93 217 [l0, l1, l2, l3, l4, l5, l6, l7, l8, l9, l10] [t0] h Q := zE_go 217 dz93_213 rfl
theorem dz93_217 : decode (z_code 93) 217 = .ok (.istore_n 2, 1) := by decide +kernel
theorem u93_217 : zEv sc 93 217 [l0, l1, l2, l3, l4, l5, l6, l7, l8, l9, l10] [.int x] h Q ↔ zEv sc 93 218 [l0, l1, .int x, l3, l4, l5, l6, l7, l8, l9, l10] [] h Q := zE_pure (q := (218, [l0, l1, .int x, l3, l4, l5, l6, l7, l8, l9, l10], [])) dz93_217 rfl rfl rfl
theorem dz93_216 : decode (z_code 93) 216 = .ok (.iconst 0, 1) := by decide +kernel
theorem u93_216 : zEv sc 93 216 [l0, l1, l2, l3, l4, l5, l6, l7, l8, l9, l10] [] h Q ↔ zEv sc 93 217 [l0, l1, l2, l3, l4, l5, l6, l7, l8, l9, l10] [.int 0] h Q := zE_iconst dz93_216 (by decide +kernel)
theorem dz93_218 : decode (z_code 93) 218 = .ok (.iload_n 2, 1) := by decide +kernel
theorem u93_218 : zEv sc 93 218 [l0, l1, .int x, l3, l4, l5, l6, l7, l8, l9, l10] [] h Q ↔ zEv sc 93 219 [l0, l1, .int x, l3, l4, l5, l6, l7, l8, l9, l10] [.int x] h Q := zE_pure (q := (219, [l0, l1, .int x, l3, l4, l5, l6, l7, l8, l9, l10], [.int x])) dz93_218 rfl rfl rfl
theorem dz93_219 : decode (z_code 93) 219 = .ok (.ifCond .eq 45, 3) := by decide +kernel
theorem u93_219 : zEv sc 93 219 [l0, l1, l2, l3, l4, l5, l6, l7, l8, l9, l10] [.int x] h Q ↔ (if x = 0 then zEv sc 93 264 [l0, l1, l2, l3, l4, l5, l6, l7, l8, l9, l10] [] h Q else zEv sc 93 222 [l0, l1, l2, l3, l4, l5, l6, l7, l8, l9, l10] [] h Q) := zE_ifP (P := x = 0) inferInstance 264 dz93_219 rfl rfl
theorem dz93_222 : decode (z_code 93) 222 = .ok (.iload_n 3, 1) := by decide +kernel
theorem u93_222 : zEv sc 93 222 [l0, l1, l2, .int x, l4, l5, l6, l7, l8, l9, l10] [] h Q ↔ zEv sc 93 223 [l0, l1, l2, .int x, l4, l5, l6, l7, l8, l9, l10] [.int x] h Q := zE_pure (q := (223, [l0, l1, l2, .int x, l4, l5, l6, l7, l8, l9, l10], [.int x])) dz93_222 rfl rfl rfl
theorem dz93_223 : decode (z_code 93) 223 = .ok (.iconst 5, 1) := by decide +kernel
theorem u93_223 : zEv sc 93 223 [l0, l1, l2, l3, l4, l5, l6, l7, l8, l9, l10] [t0] h Q ↔ zEv sc 93 224 [l0, l1, l2, l3, l4, l5, l6, l7, l8, l9, l10] [.int 5, t0] h Q := zE_iconst dz93_223 (by decide +kernel)
theorem dz93_224 : decode (z_code 93) 224 = .ok (.irem, 1) := by decide +kernel
theorem u93_224 : zEv sc 93 224 [l0, l1, l2, l3, l4, l5, l6, l7, l8, l9, l10] [.int x2, .int x1] h Q ↔ (¬ x2 = 0 ∧ zEv sc 93 225 [l0, l1, l2, l3, l4, l5, l6, l7, l8, l9, l10] [.int (x1 - x1 / x2 * x2)] h Q) := zE_rem dz93_224
theorem dz93_225 : decode (z_code 93) 225 = .ok (.iconst 4, 1) := by decide +kernel
theorem u93_225 : zEv sc 93 225 [l0, l1, l2, l3, l4, l5, l6, l7, l8, l9, l10] [t0] h Q ↔ zEv sc 93 226 [l0, l1, l2, l3, l4, l5, l6, l7, l8, l9, l10] [.int 4, t0] h Q := zE_iconst dz93_225 (by decide +kernel)
theorem dz93_226 : decode (z_code 93) 226 = .ok (.if_icmp .ne 38, 3) := by decide +kernel
theorem u93_226 : zEv sc 93 226 [l0, l1, l2, l3, l4, l5, l6, l7, l8, l9, l10] [.int x2, .int x1] h Q ↔ (if ¬ x1 = x2 then zEv sc 93 264 [l0, l1, l2, l3, l4, l5, l6, l7, l8, l9, l10] [] h Q else zEv sc 93 229 [l0, l1, l2, l3, l4, l5, l6, l7, l8, l9, l10] [] h Q) := zE_icP (P := ¬ x1 = x2) inferInstance 264 dz93_226 rfl rfl
theorem dz93_229 : decode (z_code 93) 229 = .ok (.aload_n 1, 1) := by decide +kernel
theorem u93_229 : zEv sc 93 229 [l0, .ref a, l2, l3, l4, l5, l6, l7, l8, l9, l10] [] h Q ↔ zEv sc 93 230 [l0, .ref a, l2, l3, l4, l5, l6, l7, l8, l9, l10] [.ref a] h Q := zE_pure (q := (230, [l0, .ref a, l2, l3, l4, l5, l6, l7, l8, l9, l10], [.ref a])) dz93_229 rfl rfl rfl
theorem dz93_230 : decode (z_code 93) 230 = .ok (.bipush 9, 2) := by decide +kernel
theorem u93_230 : zEv sc 93 230 [l0, l1, l2, l3, l4, l5, l6, l7, l8, l9, l10] [t0] h Q ↔ zEv sc 93 232 [l0, l1, l2, l3, l4, l5, l6, l7, l8, l9, l10] [.int 9, t0] h Q := zE_bipush dz93_230 (by decide +kernel)
theorem dz93_232 : decode (z_code 93) 232 = .ok (.invokevirtual 13, 3) := by decide +kernel
theorem u93_232 (ho : zO a 9) : zEv sc 93 232 [l0, l1, l2, l3, l4, l5, l6, l7, l8, l9, l10] [.int z0, .ref a] (zst p iv) Q ↔ zEv sc 81 0 [.ref a, .int z0] [] (zst p iv) (fun r h9 => zEv sc 93 235 [l0, l1, l2, l3, l4, l5, l6, l7, l8, l9, l10] (r.toList ++ []) h9 Q) := zE_call (kd := 0) (na := 2) (nr := 0) (as := [.ref a, .int z0]) (rest := []) (Or.inl ⟨rfl, rfl⟩) dz93_232 (by decide +kernel : z_lk2 zCT (z_cls 93) 13 = some (81, 0, 300)) (fun z => by cases z) rfl rfl rfl (by decide +kernel) rfl rfl (Or.inr (zE_rc ho))
theorem dz93_235 : decode (z_code 93) 235 = .ok (.istore 10, 2) := by decide +kernel
theorem u93_235 : zEv sc 93 235 [l0, l1, l2, l3, l4, l5, l6, l7, l8, l9, l10] [.int x] h Q ↔ zEv sc 93 237 [l0, l1, l2, l3, l4, l5, l6, l7, l8, l9, .int x] [] h Q := zE_pure (q := (237, [l0, l1, l2, l3, l4, l5, l6, l7, l8, l9, .int x], [])) dz93_235 rfl rfl rfl
theorem dz93_237 : decode (z_code 93) 237 = .ok (.aload_n 1, 1) := by decide +kernel
theorem u93_237 : zEv sc 93 237 [l0, .ref a, l2, l3, l4, l5, l6, l7, l8, l9, l10] [] h Q ↔ zEv sc 93 238 [l0, .ref a, l2, l3, l4, l5, l6, l7, l8, l9, l10] [.ref a] h Q := zE_pure (q := (238, [l0, .ref a, l2, l3, l4, l5, l6, l7, l8, l9, l10], [.ref a])) dz93_237 rfl rfl rfl
theorem dz93_238 : decode (z_code 93) 238 = .ok (.invokevirtual 99, 3) := by decide +kernel
theorem u93_238 (ho : zO a 9) : zEv sc 93 238 [l0, l1, l2, l3, l4, l5, l6, l7, l8, l9, l10] [.ref a] (zst p iv) Q ↔ zEv sc 82 0 [.ref a] [] (zst p iv) (fun r h9 => zEv sc 93 241 [l0, l1, l2, l3, l4, l5, l6, l7, l8, l9, l10] (r.toList ++ []) h9 Q) := zE_call (kd := 0) (na := 1) (nr := 0) (as := [.ref a]) (rest := []) (Or.inl ⟨rfl, rfl⟩) dz93_238 (by decide +kernel : z_lk2 zCT (z_cls 93) 99 = some (82, 0, 320)) (fun z => by cases z) rfl rfl rfl (by decide +kernel) rfl rfl (Or.inr (zE_rc ho))
theorem dz93_241 : decode (z_code 93) 241 = .ok (.iload 10, 2) := by decide +kernel
theorem u93_241 : zEv sc 93 241 [l0, l1, l2, l3, l4, l5, l6, l7, l8, l9, .int x] [t0] h Q ↔ zEv sc 93 243 [l0, l1, l2, l3, l4, l5, l6, l7, l8, l9, .int x] [.int x, t0] h Q := zE_pure (q := (243, [l0, l1, l2, l3, l4, l5, l6, l7, l8, l9, .int x], [.int x, t0])) dz93_241 rfl rfl rfl
theorem dz93_243 : decode (z_code 93) 243 = .ok (.ifCond .ne 8, 3) := by decide +kernel
theorem u93_243 : zEv sc 93 243 [l0, l1, l2, l3, l4, l5, l6, l7, l8, l9, l10] [.int x, t0] h Q ↔ (if ¬ x = 0 then zEv sc 93 251 [l0, l1, l2, l3, l4, l5, l6, l7, l8, l9, l10] [t0] h Q else zEv sc 93 246 [l0, l1, l2, l3, l4, l5, l6, l7, l8, l9, l10] [t0] h Q) := zE_ifP (P := ¬ x = 0) inferInstance 251 dz93_243 rfl rfl
theorem dz93_246 : decode (z_code 93) 246 = .ok (.ldc 38, 2) := by decide +kernel
theorem u93_246 : zEv sc 93 246 [l0, l1, l2, l3, l4, l5, l6, l7, l8, l9, l10] [t0] h Q ↔ zEv sc 93 248 [l0, l1, l2, l3, l4, l5, l6, l7, l8, l9, l10] [.int (-1000002), t0] h Q := zE_ldc (by decide +kernel : z_lkK zKT (z_cls 93) 38 = some ((-1000002), 430)) dz93_246
theorem dz93_248 : decode (z_code 93) 248 = .ok (.goto 7, 3) := by decide +kernel
theorem u93_248 : zEv sc 93 248 [l0, l1, l2, l3, l4, l5, l6, l7, l8, l9, l10] [t0, t1] h Q ↔ zEv sc 93 255 [l0, l1, l2, l3, l4, l5, l6, l7, l8, l9, l10] [t0, t1] h Q := zE_go 255 dz93_248 rfl
theorem dz93_255 : decode (z_code 93) 255 = .ok (.if_icmp .ne 7, 3) := by decide +kernel
theorem u93_255 : zEv sc 93 255 [l0, l1, l2, l3, l4, l5, l6, l7, l8, l9, l10] [.int x2, .int x1] h Q ↔ (if ¬ x1 = x2 then zEv sc 93 262 [l0, l1, l2, l3, l4, l5, l6, l7, l8, l9, l10] [] h Q else zEv sc 93 258 [l0, l1, l2, l3, l4, l5, l6, l7, l8, l9, l10] [] h Q) := zE_icP (P := ¬ x1 = x2) inferInstance 262 dz93_255 rfl rfl
theorem dz93_258 : decode (z_code 93) 258 = .ok (.iconst 1, 1) := by decide +kernel
theorem u93_258 : zEv sc 93 258 [l0, l1, l2, l3, l4, l5, l6, l7, l8, l9, l10] [] h Q ↔ zEv sc 93 259 [l0, l1, l2, l3, l4, l5, l6, l7, l8, l9, l10] [.int 1] h Q := zE_iconst dz93_258 (by decide +kernel)
theorem dz93_259 : decode (z_code 93) 259 = .ok (.goto 4, 3) := by decide +kernel
theorem u93_259 : zEv sc 93 259 [l0, l1, l2, l3, l4, l5, l6, l7, l8, l9, l10] [t0] h Q ↔ zEv sc 93 263 [l0, l1, l2, l3, l4, l5, l6, l7, l8, l9, l10] [t0] h Q := zE_go 263 dz93_259 rfl
theorem dz93_263 : decode (z_code 93) 263 = .ok (.istore_n 2, 1) := by decide +kernel
theorem u93_263 : zEv sc 93 263 [l0, l1, l2, l3, l4, l5, l6, l7, l8, l9, l10] [.int x] h Q ↔ zEv sc 93 264 [l0, l1, .int x, l3, l4, l5, l6, l7, l8, l9, l10] [] h Q := zE_pure (q := (264, [l0, l1, .int x, l3, l4, l5, l6, l7, l8, l9, l10], [])) dz93_263 rfl rfl rfl
theorem dz93_262 : decode (z_code 93) 262 = .ok (.iconst 0, 1) := by decide +kernel
theorem u93_262 : zEv sc 93 262 [l0, l1, l2, l3, l4, l5, l6, l7, l8, l9, l10] [] h Q ↔ zEv sc 93 263 [l0, l1, l2, l3, l4, l5, l6, l7, l8, l9, l10] [.int 0] h Q := zE_iconst dz93_262 (by decide +kernel)
theorem dz93_251 : decode (z_code 93) 251 = .ok (.iload 10, 2) := by decide +kernel
theorem u93_251 : zEv sc 93 251 [l0, l1, l2, l3, l4, l5, l6, l7, l8, l9, .int x] [t0] h Q ↔ zEv sc 93 253 [l0, l1, l2, l3, l4, l5, l6, l7, l8, l9, .int x] [.int x, t0] h Q := zE_pure (q := (253, [l0, l1, l2, l3, l4, l5, l6, l7, l8, l9, .int x], [.int x, t0])) dz93_251 rfl rfl rfl
theorem dz93_253 : decode (z_code 93) 253 = .ok (.iconst 1, 1) := by decide +kernel
theorem u93_253 : zEv sc 93 253 [l0, l1, l2, l3, l4, l5, l6, l7, l8, l9, l10] [t0, t1] h Q ↔ zEv sc 93 254 [l0, l1, l2, l3, l4, l5, l6, l7, l8, l9, l10] [.int 1, t0, t1] h Q := zE_iconst dz93_253 (by decide +kernel)
theorem dz93_254 : decode (z_code 93) 254 = .ok (.isub, 1) := by decide +kernel
theorem u93_254 : zEv sc 93 254 [l0, l1, l2, l3, l4, l5, l6, l7, l8, l9, l10] [.int x2, .int x1, t0] h Q ↔ zEv sc 93 255 [l0, l1, l2, l3, l4, l5, l6, l7, l8, l9, l10] [.int (x1 - x2), t0] h Q := zE_pure (q := (255, [l0, l1, l2, l3, l4, l5, l6, l7, l8, l9, l10], [.int (x1 - x2), t0])) dz93_254 rfl rfl rfl
theorem dz93_264 : decode (z_code 93) 264 = .ok (.iinc 3 1, 3) := by decide +kernel
theorem u93_264 : zEv sc 93 264 [l0, l1, l2, .int x, l4, l5, l6, l7, l8, l9, l10] [] h Q ↔ zEv sc 93 267 [l0, l1, l2, .int (x + 1), l4, l5, l6, l7, l8, l9, l10] [] h Q := zE_iinc (ls2 := [l0, l1, l2, .int (x + 1), l4, l5, l6, l7, l8, l9, l10]) dz93_264 (by decide +kernel) rfl (by simp) rfl
theorem dz93_267 : decode (z_code 93) 267 = .ok (.goto (-234), 3) := by decide +kernel
theorem u93_267 : zEv sc 93 267 [l0, l1, l2, l3, l4, l5, l6, l7, l8, l9, l10] [] h Q ↔ zEv sc 93 33 [l0, l1, l2, l3, l4, l5, l6, l7, l8, l9, l10] [] h Q := zE_go 33 dz93_267 rfl
theorem dz93_153 : decode (z_code 93) 153 = .ok (.iload 9, 2) := by decide +kernel
theorem u93_153 : zEv sc 93 153 [l0, l1, l2, l3, l4, l5, l6, l7, l8, .int x, l10] [] h Q ↔ zEv sc 93 155 [l0, l1, l2, l3, l4, l5, l6, l7, l8, .int x, l10] [.int x] h Q := zE_pure (q := (155, [l0, l1, l2, l3, l4, l5, l6, l7, l8, .int x, l10], [.int x])) dz93_153 rfl rfl rfl
theorem dz93_155 : decode (z_code 93) 155 = .ok (.iload 8, 2) := by decide +kernel
theorem u93_155 : zEv sc 93 155 [l0, l1, l2, l3, l4, l5, l6, l7, .int x, l9, l10] [t0] h Q ↔ zEv sc 93 157 [l0, l1, l2, l3, l4, l5, l6, l7, .int x, l9, l10] [.int x, t0] h Q := zE_pure (q := (157, [l0, l1, l2, l3, l4, l5, l6, l7, .int x, l9, l10], [.int x, t0])) dz93_155 rfl rfl rfl
theorem dz93_157 : decode (z_code 93) 157 = .ok (.iconst 1, 1) := by decide +kernel
theorem u93_157 : zEv sc 93 157 [l0, l1, l2, l3, l4, l5, l6, l7, l8, l9, l10] [t0, t1] h Q ↔ zEv sc 93 158 [l0, l1, l2, l3, l4, l5, l6, l7, l8, l9, l10] [.int 1, t0, t1] h Q := zE_iconst dz93_157 (by decide +kernel)
theorem dz93_158 : decode (z_code 93) 158 = .ok (.iadd, 1) := by decide +kernel
theorem u93_158 : zEv sc 93 158 [l0, l1, l2, l3, l4, l5, l6, l7, l8, l9, l10] [.int x2, .int x1, t0] h Q ↔ zEv sc 93 159 [l0, l1, l2, l3, l4, l5, l6, l7, l8, l9, l10] [.int (x1 + x2), t0] h Q := zE_pure (q := (159, [l0, l1, l2, l3, l4, l5, l6, l7, l8, l9, l10], [.int (x1 + x2), t0])) dz93_158 rfl rfl rfl
theorem dz93_159 : decode (z_code 93) 159 = .ok (.if_icmp .ne 7, 3) := by decide +kernel
theorem u93_159 : zEv sc 93 159 [l0, l1, l2, l3, l4, l5, l6, l7, l8, l9, l10] [.int x2, .int x1] h Q ↔ (if ¬ x1 = x2 then zEv sc 93 166 [l0, l1, l2, l3, l4, l5, l6, l7, l8, l9, l10] [] h Q else zEv sc 93 162 [l0, l1, l2, l3, l4, l5, l6, l7, l8, l9, l10] [] h Q) := zE_icP (P := ¬ x1 = x2) inferInstance 166 dz93_159 rfl rfl
theorem dz93_166 : decode (z_code 93) 166 = .ok (.iconst 0, 1) := by decide +kernel
theorem u93_166 : zEv sc 93 166 [l0, l1, l2, l3, l4, l5, l6, l7, l8, l9, l10] [] h Q ↔ zEv sc 93 167 [l0, l1, l2, l3, l4, l5, l6, l7, l8, l9, l10] [.int 0] h Q := zE_iconst dz93_166 (by decide +kernel)
theorem dz93_116 : decode (z_code 93) 116 = .ok (.iconst 0, 1) := by decide +kernel
theorem u93_116 : zEv sc 93 116 [l0, l1, l2, l3, l4, l5, l6, l7, l8, l9, l10] [] h Q ↔ zEv sc 93 117 [l0, l1, l2, l3, l4, l5, l6, l7, l8, l9, l10] [.int 0] h Q := zE_iconst dz93_116 (by decide +kernel)
theorem dz93_91 : decode (z_code 93) 91 = .ok (.iload 4, 2) := by decide +kernel
theorem u93_91 : zEv sc 93 91 [l0, l1, l2, l3, .int x, l5, l6, l7, l8, l9, l10] [t0] h Q ↔ zEv sc 93 93 [l0, l1, l2, l3, .int x, l5, l6, l7, l8, l9, l10] [.int x, t0] h Q := zE_pure (q := (93, [l0, l1, l2, l3, .int x, l5, l6, l7, l8, l9, l10], [.int x, t0])) dz93_91 rfl rfl rfl
theorem dz93_270 : decode (z_code 93) 270 = .ok (.iload_n 2, 1) := by decide +kernel
theorem u93_270 : zEv sc 93 270 [l0, l1, .int x, l3, l4, l5, l6, l7, l8, l9, l10] [] h Q ↔ zEv sc 93 271 [l0, l1, .int x, l3, l4, l5, l6, l7, l8, l9, l10] [.int x] h Q := zE_pure (q := (271, [l0, l1, .int x, l3, l4, l5, l6, l7, l8, l9, l10], [.int x])) dz93_270 rfl rfl rfl
theorem dz93_271 : decode (z_code 93) 271 = .ok (.ireturn, 1) := by decide +kernel
theorem u93_271 : zEv sc 93 271 [l0, l1, l2, l3, l4, l5, l6, l7, l8, l9, l10] [.int x] h Q ↔ ((x = 0 ∨ x = 1) ∧ Q (some (.int x)) h) := zE_rz dz93_271 (by decide +kernel)
theorem dz93_29 : decode (z_code 93) 29 = .ok (.iconst 0, 1) := by decide +kernel
theorem u93_29 : zEv sc 93 29 [l0, l1, l2, l3, l4, l5, l6, l7, l8, l9, l10] [] h Q ↔ zEv sc 93 30 [l0, l1, l2, l3, l4, l5, l6, l7, l8, l9, l10] [.int 0] h Q := zE_iconst dz93_29 (by decide +kernel)
end ZU3
