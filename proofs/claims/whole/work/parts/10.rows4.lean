/-! ===== rows of the methods, printed by wip/whole/gen2.py ===== -/
section ZU4
variable {sc : Nat × (Nat → Int32)} {h : zA} {Q : Option Value → zA → Prop} {p : Nat → Option Nat} {iv : Nat → Nat → Int32} {l0 l1 l2 l3 l4 l5 l6 l7 l8 l9 l10 l11 t0 t1 t2 t3 t4 t5 t6 v1 v2 : Value} {x x1 x2 z0 z1 z2 z3 : Int32} {a b0 b1 b2 : Nat}
/-! method 132: FieldMixturesModel.mixtureOf(III)I -/
theorem dz132_0 : decode (z_code 132) 0 = .ok (.iload_n 1, 1) := by decide +kernel
theorem u132_0 : zEv sc 132 0 [l0, .int x, l2, l3] [] h Q ↔ zEv sc 132 1 [l0, .int x, l2, l3] [.int x] h Q := zE_pure (q := (1, [l0, .int x, l2, l3], [.int x])) dz132_0 rfl rfl rfl
theorem dz132_1 : decode (z_code 132) 1 = .ok (.invokestatic 124, 3) := by decide +kernel
theorem u132_1 : zEv sc 132 1 [l0, l1, l2, l3] [.int z0] h Q ↔ zEv sc 93 0 [.int z0] [] h (fun r h9 => zEv sc 132 4 [l0, l1, l2, l3] (r.toList ++ []) h9 Q) := zE_call (kd := 1) (na := 1) (nr := 0) (as := [.int z0]) (rest := []) (Or.inr ⟨rfl, rfl⟩) dz132_1 (by decide +kernel : z_lk2 zCT (z_cls 132) 124 = some (93, 0, 769)) (fun _ => by decide +kernel) rfl rfl rfl (by decide +kernel) rfl (Or.inl rfl)
theorem dz132_4 : decode (z_code 132) 4 = .ok (.ifCond .eq 16, 3) := by decide +kernel
theorem u132_4 : zEv sc 132 4 [l0, l1, l2, l3] [.int x] h Q ↔ (if x = 0 then zEv sc 132 20 [l0, l1, l2, l3] [] h Q else zEv sc 132 7 [l0, l1, l2, l3] [] h Q) := zE_ifP (P := x = 0) inferInstance 20 dz132_4 rfl rfl
theorem dz132_7 : decode (z_code 132) 7 = .ok (.iload_n 3, 1) := by decide +kernel
theorem u132_7 : zEv sc 132 7 [l0, l1, l2, .int x] [] h Q ↔ zEv sc 132 8 [l0, l1, l2, .int x] [.int x] h Q := zE_pure (q := (8, [l0, l1, l2, .int x], [.int x])) dz132_7 rfl rfl rfl
theorem dz132_8 : decode (z_code 132) 8 = .ok (.iconst 0, 1) := by decide +kernel
theorem u132_8 : zEv sc 132 8 [l0, l1, l2, l3] [t0] h Q ↔ zEv sc 132 9 [l0, l1, l2, l3] [.int 0, t0] h Q := zE_iconst dz132_8 (by decide +kernel)
theorem dz132_9 : decode (z_code 132) 9 = .ok (.iconst 3, 1) := by decide +kernel
theorem u132_9 : zEv sc 132 9 [l0, l1, l2, l3] [t0, t1] h Q ↔ zEv sc 132 10 [l0, l1, l2, l3] [.int 3, t0, t1] h Q := zE_iconst dz132_9 (by decide +kernel)
theorem dz132_10 : decode (z_code 132) 10 = .ok (.invokestatic 39, 3) := by decide +kernel
theorem u132_10 : zEv sc 132 10 [l0, l1, l2, l3] [.int z2, .int z1, .int z0] h Q ↔ zEv sc 89 0 [.int z0, .int z1, .int z2] [] h (fun r h9 => zEv sc 132 13 [l0, l1, l2, l3] (r.toList ++ []) h9 Q) := zE_call (kd := 1) (na := 3) (nr := 0) (as := [.int z0, .int z1, .int z2]) (rest := []) (Or.inr ⟨rfl, rfl⟩) dz132_10 (by decide +kernel : z_lk2 zCT (z_cls 132) 39 = some (89, 0, 734)) (fun _ => by decide +kernel) rfl rfl rfl (by decide +kernel) rfl (Or.inl rfl)
theorem dz132_13 : decode (z_code 132) 13 = .ok (.ifCond .eq 7, 3) := by decide +kernel
theorem u132_13 : zEv sc 132 13 [l0, l1, l2, l3] [.int x] h Q ↔ (if x = 0 then zEv sc 132 20 [l0, l1, l2, l3] [] h Q else zEv sc 132 16 [l0, l1, l2, l3] [] h Q) := zE_ifP (P := x = 0) inferInstance 20 dz132_13 rfl rfl
theorem dz132_16 : decode (z_code 132) 16 = .ok (.iload_n 2, 1) := by decide +kernel
theorem u132_16 : zEv sc 132 16 [l0, l1, .int x, l3] [] h Q ↔ zEv sc 132 17 [l0, l1, .int x, l3] [.int x] h Q := zE_pure (q := (17, [l0, l1, .int x, l3], [.int x])) dz132_16 rfl rfl rfl
theorem dz132_17 : decode (z_code 132) 17 = .ok (.ifCond .ge 6, 3) := by decide +kernel
theorem u132_17 : zEv sc 132 17 [l0, l1, l2, l3] [.int x] h Q ↔ (if 0 ≤ x then zEv sc 132 23 [l0, l1, l2, l3] [] h Q else zEv sc 132 20 [l0, l1, l2, l3] [] h Q) := zE_ifP (P := 0 ≤ x) inferInstance 23 dz132_17 rfl rfl
theorem dz132_23 : decode (z_code 132) 23 = .ok (.iload_n 3, 1) := by decide +kernel
theorem u132_23 : zEv sc 132 23 [l0, l1, l2, .int x] [] h Q ↔ zEv sc 132 24 [l0, l1, l2, .int x] [.int x] h Q := zE_pure (q := (24, [l0, l1, l2, .int x], [.int x])) dz132_23 rfl rfl rfl
theorem dz132_24 : decode (z_code 132) 24 = .ok (.iconst 1, 1) := by decide +kernel
theorem u132_24 : zEv sc 132 24 [l0, l1, l2, l3] [t0] h Q ↔ zEv sc 132 25 [l0, l1, l2, l3] [.int 1, t0] h Q := zE_iconst dz132_24 (by decide +kernel)
theorem dz132_25 : decode (z_code 132) 25 = .ok (.if_icmp .le 16, 3) := by decide +kernel
theorem u132_25 : zEv sc 132 25 [l0, l1, l2, l3] [.int x2, .int x1] h Q ↔ (if x1 ≤ x2 then zEv sc 132 41 [l0, l1, l2, l3] [] h Q else zEv sc 132 28 [l0, l1, l2, l3] [] h Q) := zE_icP (P := x1 ≤ x2) inferInstance 41 dz132_25 rfl rfl
theorem dz132_28 : decode (z_code 132) 28 = .ok (.aload_n 0, 1) := by decide +kernel
theorem u132_28 : zEv sc 132 28 [.ref a, l1, l2, l3] [] h Q ↔ zEv sc 132 29 [.ref a, l1, l2, l3] [.ref a] h Q := zE_pure (q := (29, [.ref a, l1, l2, l3], [.ref a])) dz132_28 rfl rfl rfl
theorem dz132_29 : decode (z_code 132) 29 = .ok (.iconst 1, 1) := by decide +kernel
theorem u132_29 : zEv sc 132 29 [l0, l1, l2, l3] [t0] h Q ↔ zEv sc 132 30 [l0, l1, l2, l3] [.int 1, t0] h Q := zE_iconst dz132_29 (by decide +kernel)
theorem dz132_30 : decode (z_code 132) 30 = .ok (.iload_n 1, 1) := by decide +kernel
theorem u132_30 : zEv sc 132 30 [l0, .int x, l2, l3] [t0, t1] h Q ↔ zEv sc 132 31 [l0, .int x, l2, l3] [.int x, t0, t1] h Q := zE_pure (q := (31, [l0, .int x, l2, l3], [.int x, t0, t1])) dz132_30 rfl rfl rfl
theorem dz132_31 : decode (z_code 132) 31 = .ok (.isub, 1) := by decide +kernel
theorem u132_31 : zEv sc 132 31 [l0, l1, l2, l3] [.int x2, .int x1, t0] h Q ↔ zEv sc 132 32 [l0, l1, l2, l3] [.int (x1 - x2), t0] h Q := zE_pure (q := (32, [l0, l1, l2, l3], [.int (x1 - x2), t0])) dz132_31 rfl rfl rfl
theorem dz132_32 : decode (z_code 132) 32 = .ok (.invokevirtual 58, 3) := by decide +kernel
theorem u132_32 (ho : zO a 10) : zEv sc 132 32 [l0, l1, l2, l3] [.int z0, .ref a] (zst p iv) Q ↔ zEv sc 101 0 [.ref a, .int z0] [] (zst p iv) (fun r h9 => zEv sc 132 35 [l0, l1, l2, l3] (r.toList ++ []) h9 Q) := zE_call (kd := 0) (na := 2) (nr := 0) (as := [.ref a, .int z0]) (rest := []) (Or.inl ⟨rfl, rfl⟩) dz132_32 (by decide +kernel : z_lk2 zCT (z_cls 132) 58 = some (101, 0, 776)) (fun z => by cases z) rfl rfl rfl (by decide +kernel) rfl (Or.inr (zE_rc ho))
theorem dz132_35 : decode (z_code 132) 35 = .ok (.ifCond .ne 6, 3) := by decide +kernel
theorem u132_35 : zEv sc 132 35 [l0, l1, l2, l3] [.int x] h Q ↔ (if ¬ x = 0 then zEv sc 132 41 [l0, l1, l2, l3] [] h Q else zEv sc 132 38 [l0, l1, l2, l3] [] h Q) := zE_ifP (P := ¬ x = 0) inferInstance 41 dz132_35 rfl rfl
theorem dz132_38 : decode (z_code 132) 38 = .ok (.ldc 101, 2) := by decide +kernel
theorem u132_38 : zEv sc 132 38 [l0, l1, l2, l3] [] h Q ↔ zEv sc 132 40 [l0, l1, l2, l3] [.int (-1000002)] h Q := zE_ldc (by decide +kernel : z_lkK zKT (z_cls 132) 101 = some ((-1000002), 833)) dz132_38
theorem dz132_40 : decode (z_code 132) 40 = .ok (.ireturn, 1) := by decide +kernel
theorem u132_40 : zEv sc 132 40 [l0, l1, l2, l3] [.int x] h Q ↔ Q (some (.int x)) h := zE_ri dz132_40 (by decide +kernel)
theorem dz132_41 : decode (z_code 132) 41 = .ok (.iload_n 2, 1) := by decide +kernel
theorem u132_41 : zEv sc 132 41 [l0, l1, .int x, l3] [] h Q ↔ zEv sc 132 42 [l0, l1, .int x, l3] [.int x] h Q := zE_pure (q := (42, [l0, l1, .int x, l3], [.int x])) dz132_41 rfl rfl rfl
theorem dz132_42 : decode (z_code 132) 42 = .ok (.aload_n 0, 1) := by decide +kernel
theorem u132_42 : zEv sc 132 42 [.ref a, l1, l2, l3] [t0] h Q ↔ zEv sc 132 43 [.ref a, l1, l2, l3] [.ref a, t0] h Q := zE_pure (q := (43, [.ref a, l1, l2, l3], [.ref a, t0])) dz132_42 rfl rfl rfl
theorem dz132_43 : decode (z_code 132) 43 = .ok (.iload_n 1, 1) := by decide +kernel
theorem u132_43 : zEv sc 132 43 [l0, .int x, l2, l3] [t0, t1] h Q ↔ zEv sc 132 44 [l0, .int x, l2, l3] [.int x, t0, t1] h Q := zE_pure (q := (44, [l0, .int x, l2, l3], [.int x, t0, t1])) dz132_43 rfl rfl rfl
theorem dz132_44 : decode (z_code 132) 44 = .ok (.invokevirtual 58, 3) := by decide +kernel
theorem u132_44 (ho : zO a 10) : zEv sc 132 44 [l0, l1, l2, l3] [.int z0, .ref a, t0] (zst p iv) Q ↔ zEv sc 101 0 [.ref a, .int z0] [] (zst p iv) (fun r h9 => zEv sc 132 47 [l0, l1, l2, l3] (r.toList ++ [t0]) h9 Q) := zE_call (kd := 0) (na := 2) (nr := 1) (as := [.ref a, .int z0]) (rest := [t0]) (Or.inl ⟨rfl, rfl⟩) dz132_44 (by decide +kernel : z_lk2 zCT (z_cls 132) 58 = some (101, 0, 776)) (fun z => by cases z) rfl rfl rfl (by decide +kernel) rfl (Or.inr (zE_rc ho))
theorem dz132_47 : decode (z_code 132) 47 = .ok (.if_icmp .lt 6, 3) := by decide +kernel
theorem u132_47 : zEv sc 132 47 [l0, l1, l2, l3] [.int x2, .int x1] h Q ↔ (if x1 < x2 then zEv sc 132 53 [l0, l1, l2, l3] [] h Q else zEv sc 132 50 [l0, l1, l2, l3] [] h Q) := zE_icP (P := x1 < x2) inferInstance 53 dz132_47 rfl rfl
theorem dz132_50 : decode (z_code 132) 50 = .ok (.ldc 136, 2) := by decide +kernel
theorem u132_50 : zEv sc 132 50 [l0, l1, l2, l3] [] h Q ↔ zEv sc 132 52 [l0, l1, l2, l3] [.int (-1000004)] h Q := zE_ldc (by decide +kernel : z_lkK zKT (z_cls 132) 136 = some ((-1000004), 870)) dz132_50
theorem dz132_52 : decode (z_code 132) 52 = .ok (.ireturn, 1) := by decide +kernel
theorem u132_52 : zEv sc 132 52 [l0, l1, l2, l3] [.int x] h Q ↔ Q (some (.int x)) h := zE_ri dz132_52 (by decide +kernel)
theorem dz132_53 : decode (z_code 132) 53 = .ok (.iload_n 3, 1) := by decide +kernel
theorem u132_53 : zEv sc 132 53 [l0, l1, l2, .int x] [] h Q ↔ zEv sc 132 54 [l0, l1, l2, .int x] [.int x] h Q := zE_pure (q := (54, [l0, l1, l2, .int x], [.int x])) dz132_53 rfl rfl rfl
theorem dz132_54 : decode (z_code 132) 54 = .ok (.lookupswitch 40 #[(0, 26), (1, 33)], 26) := by decide +kernel
theorem u132_54_0 : zEv sc 132 54 [l0, l1, l2, l3] [.int 0] h Q ↔ zEv sc 132 80 [l0, l1, l2, l3] [] h Q := zE_swi (off := 26) 80 dz132_54 (by decide +kernel) (by decide +kernel) rfl
theorem u132_54_1 : zEv sc 132 54 [l0, l1, l2, l3] [.int 1] h Q ↔ zEv sc 132 87 [l0, l1, l2, l3] [] h Q := zE_swi (off := 33) 87 dz132_54 (by decide +kernel) (by decide +kernel) rfl
theorem u132_54_d (h0 : ¬ x = 0) (h1 : ¬ x = 1) : zEv sc 132 54 [l0, l1, l2, l3] [.int x] h Q ↔ zEv sc 132 94 [l0, l1, l2, l3] [] h Q := zE_swi (off := 40) 94 dz132_54 (by decide +kernel) ((lv_osw (k := 0) (a := 0) (o := 26) h0 rfl).trans ((lv_osw (k := 1) (a := 1) (o := 33) h1 rfl).trans (rfl))) rfl
theorem dz132_94 : decode (z_code 132) 94 = .ok (.aload_n 0, 1) := by decide +kernel
theorem u132_94 : zEv sc 132 94 [.ref a, l1, l2, l3] [] h Q ↔ zEv sc 132 95 [.ref a, l1, l2, l3] [.ref a] h Q := zE_pure (q := (95, [.ref a, l1, l2, l3], [.ref a])) dz132_94 rfl rfl rfl
theorem dz132_95 : decode (z_code 132) 95 = .ok (.iload_n 1, 1) := by decide +kernel
theorem u132_95 : zEv sc 132 95 [l0, .int x, l2, l3] [t0] h Q ↔ zEv sc 132 96 [l0, .int x, l2, l3] [.int x, t0] h Q := zE_pure (q := (96, [l0, .int x, l2, l3], [.int x, t0])) dz132_95 rfl rfl rfl
theorem dz132_96 : decode (z_code 132) 96 = .ok (.aload_n 0, 1) := by decide +kernel
theorem u132_96 : zEv sc 132 96 [.ref a, l1, l2, l3] [t0, t1] h Q ↔ zEv sc 132 97 [.ref a, l1, l2, l3] [.ref a, t0, t1] h Q := zE_pure (q := (97, [.ref a, l1, l2, l3], [.ref a, t0, t1])) dz132_96 rfl rfl rfl
theorem dz132_97 : decode (z_code 132) 97 = .ok (.iload_n 1, 1) := by decide +kernel
theorem u132_97 : zEv sc 132 97 [l0, .int x, l2, l3] [t0, t1, t2] h Q ↔ zEv sc 132 98 [l0, .int x, l2, l3] [.int x, t0, t1, t2] h Q := zE_pure (q := (98, [l0, .int x, l2, l3], [.int x, t0, t1, t2])) dz132_97 rfl rfl rfl
theorem dz132_98 : decode (z_code 132) 98 = .ok (.iload_n 2, 1) := by decide +kernel
theorem u132_98 : zEv sc 132 98 [l0, l1, .int x, l3] [t0, t1, t2, t3] h Q ↔ zEv sc 132 99 [l0, l1, .int x, l3] [.int x, t0, t1, t2, t3] h Q := zE_pure (q := (99, [l0, l1, .int x, l3], [.int x, t0, t1, t2, t3])) dz132_98 rfl rfl rfl
theorem dz132_99 : decode (z_code 132) 99 = .ok (.invokevirtual 64, 3) := by decide +kernel
theorem u132_99 (ho : zO a 10) : zEv sc 132 99 [l0, l1, l2, l3] [.int z1, .int z0, .ref a, t0, t1] (zst p iv) Q ↔ zEv sc 102 0 [.ref a, .int z0, .int z1] [] (zst p iv) (fun r h9 => zEv sc 132 102 [l0, l1, l2, l3] (r.toList ++ [t0, t1]) h9 Q) := zE_call (kd := 0) (na := 3) (nr := 2) (as := [.ref a, .int z0, .int z1]) (rest := [t0, t1]) (Or.inl ⟨rfl, rfl⟩) dz132_99 (by decide +kernel : z_lk2 zCT (z_cls 132) 64 = some (102, 0, 780)) (fun z => by cases z) rfl rfl rfl (by decide +kernel) rfl (Or.inr (zE_rc ho))
theorem dz132_102 : decode (z_code 132) 102 = .ok (.invokevirtual 82, 3) := by decide +kernel
theorem u132_102 (ho : zO a 10) : zEv sc 132 102 [l0, l1, l2, l3] [.int z1, .int z0, .ref a] (zst p iv) Q ↔ zEv sc 110 0 [.ref a, .int z0, .int z1, .null, .null] [] (zst p iv) (fun r h9 => zEv sc 132 105 [l0, l1, l2, l3] (r.toList ++ []) h9 Q) := zE_call (kd := 0) (na := 3) (nr := 0) (as := [.ref a, .int z0, .int z1]) (rest := []) (Or.inl ⟨rfl, rfl⟩) dz132_102 (by decide +kernel : z_lk2 zCT (z_cls 132) 82 = some (110, 0, 850)) (fun z => by cases z) rfl rfl rfl (by decide +kernel) rfl (Or.inr (zE_rc ho))
theorem dz132_105 : decode (z_code 132) 105 = .ok (.aload_n 0, 1) := by decide +kernel
theorem u132_105 : zEv sc 132 105 [.ref a, l1, l2, l3] [t0] h Q ↔ zEv sc 132 106 [.ref a, l1, l2, l3] [.ref a, t0] h Q := zE_pure (q := (106, [.ref a, l1, l2, l3], [.ref a, t0])) dz132_105 rfl rfl rfl
theorem dz132_106 : decode (z_code 132) 106 = .ok (.iconst 1, 1) := by decide +kernel
theorem u132_106 : zEv sc 132 106 [l0, l1, l2, l3] [t0, t1] h Q ↔ zEv sc 132 107 [l0, l1, l2, l3] [.int 1, t0, t1] h Q := zE_iconst dz132_106 (by decide +kernel)
theorem dz132_107 : decode (z_code 132) 107 = .ok (.iload_n 1, 1) := by decide +kernel
theorem u132_107 : zEv sc 132 107 [l0, .int x, l2, l3] [t0, t1, t2] h Q ↔ zEv sc 132 108 [l0, .int x, l2, l3] [.int x, t0, t1, t2] h Q := zE_pure (q := (108, [l0, .int x, l2, l3], [.int x, t0, t1, t2])) dz132_107 rfl rfl rfl
theorem dz132_108 : decode (z_code 132) 108 = .ok (.isub, 1) := by decide +kernel
theorem u132_108 : zEv sc 132 108 [l0, l1, l2, l3] [.int x2, .int x1, t0, t1] h Q ↔ zEv sc 132 109 [l0, l1, l2, l3] [.int (x1 - x2), t0, t1] h Q := zE_pure (q := (109, [l0, l1, l2, l3], [.int (x1 - x2), t0, t1])) dz132_108 rfl rfl rfl
theorem dz132_109 : decode (z_code 132) 109 = .ok (.invokevirtual 140, 3) := by decide +kernel
theorem u132_109 (ho : zO a 10) : zEv sc 132 109 [l0, l1, l2, l3] [.int z0, .ref a, t0] (zst p iv) Q ↔ zEv sc 104 0 [.ref a, .int z0, .null, .null] [] (zst p iv) (fun r h9 => zEv sc 132 112 [l0, l1, l2, l3] (r.toList ++ [t0]) h9 Q) := zE_call (kd := 0) (na := 2) (nr := 1) (as := [.ref a, .int z0]) (rest := [t0]) (Or.inl ⟨rfl, rfl⟩) dz132_109 (by decide +kernel : z_lk2 zCT (z_cls 132) 140 = some (104, 0, 887)) (fun z => by cases z) rfl rfl rfl (by decide +kernel) rfl (Or.inr (zE_rc ho))
theorem dz132_112 : decode (z_code 132) 112 = .ok (.iload_n 3, 1) := by decide +kernel
theorem u132_112 : zEv sc 132 112 [l0, l1, l2, .int x] [t0, t1] h Q ↔ zEv sc 132 113 [l0, l1, l2, .int x] [.int x, t0, t1] h Q := zE_pure (q := (113, [l0, l1, l2, .int x], [.int x, t0, t1])) dz132_112 rfl rfl rfl
theorem dz132_113 : decode (z_code 132) 113 = .ok (.iconst 2, 1) := by decide +kernel
theorem u132_113 : zEv sc 132 113 [l0, l1, l2, l3] [t0, t1, t2] h Q ↔ zEv sc 132 114 [l0, l1, l2, l3] [.int 2, t0, t1, t2] h Q := zE_iconst dz132_113 (by decide +kernel)
theorem dz132_114 : decode (z_code 132) 114 = .ok (.isub, 1) := by decide +kernel
theorem u132_114 : zEv sc 132 114 [l0, l1, l2, l3] [.int x2, .int x1, t0, t1] h Q ↔ zEv sc 132 115 [l0, l1, l2, l3] [.int (x1 - x2), t0, t1] h Q := zE_pure (q := (115, [l0, l1, l2, l3], [.int (x1 - x2), t0, t1])) dz132_114 rfl rfl rfl
theorem dz132_115 : decode (z_code 132) 115 = .ok (.invokestatic 143, 3) := by decide +kernel
theorem u132_115 : zEv sc 132 115 [l0, l1, l2, l3] [.int z2, .int z1, .int z0] h Q ↔ zEv sc 113 0 [.int z0, .int z1, .int z2, .null] [] h (fun r h9 => zEv sc 132 118 [l0, l1, l2, l3] (r.toList ++ []) h9 Q) := zE_call (kd := 1) (na := 3) (nr := 0) (as := [.int z0, .int z1, .int z2]) (rest := []) (Or.inr ⟨rfl, rfl⟩) dz132_115 (by decide +kernel : z_lk2 zCT (z_cls 132) 143 = some (113, 0, 891)) (fun _ => by decide +kernel) rfl rfl rfl (by decide +kernel) rfl (Or.inl rfl)
theorem dz132_118 : decode (z_code 132) 118 = .ok (.ireturn, 1) := by decide +kernel
theorem u132_118 : zEv sc 132 118 [l0, l1, l2, l3] [.int x] h Q ↔ Q (some (.int x)) h := zE_ri dz132_118 (by decide +kernel)
theorem dz132_87 : decode (z_code 132) 87 = .ok (.aload_n 0, 1) := by decide +kernel
theorem u132_87 : zEv sc 132 87 [.ref a, l1, l2, l3] [] h Q ↔ zEv sc 132 88 [.ref a, l1, l2, l3] [.ref a] h Q := zE_pure (q := (88, [.ref a, l1, l2, l3], [.ref a])) dz132_87 rfl rfl rfl
theorem dz132_88 : decode (z_code 132) 88 = .ok (.iload_n 1, 1) := by decide +kernel
theorem u132_88 : zEv sc 132 88 [l0, .int x, l2, l3] [t0] h Q ↔ zEv sc 132 89 [l0, .int x, l2, l3] [.int x, t0] h Q := zE_pure (q := (89, [l0, .int x, l2, l3], [.int x, t0])) dz132_88 rfl rfl rfl
theorem dz132_89 : decode (z_code 132) 89 = .ok (.iload_n 2, 1) := by decide +kernel
theorem u132_89 : zEv sc 132 89 [l0, l1, .int x, l3] [t0, t1] h Q ↔ zEv sc 132 90 [l0, l1, .int x, l3] [.int x, t0, t1] h Q := zE_pure (q := (90, [l0, l1, .int x, l3], [.int x, t0, t1])) dz132_89 rfl rfl rfl
theorem dz132_90 : decode (z_code 132) 90 = .ok (.invokevirtual 61, 3) := by decide +kernel
theorem u132_90 (ho : zO a 10) : zEv sc 132 90 [l0, l1, l2, l3] [.int z1, .int z0, .ref a] (zst p iv) Q ↔ zEv sc 103 0 [.ref a, .int z0, .int z1] [] (zst p iv) (fun r h9 => zEv sc 132 93 [l0, l1, l2, l3] (r.toList ++ []) h9 Q) := zE_call (kd := 0) (na := 3) (nr := 0) (as := [.ref a, .int z0, .int z1]) (rest := []) (Or.inl ⟨rfl, rfl⟩) dz132_90 (by decide +kernel : z_lk2 zCT (z_cls 132) 61 = some (103, 0, 824)) (fun z => by cases z) rfl rfl rfl (by decide +kernel) rfl (Or.inr (zE_rc ho))
theorem dz132_93 : decode (z_code 132) 93 = .ok (.ireturn, 1) := by decide +kernel
theorem u132_93 : zEv sc 132 93 [l0, l1, l2, l3] [.int x] h Q ↔ Q (some (.int x)) h := zE_ri dz132_93 (by decide +kernel)
theorem dz132_80 : decode (z_code 132) 80 = .ok (.aload_n 0, 1) := by decide +kernel
theorem u132_80 : zEv sc 132 80 [.ref a, l1, l2, l3] [] h Q ↔ zEv sc 132 81 [.ref a, l1, l2, l3] [.ref a] h Q := zE_pure (q := (81, [.ref a, l1, l2, l3], [.ref a])) dz132_80 rfl rfl rfl
theorem dz132_81 : decode (z_code 132) 81 = .ok (.iload_n 1, 1) := by decide +kernel
theorem u132_81 : zEv sc 132 81 [l0, .int x, l2, l3] [t0] h Q ↔ zEv sc 132 82 [l0, .int x, l2, l3] [.int x, t0] h Q := zE_pure (q := (82, [l0, .int x, l2, l3], [.int x, t0])) dz132_81 rfl rfl rfl
theorem dz132_82 : decode (z_code 132) 82 = .ok (.iload_n 2, 1) := by decide +kernel
theorem u132_82 : zEv sc 132 82 [l0, l1, .int x, l3] [t0, t1] h Q ↔ zEv sc 132 83 [l0, l1, .int x, l3] [.int x, t0, t1] h Q := zE_pure (q := (83, [l0, l1, .int x, l3], [.int x, t0, t1])) dz132_82 rfl rfl rfl
theorem dz132_83 : decode (z_code 132) 83 = .ok (.invokevirtual 64, 3) := by decide +kernel
theorem u132_83 (ho : zO a 10) : zEv sc 132 83 [l0, l1, l2, l3] [.int z1, .int z0, .ref a] (zst p iv) Q ↔ zEv sc 102 0 [.ref a, .int z0, .int z1] [] (zst p iv) (fun r h9 => zEv sc 132 86 [l0, l1, l2, l3] (r.toList ++ []) h9 Q) := zE_call (kd := 0) (na := 3) (nr := 0) (as := [.ref a, .int z0, .int z1]) (rest := []) (Or.inl ⟨rfl, rfl⟩) dz132_83 (by decide +kernel : z_lk2 zCT (z_cls 132) 64 = some (102, 0, 780)) (fun z => by cases z) rfl rfl rfl (by decide +kernel) rfl (Or.inr (zE_rc ho))
theorem dz132_86 : decode (z_code 132) 86 = .ok (.ireturn, 1) := by decide +kernel
theorem u132_86 : zEv sc 132 86 [l0, l1, l2, l3] [.int x] h Q ↔ Q (some (.int x)) h := zE_ri dz132_86 (by decide +kernel)
theorem dz132_20 : decode (z_code 132) 20 = .ok (.ldc 31, 2) := by decide +kernel
theorem u132_20 : zEv sc 132 20 [l0, l1, l2, l3] [] h Q ↔ zEv sc 132 22 [l0, l1, l2, l3] [.int (-1000001)] h Q := zE_ldc (by decide +kernel : z_lkK zKT (z_cls 132) 31 = some ((-1000001), 744)) dz132_20
theorem dz132_22 : decode (z_code 132) 22 = .ok (.ireturn, 1) := by decide +kernel
theorem u132_22 : zEv sc 132 22 [l0, l1, l2, l3] [.int x] h Q ↔ Q (some (.int x)) h := zE_ri dz132_22 (by decide +kernel)
/-! method 133: FieldMixturesModel.marginal(III)I -/
theorem dz133_0 : decode (z_code 133) 0 = .ok (.iload_n 1, 1) := by decide +kernel
theorem u133_0 : zEv sc 133 0 [l0, .int x, l2, l3, l4, l5] [] h Q ↔ zEv sc 133 1 [l0, .int x, l2, l3, l4, l5] [.int x] h Q := zE_pure (q := (1, [l0, .int x, l2, l3, l4, l5], [.int x])) dz133_0 rfl rfl rfl
theorem dz133_1 : decode (z_code 133) 1 = .ok (.invokestatic 124, 3) := by decide +kernel
theorem u133_1 : zEv sc 133 1 [l0, l1, l2, l3, l4, l5] [.int z0] h Q ↔ zEv sc 93 0 [.int z0] [] h (fun r h9 => zEv sc 133 4 [l0, l1, l2, l3, l4, l5] (r.toList ++ []) h9 Q) := zE_call (kd := 1) (na := 1) (nr := 0) (as := [.int z0]) (rest := []) (Or.inr ⟨rfl, rfl⟩) dz133_1 (by decide +kernel : z_lk2 zCT (z_cls 133) 124 = some (93, 0, 769)) (fun _ => by decide +kernel) rfl rfl rfl (by decide +kernel) rfl (Or.inl rfl)
theorem dz133_4 : decode (z_code 133) 4 = .ok (.ifCond .eq 21, 3) := by decide +kernel
theorem u133_4 : zEv sc 133 4 [l0, l1, l2, l3, l4, l5] [.int x] h Q ↔ (if x = 0 then zEv sc 133 25 [l0, l1, l2, l3, l4, l5] [] h Q else zEv sc 133 7 [l0, l1, l2, l3, l4, l5] [] h Q) := zE_ifP (P := x = 0) inferInstance 25 dz133_4 rfl rfl
theorem dz133_7 : decode (z_code 133) 7 = .ok (.aload_n 0, 1) := by decide +kernel
theorem u133_7 : zEv sc 133 7 [.ref a, l1, l2, l3, l4, l5] [] h Q ↔ zEv sc 133 8 [.ref a, l1, l2, l3, l4, l5] [.ref a] h Q := zE_pure (q := (8, [.ref a, l1, l2, l3, l4, l5], [.ref a])) dz133_7 rfl rfl rfl
theorem dz133_8 : decode (z_code 133) 8 = .ok (.iload_n 2, 1) := by decide +kernel
theorem u133_8 : zEv sc 133 8 [l0, l1, .int x, l3, l4, l5] [t0] h Q ↔ zEv sc 133 9 [l0, l1, .int x, l3, l4, l5] [.int x, t0] h Q := zE_pure (q := (9, [l0, l1, .int x, l3, l4, l5], [.int x, t0])) dz133_8 rfl rfl rfl
theorem dz133_9 : decode (z_code 133) 9 = .ok (.invokevirtual 117, 3) := by decide +kernel
theorem u133_9 (ho : zO a 10) : zEv sc 133 9 [l0, l1, l2, l3, l4, l5] [.int z0, .ref a] (zst p iv) Q ↔ zEv sc 94 0 [.ref a, .int z0] [] (zst p iv) (fun r h9 => zEv sc 133 12 [l0, l1, l2, l3, l4, l5] (r.toList ++ []) h9 Q) := zE_call (kd := 0) (na := 2) (nr := 0) (as := [.ref a, .int z0]) (rest := []) (Or.inl ⟨rfl, rfl⟩) dz133_9 (by decide +kernel : z_lk2 zCT (z_cls 133) 117 = some (94, 0, 757)) (fun z => by cases z) rfl rfl rfl (by decide +kernel) rfl (Or.inr (zE_rc ho))
theorem dz133_12 : decode (z_code 133) 12 = .ok (.ifCond .eq 13, 3) := by decide +kernel
theorem u133_12 : zEv sc 133 12 [l0, l1, l2, l3, l4, l5] [.int x] h Q ↔ (if x = 0 then zEv sc 133 25 [l0, l1, l2, l3, l4, l5] [] h Q else zEv sc 133 15 [l0, l1, l2, l3, l4, l5] [] h Q) := zE_ifP (P := x = 0) inferInstance 25 dz133_12 rfl rfl
theorem dz133_15 : decode (z_code 133) 15 = .ok (.iload_n 3, 1) := by decide +kernel
theorem u133_15 : zEv sc 133 15 [l0, l1, l2, .int x, l4, l5] [] h Q ↔ zEv sc 133 16 [l0, l1, l2, .int x, l4, l5] [.int x] h Q := zE_pure (q := (16, [l0, l1, l2, .int x, l4, l5], [.int x])) dz133_15 rfl rfl rfl
theorem dz133_16 : decode (z_code 133) 16 = .ok (.iconst 0, 1) := by decide +kernel
theorem u133_16 : zEv sc 133 16 [l0, l1, l2, l3, l4, l5] [t0] h Q ↔ zEv sc 133 17 [l0, l1, l2, l3, l4, l5] [.int 0, t0] h Q := zE_iconst dz133_16 (by decide +kernel)
theorem dz133_17 : decode (z_code 133) 17 = .ok (.bipush 8, 2) := by decide +kernel
theorem u133_17 : zEv sc 133 17 [l0, l1, l2, l3, l4, l5] [t0, t1] h Q ↔ zEv sc 133 19 [l0, l1, l2, l3, l4, l5] [.int 8, t0, t1] h Q := zE_bipush dz133_17 (by decide +kernel)
theorem dz133_19 : decode (z_code 133) 19 = .ok (.invokestatic 39, 3) := by decide +kernel
theorem u133_19 : zEv sc 133 19 [l0, l1, l2, l3, l4, l5] [.int z2, .int z1, .int z0] h Q ↔ zEv sc 89 0 [.int z0, .int z1, .int z2] [] h (fun r h9 => zEv sc 133 22 [l0, l1, l2, l3, l4, l5] (r.toList ++ []) h9 Q) := zE_call (kd := 1) (na := 3) (nr := 0) (as := [.int z0, .int z1, .int z2]) (rest := []) (Or.inr ⟨rfl, rfl⟩) dz133_19 (by decide +kernel : z_lk2 zCT (z_cls 133) 39 = some (89, 0, 734)) (fun _ => by decide +kernel) rfl rfl rfl (by decide +kernel) rfl (Or.inl rfl)
theorem dz133_22 : decode (z_code 133) 22 = .ok (.ifCond .ne 6, 3) := by decide +kernel
theorem u133_22 : zEv sc 133 22 [l0, l1, l2, l3, l4, l5] [.int x] h Q ↔ (if ¬ x = 0 then zEv sc 133 28 [l0, l1, l2, l3, l4, l5] [] h Q else zEv sc 133 25 [l0, l1, l2, l3, l4, l5] [] h Q) := zE_ifP (P := ¬ x = 0) inferInstance 28 dz133_22 rfl rfl
theorem dz133_28 : decode (z_code 133) 28 = .ok (.iconst 0, 1) := by decide +kernel
theorem u133_28 : zEv sc 133 28 [l0, l1, l2, l3, l4, l5] [] h Q ↔ zEv sc 133 29 [l0, l1, l2, l3, l4, l5] [.int 0] h Q := zE_iconst dz133_28 (by decide +kernel)
theorem dz133_29 : decode (z_code 133) 29 = .ok (.istore 4, 2) := by decide +kernel
theorem u133_29 : zEv sc 133 29 [l0, l1, l2, l3, l4, l5] [.int x] h Q ↔ zEv sc 133 31 [l0, l1, l2, l3, .int x, l5] [] h Q := zE_pure (q := (31, [l0, l1, l2, l3, .int x, l5], [])) dz133_29 rfl rfl rfl
theorem dz133_31 : decode (z_code 133) 31 = .ok (.iconst 0, 1) := by decide +kernel
theorem u133_31 : zEv sc 133 31 [l0, l1, l2, l3, l4, l5] [] h Q ↔ zEv sc 133 32 [l0, l1, l2, l3, l4, l5] [.int 0] h Q := zE_iconst dz133_31 (by decide +kernel)
theorem dz133_32 : decode (z_code 133) 32 = .ok (.istore 5, 2) := by decide +kernel
theorem u133_32 : zEv sc 133 32 [l0, l1, l2, l3, l4, l5] [.int x] h Q ↔ zEv sc 133 34 [l0, l1, l2, l3, l4, .int x] [] h Q := zE_pure (q := (34, [l0, l1, l2, l3, l4, .int x], [])) dz133_32 rfl rfl rfl
theorem dz133_34 : decode (z_code 133) 34 = .ok (.iload 5, 2) := by decide +kernel
theorem u133_34 : zEv sc 133 34 [l0, l1, l2, l3, l4, .int x] [] h Q ↔ zEv sc 133 36 [l0, l1, l2, l3, l4, .int x] [.int x] h Q := zE_pure (q := (36, [l0, l1, l2, l3, l4, .int x], [.int x])) dz133_34 rfl rfl rfl
theorem dz133_36 : decode (z_code 133) 36 = .ok (.aload_n 0, 1) := by decide +kernel
theorem u133_36 : zEv sc 133 36 [.ref a, l1, l2, l3, l4, l5] [t0] h Q ↔ zEv sc 133 37 [.ref a, l1, l2, l3, l4, l5] [.ref a, t0] h Q := zE_pure (q := (37, [.ref a, l1, l2, l3, l4, l5], [.ref a, t0])) dz133_36 rfl rfl rfl
theorem dz133_37 : decode (z_code 133) 37 = .ok (.iload_n 1, 1) := by decide +kernel
theorem u133_37 : zEv sc 133 37 [l0, .int x, l2, l3, l4, l5] [t0, t1] h Q ↔ zEv sc 133 38 [l0, .int x, l2, l3, l4, l5] [.int x, t0, t1] h Q := zE_pure (q := (38, [l0, .int x, l2, l3, l4, l5], [.int x, t0, t1])) dz133_37 rfl rfl rfl
theorem dz133_38 : decode (z_code 133) 38 = .ok (.invokevirtual 58, 3) := by decide +kernel
theorem u133_38 (ho : zO a 10) : zEv sc 133 38 [l0, l1, l2, l3, l4, l5] [.int z0, .ref a, t0] (zst p iv) Q ↔ zEv sc 101 0 [.ref a, .int z0] [] (zst p iv) (fun r h9 => zEv sc 133 41 [l0, l1, l2, l3, l4, l5] (r.toList ++ [t0]) h9 Q) := zE_call (kd := 0) (na := 2) (nr := 1) (as := [.ref a, .int z0]) (rest := [t0]) (Or.inl ⟨rfl, rfl⟩) dz133_38 (by decide +kernel : z_lk2 zCT (z_cls 133) 58 = some (101, 0, 776)) (fun z => by cases z) rfl rfl rfl (by decide +kernel) rfl (Or.inr (zE_rc ho))
theorem dz133_41 : decode (z_code 133) 41 = .ok (.if_icmp .ge 41, 3) := by decide +kernel
theorem u133_41 : zEv sc 133 41 [l0, l1, l2, l3, l4, l5] [.int x2, .int x1] h Q ↔ (if x2 ≤ x1 then zEv sc 133 82 [l0, l1, l2, l3, l4, l5] [] h Q else zEv sc 133 44 [l0, l1, l2, l3, l4, l5] [] h Q) := zE_icP (P := x2 ≤ x1) inferInstance 82 dz133_41 rfl rfl
theorem dz133_44 : decode (z_code 133) 44 = .ok (.iload 4, 2) := by decide +kernel
theorem u133_44 : zEv sc 133 44 [l0, l1, l2, l3, .int x, l5] [] h Q ↔ zEv sc 133 46 [l0, l1, l2, l3, .int x, l5] [.int x] h Q := zE_pure (q := (46, [l0, l1, l2, l3, .int x, l5], [.int x])) dz133_44 rfl rfl rfl
theorem dz133_46 : decode (z_code 133) 46 = .ok (.aload_n 0, 1) := by decide +kernel
theorem u133_46 : zEv sc 133 46 [.ref a, l1, l2, l3, l4, l5] [t0] h Q ↔ zEv sc 133 47 [.ref a, l1, l2, l3, l4, l5] [.ref a, t0] h Q := zE_pure (q := (47, [.ref a, l1, l2, l3, l4, l5], [.ref a, t0])) dz133_46 rfl rfl rfl
theorem dz133_47 : decode (z_code 133) 47 = .ok (.aload_n 0, 1) := by decide +kernel
theorem u133_47 : zEv sc 133 47 [.ref a, l1, l2, l3, l4, l5] [t0, t1] h Q ↔ zEv sc 133 48 [.ref a, l1, l2, l3, l4, l5] [.ref a, t0, t1] h Q := zE_pure (q := (48, [.ref a, l1, l2, l3, l4, l5], [.ref a, t0, t1])) dz133_47 rfl rfl rfl
theorem dz133_48 : decode (z_code 133) 48 = .ok (.iload_n 1, 1) := by decide +kernel
theorem u133_48 : zEv sc 133 48 [l0, .int x, l2, l3, l4, l5] [t0, t1, t2] h Q ↔ zEv sc 133 49 [l0, .int x, l2, l3, l4, l5] [.int x, t0, t1, t2] h Q := zE_pure (q := (49, [l0, .int x, l2, l3, l4, l5], [.int x, t0, t1, t2])) dz133_48 rfl rfl rfl
theorem dz133_49 : decode (z_code 133) 49 = .ok (.iload 5, 2) := by decide +kernel
theorem u133_49 : zEv sc 133 49 [l0, l1, l2, l3, l4, .int x] [t0, t1, t2, t3] h Q ↔ zEv sc 133 51 [l0, l1, l2, l3, l4, .int x] [.int x, t0, t1, t2, t3] h Q := zE_pure (q := (51, [l0, l1, l2, l3, l4, .int x], [.int x, t0, t1, t2, t3])) dz133_49 rfl rfl rfl
theorem dz133_51 : decode (z_code 133) 51 = .ok (.invokevirtual 64, 3) := by decide +kernel
theorem u133_51 (ho : zO a 10) : zEv sc 133 51 [l0, l1, l2, l3, l4, l5] [.int z1, .int z0, .ref a, t0, t1] (zst p iv) Q ↔ zEv sc 102 0 [.ref a, .int z0, .int z1] [] (zst p iv) (fun r h9 => zEv sc 133 54 [l0, l1, l2, l3, l4, l5] (r.toList ++ [t0, t1]) h9 Q) := zE_call (kd := 0) (na := 3) (nr := 2) (as := [.ref a, .int z0, .int z1]) (rest := [t0, t1]) (Or.inl ⟨rfl, rfl⟩) dz133_51 (by decide +kernel : z_lk2 zCT (z_cls 133) 64 = some (102, 0, 780)) (fun z => by cases z) rfl rfl rfl (by decide +kernel) rfl (Or.inr (zE_rc ho))
theorem dz133_54 : decode (z_code 133) 54 = .ok (.iload_n 2, 1) := by decide +kernel
theorem u133_54 : zEv sc 133 54 [l0, l1, .int x, l3, l4, l5] [t0, t1, t2] h Q ↔ zEv sc 133 55 [l0, l1, .int x, l3, l4, l5] [.int x, t0, t1, t2] h Q := zE_pure (q := (55, [l0, l1, .int x, l3, l4, l5], [.int x, t0, t1, t2])) dz133_54 rfl rfl rfl
theorem dz133_55 : decode (z_code 133) 55 = .ok (.invokevirtual 43, 3) := by decide +kernel
theorem u133_55 (ho : zO a 10) : zEv sc 133 55 [l0, l1, l2, l3, l4, l5] [.int z1, .int z0, .ref a, t0] (zst p iv) Q ↔ zEv sc 95 0 [.ref a, .int z0, .int z1, .null, .null] [] (zst p iv) (fun r h9 => zEv sc 133 58 [l0, l1, l2, l3, l4, l5] (r.toList ++ [t0]) h9 Q) := zE_call (kd := 0) (na := 3) (nr := 1) (as := [.ref a, .int z0, .int z1]) (rest := [t0]) (Or.inl ⟨rfl, rfl⟩) dz133_55 (by decide +kernel : z_lk2 zCT (z_cls 133) 43 = some (95, 0, 788)) (fun z => by cases z) rfl rfl rfl (by decide +kernel) rfl (Or.inr (zE_rc ho))
theorem dz133_58 : decode (z_code 133) 58 = .ok (.iload_n 3, 1) := by decide +kernel
theorem u133_58 : zEv sc 133 58 [l0, l1, l2, .int x, l4, l5] [t0, t1] h Q ↔ zEv sc 133 59 [l0, l1, l2, .int x, l4, l5] [.int x, t0, t1] h Q := zE_pure (q := (59, [l0, l1, l2, .int x, l4, l5], [.int x, t0, t1])) dz133_58 rfl rfl rfl
theorem dz133_59 : decode (z_code 133) 59 = .ok (.if_icmp .ne 13, 3) := by decide +kernel
theorem u133_59 : zEv sc 133 59 [l0, l1, l2, l3, l4, l5] [.int x2, .int x1, t0] h Q ↔ (if ¬ x1 = x2 then zEv sc 133 72 [l0, l1, l2, l3, l4, l5] [t0] h Q else zEv sc 133 62 [l0, l1, l2, l3, l4, l5] [t0] h Q) := zE_icP (P := ¬ x1 = x2) inferInstance 72 dz133_59 rfl rfl
theorem dz133_62 : decode (z_code 133) 62 = .ok (.aload_n 0, 1) := by decide +kernel
theorem u133_62 : zEv sc 133 62 [.ref a, l1, l2, l3, l4, l5] [t0] h Q ↔ zEv sc 133 63 [.ref a, l1, l2, l3, l4, l5] [.ref a, t0] h Q := zE_pure (q := (63, [.ref a, l1, l2, l3, l4, l5], [.ref a, t0])) dz133_62 rfl rfl rfl
theorem dz133_63 : decode (z_code 133) 63 = .ok (.iload_n 1, 1) := by decide +kernel
theorem u133_63 : zEv sc 133 63 [l0, .int x, l2, l3, l4, l5] [t0, t1] h Q ↔ zEv sc 133 64 [l0, .int x, l2, l3, l4, l5] [.int x, t0, t1] h Q := zE_pure (q := (64, [l0, .int x, l2, l3, l4, l5], [.int x, t0, t1])) dz133_63 rfl rfl rfl
theorem dz133_64 : decode (z_code 133) 64 = .ok (.iload 5, 2) := by decide +kernel
theorem u133_64 : zEv sc 133 64 [l0, l1, l2, l3, l4, .int x] [t0, t1, t2] h Q ↔ zEv sc 133 66 [l0, l1, l2, l3, l4, .int x] [.int x, t0, t1, t2] h Q := zE_pure (q := (66, [l0, l1, l2, l3, l4, .int x], [.int x, t0, t1, t2])) dz133_64 rfl rfl rfl
theorem dz133_66 : decode (z_code 133) 66 = .ok (.invokevirtual 61, 3) := by decide +kernel
theorem u133_66 (ho : zO a 10) : zEv sc 133 66 [l0, l1, l2, l3, l4, l5] [.int z1, .int z0, .ref a, t0] (zst p iv) Q ↔ zEv sc 103 0 [.ref a, .int z0, .int z1] [] (zst p iv) (fun r h9 => zEv sc 133 69 [l0, l1, l2, l3, l4, l5] (r.toList ++ [t0]) h9 Q) := zE_call (kd := 0) (na := 3) (nr := 1) (as := [.ref a, .int z0, .int z1]) (rest := [t0]) (Or.inl ⟨rfl, rfl⟩) dz133_66 (by decide +kernel : z_lk2 zCT (z_cls 133) 61 = some (103, 0, 824)) (fun z => by cases z) rfl rfl rfl (by decide +kernel) rfl (Or.inr (zE_rc ho))
theorem dz133_69 : decode (z_code 133) 69 = .ok (.goto 4, 3) := by decide +kernel
theorem u133_69 : zEv sc 133 69 [l0, l1, l2, l3, l4, l5] [t0, t1] h Q ↔ zEv sc 133 73 [l0, l1, l2, l3, l4, l5] [t0, t1] h Q := zE_go 73 dz133_69 rfl
theorem dz133_73 : decode (z_code 133) 73 = .ok (.iadd, 1) := by decide +kernel
theorem u133_73 : zEv sc 133 73 [l0, l1, l2, l3, l4, l5] [.int x2, .int x1] h Q ↔ zEv sc 133 74 [l0, l1, l2, l3, l4, l5] [.int (x1 + x2)] h Q := zE_pure (q := (74, [l0, l1, l2, l3, l4, l5], [.int (x1 + x2)])) dz133_73 rfl rfl rfl
theorem dz133_74 : decode (z_code 133) 74 = .ok (.istore 4, 2) := by decide +kernel
theorem u133_74 : zEv sc 133 74 [l0, l1, l2, l3, l4, l5] [.int x] h Q ↔ zEv sc 133 76 [l0, l1, l2, l3, .int x, l5] [] h Q := zE_pure (q := (76, [l0, l1, l2, l3, .int x, l5], [])) dz133_74 rfl rfl rfl
theorem dz133_76 : decode (z_code 133) 76 = .ok (.iinc 5 1, 3) := by decide +kernel
theorem u133_76 : zEv sc 133 76 [l0, l1, l2, l3, l4, .int x] [] h Q ↔ zEv sc 133 79 [l0, l1, l2, l3, l4, .int (x + 1)] [] h Q := zE_iinc (ls2 := [l0, l1, l2, l3, l4, .int (x + 1)]) dz133_76 (by decide +kernel) rfl (by simp) rfl
theorem dz133_79 : decode (z_code 133) 79 = .ok (.goto (-45), 3) := by decide +kernel
theorem u133_79 : zEv sc 133 79 [l0, l1, l2, l3, l4, l5] [] h Q ↔ zEv sc 133 34 [l0, l1, l2, l3, l4, l5] [] h Q := zE_go 34 dz133_79 rfl
theorem dz133_72 : decode (z_code 133) 72 = .ok (.iconst 0, 1) := by decide +kernel
theorem u133_72 : zEv sc 133 72 [l0, l1, l2, l3, l4, l5] [t0] h Q ↔ zEv sc 133 73 [l0, l1, l2, l3, l4, l5] [.int 0, t0] h Q := zE_iconst dz133_72 (by decide +kernel)
theorem dz133_82 : decode (z_code 133) 82 = .ok (.iload 4, 2) := by decide +kernel
theorem u133_82 : zEv sc 133 82 [l0, l1, l2, l3, .int x, l5] [] h Q ↔ zEv sc 133 84 [l0, l1, l2, l3, .int x, l5] [.int x] h Q := zE_pure (q := (84, [l0, l1, l2, l3, .int x, l5], [.int x])) dz133_82 rfl rfl rfl
theorem dz133_84 : decode (z_code 133) 84 = .ok (.ireturn, 1) := by decide +kernel
theorem u133_84 : zEv sc 133 84 [l0, l1, l2, l3, l4, l5] [.int x] h Q ↔ Q (some (.int x)) h := zE_ri dz133_84 (by decide +kernel)
theorem dz133_25 : decode (z_code 133) 25 = .ok (.ldc 31, 2) := by decide +kernel
theorem u133_25 : zEv sc 133 25 [l0, l1, l2, l3, l4, l5] [] h Q ↔ zEv sc 133 27 [l0, l1, l2, l3, l4, l5] [.int (-1000001)] h Q := zE_ldc (by decide +kernel : z_lkK zKT (z_cls 133) 31 = some ((-1000001), 744)) dz133_25
theorem dz133_27 : decode (z_code 133) 27 = .ok (.ireturn, 1) := by decide +kernel
theorem u133_27 : zEv sc 133 27 [l0, l1, l2, l3, l4, l5] [.int x] h Q ↔ Q (some (.int x)) h := zE_ri dz133_27 (by decide +kernel)
/-! method 134: FieldMixturesModel.mean(III)I -/
theorem dz134_0 : decode (z_code 134) 0 = .ok (.iload_n 1, 1) := by decide +kernel
theorem u134_0 : zEv sc 134 0 [l0, .int x, l2, l3, l4, l5] [] h Q ↔ zEv sc 134 1 [l0, .int x, l2, l3, l4, l5] [.int x] h Q := zE_pure (q := (1, [l0, .int x, l2, l3, l4, l5], [.int x])) dz134_0 rfl rfl rfl
theorem dz134_1 : decode (z_code 134) 1 = .ok (.invokestatic 124, 3) := by decide +kernel
theorem u134_1 : zEv sc 134 1 [l0, l1, l2, l3, l4, l5] [.int z0] h Q ↔ zEv sc 93 0 [.int z0] [] h (fun r h9 => zEv sc 134 4 [l0, l1, l2, l3, l4, l5] (r.toList ++ []) h9 Q) := zE_call (kd := 1) (na := 1) (nr := 0) (as := [.int z0]) (rest := []) (Or.inr ⟨rfl, rfl⟩) dz134_1 (by decide +kernel : z_lk2 zCT (z_cls 134) 124 = some (93, 0, 769)) (fun _ => by decide +kernel) rfl rfl rfl (by decide +kernel) rfl (Or.inl rfl)
theorem dz134_4 : decode (z_code 134) 4 = .ok (.ifCond .eq 20, 3) := by decide +kernel
theorem u134_4 : zEv sc 134 4 [l0, l1, l2, l3, l4, l5] [.int x] h Q ↔ (if x = 0 then zEv sc 134 24 [l0, l1, l2, l3, l4, l5] [] h Q else zEv sc 134 7 [l0, l1, l2, l3, l4, l5] [] h Q) := zE_ifP (P := x = 0) inferInstance 24 dz134_4 rfl rfl
theorem dz134_7 : decode (z_code 134) 7 = .ok (.aload_n 0, 1) := by decide +kernel
theorem u134_7 : zEv sc 134 7 [.ref a, l1, l2, l3, l4, l5] [] h Q ↔ zEv sc 134 8 [.ref a, l1, l2, l3, l4, l5] [.ref a] h Q := zE_pure (q := (8, [.ref a, l1, l2, l3, l4, l5], [.ref a])) dz134_7 rfl rfl rfl
theorem dz134_8 : decode (z_code 134) 8 = .ok (.iload_n 2, 1) := by decide +kernel
theorem u134_8 : zEv sc 134 8 [l0, l1, .int x, l3, l4, l5] [t0] h Q ↔ zEv sc 134 9 [l0, l1, .int x, l3, l4, l5] [.int x, t0] h Q := zE_pure (q := (9, [l0, l1, .int x, l3, l4, l5], [.int x, t0])) dz134_8 rfl rfl rfl
theorem dz134_9 : decode (z_code 134) 9 = .ok (.invokevirtual 117, 3) := by decide +kernel
theorem u134_9 (ho : zO a 10) : zEv sc 134 9 [l0, l1, l2, l3, l4, l5] [.int z0, .ref a] (zst p iv) Q ↔ zEv sc 94 0 [.ref a, .int z0] [] (zst p iv) (fun r h9 => zEv sc 134 12 [l0, l1, l2, l3, l4, l5] (r.toList ++ []) h9 Q) := zE_call (kd := 0) (na := 2) (nr := 0) (as := [.ref a, .int z0]) (rest := []) (Or.inl ⟨rfl, rfl⟩) dz134_9 (by decide +kernel : z_lk2 zCT (z_cls 134) 117 = some (94, 0, 757)) (fun z => by cases z) rfl rfl rfl (by decide +kernel) rfl (Or.inr (zE_rc ho))
theorem dz134_12 : decode (z_code 134) 12 = .ok (.ifCond .eq 12, 3) := by decide +kernel
theorem u134_12 : zEv sc 134 12 [l0, l1, l2, l3, l4, l5] [.int x] h Q ↔ (if x = 0 then zEv sc 134 24 [l0, l1, l2, l3, l4, l5] [] h Q else zEv sc 134 15 [l0, l1, l2, l3, l4, l5] [] h Q) := zE_ifP (P := x = 0) inferInstance 24 dz134_12 rfl rfl
theorem dz134_15 : decode (z_code 134) 15 = .ok (.iload_n 3, 1) := by decide +kernel
theorem u134_15 : zEv sc 134 15 [l0, l1, l2, .int x, l4, l5] [] h Q ↔ zEv sc 134 16 [l0, l1, l2, .int x, l4, l5] [.int x] h Q := zE_pure (q := (16, [l0, l1, l2, .int x, l4, l5], [.int x])) dz134_15 rfl rfl rfl
theorem dz134_16 : decode (z_code 134) 16 = .ok (.iconst 0, 1) := by decide +kernel
theorem u134_16 : zEv sc 134 16 [l0, l1, l2, l3, l4, l5] [t0] h Q ↔ zEv sc 134 17 [l0, l1, l2, l3, l4, l5] [.int 0, t0] h Q := zE_iconst dz134_16 (by decide +kernel)
theorem dz134_17 : decode (z_code 134) 17 = .ok (.iconst 1, 1) := by decide +kernel
theorem u134_17 : zEv sc 134 17 [l0, l1, l2, l3, l4, l5] [t0, t1] h Q ↔ zEv sc 134 18 [l0, l1, l2, l3, l4, l5] [.int 1, t0, t1] h Q := zE_iconst dz134_17 (by decide +kernel)
theorem dz134_18 : decode (z_code 134) 18 = .ok (.invokestatic 39, 3) := by decide +kernel
theorem u134_18 : zEv sc 134 18 [l0, l1, l2, l3, l4, l5] [.int z2, .int z1, .int z0] h Q ↔ zEv sc 89 0 [.int z0, .int z1, .int z2] [] h (fun r h9 => zEv sc 134 21 [l0, l1, l2, l3, l4, l5] (r.toList ++ []) h9 Q) := zE_call (kd := 1) (na := 3) (nr := 0) (as := [.int z0, .int z1, .int z2]) (rest := []) (Or.inr ⟨rfl, rfl⟩) dz134_18 (by decide +kernel : z_lk2 zCT (z_cls 134) 39 = some (89, 0, 734)) (fun _ => by decide +kernel) rfl rfl rfl (by decide +kernel) rfl (Or.inl rfl)
theorem dz134_21 : decode (z_code 134) 21 = .ok (.ifCond .ne 6, 3) := by decide +kernel
theorem u134_21 : zEv sc 134 21 [l0, l1, l2, l3, l4, l5] [.int x] h Q ↔ (if ¬ x = 0 then zEv sc 134 27 [l0, l1, l2, l3, l4, l5] [] h Q else zEv sc 134 24 [l0, l1, l2, l3, l4, l5] [] h Q) := zE_ifP (P := ¬ x = 0) inferInstance 27 dz134_21 rfl rfl
theorem dz134_27 : decode (z_code 134) 27 = .ok (.aload_n 0, 1) := by decide +kernel
theorem u134_27 : zEv sc 134 27 [.ref a, l1, l2, l3, l4, l5] [] h Q ↔ zEv sc 134 28 [.ref a, l1, l2, l3, l4, l5] [.ref a] h Q := zE_pure (q := (28, [.ref a, l1, l2, l3, l4, l5], [.ref a])) dz134_27 rfl rfl rfl
theorem dz134_28 : decode (z_code 134) 28 = .ok (.iload_n 1, 1) := by decide +kernel
theorem u134_28 : zEv sc 134 28 [l0, .int x, l2, l3, l4, l5] [t0] h Q ↔ zEv sc 134 29 [l0, .int x, l2, l3, l4, l5] [.int x, t0] h Q := zE_pure (q := (29, [l0, .int x, l2, l3, l4, l5], [.int x, t0])) dz134_28 rfl rfl rfl
theorem dz134_29 : decode (z_code 134) 29 = .ok (.invokevirtual 58, 3) := by decide +kernel
theorem u134_29 (ho : zO a 10) : zEv sc 134 29 [l0, l1, l2, l3, l4, l5] [.int z0, .ref a] (zst p iv) Q ↔ zEv sc 101 0 [.ref a, .int z0] [] (zst p iv) (fun r h9 => zEv sc 134 32 [l0, l1, l2, l3, l4, l5] (r.toList ++ []) h9 Q) := zE_call (kd := 0) (na := 2) (nr := 0) (as := [.ref a, .int z0]) (rest := []) (Or.inl ⟨rfl, rfl⟩) dz134_29 (by decide +kernel : z_lk2 zCT (z_cls 134) 58 = some (101, 0, 776)) (fun z => by cases z) rfl rfl rfl (by decide +kernel) rfl (Or.inr (zE_rc ho))
theorem dz134_32 : decode (z_code 134) 32 = .ok (.ifCond .ne 6, 3) := by decide +kernel
theorem u134_32 : zEv sc 134 32 [l0, l1, l2, l3, l4, l5] [.int x] h Q ↔ (if ¬ x = 0 then zEv sc 134 38 [l0, l1, l2, l3, l4, l5] [] h Q else zEv sc 134 35 [l0, l1, l2, l3, l4, l5] [] h Q) := zE_ifP (P := ¬ x = 0) inferInstance 38 dz134_32 rfl rfl
theorem dz134_35 : decode (z_code 134) 35 = .ok (.ldc 101, 2) := by decide +kernel
theorem u134_35 : zEv sc 134 35 [l0, l1, l2, l3, l4, l5] [] h Q ↔ zEv sc 134 37 [l0, l1, l2, l3, l4, l5] [.int (-1000002)] h Q := zE_ldc (by decide +kernel : z_lkK zKT (z_cls 134) 101 = some ((-1000002), 833)) dz134_35
theorem dz134_37 : decode (z_code 134) 37 = .ok (.ireturn, 1) := by decide +kernel
theorem u134_37 : zEv sc 134 37 [l0, l1, l2, l3, l4, l5] [.int x] h Q ↔ Q (some (.int x)) h := zE_ri dz134_37 (by decide +kernel)
theorem dz134_38 : decode (z_code 134) 38 = .ok (.iconst 0, 1) := by decide +kernel
theorem u134_38 : zEv sc 134 38 [l0, l1, l2, l3, l4, l5] [] h Q ↔ zEv sc 134 39 [l0, l1, l2, l3, l4, l5] [.int 0] h Q := zE_iconst dz134_38 (by decide +kernel)
theorem dz134_39 : decode (z_code 134) 39 = .ok (.istore 4, 2) := by decide +kernel
theorem u134_39 : zEv sc 134 39 [l0, l1, l2, l3, l4, l5] [.int x] h Q ↔ zEv sc 134 41 [l0, l1, l2, l3, .int x, l5] [] h Q := zE_pure (q := (41, [l0, l1, l2, l3, .int x, l5], [])) dz134_39 rfl rfl rfl
theorem dz134_41 : decode (z_code 134) 41 = .ok (.iconst 0, 1) := by decide +kernel
theorem u134_41 : zEv sc 134 41 [l0, l1, l2, l3, l4, l5] [] h Q ↔ zEv sc 134 42 [l0, l1, l2, l3, l4, l5] [.int 0] h Q := zE_iconst dz134_41 (by decide +kernel)
theorem dz134_42 : decode (z_code 134) 42 = .ok (.istore 5, 2) := by decide +kernel
theorem u134_42 : zEv sc 134 42 [l0, l1, l2, l3, l4, l5] [.int x] h Q ↔ zEv sc 134 44 [l0, l1, l2, l3, l4, .int x] [] h Q := zE_pure (q := (44, [l0, l1, l2, l3, l4, .int x], [])) dz134_42 rfl rfl rfl
theorem dz134_44 : decode (z_code 134) 44 = .ok (.iload 5, 2) := by decide +kernel
theorem u134_44 : zEv sc 134 44 [l0, l1, l2, l3, l4, .int x] [] h Q ↔ zEv sc 134 46 [l0, l1, l2, l3, l4, .int x] [.int x] h Q := zE_pure (q := (46, [l0, l1, l2, l3, l4, .int x], [.int x])) dz134_44 rfl rfl rfl
theorem dz134_46 : decode (z_code 134) 46 = .ok (.aload_n 0, 1) := by decide +kernel
theorem u134_46 : zEv sc 134 46 [.ref a, l1, l2, l3, l4, l5] [t0] h Q ↔ zEv sc 134 47 [.ref a, l1, l2, l3, l4, l5] [.ref a, t0] h Q := zE_pure (q := (47, [.ref a, l1, l2, l3, l4, l5], [.ref a, t0])) dz134_46 rfl rfl rfl
theorem dz134_47 : decode (z_code 134) 47 = .ok (.iload_n 1, 1) := by decide +kernel
theorem u134_47 : zEv sc 134 47 [l0, .int x, l2, l3, l4, l5] [t0, t1] h Q ↔ zEv sc 134 48 [l0, .int x, l2, l3, l4, l5] [.int x, t0, t1] h Q := zE_pure (q := (48, [l0, .int x, l2, l3, l4, l5], [.int x, t0, t1])) dz134_47 rfl rfl rfl
theorem dz134_48 : decode (z_code 134) 48 = .ok (.invokevirtual 58, 3) := by decide +kernel
theorem u134_48 (ho : zO a 10) : zEv sc 134 48 [l0, l1, l2, l3, l4, l5] [.int z0, .ref a, t0] (zst p iv) Q ↔ zEv sc 101 0 [.ref a, .int z0] [] (zst p iv) (fun r h9 => zEv sc 134 51 [l0, l1, l2, l3, l4, l5] (r.toList ++ [t0]) h9 Q) := zE_call (kd := 0) (na := 2) (nr := 1) (as := [.ref a, .int z0]) (rest := [t0]) (Or.inl ⟨rfl, rfl⟩) dz134_48 (by decide +kernel : z_lk2 zCT (z_cls 134) 58 = some (101, 0, 776)) (fun z => by cases z) rfl rfl rfl (by decide +kernel) rfl (Or.inr (zE_rc ho))
theorem dz134_51 : decode (z_code 134) 51 = .ok (.if_icmp .ge 34, 3) := by decide +kernel
theorem u134_51 : zEv sc 134 51 [l0, l1, l2, l3, l4, l5] [.int x2, .int x1] h Q ↔ (if x2 ≤ x1 then zEv sc 134 85 [l0, l1, l2, l3, l4, l5] [] h Q else zEv sc 134 54 [l0, l1, l2, l3, l4, l5] [] h Q) := zE_icP (P := x2 ≤ x1) inferInstance 85 dz134_51 rfl rfl
theorem dz134_54 : decode (z_code 134) 54 = .ok (.iload 4, 2) := by decide +kernel
theorem u134_54 : zEv sc 134 54 [l0, l1, l2, l3, .int x, l5] [] h Q ↔ zEv sc 134 56 [l0, l1, l2, l3, .int x, l5] [.int x] h Q := zE_pure (q := (56, [l0, l1, l2, l3, .int x, l5], [.int x])) dz134_54 rfl rfl rfl
theorem dz134_56 : decode (z_code 134) 56 = .ok (.aload_n 0, 1) := by decide +kernel
theorem u134_56 : zEv sc 134 56 [.ref a, l1, l2, l3, l4, l5] [t0] h Q ↔ zEv sc 134 57 [.ref a, l1, l2, l3, l4, l5] [.ref a, t0] h Q := zE_pure (q := (57, [.ref a, l1, l2, l3, l4, l5], [.ref a, t0])) dz134_56 rfl rfl rfl
theorem dz134_57 : decode (z_code 134) 57 = .ok (.aload_n 0, 1) := by decide +kernel
theorem u134_57 : zEv sc 134 57 [.ref a, l1, l2, l3, l4, l5] [t0, t1] h Q ↔ zEv sc 134 58 [.ref a, l1, l2, l3, l4, l5] [.ref a, t0, t1] h Q := zE_pure (q := (58, [.ref a, l1, l2, l3, l4, l5], [.ref a, t0, t1])) dz134_57 rfl rfl rfl
theorem dz134_58 : decode (z_code 134) 58 = .ok (.iload_n 1, 1) := by decide +kernel
theorem u134_58 : zEv sc 134 58 [l0, .int x, l2, l3, l4, l5] [t0, t1, t2] h Q ↔ zEv sc 134 59 [l0, .int x, l2, l3, l4, l5] [.int x, t0, t1, t2] h Q := zE_pure (q := (59, [l0, .int x, l2, l3, l4, l5], [.int x, t0, t1, t2])) dz134_58 rfl rfl rfl
theorem dz134_59 : decode (z_code 134) 59 = .ok (.iload 5, 2) := by decide +kernel
theorem u134_59 : zEv sc 134 59 [l0, l1, l2, l3, l4, .int x] [t0, t1, t2, t3] h Q ↔ zEv sc 134 61 [l0, l1, l2, l3, l4, .int x] [.int x, t0, t1, t2, t3] h Q := zE_pure (q := (61, [l0, l1, l2, l3, l4, .int x], [.int x, t0, t1, t2, t3])) dz134_59 rfl rfl rfl
theorem dz134_61 : decode (z_code 134) 61 = .ok (.invokevirtual 64, 3) := by decide +kernel
theorem u134_61 (ho : zO a 10) : zEv sc 134 61 [l0, l1, l2, l3, l4, l5] [.int z1, .int z0, .ref a, t0, t1] (zst p iv) Q ↔ zEv sc 102 0 [.ref a, .int z0, .int z1] [] (zst p iv) (fun r h9 => zEv sc 134 64 [l0, l1, l2, l3, l4, l5] (r.toList ++ [t0, t1]) h9 Q) := zE_call (kd := 0) (na := 3) (nr := 2) (as := [.ref a, .int z0, .int z1]) (rest := [t0, t1]) (Or.inl ⟨rfl, rfl⟩) dz134_61 (by decide +kernel : z_lk2 zCT (z_cls 134) 64 = some (102, 0, 780)) (fun z => by cases z) rfl rfl rfl (by decide +kernel) rfl (Or.inr (zE_rc ho))
theorem dz134_64 : decode (z_code 134) 64 = .ok (.iload_n 2, 1) := by decide +kernel
theorem u134_64 : zEv sc 134 64 [l0, l1, .int x, l3, l4, l5] [t0, t1, t2] h Q ↔ zEv sc 134 65 [l0, l1, .int x, l3, l4, l5] [.int x, t0, t1, t2] h Q := zE_pure (q := (65, [l0, l1, .int x, l3, l4, l5], [.int x, t0, t1, t2])) dz134_64 rfl rfl rfl
theorem dz134_65 : decode (z_code 134) 65 = .ok (.invokevirtual 43, 3) := by decide +kernel
theorem u134_65 (ho : zO a 10) : zEv sc 134 65 [l0, l1, l2, l3, l4, l5] [.int z1, .int z0, .ref a, t0] (zst p iv) Q ↔ zEv sc 95 0 [.ref a, .int z0, .int z1, .null, .null] [] (zst p iv) (fun r h9 => zEv sc 134 68 [l0, l1, l2, l3, l4, l5] (r.toList ++ [t0]) h9 Q) := zE_call (kd := 0) (na := 3) (nr := 1) (as := [.ref a, .int z0, .int z1]) (rest := [t0]) (Or.inl ⟨rfl, rfl⟩) dz134_65 (by decide +kernel : z_lk2 zCT (z_cls 134) 43 = some (95, 0, 788)) (fun z => by cases z) rfl rfl rfl (by decide +kernel) rfl (Or.inr (zE_rc ho))
theorem dz134_68 : decode (z_code 134) 68 = .ok (.aload_n 0, 1) := by decide +kernel
theorem u134_68 : zEv sc 134 68 [.ref a, l1, l2, l3, l4, l5] [t0, t1] h Q ↔ zEv sc 134 69 [.ref a, l1, l2, l3, l4, l5] [.ref a, t0, t1] h Q := zE_pure (q := (69, [.ref a, l1, l2, l3, l4, l5], [.ref a, t0, t1])) dz134_68 rfl rfl rfl
theorem dz134_69 : decode (z_code 134) 69 = .ok (.iload_n 1, 1) := by decide +kernel
theorem u134_69 : zEv sc 134 69 [l0, .int x, l2, l3, l4, l5] [t0, t1, t2] h Q ↔ zEv sc 134 70 [l0, .int x, l2, l3, l4, l5] [.int x, t0, t1, t2] h Q := zE_pure (q := (70, [l0, .int x, l2, l3, l4, l5], [.int x, t0, t1, t2])) dz134_69 rfl rfl rfl
theorem dz134_70 : decode (z_code 134) 70 = .ok (.iload 5, 2) := by decide +kernel
theorem u134_70 : zEv sc 134 70 [l0, l1, l2, l3, l4, .int x] [t0, t1, t2, t3] h Q ↔ zEv sc 134 72 [l0, l1, l2, l3, l4, .int x] [.int x, t0, t1, t2, t3] h Q := zE_pure (q := (72, [l0, l1, l2, l3, l4, .int x], [.int x, t0, t1, t2, t3])) dz134_70 rfl rfl rfl
theorem dz134_72 : decode (z_code 134) 72 = .ok (.invokevirtual 61, 3) := by decide +kernel
theorem u134_72 (ho : zO a 10) : zEv sc 134 72 [l0, l1, l2, l3, l4, l5] [.int z1, .int z0, .ref a, t0, t1] (zst p iv) Q ↔ zEv sc 103 0 [.ref a, .int z0, .int z1] [] (zst p iv) (fun r h9 => zEv sc 134 75 [l0, l1, l2, l3, l4, l5] (r.toList ++ [t0, t1]) h9 Q) := zE_call (kd := 0) (na := 3) (nr := 2) (as := [.ref a, .int z0, .int z1]) (rest := [t0, t1]) (Or.inl ⟨rfl, rfl⟩) dz134_72 (by decide +kernel : z_lk2 zCT (z_cls 134) 61 = some (103, 0, 824)) (fun z => by cases z) rfl rfl rfl (by decide +kernel) rfl (Or.inr (zE_rc ho))
theorem dz134_75 : decode (z_code 134) 75 = .ok (.imul, 1) := by decide +kernel
theorem u134_75 : zEv sc 134 75 [l0, l1, l2, l3, l4, l5] [.int x2, .int x1, t0] h Q ↔ zEv sc 134 76 [l0, l1, l2, l3, l4, l5] [.int (x1 * x2), t0] h Q := zE_pure (q := (76, [l0, l1, l2, l3, l4, l5], [.int (x1 * x2), t0])) dz134_75 rfl rfl rfl
theorem dz134_76 : decode (z_code 134) 76 = .ok (.iadd, 1) := by decide +kernel
theorem u134_76 : zEv sc 134 76 [l0, l1, l2, l3, l4, l5] [.int x2, .int x1] h Q ↔ zEv sc 134 77 [l0, l1, l2, l3, l4, l5] [.int (x1 + x2)] h Q := zE_pure (q := (77, [l0, l1, l2, l3, l4, l5], [.int (x1 + x2)])) dz134_76 rfl rfl rfl
theorem dz134_77 : decode (z_code 134) 77 = .ok (.istore 4, 2) := by decide +kernel
theorem u134_77 : zEv sc 134 77 [l0, l1, l2, l3, l4, l5] [.int x] h Q ↔ zEv sc 134 79 [l0, l1, l2, l3, .int x, l5] [] h Q := zE_pure (q := (79, [l0, l1, l2, l3, .int x, l5], [])) dz134_77 rfl rfl rfl
theorem dz134_79 : decode (z_code 134) 79 = .ok (.iinc 5 1, 3) := by decide +kernel
theorem u134_79 : zEv sc 134 79 [l0, l1, l2, l3, l4, .int x] [] h Q ↔ zEv sc 134 82 [l0, l1, l2, l3, l4, .int (x + 1)] [] h Q := zE_iinc (ls2 := [l0, l1, l2, l3, l4, .int (x + 1)]) dz134_79 (by decide +kernel) rfl (by simp) rfl
theorem dz134_82 : decode (z_code 134) 82 = .ok (.goto (-38), 3) := by decide +kernel
theorem u134_82 : zEv sc 134 82 [l0, l1, l2, l3, l4, l5] [] h Q ↔ zEv sc 134 44 [l0, l1, l2, l3, l4, l5] [] h Q := zE_go 44 dz134_82 rfl
theorem dz134_85 : decode (z_code 134) 85 = .ok (.iload 4, 2) := by decide +kernel
theorem u134_85 : zEv sc 134 85 [l0, l1, l2, l3, .int x, l5] [] h Q ↔ zEv sc 134 87 [l0, l1, l2, l3, .int x, l5] [.int x] h Q := zE_pure (q := (87, [l0, l1, l2, l3, .int x, l5], [.int x])) dz134_85 rfl rfl rfl
theorem dz134_87 : decode (z_code 134) 87 = .ok (.aload_n 0, 1) := by decide +kernel
theorem u134_87 : zEv sc 134 87 [.ref a, l1, l2, l3, l4, l5] [t0] h Q ↔ zEv sc 134 88 [.ref a, l1, l2, l3, l4, l5] [.ref a, t0] h Q := zE_pure (q := (88, [.ref a, l1, l2, l3, l4, l5], [.ref a, t0])) dz134_87 rfl rfl rfl
theorem dz134_88 : decode (z_code 134) 88 = .ok (.iload_n 1, 1) := by decide +kernel
theorem u134_88 : zEv sc 134 88 [l0, .int x, l2, l3, l4, l5] [t0, t1] h Q ↔ zEv sc 134 89 [l0, .int x, l2, l3, l4, l5] [.int x, t0, t1] h Q := zE_pure (q := (89, [l0, .int x, l2, l3, l4, l5], [.int x, t0, t1])) dz134_88 rfl rfl rfl
theorem dz134_89 : decode (z_code 134) 89 = .ok (.invokevirtual 140, 3) := by decide +kernel
theorem u134_89 (ho : zO a 10) : zEv sc 134 89 [l0, l1, l2, l3, l4, l5] [.int z0, .ref a, t0] (zst p iv) Q ↔ zEv sc 104 0 [.ref a, .int z0, .null, .null] [] (zst p iv) (fun r h9 => zEv sc 134 92 [l0, l1, l2, l3, l4, l5] (r.toList ++ [t0]) h9 Q) := zE_call (kd := 0) (na := 2) (nr := 1) (as := [.ref a, .int z0]) (rest := [t0]) (Or.inl ⟨rfl, rfl⟩) dz134_89 (by decide +kernel : z_lk2 zCT (z_cls 134) 140 = some (104, 0, 887)) (fun z => by cases z) rfl rfl rfl (by decide +kernel) rfl (Or.inr (zE_rc ho))
theorem dz134_92 : decode (z_code 134) 92 = .ok (.iload_n 3, 1) := by decide +kernel
theorem u134_92 : zEv sc 134 92 [l0, l1, l2, .int x, l4, l5] [t0, t1] h Q ↔ zEv sc 134 93 [l0, l1, l2, .int x, l4, l5] [.int x, t0, t1] h Q := zE_pure (q := (93, [l0, l1, l2, .int x, l4, l5], [.int x, t0, t1])) dz134_92 rfl rfl rfl
theorem dz134_93 : decode (z_code 134) 93 = .ok (.invokestatic 143, 3) := by decide +kernel
theorem u134_93 : zEv sc 134 93 [l0, l1, l2, l3, l4, l5] [.int z2, .int z1, .int z0] h Q ↔ zEv sc 113 0 [.int z0, .int z1, .int z2, .null] [] h (fun r h9 => zEv sc 134 96 [l0, l1, l2, l3, l4, l5] (r.toList ++ []) h9 Q) := zE_call (kd := 1) (na := 3) (nr := 0) (as := [.int z0, .int z1, .int z2]) (rest := []) (Or.inr ⟨rfl, rfl⟩) dz134_93 (by decide +kernel : z_lk2 zCT (z_cls 134) 143 = some (113, 0, 891)) (fun _ => by decide +kernel) rfl rfl rfl (by decide +kernel) rfl (Or.inl rfl)
theorem dz134_96 : decode (z_code 134) 96 = .ok (.ireturn, 1) := by decide +kernel
theorem u134_96 : zEv sc 134 96 [l0, l1, l2, l3, l4, l5] [.int x] h Q ↔ Q (some (.int x)) h := zE_ri dz134_96 (by decide +kernel)
theorem dz134_24 : decode (z_code 134) 24 = .ok (.ldc 31, 2) := by decide +kernel
theorem u134_24 : zEv sc 134 24 [l0, l1, l2, l3, l4, l5] [] h Q ↔ zEv sc 134 26 [l0, l1, l2, l3, l4, l5] [.int (-1000001)] h Q := zE_ldc (by decide +kernel : z_lkK zKT (z_cls 134) 31 = some ((-1000001), 744)) dz134_24
theorem dz134_26 : decode (z_code 134) 26 = .ok (.ireturn, 1) := by decide +kernel
theorem u134_26 : zEv sc 134 26 [l0, l1, l2, l3, l4, l5] [.int x] h Q ↔ Q (some (.int x)) h := zE_ri dz134_26 (by decide +kernel)
/-! method 135: FieldMixturesModel.areMixed()Z -/
theorem dz135_0 : decode (z_code 135) 0 = .ok (.aload_n 0, 1) := by decide +kernel
theorem u135_0 : zEv sc 135 0 [.ref a] [] h Q ↔ zEv sc 135 1 [.ref a] [.ref a] h Q := zE_pure (q := (1, [.ref a], [.ref a])) dz135_0 rfl rfl rfl
theorem dz135_1 : decode (z_code 135) 1 = .ok (.iconst 0, 1) := by decide +kernel
theorem u135_1 : zEv sc 135 1 [l0] [t0] h Q ↔ zEv sc 135 2 [l0] [.int 0, t0] h Q := zE_iconst dz135_1 (by decide +kernel)
theorem dz135_2 : decode (z_code 135) 2 = .ok (.invokevirtual 58, 3) := by decide +kernel
theorem u135_2 (ho : zO a 10) : zEv sc 135 2 [l0] [.int z0, .ref a] (zst p iv) Q ↔ zEv sc 101 0 [.ref a, .int z0] [] (zst p iv) (fun r h9 => zEv sc 135 5 [l0] (r.toList ++ []) h9 Q) := zE_call (kd := 0) (na := 2) (nr := 0) (as := [.ref a, .int z0]) (rest := []) (Or.inl ⟨rfl, rfl⟩) dz135_2 (by decide +kernel : z_lk2 zCT (z_cls 135) 58 = some (101, 0, 776)) (fun z => by cases z) rfl rfl rfl (by decide +kernel) rfl (Or.inr (zE_rc ho))
theorem dz135_5 : decode (z_code 135) 5 = .ok (.ifCond .le 15, 3) := by decide +kernel
theorem u135_5 : zEv sc 135 5 [l0] [.int x] h Q ↔ (if x ≤ 0 then zEv sc 135 20 [l0] [] h Q else zEv sc 135 8 [l0] [] h Q) := zE_ifP (P := x ≤ 0) inferInstance 20 dz135_5 rfl rfl
theorem dz135_8 : decode (z_code 135) 8 = .ok (.aload_n 0, 1) := by decide +kernel
theorem u135_8 : zEv sc 135 8 [.ref a] [] h Q ↔ zEv sc 135 9 [.ref a] [.ref a] h Q := zE_pure (q := (9, [.ref a], [.ref a])) dz135_8 rfl rfl rfl
theorem dz135_9 : decode (z_code 135) 9 = .ok (.iconst 1, 1) := by decide +kernel
theorem u135_9 : zEv sc 135 9 [l0] [t0] h Q ↔ zEv sc 135 10 [l0] [.int 1, t0] h Q := zE_iconst dz135_9 (by decide +kernel)
theorem dz135_10 : decode (z_code 135) 10 = .ok (.invokevirtual 58, 3) := by decide +kernel
theorem u135_10 (ho : zO a 10) : zEv sc 135 10 [l0] [.int z0, .ref a] (zst p iv) Q ↔ zEv sc 101 0 [.ref a, .int z0] [] (zst p iv) (fun r h9 => zEv sc 135 13 [l0] (r.toList ++ []) h9 Q) := zE_call (kd := 0) (na := 2) (nr := 0) (as := [.ref a, .int z0]) (rest := []) (Or.inl ⟨rfl, rfl⟩) dz135_10 (by decide +kernel : z_lk2 zCT (z_cls 135) 58 = some (101, 0, 776)) (fun z => by cases z) rfl rfl rfl (by decide +kernel) rfl (Or.inr (zE_rc ho))
theorem dz135_13 : decode (z_code 135) 13 = .ok (.ifCond .le 7, 3) := by decide +kernel
theorem u135_13 : zEv sc 135 13 [l0] [.int x] h Q ↔ (if x ≤ 0 then zEv sc 135 20 [l0] [] h Q else zEv sc 135 16 [l0] [] h Q) := zE_ifP (P := x ≤ 0) inferInstance 20 dz135_13 rfl rfl
theorem dz135_16 : decode (z_code 135) 16 = .ok (.iconst 1, 1) := by decide +kernel
theorem u135_16 : zEv sc 135 16 [l0] [] h Q ↔ zEv sc 135 17 [l0] [.int 1] h Q := zE_iconst dz135_16 (by decide +kernel)
theorem dz135_17 : decode (z_code 135) 17 = .ok (.goto 4, 3) := by decide +kernel
theorem u135_17 : zEv sc 135 17 [l0] [t0] h Q ↔ zEv sc 135 21 [l0] [t0] h Q := zE_go 21 dz135_17 rfl
theorem dz135_21 : decode (z_code 135) 21 = .ok (.ireturn, 1) := by decide +kernel
theorem u135_21 : zEv sc 135 21 [l0] [.int x] h Q ↔ ((x = 0 ∨ x = 1) ∧ Q (some (.int x)) h) := zE_rz dz135_21 (by decide +kernel)
theorem dz135_20 : decode (z_code 135) 20 = .ok (.iconst 0, 1) := by decide +kernel
theorem u135_20 : zEv sc 135 20 [l0] [] h Q ↔ zEv sc 135 21 [l0] [.int 0] h Q := zE_iconst dz135_20 (by decide +kernel)
/-! method 136: FieldMixturesModel.expected(I)I -/
theorem dz136_0 : decode (z_code 136) 0 = .ok (.iload_n 1, 1) := by decide +kernel
theorem u136_0 : zEv sc 136 0 [l0, .int x] [] h Q ↔ zEv sc 136 1 [l0, .int x] [.int x] h Q := zE_pure (q := (1, [l0, .int x], [.int x])) dz136_0 rfl rfl rfl
theorem dz136_1 : decode (z_code 136) 1 = .ok (.iconst 0, 1) := by decide +kernel
theorem u136_1 : zEv sc 136 1 [l0, l1] [t0] h Q ↔ zEv sc 136 2 [l0, l1] [.int 0, t0] h Q := zE_iconst dz136_1 (by decide +kernel)
theorem dz136_2 : decode (z_code 136) 2 = .ok (.iconst 1, 1) := by decide +kernel
theorem u136_2 : zEv sc 136 2 [l0, l1] [t0, t1] h Q ↔ zEv sc 136 3 [l0, l1] [.int 1, t0, t1] h Q := zE_iconst dz136_2 (by decide +kernel)
theorem dz136_3 : decode (z_code 136) 3 = .ok (.invokestatic 39, 3) := by decide +kernel
theorem u136_3 : zEv sc 136 3 [l0, l1] [.int z2, .int z1, .int z0] h Q ↔ zEv sc 89 0 [.int z0, .int z1, .int z2] [] h (fun r h9 => zEv sc 136 6 [l0, l1] (r.toList ++ []) h9 Q) := zE_call (kd := 1) (na := 3) (nr := 0) (as := [.int z0, .int z1, .int z2]) (rest := []) (Or.inr ⟨rfl, rfl⟩) dz136_3 (by decide +kernel : z_lk2 zCT (z_cls 136) 39 = some (89, 0, 734)) (fun _ => by decide +kernel) rfl rfl rfl (by decide +kernel) rfl (Or.inl rfl)
theorem dz136_6 : decode (z_code 136) 6 = .ok (.ifCond .ne 6, 3) := by decide +kernel
theorem u136_6 : zEv sc 136 6 [l0, l1] [.int x] h Q ↔ (if ¬ x = 0 then zEv sc 136 12 [l0, l1] [] h Q else zEv sc 136 9 [l0, l1] [] h Q) := zE_ifP (P := ¬ x = 0) inferInstance 12 dz136_6 rfl rfl
theorem dz136_9 : decode (z_code 136) 9 = .ok (.ldc 31, 2) := by decide +kernel
theorem u136_9 : zEv sc 136 9 [l0, l1] [] h Q ↔ zEv sc 136 11 [l0, l1] [.int (-1000001)] h Q := zE_ldc (by decide +kernel : z_lkK zKT (z_cls 136) 31 = some ((-1000001), 744)) dz136_9
theorem dz136_11 : decode (z_code 136) 11 = .ok (.ireturn, 1) := by decide +kernel
theorem u136_11 : zEv sc 136 11 [l0, l1] [.int x] h Q ↔ Q (some (.int x)) h := zE_ri dz136_11 (by decide +kernel)
theorem dz136_12 : decode (z_code 136) 12 = .ok (.aload_n 0, 1) := by decide +kernel
theorem u136_12 : zEv sc 136 12 [.ref a, l1] [] h Q ↔ zEv sc 136 13 [.ref a, l1] [.ref a] h Q := zE_pure (q := (13, [.ref a, l1], [.ref a])) dz136_12 rfl rfl rfl
theorem dz136_13 : decode (z_code 136) 13 = .ok (.invokevirtual 146, 3) := by decide +kernel
theorem u136_13 (ho : zO a 10) : zEv sc 136 13 [l0, l1] [.ref a] (zst p iv) Q ↔ zEv sc 135 0 [.ref a] [] (zst p iv) (fun r h9 => zEv sc 136 16 [l0, l1] (r.toList ++ []) h9 Q) := zE_call (kd := 0) (na := 1) (nr := 0) (as := [.ref a]) (rest := []) (Or.inl ⟨rfl, rfl⟩) dz136_13 (by decide +kernel : z_lk2 zCT (z_cls 136) 146 = some (135, 0, 910)) (fun z => by cases z) rfl rfl rfl (by decide +kernel) rfl (Or.inr (zE_rc ho))
theorem dz136_16 : decode (z_code 136) 16 = .ok (.ifCond .eq 26, 3) := by decide +kernel
theorem u136_16 : zEv sc 136 16 [l0, l1] [.int x] h Q ↔ (if x = 0 then zEv sc 136 42 [l0, l1] [] h Q else zEv sc 136 19 [l0, l1] [] h Q) := zE_ifP (P := x = 0) inferInstance 42 dz136_16 rfl rfl
theorem dz136_19 : decode (z_code 136) 19 = .ok (.aload_n 0, 1) := by decide +kernel
theorem u136_19 : zEv sc 136 19 [.ref a, l1] [] h Q ↔ zEv sc 136 20 [.ref a, l1] [.ref a] h Q := zE_pure (q := (20, [.ref a, l1], [.ref a])) dz136_19 rfl rfl rfl
theorem dz136_20 : decode (z_code 136) 20 = .ok (.iconst 0, 1) := by decide +kernel
theorem u136_20 : zEv sc 136 20 [l0, l1] [t0] h Q ↔ zEv sc 136 21 [l0, l1] [.int 0, t0] h Q := zE_iconst dz136_20 (by decide +kernel)
theorem dz136_21 : decode (z_code 136) 21 = .ok (.invokevirtual 150, 3) := by decide +kernel
theorem u136_21 (ho : zO a 10) : zEv sc 136 21 [l0, l1] [.int z0, .ref a] (zst p iv) Q ↔ zEv sc 111 0 [.ref a, .int z0, .null, .null] [] (zst p iv) (fun r h9 => zEv sc 136 24 [l0, l1] (r.toList ++ []) h9 Q) := zE_call (kd := 0) (na := 2) (nr := 0) (as := [.ref a, .int z0]) (rest := []) (Or.inl ⟨rfl, rfl⟩) dz136_21 (by decide +kernel : z_lk2 zCT (z_cls 136) 150 = some (111, 0, 914)) (fun z => by cases z) rfl rfl rfl (by decide +kernel) rfl (Or.inr (zE_rc ho))
theorem dz136_24 : decode (z_code 136) 24 = .ok (.aload_n 0, 1) := by decide +kernel
theorem u136_24 : zEv sc 136 24 [.ref a, l1] [t0] h Q ↔ zEv sc 136 25 [.ref a, l1] [.ref a, t0] h Q := zE_pure (q := (25, [.ref a, l1], [.ref a, t0])) dz136_24 rfl rfl rfl
theorem dz136_25 : decode (z_code 136) 25 = .ok (.iconst 0, 1) := by decide +kernel
theorem u136_25 : zEv sc 136 25 [l0, l1] [t0, t1] h Q ↔ zEv sc 136 26 [l0, l1] [.int 0, t0, t1] h Q := zE_iconst dz136_25 (by decide +kernel)
theorem dz136_26 : decode (z_code 136) 26 = .ok (.invokevirtual 140, 3) := by decide +kernel
theorem u136_26 (ho : zO a 10) : zEv sc 136 26 [l0, l1] [.int z0, .ref a, t0] (zst p iv) Q ↔ zEv sc 104 0 [.ref a, .int z0, .null, .null] [] (zst p iv) (fun r h9 => zEv sc 136 29 [l0, l1] (r.toList ++ [t0]) h9 Q) := zE_call (kd := 0) (na := 2) (nr := 1) (as := [.ref a, .int z0]) (rest := [t0]) (Or.inl ⟨rfl, rfl⟩) dz136_26 (by decide +kernel : z_lk2 zCT (z_cls 136) 140 = some (104, 0, 887)) (fun z => by cases z) rfl rfl rfl (by decide +kernel) rfl (Or.inr (zE_rc ho))
theorem dz136_29 : decode (z_code 136) 29 = .ok (.aload_n 0, 1) := by decide +kernel
theorem u136_29 : zEv sc 136 29 [.ref a, l1] [t0, t1] h Q ↔ zEv sc 136 30 [.ref a, l1] [.ref a, t0, t1] h Q := zE_pure (q := (30, [.ref a, l1], [.ref a, t0, t1])) dz136_29 rfl rfl rfl
theorem dz136_30 : decode (z_code 136) 30 = .ok (.iconst 1, 1) := by decide +kernel
theorem u136_30 : zEv sc 136 30 [l0, l1] [t0, t1, t2] h Q ↔ zEv sc 136 31 [l0, l1] [.int 1, t0, t1, t2] h Q := zE_iconst dz136_30 (by decide +kernel)
theorem dz136_31 : decode (z_code 136) 31 = .ok (.invokevirtual 140, 3) := by decide +kernel
theorem u136_31 (ho : zO a 10) : zEv sc 136 31 [l0, l1] [.int z0, .ref a, t0, t1] (zst p iv) Q ↔ zEv sc 104 0 [.ref a, .int z0, .null, .null] [] (zst p iv) (fun r h9 => zEv sc 136 34 [l0, l1] (r.toList ++ [t0, t1]) h9 Q) := zE_call (kd := 0) (na := 2) (nr := 2) (as := [.ref a, .int z0]) (rest := [t0, t1]) (Or.inl ⟨rfl, rfl⟩) dz136_31 (by decide +kernel : z_lk2 zCT (z_cls 136) 140 = some (104, 0, 887)) (fun z => by cases z) rfl rfl rfl (by decide +kernel) rfl (Or.inr (zE_rc ho))
theorem dz136_34 : decode (z_code 136) 34 = .ok (.imul, 1) := by decide +kernel
theorem u136_34 : zEv sc 136 34 [l0, l1] [.int x2, .int x1, t0] h Q ↔ zEv sc 136 35 [l0, l1] [.int (x1 * x2), t0] h Q := zE_pure (q := (35, [l0, l1], [.int (x1 * x2), t0])) dz136_34 rfl rfl rfl
theorem dz136_35 : decode (z_code 136) 35 = .ok (.iload_n 1, 1) := by decide +kernel
theorem u136_35 : zEv sc 136 35 [l0, .int x] [t0, t1] h Q ↔ zEv sc 136 36 [l0, .int x] [.int x, t0, t1] h Q := zE_pure (q := (36, [l0, .int x], [.int x, t0, t1])) dz136_35 rfl rfl rfl
theorem dz136_36 : decode (z_code 136) 36 = .ok (.invokestatic 143, 3) := by decide +kernel
theorem u136_36 : zEv sc 136 36 [l0, l1] [.int z2, .int z1, .int z0] h Q ↔ zEv sc 113 0 [.int z0, .int z1, .int z2, .null] [] h (fun r h9 => zEv sc 136 39 [l0, l1] (r.toList ++ []) h9 Q) := zE_call (kd := 1) (na := 3) (nr := 0) (as := [.int z0, .int z1, .int z2]) (rest := []) (Or.inr ⟨rfl, rfl⟩) dz136_36 (by decide +kernel : z_lk2 zCT (z_cls 136) 143 = some (113, 0, 891)) (fun _ => by decide +kernel) rfl rfl rfl (by decide +kernel) rfl (Or.inl rfl)
theorem dz136_39 : decode (z_code 136) 39 = .ok (.goto 5, 3) := by decide +kernel
theorem u136_39 : zEv sc 136 39 [l0, l1] [t0] h Q ↔ zEv sc 136 44 [l0, l1] [t0] h Q := zE_go 44 dz136_39 rfl
theorem dz136_44 : decode (z_code 136) 44 = .ok (.ireturn, 1) := by decide +kernel
theorem u136_44 : zEv sc 136 44 [l0, l1] [.int x] h Q ↔ Q (some (.int x)) h := zE_ri dz136_44 (by decide +kernel)
theorem dz136_42 : decode (z_code 136) 42 = .ok (.ldc 101, 2) := by decide +kernel
theorem u136_42 : zEv sc 136 42 [l0, l1] [] h Q ↔ zEv sc 136 44 [l0, l1] [.int (-1000002)] h Q := zE_ldc (by decide +kernel : z_lkK zKT (z_cls 136) 101 = some ((-1000002), 833)) dz136_42
/-! method 137: FieldMixturesModel.reply(II)I -/
theorem dz137_0 : decode (z_code 137) 0 = .ok (.iload_n 1, 1) := by decide +kernel
theorem u137_0 : zEv sc 137 0 [l0, .int x, l2, l3] [] h Q ↔ zEv sc 137 1 [l0, .int x, l2, l3] [.int x] h Q := zE_pure (q := (1, [l0, .int x, l2, l3], [.int x])) dz137_0 rfl rfl rfl
theorem dz137_1 : decode (z_code 137) 1 = .ok (.invokestatic 124, 3) := by decide +kernel
theorem u137_1 : zEv sc 137 1 [l0, l1, l2, l3] [.int z0] h Q ↔ zEv sc 93 0 [.int z0] [] h (fun r h9 => zEv sc 137 4 [l0, l1, l2, l3] (r.toList ++ []) h9 Q) := zE_call (kd := 1) (na := 1) (nr := 0) (as := [.int z0]) (rest := []) (Or.inr ⟨rfl, rfl⟩) dz137_1 (by decide +kernel : z_lk2 zCT (z_cls 137) 124 = some (93, 0, 769)) (fun _ => by decide +kernel) rfl rfl rfl (by decide +kernel) rfl (Or.inl rfl)
theorem dz137_4 : decode (z_code 137) 4 = .ok (.ifCond .eq 12, 3) := by decide +kernel
theorem u137_4 : zEv sc 137 4 [l0, l1, l2, l3] [.int x] h Q ↔ (if x = 0 then zEv sc 137 16 [l0, l1, l2, l3] [] h Q else zEv sc 137 7 [l0, l1, l2, l3] [] h Q) := zE_ifP (P := x = 0) inferInstance 16 dz137_4 rfl rfl
theorem dz137_7 : decode (z_code 137) 7 = .ok (.iload_n 2, 1) := by decide +kernel
theorem u137_7 : zEv sc 137 7 [l0, l1, .int x, l3] [] h Q ↔ zEv sc 137 8 [l0, l1, .int x, l3] [.int x] h Q := zE_pure (q := (8, [l0, l1, .int x, l3], [.int x])) dz137_7 rfl rfl rfl
theorem dz137_8 : decode (z_code 137) 8 = .ok (.iconst 0, 1) := by decide +kernel
theorem u137_8 : zEv sc 137 8 [l0, l1, l2, l3] [t0] h Q ↔ zEv sc 137 9 [l0, l1, l2, l3] [.int 0, t0] h Q := zE_iconst dz137_8 (by decide +kernel)
theorem dz137_9 : decode (z_code 137) 9 = .ok (.iconst 3, 1) := by decide +kernel
theorem u137_9 : zEv sc 137 9 [l0, l1, l2, l3] [t0, t1] h Q ↔ zEv sc 137 10 [l0, l1, l2, l3] [.int 3, t0, t1] h Q := zE_iconst dz137_9 (by decide +kernel)
theorem dz137_10 : decode (z_code 137) 10 = .ok (.invokestatic 39, 3) := by decide +kernel
theorem u137_10 : zEv sc 137 10 [l0, l1, l2, l3] [.int z2, .int z1, .int z0] h Q ↔ zEv sc 89 0 [.int z0, .int z1, .int z2] [] h (fun r h9 => zEv sc 137 13 [l0, l1, l2, l3] (r.toList ++ []) h9 Q) := zE_call (kd := 1) (na := 3) (nr := 0) (as := [.int z0, .int z1, .int z2]) (rest := []) (Or.inr ⟨rfl, rfl⟩) dz137_10 (by decide +kernel : z_lk2 zCT (z_cls 137) 39 = some (89, 0, 734)) (fun _ => by decide +kernel) rfl rfl rfl (by decide +kernel) rfl (Or.inl rfl)
theorem dz137_13 : decode (z_code 137) 13 = .ok (.ifCond .ne 6, 3) := by decide +kernel
theorem u137_13 : zEv sc 137 13 [l0, l1, l2, l3] [.int x] h Q ↔ (if ¬ x = 0 then zEv sc 137 19 [l0, l1, l2, l3] [] h Q else zEv sc 137 16 [l0, l1, l2, l3] [] h Q) := zE_ifP (P := ¬ x = 0) inferInstance 19 dz137_13 rfl rfl
theorem dz137_19 : decode (z_code 137) 19 = .ok (.aload_n 0, 1) := by decide +kernel
theorem u137_19 : zEv sc 137 19 [.ref a, l1, l2, l3] [] h Q ↔ zEv sc 137 20 [.ref a, l1, l2, l3] [.ref a] h Q := zE_pure (q := (20, [.ref a, l1, l2, l3], [.ref a])) dz137_19 rfl rfl rfl
theorem dz137_20 : decode (z_code 137) 20 = .ok (.iconst 1, 1) := by decide +kernel
theorem u137_20 : zEv sc 137 20 [l0, l1, l2, l3] [t0] h Q ↔ zEv sc 137 21 [l0, l1, l2, l3] [.int 1, t0] h Q := zE_iconst dz137_20 (by decide +kernel)
theorem dz137_21 : decode (z_code 137) 21 = .ok (.iload_n 1, 1) := by decide +kernel
theorem u137_21 : zEv sc 137 21 [l0, .int x, l2, l3] [t0, t1] h Q ↔ zEv sc 137 22 [l0, .int x, l2, l3] [.int x, t0, t1] h Q := zE_pure (q := (22, [l0, .int x, l2, l3], [.int x, t0, t1])) dz137_21 rfl rfl rfl
theorem dz137_22 : decode (z_code 137) 22 = .ok (.isub, 1) := by decide +kernel
theorem u137_22 : zEv sc 137 22 [l0, l1, l2, l3] [.int x2, .int x1, t0] h Q ↔ zEv sc 137 23 [l0, l1, l2, l3] [.int (x1 - x2), t0] h Q := zE_pure (q := (23, [l0, l1, l2, l3], [.int (x1 - x2), t0])) dz137_22 rfl rfl rfl
theorem dz137_23 : decode (z_code 137) 23 = .ok (.invokevirtual 58, 3) := by decide +kernel
theorem u137_23 (ho : zO a 10) : zEv sc 137 23 [l0, l1, l2, l3] [.int z0, .ref a] (zst p iv) Q ↔ zEv sc 101 0 [.ref a, .int z0] [] (zst p iv) (fun r h9 => zEv sc 137 26 [l0, l1, l2, l3] (r.toList ++ []) h9 Q) := zE_call (kd := 0) (na := 2) (nr := 0) (as := [.ref a, .int z0]) (rest := []) (Or.inl ⟨rfl, rfl⟩) dz137_23 (by decide +kernel : z_lk2 zCT (z_cls 137) 58 = some (101, 0, 776)) (fun z => by cases z) rfl rfl rfl (by decide +kernel) rfl (Or.inr (zE_rc ho))
theorem dz137_26 : decode (z_code 137) 26 = .ok (.ifCond .ne 7, 3) := by decide +kernel
theorem u137_26 : zEv sc 137 26 [l0, l1, l2, l3] [.int x] h Q ↔ (if ¬ x = 0 then zEv sc 137 33 [l0, l1, l2, l3] [] h Q else zEv sc 137 29 [l0, l1, l2, l3] [] h Q) := zE_ifP (P := ¬ x = 0) inferInstance 33 dz137_26 rfl rfl
theorem dz137_29 : decode (z_code 137) 29 = .ok (.iconst (-1), 1) := by decide +kernel
theorem u137_29 : zEv sc 137 29 [l0, l1, l2, l3] [] h Q ↔ zEv sc 137 30 [l0, l1, l2, l3] [.int (-1)] h Q := zE_iconst dz137_29 (by decide +kernel)
theorem dz137_30 : decode (z_code 137) 30 = .ok (.goto 8, 3) := by decide +kernel
theorem u137_30 : zEv sc 137 30 [l0, l1, l2, l3] [t0] h Q ↔ zEv sc 137 38 [l0, l1, l2, l3] [t0] h Q := zE_go 38 dz137_30 rfl
theorem dz137_38 : decode (z_code 137) 38 = .ok (.istore_n 3, 1) := by decide +kernel
theorem u137_38 : zEv sc 137 38 [l0, l1, l2, l3] [.int x] h Q ↔ zEv sc 137 39 [l0, l1, l2, .int x] [] h Q := zE_pure (q := (39, [l0, l1, l2, .int x], [])) dz137_38 rfl rfl rfl
theorem dz137_39 : decode (z_code 137) 39 = .ok (.iload_n 3, 1) := by decide +kernel
theorem u137_39 : zEv sc 137 39 [l0, l1, l2, .int x] [] h Q ↔ zEv sc 137 40 [l0, l1, l2, .int x] [.int x] h Q := zE_pure (q := (40, [l0, l1, l2, .int x], [.int x])) dz137_39 rfl rfl rfl
theorem dz137_40 : decode (z_code 137) 40 = .ok (.ifCond .ge 6, 3) := by decide +kernel
theorem u137_40 : zEv sc 137 40 [l0, l1, l2, l3] [.int x] h Q ↔ (if 0 ≤ x then zEv sc 137 46 [l0, l1, l2, l3] [] h Q else zEv sc 137 43 [l0, l1, l2, l3] [] h Q) := zE_ifP (P := 0 ≤ x) inferInstance 46 dz137_40 rfl rfl
theorem dz137_43 : decode (z_code 137) 43 = .ok (.ldc 101, 2) := by decide +kernel
theorem u137_43 : zEv sc 137 43 [l0, l1, l2, l3] [] h Q ↔ zEv sc 137 45 [l0, l1, l2, l3] [.int (-1000002)] h Q := zE_ldc (by decide +kernel : z_lkK zKT (z_cls 137) 101 = some ((-1000002), 833)) dz137_43
theorem dz137_45 : decode (z_code 137) 45 = .ok (.ireturn, 1) := by decide +kernel
theorem u137_45 : zEv sc 137 45 [l0, l1, l2, l3] [.int x] h Q ↔ Q (some (.int x)) h := zE_ri dz137_45 (by decide +kernel)
theorem dz137_46 : decode (z_code 137) 46 = .ok (.iload_n 2, 1) := by decide +kernel
theorem u137_46 : zEv sc 137 46 [l0, l1, .int x, l3] [] h Q ↔ zEv sc 137 47 [l0, l1, .int x, l3] [.int x] h Q := zE_pure (q := (47, [l0, l1, .int x, l3], [.int x])) dz137_46 rfl rfl rfl
theorem dz137_47 : decode (z_code 137) 47 = .ok (.ifCond .ne 7, 3) := by decide +kernel
theorem u137_47 : zEv sc 137 47 [l0, l1, l2, l3] [.int x] h Q ↔ (if ¬ x = 0 then zEv sc 137 54 [l0, l1, l2, l3] [] h Q else zEv sc 137 50 [l0, l1, l2, l3] [] h Q) := zE_ifP (P := ¬ x = 0) inferInstance 54 dz137_47 rfl rfl
theorem dz137_50 : decode (z_code 137) 50 = .ok (.iload_n 3, 1) := by decide +kernel
theorem u137_50 : zEv sc 137 50 [l0, l1, l2, .int x] [] h Q ↔ zEv sc 137 51 [l0, l1, l2, .int x] [.int x] h Q := zE_pure (q := (51, [l0, l1, l2, .int x], [.int x])) dz137_50 rfl rfl rfl
theorem dz137_51 : decode (z_code 137) 51 = .ok (.goto 32, 3) := by decide +kernel
theorem u137_51 : zEv sc 137 51 [l0, l1, l2, l3] [t0] h Q ↔ zEv sc 137 83 [l0, l1, l2, l3] [t0] h Q := zE_go 83 dz137_51 rfl
theorem dz137_83 : decode (z_code 137) 83 = .ok (.ireturn, 1) := by decide +kernel
theorem u137_83 : zEv sc 137 83 [l0, l1, l2, l3] [.int x] h Q ↔ Q (some (.int x)) h := zE_ri dz137_83 (by decide +kernel)
theorem dz137_54 : decode (z_code 137) 54 = .ok (.iload_n 2, 1) := by decide +kernel
theorem u137_54 : zEv sc 137 54 [l0, l1, .int x, l3] [] h Q ↔ zEv sc 137 55 [l0, l1, .int x, l3] [.int x] h Q := zE_pure (q := (55, [l0, l1, .int x, l3], [.int x])) dz137_54 rfl rfl rfl
theorem dz137_55 : decode (z_code 137) 55 = .ok (.iconst 3, 1) := by decide +kernel
theorem u137_55 : zEv sc 137 55 [l0, l1, l2, l3] [t0] h Q ↔ zEv sc 137 56 [l0, l1, l2, l3] [.int 3, t0] h Q := zE_iconst dz137_55 (by decide +kernel)
theorem dz137_56 : decode (z_code 137) 56 = .ok (.if_icmp .ne 10, 3) := by decide +kernel
theorem u137_56 : zEv sc 137 56 [l0, l1, l2, l3] [.int x2, .int x1] h Q ↔ (if ¬ x1 = x2 then zEv sc 137 66 [l0, l1, l2, l3] [] h Q else zEv sc 137 59 [l0, l1, l2, l3] [] h Q) := zE_icP (P := ¬ x1 = x2) inferInstance 66 dz137_56 rfl rfl
theorem dz137_59 : decode (z_code 137) 59 = .ok (.aload_n 0, 1) := by decide +kernel
theorem u137_59 : zEv sc 137 59 [.ref a, l1, l2, l3] [] h Q ↔ zEv sc 137 60 [.ref a, l1, l2, l3] [.ref a] h Q := zE_pure (q := (60, [.ref a, l1, l2, l3], [.ref a])) dz137_59 rfl rfl rfl
theorem dz137_60 : decode (z_code 137) 60 = .ok (.getfield 95, 3) := by decide +kernel
theorem u137_60 (ho : zO a 10) : zEv sc 137 60 [l0, l1, l2, l3] [.ref a] (zst p iv) Q ↔ zEv sc 137 63 [l0, l1, l2, l3] [.int (iv a 9)] (zst p iv) Q := zE_gfI dz137_60 (by decide +kernel : z_lk3 zFT (z_cls 137) 95 = some (10, 9, 0, 686)) (by decide +kernel) ho
theorem dz137_63 : decode (z_code 137) 63 = .ok (.goto 20, 3) := by decide +kernel
theorem u137_63 : zEv sc 137 63 [l0, l1, l2, l3] [t0] h Q ↔ zEv sc 137 83 [l0, l1, l2, l3] [t0] h Q := zE_go 83 dz137_63 rfl
theorem dz137_66 : decode (z_code 137) 66 = .ok (.aload_n 0, 1) := by decide +kernel
theorem u137_66 : zEv sc 137 66 [.ref a, l1, l2, l3] [] h Q ↔ zEv sc 137 67 [.ref a, l1, l2, l3] [.ref a] h Q := zE_pure (q := (67, [.ref a, l1, l2, l3], [.ref a])) dz137_66 rfl rfl rfl
theorem dz137_67 : decode (z_code 137) 67 = .ok (.getfield 92, 3) := by decide +kernel
theorem u137_67 (ho : zO a 10) : zEv sc 137 67 [l0, l1, l2, l3] [.ref a] (zst p iv) Q ↔ zEv sc 137 70 [l0, l1, l2, l3] [.int (iv a 8)] (zst p iv) Q := zE_gfI dz137_67 (by decide +kernel : z_lk3 zFT (z_cls 137) 92 = some (10, 8, 0, 685)) (by decide +kernel) ho
theorem dz137_70 : decode (z_code 137) 70 = .ok (.aload_n 0, 1) := by decide +kernel
theorem u137_70 : zEv sc 137 70 [.ref a, l1, l2, l3] [t0] h Q ↔ zEv sc 137 71 [.ref a, l1, l2, l3] [.ref a, t0] h Q := zE_pure (q := (71, [.ref a, l1, l2, l3], [.ref a, t0])) dz137_70 rfl rfl rfl
theorem dz137_71 : decode (z_code 137) 71 = .ok (.iconst 1, 1) := by decide +kernel
theorem u137_71 : zEv sc 137 71 [l0, l1, l2, l3] [t0, t1] h Q ↔ zEv sc 137 72 [l0, l1, l2, l3] [.int 1, t0, t1] h Q := zE_iconst dz137_71 (by decide +kernel)
theorem dz137_72 : decode (z_code 137) 72 = .ok (.iload_n 1, 1) := by decide +kernel
theorem u137_72 : zEv sc 137 72 [l0, .int x, l2, l3] [t0, t1, t2] h Q ↔ zEv sc 137 73 [l0, .int x, l2, l3] [.int x, t0, t1, t2] h Q := zE_pure (q := (73, [l0, .int x, l2, l3], [.int x, t0, t1, t2])) dz137_72 rfl rfl rfl
theorem dz137_73 : decode (z_code 137) 73 = .ok (.isub, 1) := by decide +kernel
theorem u137_73 : zEv sc 137 73 [l0, l1, l2, l3] [.int x2, .int x1, t0, t1] h Q ↔ zEv sc 137 74 [l0, l1, l2, l3] [.int (x1 - x2), t0, t1] h Q := zE_pure (q := (74, [l0, l1, l2, l3], [.int (x1 - x2), t0, t1])) dz137_73 rfl rfl rfl
theorem dz137_74 : decode (z_code 137) 74 = .ok (.invokevirtual 140, 3) := by decide +kernel
theorem u137_74 (ho : zO a 10) : zEv sc 137 74 [l0, l1, l2, l3] [.int z0, .ref a, t0] (zst p iv) Q ↔ zEv sc 104 0 [.ref a, .int z0, .null, .null] [] (zst p iv) (fun r h9 => zEv sc 137 77 [l0, l1, l2, l3] (r.toList ++ [t0]) h9 Q) := zE_call (kd := 0) (na := 2) (nr := 1) (as := [.ref a, .int z0]) (rest := [t0]) (Or.inl ⟨rfl, rfl⟩) dz137_74 (by decide +kernel : z_lk2 zCT (z_cls 137) 140 = some (104, 0, 887)) (fun z => by cases z) rfl rfl rfl (by decide +kernel) rfl (Or.inr (zE_rc ho))
theorem dz137_77 : decode (z_code 137) 77 = .ok (.iload_n 2, 1) := by decide +kernel
theorem u137_77 : zEv sc 137 77 [l0, l1, .int x, l3] [t0, t1] h Q ↔ zEv sc 137 78 [l0, l1, .int x, l3] [.int x, t0, t1] h Q := zE_pure (q := (78, [l0, l1, .int x, l3], [.int x, t0, t1])) dz137_77 rfl rfl rfl
theorem dz137_78 : decode (z_code 137) 78 = .ok (.iconst 1, 1) := by decide +kernel
theorem u137_78 : zEv sc 137 78 [l0, l1, l2, l3] [t0, t1, t2] h Q ↔ zEv sc 137 79 [l0, l1, l2, l3] [.int 1, t0, t1, t2] h Q := zE_iconst dz137_78 (by decide +kernel)
theorem dz137_79 : decode (z_code 137) 79 = .ok (.isub, 1) := by decide +kernel
theorem u137_79 : zEv sc 137 79 [l0, l1, l2, l3] [.int x2, .int x1, t0, t1] h Q ↔ zEv sc 137 80 [l0, l1, l2, l3] [.int (x1 - x2), t0, t1] h Q := zE_pure (q := (80, [l0, l1, l2, l3], [.int (x1 - x2), t0, t1])) dz137_79 rfl rfl rfl
theorem dz137_80 : decode (z_code 137) 80 = .ok (.invokestatic 143, 3) := by decide +kernel
theorem u137_80 : zEv sc 137 80 [l0, l1, l2, l3] [.int z2, .int z1, .int z0] h Q ↔ zEv sc 113 0 [.int z0, .int z1, .int z2, .null] [] h (fun r h9 => zEv sc 137 83 [l0, l1, l2, l3] (r.toList ++ []) h9 Q) := zE_call (kd := 1) (na := 3) (nr := 0) (as := [.int z0, .int z1, .int z2]) (rest := []) (Or.inr ⟨rfl, rfl⟩) dz137_80 (by decide +kernel : z_lk2 zCT (z_cls 137) 143 = some (113, 0, 891)) (fun _ => by decide +kernel) rfl rfl rfl (by decide +kernel) rfl (Or.inl rfl)
theorem dz137_33 : decode (z_code 137) 33 = .ok (.aload_n 0, 1) := by decide +kernel
theorem u137_33 : zEv sc 137 33 [.ref a, l1, l2, l3] [] h Q ↔ zEv sc 137 34 [.ref a, l1, l2, l3] [.ref a] h Q := zE_pure (q := (34, [.ref a, l1, l2, l3], [.ref a])) dz137_33 rfl rfl rfl
theorem dz137_34 : decode (z_code 137) 34 = .ok (.iload_n 1, 1) := by decide +kernel
theorem u137_34 : zEv sc 137 34 [l0, .int x, l2, l3] [t0] h Q ↔ zEv sc 137 35 [l0, .int x, l2, l3] [.int x, t0] h Q := zE_pure (q := (35, [l0, .int x, l2, l3], [.int x, t0])) dz137_34 rfl rfl rfl
theorem dz137_35 : decode (z_code 137) 35 = .ok (.invokevirtual 102, 3) := by decide +kernel
theorem u137_35 (ho : zO a 10) : zEv sc 137 35 [l0, l1, l2, l3] [.int z0, .ref a] (zst p iv) Q ↔ zEv sc 114 0 [.ref a, .int z0, .null, .null, .null, .null] [] (zst p iv) (fun r h9 => zEv sc 137 38 [l0, l1, l2, l3] (r.toList ++ []) h9 Q) := zE_call (kd := 0) (na := 2) (nr := 0) (as := [.ref a, .int z0]) (rest := []) (Or.inl ⟨rfl, rfl⟩) dz137_35 (by decide +kernel : z_lk2 zCT (z_cls 137) 102 = some (114, 0, 842)) (fun z => by cases z) rfl rfl rfl (by decide +kernel) rfl (Or.inr (zE_rc ho))
theorem dz137_16 : decode (z_code 137) 16 = .ok (.ldc 31, 2) := by decide +kernel
theorem u137_16 : zEv sc 137 16 [l0, l1, l2, l3] [] h Q ↔ zEv sc 137 18 [l0, l1, l2, l3] [.int (-1000001)] h Q := zE_ldc (by decide +kernel : z_lkK zKT (z_cls 137) 31 = some ((-1000001), 744)) dz137_16
theorem dz137_18 : decode (z_code 137) 18 = .ok (.ireturn, 1) := by decide +kernel
theorem u137_18 : zEv sc 137 18 [l0, l1, l2, l3] [.int x] h Q ↔ Q (some (.int x)) h := zE_ri dz137_18 (by decide +kernel)
/-! method 138: FieldMixturesModel.could(II)I -/
theorem dz138_0 : decode (z_code 138) 0 = .ok (.iload_n 1, 1) := by decide +kernel
theorem u138_0 : zEv sc 138 0 [l0, .int x, l2, l3, l4] [] h Q ↔ zEv sc 138 1 [l0, .int x, l2, l3, l4] [.int x] h Q := zE_pure (q := (1, [l0, .int x, l2, l3, l4], [.int x])) dz138_0 rfl rfl rfl
theorem dz138_1 : decode (z_code 138) 1 = .ok (.invokestatic 124, 3) := by decide +kernel
theorem u138_1 : zEv sc 138 1 [l0, l1, l2, l3, l4] [.int z0] h Q ↔ zEv sc 93 0 [.int z0] [] h (fun r h9 => zEv sc 138 4 [l0, l1, l2, l3, l4] (r.toList ++ []) h9 Q) := zE_call (kd := 1) (na := 1) (nr := 0) (as := [.int z0]) (rest := []) (Or.inr ⟨rfl, rfl⟩) dz138_1 (by decide +kernel : z_lk2 zCT (z_cls 138) 124 = some (93, 0, 769)) (fun _ => by decide +kernel) rfl rfl rfl (by decide +kernel) rfl (Or.inl rfl)
theorem dz138_4 : decode (z_code 138) 4 = .ok (.ifCond .eq 12, 3) := by decide +kernel
theorem u138_4 : zEv sc 138 4 [l0, l1, l2, l3, l4] [.int x] h Q ↔ (if x = 0 then zEv sc 138 16 [l0, l1, l2, l3, l4] [] h Q else zEv sc 138 7 [l0, l1, l2, l3, l4] [] h Q) := zE_ifP (P := x = 0) inferInstance 16 dz138_4 rfl rfl
theorem dz138_7 : decode (z_code 138) 7 = .ok (.iload_n 2, 1) := by decide +kernel
theorem u138_7 : zEv sc 138 7 [l0, l1, .int x, l3, l4] [] h Q ↔ zEv sc 138 8 [l0, l1, .int x, l3, l4] [.int x] h Q := zE_pure (q := (8, [l0, l1, .int x, l3, l4], [.int x])) dz138_7 rfl rfl rfl
theorem dz138_8 : decode (z_code 138) 8 = .ok (.iconst 0, 1) := by decide +kernel
theorem u138_8 : zEv sc 138 8 [l0, l1, l2, l3, l4] [t0] h Q ↔ zEv sc 138 9 [l0, l1, l2, l3, l4] [.int 0, t0] h Q := zE_iconst dz138_8 (by decide +kernel)
theorem dz138_9 : decode (z_code 138) 9 = .ok (.iconst 1, 1) := by decide +kernel
theorem u138_9 : zEv sc 138 9 [l0, l1, l2, l3, l4] [t0, t1] h Q ↔ zEv sc 138 10 [l0, l1, l2, l3, l4] [.int 1, t0, t1] h Q := zE_iconst dz138_9 (by decide +kernel)
theorem dz138_10 : decode (z_code 138) 10 = .ok (.invokestatic 39, 3) := by decide +kernel
theorem u138_10 : zEv sc 138 10 [l0, l1, l2, l3, l4] [.int z2, .int z1, .int z0] h Q ↔ zEv sc 89 0 [.int z0, .int z1, .int z2] [] h (fun r h9 => zEv sc 138 13 [l0, l1, l2, l3, l4] (r.toList ++ []) h9 Q) := zE_call (kd := 1) (na := 3) (nr := 0) (as := [.int z0, .int z1, .int z2]) (rest := []) (Or.inr ⟨rfl, rfl⟩) dz138_10 (by decide +kernel : z_lk2 zCT (z_cls 138) 39 = some (89, 0, 734)) (fun _ => by decide +kernel) rfl rfl rfl (by decide +kernel) rfl (Or.inl rfl)
theorem dz138_13 : decode (z_code 138) 13 = .ok (.ifCond .ne 6, 3) := by decide +kernel
theorem u138_13 : zEv sc 138 13 [l0, l1, l2, l3, l4] [.int x] h Q ↔ (if ¬ x = 0 then zEv sc 138 19 [l0, l1, l2, l3, l4] [] h Q else zEv sc 138 16 [l0, l1, l2, l3, l4] [] h Q) := zE_ifP (P := ¬ x = 0) inferInstance 19 dz138_13 rfl rfl
theorem dz138_19 : decode (z_code 138) 19 = .ok (.aload_n 0, 1) := by decide +kernel
theorem u138_19 : zEv sc 138 19 [.ref a, l1, l2, l3, l4] [] h Q ↔ zEv sc 138 20 [.ref a, l1, l2, l3, l4] [.ref a] h Q := zE_pure (q := (20, [.ref a, l1, l2, l3, l4], [.ref a])) dz138_19 rfl rfl rfl
theorem dz138_20 : decode (z_code 138) 20 = .ok (.invokevirtual 146, 3) := by decide +kernel
theorem u138_20 (ho : zO a 10) : zEv sc 138 20 [l0, l1, l2, l3, l4] [.ref a] (zst p iv) Q ↔ zEv sc 135 0 [.ref a] [] (zst p iv) (fun r h9 => zEv sc 138 23 [l0, l1, l2, l3, l4] (r.toList ++ []) h9 Q) := zE_call (kd := 0) (na := 1) (nr := 0) (as := [.ref a]) (rest := []) (Or.inl ⟨rfl, rfl⟩) dz138_20 (by decide +kernel : z_lk2 zCT (z_cls 138) 146 = some (135, 0, 910)) (fun z => by cases z) rfl rfl rfl (by decide +kernel) rfl (Or.inr (zE_rc ho))
theorem dz138_23 : decode (z_code 138) 23 = .ok (.ifCond .ne 6, 3) := by decide +kernel
theorem u138_23 : zEv sc 138 23 [l0, l1, l2, l3, l4] [.int x] h Q ↔ (if ¬ x = 0 then zEv sc 138 29 [l0, l1, l2, l3, l4] [] h Q else zEv sc 138 26 [l0, l1, l2, l3, l4] [] h Q) := zE_ifP (P := ¬ x = 0) inferInstance 29 dz138_23 rfl rfl
theorem dz138_26 : decode (z_code 138) 26 = .ok (.ldc 101, 2) := by decide +kernel
theorem u138_26 : zEv sc 138 26 [l0, l1, l2, l3, l4] [] h Q ↔ zEv sc 138 28 [l0, l1, l2, l3, l4] [.int (-1000002)] h Q := zE_ldc (by decide +kernel : z_lkK zKT (z_cls 138) 101 = some ((-1000002), 833)) dz138_26
theorem dz138_28 : decode (z_code 138) 28 = .ok (.ireturn, 1) := by decide +kernel
theorem u138_28 : zEv sc 138 28 [l0, l1, l2, l3, l4] [.int x] h Q ↔ Q (some (.int x)) h := zE_ri dz138_28 (by decide +kernel)
theorem dz138_29 : decode (z_code 138) 29 = .ok (.aload_n 0, 1) := by decide +kernel
theorem u138_29 : zEv sc 138 29 [.ref a, l1, l2, l3, l4] [] h Q ↔ zEv sc 138 30 [.ref a, l1, l2, l3, l4] [.ref a] h Q := zE_pure (q := (30, [.ref a, l1, l2, l3, l4], [.ref a])) dz138_29 rfl rfl rfl
theorem dz138_30 : decode (z_code 138) 30 = .ok (.iload_n 1, 1) := by decide +kernel
theorem u138_30 : zEv sc 138 30 [l0, .int x, l2, l3, l4] [t0] h Q ↔ zEv sc 138 31 [l0, .int x, l2, l3, l4] [.int x, t0] h Q := zE_pure (q := (31, [l0, .int x, l2, l3, l4], [.int x, t0])) dz138_30 rfl rfl rfl
theorem dz138_31 : decode (z_code 138) 31 = .ok (.invokevirtual 102, 3) := by decide +kernel
theorem u138_31 (ho : zO a 10) : zEv sc 138 31 [l0, l1, l2, l3, l4] [.int z0, .ref a] (zst p iv) Q ↔ zEv sc 114 0 [.ref a, .int z0, .null, .null, .null, .null] [] (zst p iv) (fun r h9 => zEv sc 138 34 [l0, l1, l2, l3, l4] (r.toList ++ []) h9 Q) := zE_call (kd := 0) (na := 2) (nr := 0) (as := [.ref a, .int z0]) (rest := []) (Or.inl ⟨rfl, rfl⟩) dz138_31 (by decide +kernel : z_lk2 zCT (z_cls 138) 102 = some (114, 0, 842)) (fun z => by cases z) rfl rfl rfl (by decide +kernel) rfl (Or.inr (zE_rc ho))
theorem dz138_34 : decode (z_code 138) 34 = .ok (.istore_n 3, 1) := by decide +kernel
theorem u138_34 : zEv sc 138 34 [l0, l1, l2, l3, l4] [.int x] h Q ↔ zEv sc 138 35 [l0, l1, l2, .int x, l4] [] h Q := zE_pure (q := (35, [l0, l1, l2, .int x, l4], [])) dz138_34 rfl rfl rfl
theorem dz138_35 : decode (z_code 138) 35 = .ok (.aload_n 0, 1) := by decide +kernel
theorem u138_35 : zEv sc 138 35 [.ref a, l1, l2, l3, l4] [] h Q ↔ zEv sc 138 36 [.ref a, l1, l2, l3, l4] [.ref a] h Q := zE_pure (q := (36, [.ref a, l1, l2, l3, l4], [.ref a])) dz138_35 rfl rfl rfl
theorem dz138_36 : decode (z_code 138) 36 = .ok (.getfield 92, 3) := by decide +kernel
theorem u138_36 (ho : zO a 10) : zEv sc 138 36 [l0, l1, l2, l3, l4] [.ref a] (zst p iv) Q ↔ zEv sc 138 39 [l0, l1, l2, l3, l4] [.int (iv a 8)] (zst p iv) Q := zE_gfI dz138_36 (by decide +kernel : z_lk3 zFT (z_cls 138) 92 = some (10, 8, 0, 685)) (by decide +kernel) ho
theorem dz138_39 : decode (z_code 138) 39 = .ok (.aload_n 0, 1) := by decide +kernel
theorem u138_39 : zEv sc 138 39 [.ref a, l1, l2, l3, l4] [t0] h Q ↔ zEv sc 138 40 [.ref a, l1, l2, l3, l4] [.ref a, t0] h Q := zE_pure (q := (40, [.ref a, l1, l2, l3, l4], [.ref a, t0])) dz138_39 rfl rfl rfl
theorem dz138_40 : decode (z_code 138) 40 = .ok (.iload_n 1, 1) := by decide +kernel
theorem u138_40 : zEv sc 138 40 [l0, .int x, l2, l3, l4] [t0, t1] h Q ↔ zEv sc 138 41 [l0, .int x, l2, l3, l4] [.int x, t0, t1] h Q := zE_pure (q := (41, [l0, .int x, l2, l3, l4], [.int x, t0, t1])) dz138_40 rfl rfl rfl
theorem dz138_41 : decode (z_code 138) 41 = .ok (.invokevirtual 140, 3) := by decide +kernel
theorem u138_41 (ho : zO a 10) : zEv sc 138 41 [l0, l1, l2, l3, l4] [.int z0, .ref a, t0] (zst p iv) Q ↔ zEv sc 104 0 [.ref a, .int z0, .null, .null] [] (zst p iv) (fun r h9 => zEv sc 138 44 [l0, l1, l2, l3, l4] (r.toList ++ [t0]) h9 Q) := zE_call (kd := 0) (na := 2) (nr := 1) (as := [.ref a, .int z0]) (rest := [t0]) (Or.inl ⟨rfl, rfl⟩) dz138_41 (by decide +kernel : z_lk2 zCT (z_cls 138) 140 = some (104, 0, 887)) (fun z => by cases z) rfl rfl rfl (by decide +kernel) rfl (Or.inr (zE_rc ho))
theorem dz138_44 : decode (z_code 138) 44 = .ok (.imul, 1) := by decide +kernel
theorem u138_44 : zEv sc 138 44 [l0, l1, l2, l3, l4] [.int x2, .int x1] h Q ↔ zEv sc 138 45 [l0, l1, l2, l3, l4] [.int (x1 * x2)] h Q := zE_pure (q := (45, [l0, l1, l2, l3, l4], [.int (x1 * x2)])) dz138_44 rfl rfl rfl
theorem dz138_45 : decode (z_code 138) 45 = .ok (.aload_n 0, 1) := by decide +kernel
theorem u138_45 : zEv sc 138 45 [.ref a, l1, l2, l3, l4] [t0] h Q ↔ zEv sc 138 46 [.ref a, l1, l2, l3, l4] [.ref a, t0] h Q := zE_pure (q := (46, [.ref a, l1, l2, l3, l4], [.ref a, t0])) dz138_45 rfl rfl rfl
theorem dz138_46 : decode (z_code 138) 46 = .ok (.iload_n 1, 1) := by decide +kernel
theorem u138_46 : zEv sc 138 46 [l0, .int x, l2, l3, l4] [t0, t1] h Q ↔ zEv sc 138 47 [l0, .int x, l2, l3, l4] [.int x, t0, t1] h Q := zE_pure (q := (47, [l0, .int x, l2, l3, l4], [.int x, t0, t1])) dz138_46 rfl rfl rfl
theorem dz138_47 : decode (z_code 138) 47 = .ok (.invokevirtual 150, 3) := by decide +kernel
theorem u138_47 (ho : zO a 10) : zEv sc 138 47 [l0, l1, l2, l3, l4] [.int z0, .ref a, t0] (zst p iv) Q ↔ zEv sc 111 0 [.ref a, .int z0, .null, .null] [] (zst p iv) (fun r h9 => zEv sc 138 50 [l0, l1, l2, l3, l4] (r.toList ++ [t0]) h9 Q) := zE_call (kd := 0) (na := 2) (nr := 1) (as := [.ref a, .int z0]) (rest := [t0]) (Or.inl ⟨rfl, rfl⟩) dz138_47 (by decide +kernel : z_lk2 zCT (z_cls 138) 150 = some (111, 0, 914)) (fun z => by cases z) rfl rfl rfl (by decide +kernel) rfl (Or.inr (zE_rc ho))
theorem dz138_50 : decode (z_code 138) 50 = .ok (.isub, 1) := by decide +kernel
theorem u138_50 : zEv sc 138 50 [l0, l1, l2, l3, l4] [.int x2, .int x1] h Q ↔ zEv sc 138 51 [l0, l1, l2, l3, l4] [.int (x1 - x2)] h Q := zE_pure (q := (51, [l0, l1, l2, l3, l4], [.int (x1 - x2)])) dz138_50 rfl rfl rfl
theorem dz138_51 : decode (z_code 138) 51 = .ok (.istore 4, 2) := by decide +kernel
theorem u138_51 : zEv sc 138 51 [l0, l1, l2, l3, l4] [.int x] h Q ↔ zEv sc 138 53 [l0, l1, l2, l3, .int x] [] h Q := zE_pure (q := (53, [l0, l1, l2, l3, .int x], [])) dz138_51 rfl rfl rfl
theorem dz138_53 : decode (z_code 138) 53 = .ok (.iload_n 3, 1) := by decide +kernel
theorem u138_53 : zEv sc 138 53 [l0, l1, l2, .int x, l4] [] h Q ↔ zEv sc 138 54 [l0, l1, l2, .int x, l4] [.int x] h Q := zE_pure (q := (54, [l0, l1, l2, .int x, l4], [.int x])) dz138_53 rfl rfl rfl
theorem dz138_54 : decode (z_code 138) 54 = .ok (.ifCond .ge 8, 3) := by decide +kernel
theorem u138_54 : zEv sc 138 54 [l0, l1, l2, l3, l4] [.int x] h Q ↔ (if 0 ≤ x then zEv sc 138 62 [l0, l1, l2, l3, l4] [] h Q else zEv sc 138 57 [l0, l1, l2, l3, l4] [] h Q) := zE_ifP (P := 0 ≤ x) inferInstance 62 dz138_54 rfl rfl
theorem dz138_57 : decode (z_code 138) 57 = .ok (.ldc 101, 2) := by decide +kernel
theorem u138_57 : zEv sc 138 57 [l0, l1, l2, l3, l4] [] h Q ↔ zEv sc 138 59 [l0, l1, l2, l3, l4] [.int (-1000002)] h Q := zE_ldc (by decide +kernel : z_lkK zKT (z_cls 138) 101 = some ((-1000002), 833)) dz138_57
theorem dz138_59 : decode (z_code 138) 59 = .ok (.goto 20, 3) := by decide +kernel
theorem u138_59 : zEv sc 138 59 [l0, l1, l2, l3, l4] [t0] h Q ↔ zEv sc 138 79 [l0, l1, l2, l3, l4] [t0] h Q := zE_go 79 dz138_59 rfl
theorem dz138_79 : decode (z_code 138) 79 = .ok (.ireturn, 1) := by decide +kernel
theorem u138_79 : zEv sc 138 79 [l0, l1, l2, l3, l4] [.int x] h Q ↔ Q (some (.int x)) h := zE_ri dz138_79 (by decide +kernel)
theorem dz138_62 : decode (z_code 138) 62 = .ok (.iload 4, 2) := by decide +kernel
theorem u138_62 : zEv sc 138 62 [l0, l1, l2, l3, .int x] [] h Q ↔ zEv sc 138 64 [l0, l1, l2, l3, .int x] [.int x] h Q := zE_pure (q := (64, [l0, l1, l2, l3, .int x], [.int x])) dz138_62 rfl rfl rfl
theorem dz138_64 : decode (z_code 138) 64 = .ok (.aload_n 0, 1) := by decide +kernel
theorem u138_64 : zEv sc 138 64 [.ref a, l1, l2, l3, l4] [t0] h Q ↔ zEv sc 138 65 [.ref a, l1, l2, l3, l4] [.ref a, t0] h Q := zE_pure (q := (65, [.ref a, l1, l2, l3, l4], [.ref a, t0])) dz138_64 rfl rfl rfl
theorem dz138_65 : decode (z_code 138) 65 = .ok (.iconst 0, 1) := by decide +kernel
theorem u138_65 : zEv sc 138 65 [l0, l1, l2, l3, l4] [t0, t1] h Q ↔ zEv sc 138 66 [l0, l1, l2, l3, l4] [.int 0, t0, t1] h Q := zE_iconst dz138_65 (by decide +kernel)
theorem dz138_66 : decode (z_code 138) 66 = .ok (.invokevirtual 140, 3) := by decide +kernel
theorem u138_66 (ho : zO a 10) : zEv sc 138 66 [l0, l1, l2, l3, l4] [.int z0, .ref a, t0] (zst p iv) Q ↔ zEv sc 104 0 [.ref a, .int z0, .null, .null] [] (zst p iv) (fun r h9 => zEv sc 138 69 [l0, l1, l2, l3, l4] (r.toList ++ [t0]) h9 Q) := zE_call (kd := 0) (na := 2) (nr := 1) (as := [.ref a, .int z0]) (rest := [t0]) (Or.inl ⟨rfl, rfl⟩) dz138_66 (by decide +kernel : z_lk2 zCT (z_cls 138) 140 = some (104, 0, 887)) (fun z => by cases z) rfl rfl rfl (by decide +kernel) rfl (Or.inr (zE_rc ho))
theorem dz138_69 : decode (z_code 138) 69 = .ok (.aload_n 0, 1) := by decide +kernel
theorem u138_69 : zEv sc 138 69 [.ref a, l1, l2, l3, l4] [t0, t1] h Q ↔ zEv sc 138 70 [.ref a, l1, l2, l3, l4] [.ref a, t0, t1] h Q := zE_pure (q := (70, [.ref a, l1, l2, l3, l4], [.ref a, t0, t1])) dz138_69 rfl rfl rfl
theorem dz138_70 : decode (z_code 138) 70 = .ok (.iconst 1, 1) := by decide +kernel
theorem u138_70 : zEv sc 138 70 [l0, l1, l2, l3, l4] [t0, t1, t2] h Q ↔ zEv sc 138 71 [l0, l1, l2, l3, l4] [.int 1, t0, t1, t2] h Q := zE_iconst dz138_70 (by decide +kernel)
theorem dz138_71 : decode (z_code 138) 71 = .ok (.invokevirtual 140, 3) := by decide +kernel
theorem u138_71 (ho : zO a 10) : zEv sc 138 71 [l0, l1, l2, l3, l4] [.int z0, .ref a, t0, t1] (zst p iv) Q ↔ zEv sc 104 0 [.ref a, .int z0, .null, .null] [] (zst p iv) (fun r h9 => zEv sc 138 74 [l0, l1, l2, l3, l4] (r.toList ++ [t0, t1]) h9 Q) := zE_call (kd := 0) (na := 2) (nr := 2) (as := [.ref a, .int z0]) (rest := [t0, t1]) (Or.inl ⟨rfl, rfl⟩) dz138_71 (by decide +kernel : z_lk2 zCT (z_cls 138) 140 = some (104, 0, 887)) (fun z => by cases z) rfl rfl rfl (by decide +kernel) rfl (Or.inr (zE_rc ho))
theorem dz138_74 : decode (z_code 138) 74 = .ok (.imul, 1) := by decide +kernel
theorem u138_74 : zEv sc 138 74 [l0, l1, l2, l3, l4] [.int x2, .int x1, t0] h Q ↔ zEv sc 138 75 [l0, l1, l2, l3, l4] [.int (x1 * x2), t0] h Q := zE_pure (q := (75, [l0, l1, l2, l3, l4], [.int (x1 * x2), t0])) dz138_74 rfl rfl rfl
theorem dz138_75 : decode (z_code 138) 75 = .ok (.iload_n 2, 1) := by decide +kernel
theorem u138_75 : zEv sc 138 75 [l0, l1, .int x, l3, l4] [t0, t1] h Q ↔ zEv sc 138 76 [l0, l1, .int x, l3, l4] [.int x, t0, t1] h Q := zE_pure (q := (76, [l0, l1, .int x, l3, l4], [.int x, t0, t1])) dz138_75 rfl rfl rfl
theorem dz138_76 : decode (z_code 138) 76 = .ok (.invokestatic 143, 3) := by decide +kernel
theorem u138_76 : zEv sc 138 76 [l0, l1, l2, l3, l4] [.int z2, .int z1, .int z0] h Q ↔ zEv sc 113 0 [.int z0, .int z1, .int z2, .null] [] h (fun r h9 => zEv sc 138 79 [l0, l1, l2, l3, l4] (r.toList ++ []) h9 Q) := zE_call (kd := 1) (na := 3) (nr := 0) (as := [.int z0, .int z1, .int z2]) (rest := []) (Or.inr ⟨rfl, rfl⟩) dz138_76 (by decide +kernel : z_lk2 zCT (z_cls 138) 143 = some (113, 0, 891)) (fun _ => by decide +kernel) rfl rfl rfl (by decide +kernel) rfl (Or.inl rfl)
theorem dz138_16 : decode (z_code 138) 16 = .ok (.ldc 31, 2) := by decide +kernel
theorem u138_16 : zEv sc 138 16 [l0, l1, l2, l3, l4] [] h Q ↔ zEv sc 138 18 [l0, l1, l2, l3, l4] [.int (-1000001)] h Q := zE_ldc (by decide +kernel : z_lkK zKT (z_cls 138) 31 = some ((-1000001), 744)) dz138_16
theorem dz138_18 : decode (z_code 138) 18 = .ok (.ireturn, 1) := by decide +kernel
theorem u138_18 : zEv sc 138 18 [l0, l1, l2, l3, l4] [.int x] h Q ↔ Q (some (.int x)) h := zE_ri dz138_18 (by decide +kernel)
/-! method 139: FieldMixturesModel.counted(I)I -/
theorem dz139_0 : decode (z_code 139) 0 = .ok (.iload_n 1, 1) := by decide +kernel
theorem u139_0 : zEv sc 139 0 [l0, .int x, l2, l3] [] h Q ↔ zEv sc 139 1 [l0, .int x, l2, l3] [.int x] h Q := zE_pure (q := (1, [l0, .int x, l2, l3], [.int x])) dz139_0 rfl rfl rfl
theorem dz139_1 : decode (z_code 139) 1 = .ok (.tableswitch 136 0 9 #[55, 62, 95, 102, 102, 114, 114, 122, 122, 131], 55) := by decide +kernel
theorem u139_1_0 : zEv sc 139 1 [l0, l1, l2, l3] [.int 0] h Q ↔ zEv sc 139 56 [l0, l1, l2, l3] [] h Q := zE_tab (v := 0) (off := 55) 56 dz139_1 (by decide +kernel) (by decide +kernel) (by decide +kernel) rfl
theorem u139_1_1 : zEv sc 139 1 [l0, l1, l2, l3] [.int 1] h Q ↔ zEv sc 139 63 [l0, l1, l2, l3] [] h Q := zE_tab (v := 1) (off := 62) 63 dz139_1 (by decide +kernel) (by decide +kernel) (by decide +kernel) rfl
theorem u139_1_2 : zEv sc 139 1 [l0, l1, l2, l3] [.int 2] h Q ↔ zEv sc 139 96 [l0, l1, l2, l3] [] h Q := zE_tab (v := 2) (off := 95) 96 dz139_1 (by decide +kernel) (by decide +kernel) (by decide +kernel) rfl
theorem u139_1_3 : zEv sc 139 1 [l0, l1, l2, l3] [.int 3] h Q ↔ zEv sc 139 103 [l0, l1, l2, l3] [] h Q := zE_tab (v := 3) (off := 102) 103 dz139_1 (by decide +kernel) (by decide +kernel) (by decide +kernel) rfl
theorem u139_1_4 : zEv sc 139 1 [l0, l1, l2, l3] [.int 4] h Q ↔ zEv sc 139 103 [l0, l1, l2, l3] [] h Q := zE_tab (v := 4) (off := 102) 103 dz139_1 (by decide +kernel) (by decide +kernel) (by decide +kernel) rfl
theorem u139_1_5 : zEv sc 139 1 [l0, l1, l2, l3] [.int 5] h Q ↔ zEv sc 139 115 [l0, l1, l2, l3] [] h Q := zE_tab (v := 5) (off := 114) 115 dz139_1 (by decide +kernel) (by decide +kernel) (by decide +kernel) rfl
theorem u139_1_6 : zEv sc 139 1 [l0, l1, l2, l3] [.int 6] h Q ↔ zEv sc 139 115 [l0, l1, l2, l3] [] h Q := zE_tab (v := 6) (off := 114) 115 dz139_1 (by decide +kernel) (by decide +kernel) (by decide +kernel) rfl
theorem u139_1_7 : zEv sc 139 1 [l0, l1, l2, l3] [.int 7] h Q ↔ zEv sc 139 123 [l0, l1, l2, l3] [] h Q := zE_tab (v := 7) (off := 122) 123 dz139_1 (by decide +kernel) (by decide +kernel) (by decide +kernel) rfl
theorem u139_1_8 : zEv sc 139 1 [l0, l1, l2, l3] [.int 8] h Q ↔ zEv sc 139 123 [l0, l1, l2, l3] [] h Q := zE_tab (v := 8) (off := 122) 123 dz139_1 (by decide +kernel) (by decide +kernel) (by decide +kernel) rfl
theorem u139_1_9 : zEv sc 139 1 [l0, l1, l2, l3] [.int 9] h Q ↔ zEv sc 139 132 [l0, l1, l2, l3] [] h Q := zE_tab (v := 9) (off := 131) 132 dz139_1 (by decide +kernel) (by decide +kernel) (by decide +kernel) rfl
theorem u139_1_d (hx : x.toInt < 0 ∨ 9 < x.toInt) : zEv sc 139 1 [l0, l1, l2, l3] [.int x] h Q ↔ zEv sc 139 137 [l0, l1, l2, l3] [] h Q := zE_tabD 137 dz139_1 hx rfl
theorem dz139_137 : decode (z_code 139) 137 = .ok (.aload_n 0, 1) := by decide +kernel
theorem u139_137 : zEv sc 139 137 [.ref a, l1, l2, l3] [] h Q ↔ zEv sc 139 138 [.ref a, l1, l2, l3] [.ref a] h Q := zE_pure (q := (138, [.ref a, l1, l2, l3], [.ref a])) dz139_137 rfl rfl rfl
theorem dz139_138 : decode (z_code 139) 138 = .ok (.getfield 153, 3) := by decide +kernel
theorem u139_138 (ho : zO a 10) : zEv sc 139 138 [l0, l1, l2, l3] [.ref a] (zst p iv) Q ↔ zEv sc 139 141 [l0, l1, l2, l3] [.int (iv a 5)] (zst p iv) Q := zE_gfI dz139_138 (by decide +kernel : z_lk3 zFT (z_cls 139) 153 = some (10, 5, 0, 682)) (by decide +kernel) ho
theorem dz139_141 : decode (z_code 139) 141 = .ok (.ireturn, 1) := by decide +kernel
theorem u139_141 : zEv sc 139 141 [l0, l1, l2, l3] [.int x] h Q ↔ Q (some (.int x)) h := zE_ri dz139_141 (by decide +kernel)
theorem dz139_132 : decode (z_code 139) 132 = .ok (.aload_n 0, 1) := by decide +kernel
theorem u139_132 : zEv sc 139 132 [.ref a, l1, l2, l3] [] h Q ↔ zEv sc 139 133 [.ref a, l1, l2, l3] [.ref a] h Q := zE_pure (q := (133, [.ref a, l1, l2, l3], [.ref a])) dz139_132 rfl rfl rfl
theorem dz139_133 : decode (z_code 139) 133 = .ok (.getfield 35, 3) := by decide +kernel
theorem u139_133 (ho : zO a 10) : zEv sc 139 133 [l0, l1, l2, l3] [.ref a] (zst p iv) Q ↔ zEv sc 139 136 [l0, l1, l2, l3] [.int (iv a 3)] (zst p iv) Q := zE_gfI dz139_133 (by decide +kernel : z_lk3 zFT (z_cls 139) 35 = some (10, 3, 0, 680)) (by decide +kernel) ho
theorem dz139_136 : decode (z_code 139) 136 = .ok (.ireturn, 1) := by decide +kernel
theorem u139_136 : zEv sc 139 136 [l0, l1, l2, l3] [.int x] h Q ↔ Q (some (.int x)) h := zE_ri dz139_136 (by decide +kernel)
theorem dz139_123 : decode (z_code 139) 123 = .ok (.aload_n 0, 1) := by decide +kernel
theorem u139_123 : zEv sc 139 123 [.ref a, l1, l2, l3] [] h Q ↔ zEv sc 139 124 [.ref a, l1, l2, l3] [.ref a] h Q := zE_pure (q := (124, [.ref a, l1, l2, l3], [.ref a])) dz139_123 rfl rfl rfl
theorem dz139_124 : decode (z_code 139) 124 = .ok (.iload_n 1, 1) := by decide +kernel
theorem u139_124 : zEv sc 139 124 [l0, .int x, l2, l3] [t0] h Q ↔ zEv sc 139 125 [l0, .int x, l2, l3] [.int x, t0] h Q := zE_pure (q := (125, [l0, .int x, l2, l3], [.int x, t0])) dz139_124 rfl rfl rfl
theorem dz139_125 : decode (z_code 139) 125 = .ok (.bipush 7, 2) := by decide +kernel
theorem u139_125 : zEv sc 139 125 [l0, l1, l2, l3] [t0, t1] h Q ↔ zEv sc 139 127 [l0, l1, l2, l3] [.int 7, t0, t1] h Q := zE_bipush dz139_125 (by decide +kernel)
theorem dz139_127 : decode (z_code 139) 127 = .ok (.isub, 1) := by decide +kernel
theorem u139_127 : zEv sc 139 127 [l0, l1, l2, l3] [.int x2, .int x1, t0] h Q ↔ zEv sc 139 128 [l0, l1, l2, l3] [.int (x1 - x2), t0] h Q := zE_pure (q := (128, [l0, l1, l2, l3], [.int (x1 - x2), t0])) dz139_127 rfl rfl rfl
theorem dz139_128 : decode (z_code 139) 128 = .ok (.invokevirtual 140, 3) := by decide +kernel
theorem u139_128 (ho : zO a 10) : zEv sc 139 128 [l0, l1, l2, l3] [.int z0, .ref a] (zst p iv) Q ↔ zEv sc 104 0 [.ref a, .int z0, .null, .null] [] (zst p iv) (fun r h9 => zEv sc 139 131 [l0, l1, l2, l3] (r.toList ++ []) h9 Q) := zE_call (kd := 0) (na := 2) (nr := 0) (as := [.ref a, .int z0]) (rest := []) (Or.inl ⟨rfl, rfl⟩) dz139_128 (by decide +kernel : z_lk2 zCT (z_cls 139) 140 = some (104, 0, 887)) (fun z => by cases z) rfl rfl rfl (by decide +kernel) rfl (Or.inr (zE_rc ho))
theorem dz139_131 : decode (z_code 139) 131 = .ok (.ireturn, 1) := by decide +kernel
theorem u139_131 : zEv sc 139 131 [l0, l1, l2, l3] [.int x] h Q ↔ Q (some (.int x)) h := zE_ri dz139_131 (by decide +kernel)
theorem dz139_115 : decode (z_code 139) 115 = .ok (.aload_n 0, 1) := by decide +kernel
theorem u139_115 : zEv sc 139 115 [.ref a, l1, l2, l3] [] h Q ↔ zEv sc 139 116 [.ref a, l1, l2, l3] [.ref a] h Q := zE_pure (q := (116, [.ref a, l1, l2, l3], [.ref a])) dz139_115 rfl rfl rfl
theorem dz139_116 : decode (z_code 139) 116 = .ok (.iload_n 1, 1) := by decide +kernel
theorem u139_116 : zEv sc 139 116 [l0, .int x, l2, l3] [t0] h Q ↔ zEv sc 139 117 [l0, .int x, l2, l3] [.int x, t0] h Q := zE_pure (q := (117, [l0, .int x, l2, l3], [.int x, t0])) dz139_116 rfl rfl rfl
theorem dz139_117 : decode (z_code 139) 117 = .ok (.iconst 5, 1) := by decide +kernel
theorem u139_117 : zEv sc 139 117 [l0, l1, l2, l3] [t0, t1] h Q ↔ zEv sc 139 118 [l0, l1, l2, l3] [.int 5, t0, t1] h Q := zE_iconst dz139_117 (by decide +kernel)
theorem dz139_118 : decode (z_code 139) 118 = .ok (.isub, 1) := by decide +kernel
theorem u139_118 : zEv sc 139 118 [l0, l1, l2, l3] [.int x2, .int x1, t0] h Q ↔ zEv sc 139 119 [l0, l1, l2, l3] [.int (x1 - x2), t0] h Q := zE_pure (q := (119, [l0, l1, l2, l3], [.int (x1 - x2), t0])) dz139_118 rfl rfl rfl
theorem dz139_119 : decode (z_code 139) 119 = .ok (.invokevirtual 58, 3) := by decide +kernel
theorem u139_119 (ho : zO a 10) : zEv sc 139 119 [l0, l1, l2, l3] [.int z0, .ref a] (zst p iv) Q ↔ zEv sc 101 0 [.ref a, .int z0] [] (zst p iv) (fun r h9 => zEv sc 139 122 [l0, l1, l2, l3] (r.toList ++ []) h9 Q) := zE_call (kd := 0) (na := 2) (nr := 0) (as := [.ref a, .int z0]) (rest := []) (Or.inl ⟨rfl, rfl⟩) dz139_119 (by decide +kernel : z_lk2 zCT (z_cls 139) 58 = some (101, 0, 776)) (fun z => by cases z) rfl rfl rfl (by decide +kernel) rfl (Or.inr (zE_rc ho))
theorem dz139_122 : decode (z_code 139) 122 = .ok (.ireturn, 1) := by decide +kernel
theorem u139_122 : zEv sc 139 122 [l0, l1, l2, l3] [.int x] h Q ↔ Q (some (.int x)) h := zE_ri dz139_122 (by decide +kernel)
theorem dz139_103 : decode (z_code 139) 103 = .ok (.aload_n 0, 1) := by decide +kernel
theorem u139_103 : zEv sc 139 103 [.ref a, l1, l2, l3] [] h Q ↔ zEv sc 139 104 [.ref a, l1, l2, l3] [.ref a] h Q := zE_pure (q := (104, [.ref a, l1, l2, l3], [.ref a])) dz139_103 rfl rfl rfl
theorem dz139_104 : decode (z_code 139) 104 = .ok (.getfield 7, 3) := by decide +kernel
theorem u139_104 (ho : zO a 10) : zEv sc 139 104 [l0, l1, l2, l3] [.ref a] (zst p iv) Q ↔ zRef (zRV p a 0) (fun j => zEv sc 139 107 [l0, l1, l2, l3] [.ref j] (zst p iv) Q) := zE_gfR dz139_104 (by decide +kernel : z_lk3 zFT (z_cls 139) 7 = some (10, 0, 0, 677)) (by decide +kernel) ho
theorem dz139_107 : decode (z_code 139) 107 = .ok (.bipush 6, 2) := by decide +kernel
theorem u139_107 : zEv sc 139 107 [l0, l1, l2, l3] [t0] h Q ↔ zEv sc 139 109 [l0, l1, l2, l3] [.int 6, t0] h Q := zE_bipush dz139_107 (by decide +kernel)
theorem dz139_109 : decode (z_code 139) 109 = .ok (.iload_n 1, 1) := by decide +kernel
theorem u139_109 : zEv sc 139 109 [l0, .int x, l2, l3] [t0, t1] h Q ↔ zEv sc 139 110 [l0, .int x, l2, l3] [.int x, t0, t1] h Q := zE_pure (q := (110, [l0, .int x, l2, l3], [.int x, t0, t1])) dz139_109 rfl rfl rfl
theorem dz139_110 : decode (z_code 139) 110 = .ok (.iadd, 1) := by decide +kernel
theorem u139_110 : zEv sc 139 110 [l0, l1, l2, l3] [.int x2, .int x1, t0] h Q ↔ zEv sc 139 111 [l0, l1, l2, l3] [.int (x1 + x2), t0] h Q := zE_pure (q := (111, [l0, l1, l2, l3], [.int (x1 + x2), t0])) dz139_110 rfl rfl rfl
theorem dz139_111 : decode (z_code 139) 111 = .ok (.iconst 3, 1) := by decide +kernel
theorem u139_111 : zEv sc 139 111 [l0, l1, l2, l3] [t0, t1] h Q ↔ zEv sc 139 112 [l0, l1, l2, l3] [.int 3, t0, t1] h Q := zE_iconst dz139_111 (by decide +kernel)
theorem dz139_112 : decode (z_code 139) 112 = .ok (.isub, 1) := by decide +kernel
theorem u139_112 : zEv sc 139 112 [l0, l1, l2, l3] [.int x2, .int x1, t0] h Q ↔ zEv sc 139 113 [l0, l1, l2, l3] [.int (x1 - x2), t0] h Q := zE_pure (q := (113, [l0, l1, l2, l3], [.int (x1 - x2), t0])) dz139_112 rfl rfl rfl
theorem dz139_113 : decode (z_code 139) 113 = .ok (.iaload, 1) := by decide +kernel
theorem u139_113 (ho : zO a 100) : zEv sc 139 113 [l0, l1, l2, l3] [.int x, .ref a] (zst p iv) Q ↔ (vp_in x (zLn a) ∧ zEv sc 139 114 [l0, l1, l2, l3] [.int (iv a x.toNatClampNeg)] (zst p iv) Q) := zE_ald (Or.inl ⟨rfl, rfl⟩) dz139_113 ho
theorem dz139_114 : decode (z_code 139) 114 = .ok (.ireturn, 1) := by decide +kernel
theorem u139_114 : zEv sc 139 114 [l0, l1, l2, l3] [.int x] h Q ↔ Q (some (.int x)) h := zE_ri dz139_114 (by decide +kernel)
theorem dz139_96 : decode (z_code 139) 96 = .ok (.aload_n 0, 1) := by decide +kernel
theorem u139_96 : zEv sc 139 96 [.ref a, l1, l2, l3] [] h Q ↔ zEv sc 139 97 [.ref a, l1, l2, l3] [.ref a] h Q := zE_pure (q := (97, [.ref a, l1, l2, l3], [.ref a])) dz139_96 rfl rfl rfl
theorem dz139_97 : decode (z_code 139) 97 = .ok (.getfield 7, 3) := by decide +kernel
theorem u139_97 (ho : zO a 10) : zEv sc 139 97 [l0, l1, l2, l3] [.ref a] (zst p iv) Q ↔ zRef (zRV p a 0) (fun j => zEv sc 139 100 [l0, l1, l2, l3] [.ref j] (zst p iv) Q) := zE_gfR dz139_97 (by decide +kernel : z_lk3 zFT (z_cls 139) 7 = some (10, 0, 0, 677)) (by decide +kernel) ho
theorem dz139_100 : decode (z_code 139) 100 = .ok (.iconst 1, 1) := by decide +kernel
theorem u139_100 : zEv sc 139 100 [l0, l1, l2, l3] [t0] h Q ↔ zEv sc 139 101 [l0, l1, l2, l3] [.int 1, t0] h Q := zE_iconst dz139_100 (by decide +kernel)
theorem dz139_101 : decode (z_code 139) 101 = .ok (.iaload, 1) := by decide +kernel
theorem u139_101 (ho : zO a 100) : zEv sc 139 101 [l0, l1, l2, l3] [.int x, .ref a] (zst p iv) Q ↔ (vp_in x (zLn a) ∧ zEv sc 139 102 [l0, l1, l2, l3] [.int (iv a x.toNatClampNeg)] (zst p iv) Q) := zE_ald (Or.inl ⟨rfl, rfl⟩) dz139_101 ho
theorem dz139_102 : decode (z_code 139) 102 = .ok (.ireturn, 1) := by decide +kernel
theorem u139_102 : zEv sc 139 102 [l0, l1, l2, l3] [.int x] h Q ↔ Q (some (.int x)) h := zE_ri dz139_102 (by decide +kernel)
theorem dz139_63 : decode (z_code 139) 63 = .ok (.iconst 0, 1) := by decide +kernel
theorem u139_63 : zEv sc 139 63 [l0, l1, l2, l3] [] h Q ↔ zEv sc 139 64 [l0, l1, l2, l3] [.int 0] h Q := zE_iconst dz139_63 (by decide +kernel)
theorem dz139_64 : decode (z_code 139) 64 = .ok (.istore_n 2, 1) := by decide +kernel
theorem u139_64 : zEv sc 139 64 [l0, l1, l2, l3] [.int x] h Q ↔ zEv sc 139 65 [l0, l1, .int x, l3] [] h Q := zE_pure (q := (65, [l0, l1, .int x, l3], [])) dz139_64 rfl rfl rfl
theorem dz139_65 : decode (z_code 139) 65 = .ok (.iconst 0, 1) := by decide +kernel
theorem u139_65 : zEv sc 139 65 [l0, l1, l2, l3] [] h Q ↔ zEv sc 139 66 [l0, l1, l2, l3] [.int 0] h Q := zE_iconst dz139_65 (by decide +kernel)
theorem dz139_66 : decode (z_code 139) 66 = .ok (.istore_n 3, 1) := by decide +kernel
theorem u139_66 : zEv sc 139 66 [l0, l1, l2, l3] [.int x] h Q ↔ zEv sc 139 67 [l0, l1, l2, .int x] [] h Q := zE_pure (q := (67, [l0, l1, l2, .int x], [])) dz139_66 rfl rfl rfl
theorem dz139_67 : decode (z_code 139) 67 = .ok (.iload_n 3, 1) := by decide +kernel
theorem u139_67 : zEv sc 139 67 [l0, l1, l2, .int x] [] h Q ↔ zEv sc 139 68 [l0, l1, l2, .int x] [.int x] h Q := zE_pure (q := (68, [l0, l1, l2, .int x], [.int x])) dz139_67 rfl rfl rfl
theorem dz139_68 : decode (z_code 139) 68 = .ok (.aload_n 0, 1) := by decide +kernel
theorem u139_68 : zEv sc 139 68 [.ref a, l1, l2, l3] [t0] h Q ↔ zEv sc 139 69 [.ref a, l1, l2, l3] [.ref a, t0] h Q := zE_pure (q := (69, [.ref a, l1, l2, l3], [.ref a, t0])) dz139_68 rfl rfl rfl
theorem dz139_69 : decode (z_code 139) 69 = .ok (.getfield 7, 3) := by decide +kernel
theorem u139_69 (ho : zO a 10) : zEv sc 139 69 [l0, l1, l2, l3] [.ref a, t0] (zst p iv) Q ↔ zRef (zRV p a 0) (fun j => zEv sc 139 72 [l0, l1, l2, l3] [.ref j, t0] (zst p iv) Q) := zE_gfR dz139_69 (by decide +kernel : z_lk3 zFT (z_cls 139) 7 = some (10, 0, 0, 677)) (by decide +kernel) ho
theorem dz139_72 : decode (z_code 139) 72 = .ok (.iconst 0, 1) := by decide +kernel
theorem u139_72 : zEv sc 139 72 [l0, l1, l2, l3] [t0, t1] h Q ↔ zEv sc 139 73 [l0, l1, l2, l3] [.int 0, t0, t1] h Q := zE_iconst dz139_72 (by decide +kernel)
theorem dz139_73 : decode (z_code 139) 73 = .ok (.iaload, 1) := by decide +kernel
theorem u139_73 (ho : zO a 100) : zEv sc 139 73 [l0, l1, l2, l3] [.int x, .ref a, t0] (zst p iv) Q ↔ (vp_in x (zLn a) ∧ zEv sc 139 74 [l0, l1, l2, l3] [.int (iv a x.toNatClampNeg), t0] (zst p iv) Q) := zE_ald (Or.inl ⟨rfl, rfl⟩) dz139_73 ho
theorem dz139_74 : decode (z_code 139) 74 = .ok (.if_icmp .ge 20, 3) := by decide +kernel
theorem u139_74 : zEv sc 139 74 [l0, l1, l2, l3] [.int x2, .int x1] h Q ↔ (if x2 ≤ x1 then zEv sc 139 94 [l0, l1, l2, l3] [] h Q else zEv sc 139 77 [l0, l1, l2, l3] [] h Q) := zE_icP (P := x2 ≤ x1) inferInstance 94 dz139_74 rfl rfl
theorem dz139_77 : decode (z_code 139) 77 = .ok (.iload_n 2, 1) := by decide +kernel
theorem u139_77 : zEv sc 139 77 [l0, l1, .int x, l3] [] h Q ↔ zEv sc 139 78 [l0, l1, .int x, l3] [.int x] h Q := zE_pure (q := (78, [l0, l1, .int x, l3], [.int x])) dz139_77 rfl rfl rfl
theorem dz139_78 : decode (z_code 139) 78 = .ok (.aload_n 0, 1) := by decide +kernel
theorem u139_78 : zEv sc 139 78 [.ref a, l1, l2, l3] [t0] h Q ↔ zEv sc 139 79 [.ref a, l1, l2, l3] [.ref a, t0] h Q := zE_pure (q := (79, [.ref a, l1, l2, l3], [.ref a, t0])) dz139_78 rfl rfl rfl
theorem dz139_79 : decode (z_code 139) 79 = .ok (.getfield 7, 3) := by decide +kernel
theorem u139_79 (ho : zO a 10) : zEv sc 139 79 [l0, l1, l2, l3] [.ref a, t0] (zst p iv) Q ↔ zRef (zRV p a 0) (fun j => zEv sc 139 82 [l0, l1, l2, l3] [.ref j, t0] (zst p iv) Q) := zE_gfR dz139_79 (by decide +kernel : z_lk3 zFT (z_cls 139) 7 = some (10, 0, 0, 677)) (by decide +kernel) ho
theorem dz139_82 : decode (z_code 139) 82 = .ok (.iconst 2, 1) := by decide +kernel
theorem u139_82 : zEv sc 139 82 [l0, l1, l2, l3] [t0, t1] h Q ↔ zEv sc 139 83 [l0, l1, l2, l3] [.int 2, t0, t1] h Q := zE_iconst dz139_82 (by decide +kernel)
theorem dz139_83 : decode (z_code 139) 83 = .ok (.iload_n 3, 1) := by decide +kernel
theorem u139_83 : zEv sc 139 83 [l0, l1, l2, .int x] [t0, t1, t2] h Q ↔ zEv sc 139 84 [l0, l1, l2, .int x] [.int x, t0, t1, t2] h Q := zE_pure (q := (84, [l0, l1, l2, .int x], [.int x, t0, t1, t2])) dz139_83 rfl rfl rfl
theorem dz139_84 : decode (z_code 139) 84 = .ok (.iadd, 1) := by decide +kernel
theorem u139_84 : zEv sc 139 84 [l0, l1, l2, l3] [.int x2, .int x1, t0, t1] h Q ↔ zEv sc 139 85 [l0, l1, l2, l3] [.int (x1 + x2), t0, t1] h Q := zE_pure (q := (85, [l0, l1, l2, l3], [.int (x1 + x2), t0, t1])) dz139_84 rfl rfl rfl
theorem dz139_85 : decode (z_code 139) 85 = .ok (.iaload, 1) := by decide +kernel
theorem u139_85 (ho : zO a 100) : zEv sc 139 85 [l0, l1, l2, l3] [.int x, .ref a, t0] (zst p iv) Q ↔ (vp_in x (zLn a) ∧ zEv sc 139 86 [l0, l1, l2, l3] [.int (iv a x.toNatClampNeg), t0] (zst p iv) Q) := zE_ald (Or.inl ⟨rfl, rfl⟩) dz139_85 ho
theorem dz139_86 : decode (z_code 139) 86 = .ok (.iadd, 1) := by decide +kernel
theorem u139_86 : zEv sc 139 86 [l0, l1, l2, l3] [.int x2, .int x1] h Q ↔ zEv sc 139 87 [l0, l1, l2, l3] [.int (x1 + x2)] h Q := zE_pure (q := (87, [l0, l1, l2, l3], [.int (x1 + x2)])) dz139_86 rfl rfl rfl
theorem dz139_87 : decode (z_code 139) 87 = .ok (.istore_n 2, 1) := by decide +kernel
theorem u139_87 : zEv sc 139 87 [l0, l1, l2, l3] [.int x] h Q ↔ zEv sc 139 88 [l0, l1, .int x, l3] [] h Q := zE_pure (q := (88, [l0, l1, .int x, l3], [])) dz139_87 rfl rfl rfl
theorem dz139_88 : decode (z_code 139) 88 = .ok (.iinc 3 1, 3) := by decide +kernel
theorem u139_88 : zEv sc 139 88 [l0, l1, l2, .int x] [] h Q ↔ zEv sc 139 91 [l0, l1, l2, .int (x + 1)] [] h Q := zE_iinc (ls2 := [l0, l1, l2, .int (x + 1)]) dz139_88 (by decide +kernel) rfl (by simp) rfl
theorem dz139_91 : decode (z_code 139) 91 = .ok (.goto (-24), 3) := by decide +kernel
theorem u139_91 : zEv sc 139 91 [l0, l1, l2, l3] [] h Q ↔ zEv sc 139 67 [l0, l1, l2, l3] [] h Q := zE_go 67 dz139_91 rfl
theorem dz139_94 : decode (z_code 139) 94 = .ok (.iload_n 2, 1) := by decide +kernel
theorem u139_94 : zEv sc 139 94 [l0, l1, .int x, l3] [] h Q ↔ zEv sc 139 95 [l0, l1, .int x, l3] [.int x] h Q := zE_pure (q := (95, [l0, l1, .int x, l3], [.int x])) dz139_94 rfl rfl rfl
theorem dz139_95 : decode (z_code 139) 95 = .ok (.ireturn, 1) := by decide +kernel
theorem u139_95 : zEv sc 139 95 [l0, l1, l2, l3] [.int x] h Q ↔ Q (some (.int x)) h := zE_ri dz139_95 (by decide +kernel)
theorem dz139_56 : decode (z_code 139) 56 = .ok (.aload_n 0, 1) := by decide +kernel
theorem u139_56 : zEv sc 139 56 [.ref a, l1, l2, l3] [] h Q ↔ zEv sc 139 57 [.ref a, l1, l2, l3] [.ref a] h Q := zE_pure (q := (57, [.ref a, l1, l2, l3], [.ref a])) dz139_56 rfl rfl rfl
theorem dz139_57 : decode (z_code 139) 57 = .ok (.getfield 7, 3) := by decide +kernel
theorem u139_57 (ho : zO a 10) : zEv sc 139 57 [l0, l1, l2, l3] [.ref a] (zst p iv) Q ↔ zRef (zRV p a 0) (fun j => zEv sc 139 60 [l0, l1, l2, l3] [.ref j] (zst p iv) Q) := zE_gfR dz139_57 (by decide +kernel : z_lk3 zFT (z_cls 139) 7 = some (10, 0, 0, 677)) (by decide +kernel) ho
theorem dz139_60 : decode (z_code 139) 60 = .ok (.iconst 0, 1) := by decide +kernel
theorem u139_60 : zEv sc 139 60 [l0, l1, l2, l3] [t0] h Q ↔ zEv sc 139 61 [l0, l1, l2, l3] [.int 0, t0] h Q := zE_iconst dz139_60 (by decide +kernel)
theorem dz139_61 : decode (z_code 139) 61 = .ok (.iaload, 1) := by decide +kernel
theorem u139_61 (ho : zO a 100) : zEv sc 139 61 [l0, l1, l2, l3] [.int x, .ref a] (zst p iv) Q ↔ (vp_in x (zLn a) ∧ zEv sc 139 62 [l0, l1, l2, l3] [.int (iv a x.toNatClampNeg)] (zst p iv) Q) := zE_ald (Or.inl ⟨rfl, rfl⟩) dz139_61 ho
theorem dz139_62 : decode (z_code 139) 62 = .ok (.ireturn, 1) := by decide +kernel
theorem u139_62 : zEv sc 139 62 [l0, l1, l2, l3] [.int x] h Q ↔ Q (some (.int x)) h := zE_ri dz139_62 (by decide +kernel)
/-! method 140: FieldMixturesModel.count(I)I -/
theorem dz140_0 : decode (z_code 140) 0 = .ok (.iload_n 1, 1) := by decide +kernel
theorem u140_0 : zEv sc 140 0 [l0, .int x, l2] [] h Q ↔ zEv sc 140 1 [l0, .int x, l2] [.int x] h Q := zE_pure (q := (1, [l0, .int x, l2], [.int x])) dz140_0 rfl rfl rfl
theorem dz140_1 : decode (z_code 140) 1 = .ok (.iconst 0, 1) := by decide +kernel
theorem u140_1 : zEv sc 140 1 [l0, l1, l2] [t0] h Q ↔ zEv sc 140 2 [l0, l1, l2] [.int 0, t0] h Q := zE_iconst dz140_1 (by decide +kernel)
theorem dz140_2 : decode (z_code 140) 2 = .ok (.bipush 10, 2) := by decide +kernel
theorem u140_2 : zEv sc 140 2 [l0, l1, l2] [t0, t1] h Q ↔ zEv sc 140 4 [l0, l1, l2] [.int 10, t0, t1] h Q := zE_bipush dz140_2 (by decide +kernel)
theorem dz140_4 : decode (z_code 140) 4 = .ok (.invokestatic 39, 3) := by decide +kernel
theorem u140_4 : zEv sc 140 4 [l0, l1, l2] [.int z2, .int z1, .int z0] h Q ↔ zEv sc 89 0 [.int z0, .int z1, .int z2] [] h (fun r h9 => zEv sc 140 7 [l0, l1, l2] (r.toList ++ []) h9 Q) := zE_call (kd := 1) (na := 3) (nr := 0) (as := [.int z0, .int z1, .int z2]) (rest := []) (Or.inr ⟨rfl, rfl⟩) dz140_4 (by decide +kernel : z_lk2 zCT (z_cls 140) 39 = some (89, 0, 734)) (fun _ => by decide +kernel) rfl rfl rfl (by decide +kernel) rfl (Or.inl rfl)
theorem dz140_7 : decode (z_code 140) 7 = .ok (.ifCond .eq 9, 3) := by decide +kernel
theorem u140_7 : zEv sc 140 7 [l0, l1, l2] [.int x] h Q ↔ (if x = 0 then zEv sc 140 16 [l0, l1, l2] [] h Q else zEv sc 140 10 [l0, l1, l2] [] h Q) := zE_ifP (P := x = 0) inferInstance 16 dz140_7 rfl rfl
theorem dz140_10 : decode (z_code 140) 10 = .ok (.aload_n 0, 1) := by decide +kernel
theorem u140_10 : zEv sc 140 10 [.ref a, l1, l2] [] h Q ↔ zEv sc 140 11 [.ref a, l1, l2] [.ref a] h Q := zE_pure (q := (11, [.ref a, l1, l2], [.ref a])) dz140_10 rfl rfl rfl
theorem dz140_11 : decode (z_code 140) 11 = .ok (.iload_n 1, 1) := by decide +kernel
theorem u140_11 : zEv sc 140 11 [l0, .int x, l2] [t0] h Q ↔ zEv sc 140 12 [l0, .int x, l2] [.int x, t0] h Q := zE_pure (q := (12, [l0, .int x, l2], [.int x, t0])) dz140_11 rfl rfl rfl
theorem dz140_12 : decode (z_code 140) 12 = .ok (.invokevirtual 156, 3) := by decide +kernel
theorem u140_12 (ho : zO a 10) : zEv sc 140 12 [l0, l1, l2] [.int z0, .ref a] (zst p iv) Q ↔ zEv sc 139 0 [.ref a, .int z0, .null, .null] [] (zst p iv) (fun r h9 => zEv sc 140 15 [l0, l1, l2] (r.toList ++ []) h9 Q) := zE_call (kd := 0) (na := 2) (nr := 0) (as := [.ref a, .int z0]) (rest := []) (Or.inl ⟨rfl, rfl⟩) dz140_12 (by decide +kernel : z_lk2 zCT (z_cls 140) 156 = some (139, 0, 930)) (fun z => by cases z) rfl rfl rfl (by decide +kernel) rfl (Or.inr (zE_rc ho))
theorem dz140_15 : decode (z_code 140) 15 = .ok (.ireturn, 1) := by decide +kernel
theorem u140_15 : zEv sc 140 15 [l0, l1, l2] [.int x] h Q ↔ Q (some (.int x)) h := zE_ri dz140_15 (by decide +kernel)
theorem dz140_16 : decode (z_code 140) 16 = .ok (.iload_n 1, 1) := by decide +kernel
theorem u140_16 : zEv sc 140 16 [l0, .int x, l2] [] h Q ↔ zEv sc 140 17 [l0, .int x, l2] [.int x] h Q := zE_pure (q := (17, [l0, .int x, l2], [.int x])) dz140_16 rfl rfl rfl
theorem dz140_17 : decode (z_code 140) 17 = .ok (.bipush 20, 2) := by decide +kernel
theorem u140_17 : zEv sc 140 17 [l0, l1, l2] [t0] h Q ↔ zEv sc 140 19 [l0, l1, l2] [.int 20, t0] h Q := zE_bipush dz140_17 (by decide +kernel)
theorem dz140_19 : decode (z_code 140) 19 = .ok (.bipush 49, 2) := by decide +kernel
theorem u140_19 : zEv sc 140 19 [l0, l1, l2] [t0, t1] h Q ↔ zEv sc 140 21 [l0, l1, l2] [.int 49, t0, t1] h Q := zE_bipush dz140_19 (by decide +kernel)
theorem dz140_21 : decode (z_code 140) 21 = .ok (.invokestatic 39, 3) := by decide +kernel
theorem u140_21 : zEv sc 140 21 [l0, l1, l2] [.int z2, .int z1, .int z0] h Q ↔ zEv sc 89 0 [.int z0, .int z1, .int z2] [] h (fun r h9 => zEv sc 140 24 [l0, l1, l2] (r.toList ++ []) h9 Q) := zE_call (kd := 1) (na := 3) (nr := 0) (as := [.int z0, .int z1, .int z2]) (rest := []) (Or.inr ⟨rfl, rfl⟩) dz140_21 (by decide +kernel : z_lk2 zCT (z_cls 140) 39 = some (89, 0, 734)) (fun _ => by decide +kernel) rfl rfl rfl (by decide +kernel) rfl (Or.inl rfl)
theorem dz140_24 : decode (z_code 140) 24 = .ok (.ifCond .eq 20, 3) := by decide +kernel
theorem u140_24 : zEv sc 140 24 [l0, l1, l2] [.int x] h Q ↔ (if x = 0 then zEv sc 140 44 [l0, l1, l2] [] h Q else zEv sc 140 27 [l0, l1, l2] [] h Q) := zE_ifP (P := x = 0) inferInstance 44 dz140_24 rfl rfl
theorem dz140_27 : decode (z_code 140) 27 = .ok (.iload_n 1, 1) := by decide +kernel
theorem u140_27 : zEv sc 140 27 [l0, .int x, l2] [] h Q ↔ zEv sc 140 28 [l0, .int x, l2] [.int x] h Q := zE_pure (q := (28, [l0, .int x, l2], [.int x])) dz140_27 rfl rfl rfl
theorem dz140_28 : decode (z_code 140) 28 = .ok (.bipush 10, 2) := by decide +kernel
theorem u140_28 : zEv sc 140 28 [l0, l1, l2] [t0] h Q ↔ zEv sc 140 30 [l0, l1, l2] [.int 10, t0] h Q := zE_bipush dz140_28 (by decide +kernel)
theorem dz140_30 : decode (z_code 140) 30 = .ok (.irem, 1) := by decide +kernel
theorem u140_30 : zEv sc 140 30 [l0, l1, l2] [.int x2, .int x1] h Q ↔ (¬ x2 = 0 ∧ zEv sc 140 31 [l0, l1, l2] [.int (x1 - x1 / x2 * x2)] h Q) := zE_rem dz140_30
theorem dz140_31 : decode (z_code 140) 31 = .ok (.aload_n 0, 1) := by decide +kernel
theorem u140_31 : zEv sc 140 31 [.ref a, l1, l2] [t0] h Q ↔ zEv sc 140 32 [.ref a, l1, l2] [.ref a, t0] h Q := zE_pure (q := (32, [.ref a, l1, l2], [.ref a, t0])) dz140_31 rfl rfl rfl
theorem dz140_32 : decode (z_code 140) 32 = .ok (.getfield 7, 3) := by decide +kernel
theorem u140_32 (ho : zO a 10) : zEv sc 140 32 [l0, l1, l2] [.ref a, t0] (zst p iv) Q ↔ zRef (zRV p a 0) (fun j => zEv sc 140 35 [l0, l1, l2] [.ref j, t0] (zst p iv) Q) := zE_gfR dz140_32 (by decide +kernel : z_lk3 zFT (z_cls 140) 7 = some (10, 0, 0, 677)) (by decide +kernel) ho
theorem dz140_35 : decode (z_code 140) 35 = .ok (.iconst 0, 1) := by decide +kernel
theorem u140_35 : zEv sc 140 35 [l0, l1, l2] [t0, t1] h Q ↔ zEv sc 140 36 [l0, l1, l2] [.int 0, t0, t1] h Q := zE_iconst dz140_35 (by decide +kernel)
theorem dz140_36 : decode (z_code 140) 36 = .ok (.iaload, 1) := by decide +kernel
theorem u140_36 (ho : zO a 100) : zEv sc 140 36 [l0, l1, l2] [.int x, .ref a, t0] (zst p iv) Q ↔ (vp_in x (zLn a) ∧ zEv sc 140 37 [l0, l1, l2] [.int (iv a x.toNatClampNeg), t0] (zst p iv) Q) := zE_ald (Or.inl ⟨rfl, rfl⟩) dz140_36 ho
theorem dz140_37 : decode (z_code 140) 37 = .ok (.if_icmp .ge 7, 3) := by decide +kernel
theorem u140_37 : zEv sc 140 37 [l0, l1, l2] [.int x2, .int x1] h Q ↔ (if x2 ≤ x1 then zEv sc 140 44 [l0, l1, l2] [] h Q else zEv sc 140 40 [l0, l1, l2] [] h Q) := zE_icP (P := x2 ≤ x1) inferInstance 44 dz140_37 rfl rfl
theorem dz140_40 : decode (z_code 140) 40 = .ok (.iconst 1, 1) := by decide +kernel
theorem u140_40 : zEv sc 140 40 [l0, l1, l2] [] h Q ↔ zEv sc 140 41 [l0, l1, l2] [.int 1] h Q := zE_iconst dz140_40 (by decide +kernel)
theorem dz140_41 : decode (z_code 140) 41 = .ok (.goto 4, 3) := by decide +kernel
theorem u140_41 : zEv sc 140 41 [l0, l1, l2] [t0] h Q ↔ zEv sc 140 45 [l0, l1, l2] [t0] h Q := zE_go 45 dz140_41 rfl
theorem dz140_45 : decode (z_code 140) 45 = .ok (.istore_n 2, 1) := by decide +kernel
theorem u140_45 : zEv sc 140 45 [l0, l1, l2] [.int x] h Q ↔ zEv sc 140 46 [l0, l1, .int x] [] h Q := zE_pure (q := (46, [l0, l1, .int x], [])) dz140_45 rfl rfl rfl
theorem dz140_46 : decode (z_code 140) 46 = .ok (.iload_n 2, 1) := by decide +kernel
theorem u140_46 : zEv sc 140 46 [l0, l1, .int x] [] h Q ↔ zEv sc 140 47 [l0, l1, .int x] [.int x] h Q := zE_pure (q := (47, [l0, l1, .int x], [.int x])) dz140_46 rfl rfl rfl
theorem dz140_47 : decode (z_code 140) 47 = .ok (.ifCond .ne 8, 3) := by decide +kernel
theorem u140_47 : zEv sc 140 47 [l0, l1, l2] [.int x] h Q ↔ (if ¬ x = 0 then zEv sc 140 55 [l0, l1, l2] [] h Q else zEv sc 140 50 [l0, l1, l2] [] h Q) := zE_ifP (P := ¬ x = 0) inferInstance 55 dz140_47 rfl rfl
theorem dz140_50 : decode (z_code 140) 50 = .ok (.ldc 31, 2) := by decide +kernel
theorem u140_50 : zEv sc 140 50 [l0, l1, l2] [] h Q ↔ zEv sc 140 52 [l0, l1, l2] [.int (-1000001)] h Q := zE_ldc (by decide +kernel : z_lkK zKT (z_cls 140) 31 = some ((-1000001), 744)) dz140_50
theorem dz140_52 : decode (z_code 140) 52 = .ok (.goto 44, 3) := by decide +kernel
theorem u140_52 : zEv sc 140 52 [l0, l1, l2] [t0] h Q ↔ zEv sc 140 96 [l0, l1, l2] [t0] h Q := zE_go 96 dz140_52 rfl
theorem dz140_96 : decode (z_code 140) 96 = .ok (.ireturn, 1) := by decide +kernel
theorem u140_96 : zEv sc 140 96 [l0, l1, l2] [.int x] h Q ↔ Q (some (.int x)) h := zE_ri dz140_96 (by decide +kernel)
theorem dz140_55 : decode (z_code 140) 55 = .ok (.iload_n 1, 1) := by decide +kernel
theorem u140_55 : zEv sc 140 55 [l0, .int x, l2] [] h Q ↔ zEv sc 140 56 [l0, .int x, l2] [.int x] h Q := zE_pure (q := (56, [l0, .int x, l2], [.int x])) dz140_55 rfl rfl rfl
theorem dz140_56 : decode (z_code 140) 56 = .ok (.bipush 30, 2) := by decide +kernel
theorem u140_56 : zEv sc 140 56 [l0, l1, l2] [t0] h Q ↔ zEv sc 140 58 [l0, l1, l2] [.int 30, t0] h Q := zE_bipush dz140_56 (by decide +kernel)
theorem dz140_58 : decode (z_code 140) 58 = .ok (.if_icmp .ge 17, 3) := by decide +kernel
theorem u140_58 : zEv sc 140 58 [l0, l1, l2] [.int x2, .int x1] h Q ↔ (if x2 ≤ x1 then zEv sc 140 75 [l0, l1, l2] [] h Q else zEv sc 140 61 [l0, l1, l2] [] h Q) := zE_icP (P := x2 ≤ x1) inferInstance 75 dz140_58 rfl rfl
theorem dz140_61 : decode (z_code 140) 61 = .ok (.aload_n 0, 1) := by decide +kernel
theorem u140_61 : zEv sc 140 61 [.ref a, l1, l2] [] h Q ↔ zEv sc 140 62 [.ref a, l1, l2] [.ref a] h Q := zE_pure (q := (62, [.ref a, l1, l2], [.ref a])) dz140_61 rfl rfl rfl
theorem dz140_62 : decode (z_code 140) 62 = .ok (.getfield 7, 3) := by decide +kernel
theorem u140_62 (ho : zO a 10) : zEv sc 140 62 [l0, l1, l2] [.ref a] (zst p iv) Q ↔ zRef (zRV p a 0) (fun j => zEv sc 140 65 [l0, l1, l2] [.ref j] (zst p iv) Q) := zE_gfR dz140_62 (by decide +kernel : z_lk3 zFT (z_cls 140) 7 = some (10, 0, 0, 677)) (by decide +kernel) ho
theorem dz140_65 : decode (z_code 140) 65 = .ok (.iconst 2, 1) := by decide +kernel
theorem u140_65 : zEv sc 140 65 [l0, l1, l2] [t0] h Q ↔ zEv sc 140 66 [l0, l1, l2] [.int 2, t0] h Q := zE_iconst dz140_65 (by decide +kernel)
theorem dz140_66 : decode (z_code 140) 66 = .ok (.iload_n 1, 1) := by decide +kernel
theorem u140_66 : zEv sc 140 66 [l0, .int x, l2] [t0, t1] h Q ↔ zEv sc 140 67 [l0, .int x, l2] [.int x, t0, t1] h Q := zE_pure (q := (67, [l0, .int x, l2], [.int x, t0, t1])) dz140_66 rfl rfl rfl
theorem dz140_67 : decode (z_code 140) 67 = .ok (.iadd, 1) := by decide +kernel
theorem u140_67 : zEv sc 140 67 [l0, l1, l2] [.int x2, .int x1, t0] h Q ↔ zEv sc 140 68 [l0, l1, l2] [.int (x1 + x2), t0] h Q := zE_pure (q := (68, [l0, l1, l2], [.int (x1 + x2), t0])) dz140_67 rfl rfl rfl
theorem dz140_68 : decode (z_code 140) 68 = .ok (.bipush 20, 2) := by decide +kernel
theorem u140_68 : zEv sc 140 68 [l0, l1, l2] [t0, t1] h Q ↔ zEv sc 140 70 [l0, l1, l2] [.int 20, t0, t1] h Q := zE_bipush dz140_68 (by decide +kernel)
theorem dz140_70 : decode (z_code 140) 70 = .ok (.isub, 1) := by decide +kernel
theorem u140_70 : zEv sc 140 70 [l0, l1, l2] [.int x2, .int x1, t0] h Q ↔ zEv sc 140 71 [l0, l1, l2] [.int (x1 - x2), t0] h Q := zE_pure (q := (71, [l0, l1, l2], [.int (x1 - x2), t0])) dz140_70 rfl rfl rfl
theorem dz140_71 : decode (z_code 140) 71 = .ok (.iaload, 1) := by decide +kernel
theorem u140_71 (ho : zO a 100) : zEv sc 140 71 [l0, l1, l2] [.int x, .ref a] (zst p iv) Q ↔ (vp_in x (zLn a) ∧ zEv sc 140 72 [l0, l1, l2] [.int (iv a x.toNatClampNeg)] (zst p iv) Q) := zE_ald (Or.inl ⟨rfl, rfl⟩) dz140_71 ho
theorem dz140_72 : decode (z_code 140) 72 = .ok (.goto 24, 3) := by decide +kernel
theorem u140_72 : zEv sc 140 72 [l0, l1, l2] [t0] h Q ↔ zEv sc 140 96 [l0, l1, l2] [t0] h Q := zE_go 96 dz140_72 rfl
theorem dz140_75 : decode (z_code 140) 75 = .ok (.aload_n 0, 1) := by decide +kernel
theorem u140_75 : zEv sc 140 75 [.ref a, l1, l2] [] h Q ↔ zEv sc 140 76 [.ref a, l1, l2] [.ref a] h Q := zE_pure (q := (76, [.ref a, l1, l2], [.ref a])) dz140_75 rfl rfl rfl
theorem dz140_76 : decode (z_code 140) 76 = .ok (.getfield 7, 3) := by decide +kernel
theorem u140_76 (ho : zO a 10) : zEv sc 140 76 [l0, l1, l2] [.ref a] (zst p iv) Q ↔ zRef (zRV p a 0) (fun j => zEv sc 140 79 [l0, l1, l2] [.ref j] (zst p iv) Q) := zE_gfR dz140_76 (by decide +kernel : z_lk3 zFT (z_cls 140) 7 = some (10, 0, 0, 677)) (by decide +kernel) ho
theorem dz140_79 : decode (z_code 140) 79 = .ok (.bipush 8, 2) := by decide +kernel
theorem u140_79 : zEv sc 140 79 [l0, l1, l2] [t0] h Q ↔ zEv sc 140 81 [l0, l1, l2] [.int 8, t0] h Q := zE_bipush dz140_79 (by decide +kernel)
theorem dz140_81 : decode (z_code 140) 81 = .ok (.iconst 4, 1) := by decide +kernel
theorem u140_81 : zEv sc 140 81 [l0, l1, l2] [t0, t1] h Q ↔ zEv sc 140 82 [l0, l1, l2] [.int 4, t0, t1] h Q := zE_iconst dz140_81 (by decide +kernel)
theorem dz140_82 : decode (z_code 140) 82 = .ok (.iload_n 1, 1) := by decide +kernel
theorem u140_82 : zEv sc 140 82 [l0, .int x, l2] [t0, t1, t2] h Q ↔ zEv sc 140 83 [l0, .int x, l2] [.int x, t0, t1, t2] h Q := zE_pure (q := (83, [l0, .int x, l2], [.int x, t0, t1, t2])) dz140_82 rfl rfl rfl
theorem dz140_83 : decode (z_code 140) 83 = .ok (.bipush 10, 2) := by decide +kernel
theorem u140_83 : zEv sc 140 83 [l0, l1, l2] [t0, t1, t2, t3] h Q ↔ zEv sc 140 85 [l0, l1, l2] [.int 10, t0, t1, t2, t3] h Q := zE_bipush dz140_83 (by decide +kernel)
theorem dz140_85 : decode (z_code 140) 85 = .ok (.idiv, 1) := by decide +kernel
theorem u140_85 : zEv sc 140 85 [l0, l1, l2] [.int x2, .int x1, t0, t1, t2] h Q ↔ (¬ x2 = 0 ∧ zEv sc 140 86 [l0, l1, l2] [.int (x1 / x2), t0, t1, t2] h Q) := zE_div dz140_85
theorem dz140_86 : decode (z_code 140) 86 = .ok (.iconst 3, 1) := by decide +kernel
theorem u140_86 : zEv sc 140 86 [l0, l1, l2] [t0, t1, t2, t3] h Q ↔ zEv sc 140 87 [l0, l1, l2] [.int 3, t0, t1, t2, t3] h Q := zE_iconst dz140_86 (by decide +kernel)
theorem dz140_87 : decode (z_code 140) 87 = .ok (.isub, 1) := by decide +kernel
theorem u140_87 : zEv sc 140 87 [l0, l1, l2] [.int x2, .int x1, t0, t1, t2] h Q ↔ zEv sc 140 88 [l0, l1, l2] [.int (x1 - x2), t0, t1, t2] h Q := zE_pure (q := (88, [l0, l1, l2], [.int (x1 - x2), t0, t1, t2])) dz140_87 rfl rfl rfl
theorem dz140_88 : decode (z_code 140) 88 = .ok (.imul, 1) := by decide +kernel
theorem u140_88 : zEv sc 140 88 [l0, l1, l2] [.int x2, .int x1, t0, t1] h Q ↔ zEv sc 140 89 [l0, l1, l2] [.int (x1 * x2), t0, t1] h Q := zE_pure (q := (89, [l0, l1, l2], [.int (x1 * x2), t0, t1])) dz140_88 rfl rfl rfl
theorem dz140_89 : decode (z_code 140) 89 = .ok (.iadd, 1) := by decide +kernel
theorem u140_89 : zEv sc 140 89 [l0, l1, l2] [.int x2, .int x1, t0] h Q ↔ zEv sc 140 90 [l0, l1, l2] [.int (x1 + x2), t0] h Q := zE_pure (q := (90, [l0, l1, l2], [.int (x1 + x2), t0])) dz140_89 rfl rfl rfl
theorem dz140_90 : decode (z_code 140) 90 = .ok (.iload_n 1, 1) := by decide +kernel
theorem u140_90 : zEv sc 140 90 [l0, .int x, l2] [t0, t1] h Q ↔ zEv sc 140 91 [l0, .int x, l2] [.int x, t0, t1] h Q := zE_pure (q := (91, [l0, .int x, l2], [.int x, t0, t1])) dz140_90 rfl rfl rfl
theorem dz140_91 : decode (z_code 140) 91 = .ok (.bipush 10, 2) := by decide +kernel
theorem u140_91 : zEv sc 140 91 [l0, l1, l2] [t0, t1, t2] h Q ↔ zEv sc 140 93 [l0, l1, l2] [.int 10, t0, t1, t2] h Q := zE_bipush dz140_91 (by decide +kernel)
theorem dz140_93 : decode (z_code 140) 93 = .ok (.irem, 1) := by decide +kernel
theorem u140_93 : zEv sc 140 93 [l0, l1, l2] [.int x2, .int x1, t0, t1] h Q ↔ (¬ x2 = 0 ∧ zEv sc 140 94 [l0, l1, l2] [.int (x1 - x1 / x2 * x2), t0, t1] h Q) := zE_rem dz140_93
theorem dz140_94 : decode (z_code 140) 94 = .ok (.iadd, 1) := by decide +kernel
theorem u140_94 : zEv sc 140 94 [l0, l1, l2] [.int x2, .int x1, t0] h Q ↔ zEv sc 140 95 [l0, l1, l2] [.int (x1 + x2), t0] h Q := zE_pure (q := (95, [l0, l1, l2], [.int (x1 + x2), t0])) dz140_94 rfl rfl rfl
theorem dz140_95 : decode (z_code 140) 95 = .ok (.iaload, 1) := by decide +kernel
theorem u140_95 (ho : zO a 100) : zEv sc 140 95 [l0, l1, l2] [.int x, .ref a] (zst p iv) Q ↔ (vp_in x (zLn a) ∧ zEv sc 140 96 [l0, l1, l2] [.int (iv a x.toNatClampNeg)] (zst p iv) Q) := zE_ald (Or.inl ⟨rfl, rfl⟩) dz140_95 ho
theorem dz140_44 : decode (z_code 140) 44 = .ok (.iconst 0, 1) := by decide +kernel
theorem u140_44 : zEv sc 140 44 [l0, l1, l2] [] h Q ↔ zEv sc 140 45 [l0, l1, l2] [.int 0] h Q := zE_iconst dz140_44 (by decide +kernel)
/-! method 141: FieldMixturesModel.undo()I -/
theorem dz141_0 : decode (z_code 141) 0 = .ok (.aload_n 0, 1) := by decide +kernel
theorem u141_0 : zEv sc 141 0 [.ref a, l1] [] h Q ↔ zEv sc 141 1 [.ref a, l1] [.ref a] h Q := zE_pure (q := (1, [.ref a, l1], [.ref a])) dz141_0 rfl rfl rfl
theorem dz141_1 : decode (z_code 141) 1 = .ok (.getfield 35, 3) := by decide +kernel
theorem u141_1 (ho : zO a 10) : zEv sc 141 1 [l0, l1] [.ref a] (zst p iv) Q ↔ zEv sc 141 4 [l0, l1] [.int (iv a 3)] (zst p iv) Q := zE_gfI dz141_1 (by decide +kernel : z_lk3 zFT (z_cls 141) 35 = some (10, 3, 0, 680)) (by decide +kernel) ho
theorem dz141_4 : decode (z_code 141) 4 = .ok (.ifCond .ne 6, 3) := by decide +kernel
theorem u141_4 : zEv sc 141 4 [l0, l1] [.int x] h Q ↔ (if ¬ x = 0 then zEv sc 141 10 [l0, l1] [] h Q else zEv sc 141 7 [l0, l1] [] h Q) := zE_ifP (P := ¬ x = 0) inferInstance 10 dz141_4 rfl rfl
theorem dz141_7 : decode (z_code 141) 7 = .ok (.ldc 101, 2) := by decide +kernel
theorem u141_7 : zEv sc 141 7 [l0, l1] [] h Q ↔ zEv sc 141 9 [l0, l1] [.int (-1000002)] h Q := zE_ldc (by decide +kernel : z_lkK zKT (z_cls 141) 101 = some ((-1000002), 833)) dz141_7
theorem dz141_9 : decode (z_code 141) 9 = .ok (.ireturn, 1) := by decide +kernel
theorem u141_9 : zEv sc 141 9 [l0, l1] [.int x] h Q ↔ Q (some (.int x)) h := zE_ri dz141_9 (by decide +kernel)
theorem dz141_10 : decode (z_code 141) 10 = .ok (.aload_n 0, 1) := by decide +kernel
theorem u141_10 : zEv sc 141 10 [.ref a, l1] [] h Q ↔ zEv sc 141 11 [.ref a, l1] [.ref a] h Q := zE_pure (q := (11, [.ref a, l1], [.ref a])) dz141_10 rfl rfl rfl
theorem dz141_11 : decode (z_code 141) 11 = .ok (.dup, 1) := by decide +kernel
theorem u141_11 : zEv sc 141 11 [l0, l1] [v1] h Q ↔ zEv sc 141 12 [l0, l1] [v1, v1] h Q := zE_pure (q := (12, [l0, l1], [v1, v1])) dz141_11 rfl rfl rfl
theorem dz141_12 : decode (z_code 141) 12 = .ok (.getfield 35, 3) := by decide +kernel
theorem u141_12 (ho : zO a 10) : zEv sc 141 12 [l0, l1] [.ref a, t0] (zst p iv) Q ↔ zEv sc 141 15 [l0, l1] [.int (iv a 3), t0] (zst p iv) Q := zE_gfI dz141_12 (by decide +kernel : z_lk3 zFT (z_cls 141) 35 = some (10, 3, 0, 680)) (by decide +kernel) ho
theorem dz141_15 : decode (z_code 141) 15 = .ok (.iconst 1, 1) := by decide +kernel
theorem u141_15 : zEv sc 141 15 [l0, l1] [t0, t1] h Q ↔ zEv sc 141 16 [l0, l1] [.int 1, t0, t1] h Q := zE_iconst dz141_15 (by decide +kernel)
theorem dz141_16 : decode (z_code 141) 16 = .ok (.isub, 1) := by decide +kernel
theorem u141_16 : zEv sc 141 16 [l0, l1] [.int x2, .int x1, t0] h Q ↔ zEv sc 141 17 [l0, l1] [.int (x1 - x2), t0] h Q := zE_pure (q := (17, [l0, l1], [.int (x1 - x2), t0])) dz141_16 rfl rfl rfl
theorem dz141_17 : decode (z_code 141) 17 = .ok (.putfield 35, 3) := by decide +kernel
theorem u141_17 (ho : zO a 10) : zEv sc 141 17 [l0, l1] [.int x, .ref a] (zst p iv) Q ↔ zEv sc 141 20 [l0, l1] [] (zst p (w2 iv a 3 x)) Q := zE_pfI dz141_17 (by decide +kernel : z_lk3 zFT (z_cls 141) 35 = some (10, 3, 0, 680)) (by decide +kernel) (by decide +kernel) (by decide +kernel) ho
theorem dz141_20 : decode (z_code 141) 20 = .ok (.iconst 0, 1) := by decide +kernel
theorem u141_20 : zEv sc 141 20 [l0, l1] [] h Q ↔ zEv sc 141 21 [l0, l1] [.int 0] h Q := zE_iconst dz141_20 (by decide +kernel)
theorem dz141_21 : decode (z_code 141) 21 = .ok (.istore_n 1, 1) := by decide +kernel
theorem u141_21 : zEv sc 141 21 [l0, l1] [.int x] h Q ↔ zEv sc 141 22 [l0, .int x] [] h Q := zE_pure (q := (22, [l0, .int x], [])) dz141_21 rfl rfl rfl
theorem dz141_22 : decode (z_code 141) 22 = .ok (.iload_n 1, 1) := by decide +kernel
theorem u141_22 : zEv sc 141 22 [l0, .int x] [] h Q ↔ zEv sc 141 23 [l0, .int x] [.int x] h Q := zE_pure (q := (23, [l0, .int x], [.int x])) dz141_22 rfl rfl rfl
theorem dz141_23 : decode (z_code 141) 23 = .ok (.bipush 66, 2) := by decide +kernel
theorem u141_23 : zEv sc 141 23 [l0, l1] [t0] h Q ↔ zEv sc 141 25 [l0, l1] [.int 66, t0] h Q := zE_bipush dz141_23 (by decide +kernel)
theorem dz141_25 : decode (z_code 141) 25 = .ok (.if_icmp .ge 29, 3) := by decide +kernel
theorem u141_25 : zEv sc 141 25 [l0, l1] [.int x2, .int x1] h Q ↔ (if x2 ≤ x1 then zEv sc 141 54 [l0, l1] [] h Q else zEv sc 141 28 [l0, l1] [] h Q) := zE_icP (P := x2 ≤ x1) inferInstance 54 dz141_25 rfl rfl
theorem dz141_28 : decode (z_code 141) 28 = .ok (.aload_n 0, 1) := by decide +kernel
theorem u141_28 : zEv sc 141 28 [.ref a, l1] [] h Q ↔ zEv sc 141 29 [.ref a, l1] [.ref a] h Q := zE_pure (q := (29, [.ref a, l1], [.ref a])) dz141_28 rfl rfl rfl
theorem dz141_29 : decode (z_code 141) 29 = .ok (.getfield 7, 3) := by decide +kernel
theorem u141_29 (ho : zO a 10) : zEv sc 141 29 [l0, l1] [.ref a] (zst p iv) Q ↔ zRef (zRV p a 0) (fun j => zEv sc 141 32 [l0, l1] [.ref j] (zst p iv) Q) := zE_gfR dz141_29 (by decide +kernel : z_lk3 zFT (z_cls 141) 7 = some (10, 0, 0, 677)) (by decide +kernel) ho
theorem dz141_32 : decode (z_code 141) 32 = .ok (.iload_n 1, 1) := by decide +kernel
theorem u141_32 : zEv sc 141 32 [l0, .int x] [t0] h Q ↔ zEv sc 141 33 [l0, .int x] [.int x, t0] h Q := zE_pure (q := (33, [l0, .int x], [.int x, t0])) dz141_32 rfl rfl rfl
theorem dz141_33 : decode (z_code 141) 33 = .ok (.aload_n 0, 1) := by decide +kernel
theorem u141_33 : zEv sc 141 33 [.ref a, l1] [t0, t1] h Q ↔ zEv sc 141 34 [.ref a, l1] [.ref a, t0, t1] h Q := zE_pure (q := (34, [.ref a, l1], [.ref a, t0, t1])) dz141_33 rfl rfl rfl
theorem dz141_34 : decode (z_code 141) 34 = .ok (.getfield 16, 3) := by decide +kernel
theorem u141_34 (ho : zO a 10) : zEv sc 141 34 [l0, l1] [.ref a, t0, t1] (zst p iv) Q ↔ zRef (zRV p a 2) (fun j => zEv sc 141 37 [l0, l1] [.ref j, t0, t1] (zst p iv) Q) := zE_gfR dz141_34 (by decide +kernel : z_lk3 zFT (z_cls 141) 16 = some (10, 2, 0, 679)) (by decide +kernel) ho
theorem dz141_37 : decode (z_code 141) 37 = .ok (.bipush 66, 2) := by decide +kernel
theorem u141_37 : zEv sc 141 37 [l0, l1] [t0, t1, t2] h Q ↔ zEv sc 141 39 [l0, l1] [.int 66, t0, t1, t2] h Q := zE_bipush dz141_37 (by decide +kernel)
theorem dz141_39 : decode (z_code 141) 39 = .ok (.aload_n 0, 1) := by decide +kernel
theorem u141_39 : zEv sc 141 39 [.ref a, l1] [t0, t1, t2, t3] h Q ↔ zEv sc 141 40 [.ref a, l1] [.ref a, t0, t1, t2, t3] h Q := zE_pure (q := (40, [.ref a, l1], [.ref a, t0, t1, t2, t3])) dz141_39 rfl rfl rfl
theorem dz141_40 : decode (z_code 141) 40 = .ok (.getfield 35, 3) := by decide +kernel
theorem u141_40 (ho : zO a 10) : zEv sc 141 40 [l0, l1] [.ref a, t0, t1, t2, t3] (zst p iv) Q ↔ zEv sc 141 43 [l0, l1] [.int (iv a 3), t0, t1, t2, t3] (zst p iv) Q := zE_gfI dz141_40 (by decide +kernel : z_lk3 zFT (z_cls 141) 35 = some (10, 3, 0, 680)) (by decide +kernel) ho
theorem dz141_43 : decode (z_code 141) 43 = .ok (.imul, 1) := by decide +kernel
theorem u141_43 : zEv sc 141 43 [l0, l1] [.int x2, .int x1, t0, t1, t2] h Q ↔ zEv sc 141 44 [l0, l1] [.int (x1 * x2), t0, t1, t2] h Q := zE_pure (q := (44, [l0, l1], [.int (x1 * x2), t0, t1, t2])) dz141_43 rfl rfl rfl
theorem dz141_44 : decode (z_code 141) 44 = .ok (.iload_n 1, 1) := by decide +kernel
theorem u141_44 : zEv sc 141 44 [l0, .int x] [t0, t1, t2, t3] h Q ↔ zEv sc 141 45 [l0, .int x] [.int x, t0, t1, t2, t3] h Q := zE_pure (q := (45, [l0, .int x], [.int x, t0, t1, t2, t3])) dz141_44 rfl rfl rfl
theorem dz141_45 : decode (z_code 141) 45 = .ok (.iadd, 1) := by decide +kernel
theorem u141_45 : zEv sc 141 45 [l0, l1] [.int x2, .int x1, t0, t1, t2] h Q ↔ zEv sc 141 46 [l0, l1] [.int (x1 + x2), t0, t1, t2] h Q := zE_pure (q := (46, [l0, l1], [.int (x1 + x2), t0, t1, t2])) dz141_45 rfl rfl rfl
theorem dz141_46 : decode (z_code 141) 46 = .ok (.iaload, 1) := by decide +kernel
theorem u141_46 (ho : zO a 100) : zEv sc 141 46 [l0, l1] [.int x, .ref a, t0, t1] (zst p iv) Q ↔ (vp_in x (zLn a) ∧ zEv sc 141 47 [l0, l1] [.int (iv a x.toNatClampNeg), t0, t1] (zst p iv) Q) := zE_ald (Or.inl ⟨rfl, rfl⟩) dz141_46 ho
theorem dz141_47 : decode (z_code 141) 47 = .ok (.iastore, 1) := by decide +kernel
theorem u141_47 (ho : zO a 100) : zEv sc 141 47 [l0, l1] [.int x2, .int x1, .ref a] (zst p iv) Q ↔ (vp_in x1 (zLn a) ∧ zEv sc 141 48 [l0, l1] [] (zst p (w2 iv a x1.toNatClampNeg x2)) Q) := zE_ast (Or.inl ⟨rfl, rfl, rfl⟩) dz141_47 ho
theorem dz141_48 : decode (z_code 141) 48 = .ok (.iinc 1 1, 3) := by decide +kernel
theorem u141_48 : zEv sc 141 48 [l0, .int x] [] h Q ↔ zEv sc 141 51 [l0, .int (x + 1)] [] h Q := zE_iinc (ls2 := [l0, .int (x + 1)]) dz141_48 (by decide +kernel) rfl (by simp) rfl
theorem dz141_51 : decode (z_code 141) 51 = .ok (.goto (-29), 3) := by decide +kernel
theorem u141_51 : zEv sc 141 51 [l0, l1] [] h Q ↔ zEv sc 141 22 [l0, l1] [] h Q := zE_go 22 dz141_51 rfl
theorem dz141_54 : decode (z_code 141) 54 = .ok (.aload_n 0, 1) := by decide +kernel
theorem u141_54 : zEv sc 141 54 [.ref a, l1] [] h Q ↔ zEv sc 141 55 [.ref a, l1] [.ref a] h Q := zE_pure (q := (55, [.ref a, l1], [.ref a])) dz141_54 rfl rfl rfl
theorem dz141_55 : decode (z_code 141) 55 = .ok (.getfield 35, 3) := by decide +kernel
theorem u141_55 (ho : zO a 10) : zEv sc 141 55 [l0, l1] [.ref a] (zst p iv) Q ↔ zEv sc 141 58 [l0, l1] [.int (iv a 3)] (zst p iv) Q := zE_gfI dz141_55 (by decide +kernel : z_lk3 zFT (z_cls 141) 35 = some (10, 3, 0, 680)) (by decide +kernel) ho
theorem dz141_58 : decode (z_code 141) 58 = .ok (.ireturn, 1) := by decide +kernel
theorem u141_58 : zEv sc 141 58 [l0, l1] [.int x] h Q ↔ Q (some (.int x)) h := zE_ri dz141_58 (by decide +kernel)
/-! method 142: FieldMixturesModel.type(I)I -/
theorem dz142_0 : decode (z_code 142) 0 = .ok (.iload_n 1, 1) := by decide +kernel
theorem u142_0 : zEv sc 142 0 [l0, .int x] [] h Q ↔ zEv sc 142 1 [l0, .int x] [.int x] h Q := zE_pure (q := (1, [l0, .int x], [.int x])) dz142_0 rfl rfl rfl
theorem dz142_1 : decode (z_code 142) 1 = .ok (.bipush 32, 2) := by decide +kernel
theorem u142_1 : zEv sc 142 1 [l0, l1] [t0] h Q ↔ zEv sc 142 3 [l0, l1] [.int 32, t0] h Q := zE_bipush dz142_1 (by decide +kernel)
theorem dz142_3 : decode (z_code 142) 3 = .ok (.bipush 126, 2) := by decide +kernel
theorem u142_3 : zEv sc 142 3 [l0, l1] [t0, t1] h Q ↔ zEv sc 142 5 [l0, l1] [.int 126, t0, t1] h Q := zE_bipush dz142_3 (by decide +kernel)
theorem dz142_5 : decode (z_code 142) 5 = .ok (.invokestatic 39, 3) := by decide +kernel
theorem u142_5 : zEv sc 142 5 [l0, l1] [.int z2, .int z1, .int z0] h Q ↔ zEv sc 89 0 [.int z0, .int z1, .int z2] [] h (fun r h9 => zEv sc 142 8 [l0, l1] (r.toList ++ []) h9 Q) := zE_call (kd := 1) (na := 3) (nr := 0) (as := [.int z0, .int z1, .int z2]) (rest := []) (Or.inr ⟨rfl, rfl⟩) dz142_5 (by decide +kernel : z_lk2 zCT (z_cls 142) 39 = some (89, 0, 734)) (fun _ => by decide +kernel) rfl rfl rfl (by decide +kernel) rfl (Or.inl rfl)
theorem dz142_8 : decode (z_code 142) 8 = .ok (.ifCond .ne 6, 3) := by decide +kernel
theorem u142_8 : zEv sc 142 8 [l0, l1] [.int x] h Q ↔ (if ¬ x = 0 then zEv sc 142 14 [l0, l1] [] h Q else zEv sc 142 11 [l0, l1] [] h Q) := zE_ifP (P := ¬ x = 0) inferInstance 14 dz142_8 rfl rfl
theorem dz142_11 : decode (z_code 142) 11 = .ok (.ldc 31, 2) := by decide +kernel
theorem u142_11 : zEv sc 142 11 [l0, l1] [] h Q ↔ zEv sc 142 13 [l0, l1] [.int (-1000001)] h Q := zE_ldc (by decide +kernel : z_lkK zKT (z_cls 142) 31 = some ((-1000001), 744)) dz142_11
theorem dz142_13 : decode (z_code 142) 13 = .ok (.ireturn, 1) := by decide +kernel
theorem u142_13 : zEv sc 142 13 [l0, l1] [.int x] h Q ↔ Q (some (.int x)) h := zE_ri dz142_13 (by decide +kernel)
theorem dz142_14 : decode (z_code 142) 14 = .ok (.aload_n 0, 1) := by decide +kernel
theorem u142_14 : zEv sc 142 14 [.ref a, l1] [] h Q ↔ zEv sc 142 15 [.ref a, l1] [.ref a] h Q := zE_pure (q := (15, [.ref a, l1], [.ref a])) dz142_14 rfl rfl rfl
theorem dz142_15 : decode (z_code 142) 15 = .ok (.getfield 153, 3) := by decide +kernel
theorem u142_15 (ho : zO a 10) : zEv sc 142 15 [l0, l1] [.ref a] (zst p iv) Q ↔ zEv sc 142 18 [l0, l1] [.int (iv a 5)] (zst p iv) Q := zE_gfI dz142_15 (by decide +kernel : z_lk3 zFT (z_cls 142) 153 = some (10, 5, 0, 682)) (by decide +kernel) ho
theorem dz142_18 : decode (z_code 142) 18 = .ok (.bipush 80, 2) := by decide +kernel
theorem u142_18 : zEv sc 142 18 [l0, l1] [t0] h Q ↔ zEv sc 142 20 [l0, l1] [.int 80, t0] h Q := zE_bipush dz142_18 (by decide +kernel)
theorem dz142_20 : decode (z_code 142) 20 = .ok (.if_icmp .ne 6, 3) := by decide +kernel
theorem u142_20 : zEv sc 142 20 [l0, l1] [.int x2, .int x1] h Q ↔ (if ¬ x1 = x2 then zEv sc 142 26 [l0, l1] [] h Q else zEv sc 142 23 [l0, l1] [] h Q) := zE_icP (P := ¬ x1 = x2) inferInstance 26 dz142_20 rfl rfl
theorem dz142_23 : decode (z_code 142) 23 = .ok (.ldc 73, 2) := by decide +kernel
theorem u142_23 : zEv sc 142 23 [l0, l1] [] h Q ↔ zEv sc 142 25 [l0, l1] [.int (-1000003)] h Q := zE_ldc (by decide +kernel : z_lkK zKT (z_cls 142) 73 = some ((-1000003), 828)) dz142_23
theorem dz142_25 : decode (z_code 142) 25 = .ok (.ireturn, 1) := by decide +kernel
theorem u142_25 : zEv sc 142 25 [l0, l1] [.int x] h Q ↔ Q (some (.int x)) h := zE_ri dz142_25 (by decide +kernel)
theorem dz142_26 : decode (z_code 142) 26 = .ok (.aload_n 0, 1) := by decide +kernel
theorem u142_26 : zEv sc 142 26 [.ref a, l1] [] h Q ↔ zEv sc 142 27 [.ref a, l1] [.ref a] h Q := zE_pure (q := (27, [.ref a, l1], [.ref a])) dz142_26 rfl rfl rfl
theorem dz142_27 : decode (z_code 142) 27 = .ok (.getfield 19, 3) := by decide +kernel
theorem u142_27 (ho : zO a 10) : zEv sc 142 27 [l0, l1] [.ref a] (zst p iv) Q ↔ zRef (zRV p a 4) (fun j => zEv sc 142 30 [l0, l1] [.ref j] (zst p iv) Q) := zE_gfR dz142_27 (by decide +kernel : z_lk3 zFT (z_cls 142) 19 = some (10, 4, 0, 681)) (by decide +kernel) ho
theorem dz142_30 : decode (z_code 142) 30 = .ok (.aload_n 0, 1) := by decide +kernel
theorem u142_30 : zEv sc 142 30 [.ref a, l1] [t0] h Q ↔ zEv sc 142 31 [.ref a, l1] [.ref a, t0] h Q := zE_pure (q := (31, [.ref a, l1], [.ref a, t0])) dz142_30 rfl rfl rfl
theorem dz142_31 : decode (z_code 142) 31 = .ok (.getfield 153, 3) := by decide +kernel
theorem u142_31 (ho : zO a 10) : zEv sc 142 31 [l0, l1] [.ref a, t0] (zst p iv) Q ↔ zEv sc 142 34 [l0, l1] [.int (iv a 5), t0] (zst p iv) Q := zE_gfI dz142_31 (by decide +kernel : z_lk3 zFT (z_cls 142) 153 = some (10, 5, 0, 682)) (by decide +kernel) ho
theorem dz142_34 : decode (z_code 142) 34 = .ok (.iload_n 1, 1) := by decide +kernel
theorem u142_34 : zEv sc 142 34 [l0, .int x] [t0, t1] h Q ↔ zEv sc 142 35 [l0, .int x] [.int x, t0, t1] h Q := zE_pure (q := (35, [l0, .int x], [.int x, t0, t1])) dz142_34 rfl rfl rfl
theorem dz142_35 : decode (z_code 142) 35 = .ok (.iastore, 1) := by decide +kernel
theorem u142_35 (ho : zO a 100) : zEv sc 142 35 [l0, l1] [.int x2, .int x1, .ref a] (zst p iv) Q ↔ (vp_in x1 (zLn a) ∧ zEv sc 142 36 [l0, l1] [] (zst p (w2 iv a x1.toNatClampNeg x2)) Q) := zE_ast (Or.inl ⟨rfl, rfl, rfl⟩) dz142_35 ho
theorem dz142_36 : decode (z_code 142) 36 = .ok (.aload_n 0, 1) := by decide +kernel
theorem u142_36 : zEv sc 142 36 [.ref a, l1] [] h Q ↔ zEv sc 142 37 [.ref a, l1] [.ref a] h Q := zE_pure (q := (37, [.ref a, l1], [.ref a])) dz142_36 rfl rfl rfl
theorem dz142_37 : decode (z_code 142) 37 = .ok (.dup, 1) := by decide +kernel
theorem u142_37 : zEv sc 142 37 [l0, l1] [v1] h Q ↔ zEv sc 142 38 [l0, l1] [v1, v1] h Q := zE_pure (q := (38, [l0, l1], [v1, v1])) dz142_37 rfl rfl rfl
theorem dz142_38 : decode (z_code 142) 38 = .ok (.getfield 153, 3) := by decide +kernel
theorem u142_38 (ho : zO a 10) : zEv sc 142 38 [l0, l1] [.ref a, t0] (zst p iv) Q ↔ zEv sc 142 41 [l0, l1] [.int (iv a 5), t0] (zst p iv) Q := zE_gfI dz142_38 (by decide +kernel : z_lk3 zFT (z_cls 142) 153 = some (10, 5, 0, 682)) (by decide +kernel) ho
theorem dz142_41 : decode (z_code 142) 41 = .ok (.iconst 1, 1) := by decide +kernel
theorem u142_41 : zEv sc 142 41 [l0, l1] [t0, t1] h Q ↔ zEv sc 142 42 [l0, l1] [.int 1, t0, t1] h Q := zE_iconst dz142_41 (by decide +kernel)
theorem dz142_42 : decode (z_code 142) 42 = .ok (.iadd, 1) := by decide +kernel
theorem u142_42 : zEv sc 142 42 [l0, l1] [.int x2, .int x1, t0] h Q ↔ zEv sc 142 43 [l0, l1] [.int (x1 + x2), t0] h Q := zE_pure (q := (43, [l0, l1], [.int (x1 + x2), t0])) dz142_42 rfl rfl rfl
theorem dz142_43 : decode (z_code 142) 43 = .ok (.putfield 153, 3) := by decide +kernel
theorem u142_43 (ho : zO a 10) : zEv sc 142 43 [l0, l1] [.int x, .ref a] (zst p iv) Q ↔ zEv sc 142 46 [l0, l1] [] (zst p (w2 iv a 5 x)) Q := zE_pfI dz142_43 (by decide +kernel : z_lk3 zFT (z_cls 142) 153 = some (10, 5, 0, 682)) (by decide +kernel) (by decide +kernel) (by decide +kernel) ho
theorem dz142_46 : decode (z_code 142) 46 = .ok (.aload_n 0, 1) := by decide +kernel
theorem u142_46 : zEv sc 142 46 [.ref a, l1] [] h Q ↔ zEv sc 142 47 [.ref a, l1] [.ref a] h Q := zE_pure (q := (47, [.ref a, l1], [.ref a])) dz142_46 rfl rfl rfl
theorem dz142_47 : decode (z_code 142) 47 = .ok (.getfield 153, 3) := by decide +kernel
theorem u142_47 (ho : zO a 10) : zEv sc 142 47 [l0, l1] [.ref a] (zst p iv) Q ↔ zEv sc 142 50 [l0, l1] [.int (iv a 5)] (zst p iv) Q := zE_gfI dz142_47 (by decide +kernel : z_lk3 zFT (z_cls 142) 153 = some (10, 5, 0, 682)) (by decide +kernel) ho
theorem dz142_50 : decode (z_code 142) 50 = .ok (.ireturn, 1) := by decide +kernel
theorem u142_50 : zEv sc 142 50 [l0, l1] [.int x] h Q ↔ Q (some (.int x)) h := zE_ri dz142_50 (by decide +kernel)
/-! method 143: FieldMixturesModel.clearText()I -/
theorem dz143_0 : decode (z_code 143) 0 = .ok (.aload_n 0, 1) := by decide +kernel
theorem u143_0 : zEv sc 143 0 [.ref a, l1] [] h Q ↔ zEv sc 143 1 [.ref a, l1] [.ref a] h Q := zE_pure (q := (1, [.ref a, l1], [.ref a])) dz143_0 rfl rfl rfl
theorem dz143_1 : decode (z_code 143) 1 = .ok (.getfield 153, 3) := by decide +kernel
theorem u143_1 (ho : zO a 10) : zEv sc 143 1 [l0, l1] [.ref a] (zst p iv) Q ↔ zEv sc 143 4 [l0, l1] [.int (iv a 5)] (zst p iv) Q := zE_gfI dz143_1 (by decide +kernel : z_lk3 zFT (z_cls 143) 153 = some (10, 5, 0, 682)) (by decide +kernel) ho
theorem dz143_4 : decode (z_code 143) 4 = .ok (.istore_n 1, 1) := by decide +kernel
theorem u143_4 : zEv sc 143 4 [l0, l1] [.int x] h Q ↔ zEv sc 143 5 [l0, .int x] [] h Q := zE_pure (q := (5, [l0, .int x], [])) dz143_4 rfl rfl rfl
theorem dz143_5 : decode (z_code 143) 5 = .ok (.aload_n 0, 1) := by decide +kernel
theorem u143_5 : zEv sc 143 5 [.ref a, l1] [] h Q ↔ zEv sc 143 6 [.ref a, l1] [.ref a] h Q := zE_pure (q := (6, [.ref a, l1], [.ref a])) dz143_5 rfl rfl rfl
theorem dz143_6 : decode (z_code 143) 6 = .ok (.iconst 0, 1) := by decide +kernel
theorem u143_6 : zEv sc 143 6 [l0, l1] [t0] h Q ↔ zEv sc 143 7 [l0, l1] [.int 0, t0] h Q := zE_iconst dz143_6 (by decide +kernel)
theorem dz143_7 : decode (z_code 143) 7 = .ok (.putfield 153, 3) := by decide +kernel
theorem u143_7 (ho : zO a 10) : zEv sc 143 7 [l0, l1] [.int x, .ref a] (zst p iv) Q ↔ zEv sc 143 10 [l0, l1] [] (zst p (w2 iv a 5 x)) Q := zE_pfI dz143_7 (by decide +kernel : z_lk3 zFT (z_cls 143) 153 = some (10, 5, 0, 682)) (by decide +kernel) (by decide +kernel) (by decide +kernel) ho
theorem dz143_10 : decode (z_code 143) 10 = .ok (.iload_n 1, 1) := by decide +kernel
theorem u143_10 : zEv sc 143 10 [l0, .int x] [] h Q ↔ zEv sc 143 11 [l0, .int x] [.int x] h Q := zE_pure (q := (11, [l0, .int x], [.int x])) dz143_10 rfl rfl rfl
theorem dz143_11 : decode (z_code 143) 11 = .ok (.ireturn, 1) := by decide +kernel
theorem u143_11 : zEv sc 143 11 [l0, l1] [.int x] h Q ↔ Q (some (.int x)) h := zE_ri dz143_11 (by decide +kernel)
/-! method 144: FieldMixturesModel.here()I -/
theorem dz144_0 : decode (z_code 144) 0 = .ok (.aload_n 0, 1) := by decide +kernel
theorem u144_0 : zEv sc 144 0 [.ref a] [] h Q ↔ zEv sc 144 1 [.ref a] [.ref a] h Q := zE_pure (q := (1, [.ref a], [.ref a])) dz144_0 rfl rfl rfl
theorem dz144_1 : decode (z_code 144) 1 = .ok (.getfield 159, 3) := by decide +kernel
theorem u144_1 (ho : zO a 10) : zEv sc 144 1 [l0] [.ref a] (zst p iv) Q ↔ zEv sc 144 4 [l0] [.int (iv a 10)] (zst p iv) Q := zE_gfI dz144_1 (by decide +kernel : z_lk3 zFT (z_cls 144) 159 = some (10, 10, 0, 687)) (by decide +kernel) ho
theorem dz144_4 : decode (z_code 144) 4 = .ok (.aload_n 0, 1) := by decide +kernel
theorem u144_4 : zEv sc 144 4 [.ref a] [t0] h Q ↔ zEv sc 144 5 [.ref a] [.ref a, t0] h Q := zE_pure (q := (5, [.ref a], [.ref a, t0])) dz144_4 rfl rfl rfl
theorem dz144_5 : decode (z_code 144) 5 = .ok (.getfield 153, 3) := by decide +kernel
theorem u144_5 (ho : zO a 10) : zEv sc 144 5 [l0] [.ref a, t0] (zst p iv) Q ↔ zEv sc 144 8 [l0] [.int (iv a 5), t0] (zst p iv) Q := zE_gfI dz144_5 (by decide +kernel : z_lk3 zFT (z_cls 144) 153 = some (10, 5, 0, 682)) (by decide +kernel) ho
theorem dz144_8 : decode (z_code 144) 8 = .ok (.if_icmp .ge 15, 3) := by decide +kernel
theorem u144_8 : zEv sc 144 8 [l0] [.int x2, .int x1] h Q ↔ (if x2 ≤ x1 then zEv sc 144 23 [l0] [] h Q else zEv sc 144 11 [l0] [] h Q) := zE_icP (P := x2 ≤ x1) inferInstance 23 dz144_8 rfl rfl
theorem dz144_11 : decode (z_code 144) 11 = .ok (.aload_n 0, 1) := by decide +kernel
theorem u144_11 : zEv sc 144 11 [.ref a] [] h Q ↔ zEv sc 144 12 [.ref a] [.ref a] h Q := zE_pure (q := (12, [.ref a], [.ref a])) dz144_11 rfl rfl rfl
theorem dz144_12 : decode (z_code 144) 12 = .ok (.getfield 19, 3) := by decide +kernel
theorem u144_12 (ho : zO a 10) : zEv sc 144 12 [l0] [.ref a] (zst p iv) Q ↔ zRef (zRV p a 4) (fun j => zEv sc 144 15 [l0] [.ref j] (zst p iv) Q) := zE_gfR dz144_12 (by decide +kernel : z_lk3 zFT (z_cls 144) 19 = some (10, 4, 0, 681)) (by decide +kernel) ho
theorem dz144_15 : decode (z_code 144) 15 = .ok (.aload_n 0, 1) := by decide +kernel
theorem u144_15 : zEv sc 144 15 [.ref a] [t0] h Q ↔ zEv sc 144 16 [.ref a] [.ref a, t0] h Q := zE_pure (q := (16, [.ref a], [.ref a, t0])) dz144_15 rfl rfl rfl
theorem dz144_16 : decode (z_code 144) 16 = .ok (.getfield 159, 3) := by decide +kernel
theorem u144_16 (ho : zO a 10) : zEv sc 144 16 [l0] [.ref a, t0] (zst p iv) Q ↔ zEv sc 144 19 [l0] [.int (iv a 10), t0] (zst p iv) Q := zE_gfI dz144_16 (by decide +kernel : z_lk3 zFT (z_cls 144) 159 = some (10, 10, 0, 687)) (by decide +kernel) ho
theorem dz144_19 : decode (z_code 144) 19 = .ok (.iaload, 1) := by decide +kernel
theorem u144_19 (ho : zO a 100) : zEv sc 144 19 [l0] [.int x, .ref a] (zst p iv) Q ↔ (vp_in x (zLn a) ∧ zEv sc 144 20 [l0] [.int (iv a x.toNatClampNeg)] (zst p iv) Q) := zE_ald (Or.inl ⟨rfl, rfl⟩) dz144_19 ho
theorem dz144_20 : decode (z_code 144) 20 = .ok (.goto 4, 3) := by decide +kernel
theorem u144_20 : zEv sc 144 20 [l0] [t0] h Q ↔ zEv sc 144 24 [l0] [t0] h Q := zE_go 24 dz144_20 rfl
theorem dz144_24 : decode (z_code 144) 24 = .ok (.ireturn, 1) := by decide +kernel
theorem u144_24 : zEv sc 144 24 [l0] [.int x] h Q ↔ Q (some (.int x)) h := zE_ri dz144_24 (by decide +kernel)
theorem dz144_23 : decode (z_code 144) 23 = .ok (.iconst (-1), 1) := by decide +kernel
theorem u144_23 : zEv sc 144 23 [l0] [] h Q ↔ zEv sc 144 24 [l0] [.int (-1)] h Q := zE_iconst dz144_23 (by decide +kernel)
/-! method 145: FieldMixturesModel.isDigit()Z -/
theorem dz145_0 : decode (z_code 145) 0 = .ok (.aload_n 0, 1) := by decide +kernel
theorem u145_0 : zEv sc 145 0 [.ref a] [] h Q ↔ zEv sc 145 1 [.ref a] [.ref a] h Q := zE_pure (q := (1, [.ref a], [.ref a])) dz145_0 rfl rfl rfl
theorem dz145_1 : decode (z_code 145) 1 = .ok (.invokevirtual 162, 3) := by decide +kernel
theorem u145_1 (ho : zO a 10) : zEv sc 145 1 [l0] [.ref a] (zst p iv) Q ↔ zEv sc 144 0 [.ref a] [] (zst p iv) (fun r h9 => zEv sc 145 4 [l0] (r.toList ++ []) h9 Q) := zE_call (kd := 0) (na := 1) (nr := 0) (as := [.ref a]) (rest := []) (Or.inl ⟨rfl, rfl⟩) dz145_1 (by decide +kernel : z_lk2 zCT (z_cls 145) 162 = some (144, 0, 958)) (fun z => by cases z) rfl rfl rfl (by decide +kernel) rfl (Or.inr (zE_rc ho))
theorem dz145_4 : decode (z_code 145) 4 = .ok (.bipush 48, 2) := by decide +kernel
theorem u145_4 : zEv sc 145 4 [l0] [t0] h Q ↔ zEv sc 145 6 [l0] [.int 48, t0] h Q := zE_bipush dz145_4 (by decide +kernel)
theorem dz145_6 : decode (z_code 145) 6 = .ok (.bipush 57, 2) := by decide +kernel
theorem u145_6 : zEv sc 145 6 [l0] [t0, t1] h Q ↔ zEv sc 145 8 [l0] [.int 57, t0, t1] h Q := zE_bipush dz145_6 (by decide +kernel)
theorem dz145_8 : decode (z_code 145) 8 = .ok (.invokestatic 39, 3) := by decide +kernel
theorem u145_8 : zEv sc 145 8 [l0] [.int z2, .int z1, .int z0] h Q ↔ zEv sc 89 0 [.int z0, .int z1, .int z2] [] h (fun r h9 => zEv sc 145 11 [l0] (r.toList ++ []) h9 Q) := zE_call (kd := 1) (na := 3) (nr := 0) (as := [.int z0, .int z1, .int z2]) (rest := []) (Or.inr ⟨rfl, rfl⟩) dz145_8 (by decide +kernel : z_lk2 zCT (z_cls 145) 39 = some (89, 0, 734)) (fun _ => by decide +kernel) rfl rfl rfl (by decide +kernel) rfl (Or.inl rfl)
theorem dz145_11 : decode (z_code 145) 11 = .ok (.ireturn, 1) := by decide +kernel
theorem u145_11 : zEv sc 145 11 [l0] [.int x] h Q ↔ ((x = 0 ∨ x = 1) ∧ Q (some (.int x)) h) := zE_rz dz145_11 (by decide +kernel)
/-! method 146: FieldMixturesModel.takes(Z)V -/
theorem dz146_0 : decode (z_code 146) 0 = .ok (.aload_n 0, 1) := by decide +kernel
theorem u146_0 : zEv sc 146 0 [.ref a, l1] [] h Q ↔ zEv sc 146 1 [.ref a, l1] [.ref a] h Q := zE_pure (q := (1, [.ref a, l1], [.ref a])) dz146_0 rfl rfl rfl
theorem dz146_1 : decode (z_code 146) 1 = .ok (.aload_n 0, 1) := by decide +kernel
theorem u146_1 : zEv sc 146 1 [.ref a, l1] [t0] h Q ↔ zEv sc 146 2 [.ref a, l1] [.ref a, t0] h Q := zE_pure (q := (2, [.ref a, l1], [.ref a, t0])) dz146_1 rfl rfl rfl
theorem dz146_2 : decode (z_code 146) 2 = .ok (.getfield 166, 3) := by decide +kernel
theorem u146_2 (ho : zO a 10) : zEv sc 146 2 [l0, l1] [.ref a, t0] (zst p iv) Q ↔ zEv sc 146 5 [l0, l1] [.int (iv a 11), t0] (zst p iv) Q := zE_gfI dz146_2 (by decide +kernel : z_lk3 zFT (z_cls 146) 166 = some (10, 11, 0, 688)) (by decide +kernel) ho
theorem dz146_5 : decode (z_code 146) 5 = .ok (.ifCond .eq 11, 3) := by decide +kernel
theorem u146_5 : zEv sc 146 5 [l0, l1] [.int x, t0] h Q ↔ (if x = 0 then zEv sc 146 16 [l0, l1] [t0] h Q else zEv sc 146 8 [l0, l1] [t0] h Q) := zE_ifP (P := x = 0) inferInstance 16 dz146_5 rfl rfl
theorem dz146_8 : decode (z_code 146) 8 = .ok (.iload_n 1, 1) := by decide +kernel
theorem u146_8 : zEv sc 146 8 [l0, .int x] [t0] h Q ↔ zEv sc 146 9 [l0, .int x] [.int x, t0] h Q := zE_pure (q := (9, [l0, .int x], [.int x, t0])) dz146_8 rfl rfl rfl
theorem dz146_9 : decode (z_code 146) 9 = .ok (.ifCond .eq 7, 3) := by decide +kernel
theorem u146_9 : zEv sc 146 9 [l0, l1] [.int x, t0] h Q ↔ (if x = 0 then zEv sc 146 16 [l0, l1] [t0] h Q else zEv sc 146 12 [l0, l1] [t0] h Q) := zE_ifP (P := x = 0) inferInstance 16 dz146_9 rfl rfl
theorem dz146_12 : decode (z_code 146) 12 = .ok (.iconst 1, 1) := by decide +kernel
theorem u146_12 : zEv sc 146 12 [l0, l1] [t0] h Q ↔ zEv sc 146 13 [l0, l1] [.int 1, t0] h Q := zE_iconst dz146_12 (by decide +kernel)
theorem dz146_13 : decode (z_code 146) 13 = .ok (.goto 4, 3) := by decide +kernel
theorem u146_13 : zEv sc 146 13 [l0, l1] [t0, t1] h Q ↔ zEv sc 146 17 [l0, l1] [t0, t1] h Q := zE_go 17 dz146_13 rfl
theorem dz146_17 : decode (z_code 146) 17 = .ok (.putfield 166, 3) := by decide +kernel
theorem u146_17 (ho : zO a 10) : zEv sc 146 17 [l0, l1] [.int x, .ref a] (zst p iv) Q ↔ ((x = 0 ∨ x = 1) ∧ zEv sc 146 20 [l0, l1] [] (zst p (w2 iv a 11 x)) Q) := zE_pfZ dz146_17 (by decide +kernel : z_lk3 zFT (z_cls 146) 166 = some (10, 11, 0, 688)) (by decide +kernel) (by decide +kernel) (by decide +kernel) ho
theorem dz146_20 : decode (z_code 146) 20 = .ok (.aload_n 0, 1) := by decide +kernel
theorem u146_20 : zEv sc 146 20 [.ref a, l1] [] h Q ↔ zEv sc 146 21 [.ref a, l1] [.ref a] h Q := zE_pure (q := (21, [.ref a, l1], [.ref a])) dz146_20 rfl rfl rfl
theorem dz146_21 : decode (z_code 146) 21 = .ok (.dup, 1) := by decide +kernel
theorem u146_21 : zEv sc 146 21 [l0, l1] [v1] h Q ↔ zEv sc 146 22 [l0, l1] [v1, v1] h Q := zE_pure (q := (22, [l0, l1], [v1, v1])) dz146_21 rfl rfl rfl
theorem dz146_22 : decode (z_code 146) 22 = .ok (.getfield 159, 3) := by decide +kernel
theorem u146_22 (ho : zO a 10) : zEv sc 146 22 [l0, l1] [.ref a, t0] (zst p iv) Q ↔ zEv sc 146 25 [l0, l1] [.int (iv a 10), t0] (zst p iv) Q := zE_gfI dz146_22 (by decide +kernel : z_lk3 zFT (z_cls 146) 159 = some (10, 10, 0, 687)) (by decide +kernel) ho
theorem dz146_25 : decode (z_code 146) 25 = .ok (.aload_n 0, 1) := by decide +kernel
theorem u146_25 : zEv sc 146 25 [.ref a, l1] [t0, t1] h Q ↔ zEv sc 146 26 [.ref a, l1] [.ref a, t0, t1] h Q := zE_pure (q := (26, [.ref a, l1], [.ref a, t0, t1])) dz146_25 rfl rfl rfl
theorem dz146_26 : decode (z_code 146) 26 = .ok (.getfield 166, 3) := by decide +kernel
theorem u146_26 (ho : zO a 10) : zEv sc 146 26 [l0, l1] [.ref a, t0, t1] (zst p iv) Q ↔ zEv sc 146 29 [l0, l1] [.int (iv a 11), t0, t1] (zst p iv) Q := zE_gfI dz146_26 (by decide +kernel : z_lk3 zFT (z_cls 146) 166 = some (10, 11, 0, 688)) (by decide +kernel) ho
theorem dz146_29 : decode (z_code 146) 29 = .ok (.ifCond .eq 7, 3) := by decide +kernel
theorem u146_29 : zEv sc 146 29 [l0, l1] [.int x, t0, t1] h Q ↔ (if x = 0 then zEv sc 146 36 [l0, l1] [t0, t1] h Q else zEv sc 146 32 [l0, l1] [t0, t1] h Q) := zE_ifP (P := x = 0) inferInstance 36 dz146_29 rfl rfl
theorem dz146_32 : decode (z_code 146) 32 = .ok (.iconst 1, 1) := by decide +kernel
theorem u146_32 : zEv sc 146 32 [l0, l1] [t0, t1] h Q ↔ zEv sc 146 33 [l0, l1] [.int 1, t0, t1] h Q := zE_iconst dz146_32 (by decide +kernel)
theorem dz146_33 : decode (z_code 146) 33 = .ok (.goto 4, 3) := by decide +kernel
theorem u146_33 : zEv sc 146 33 [l0, l1] [t0, t1, t2] h Q ↔ zEv sc 146 37 [l0, l1] [t0, t1, t2] h Q := zE_go 37 dz146_33 rfl
theorem dz146_37 : decode (z_code 146) 37 = .ok (.iadd, 1) := by decide +kernel
theorem u146_37 : zEv sc 146 37 [l0, l1] [.int x2, .int x1, t0] h Q ↔ zEv sc 146 38 [l0, l1] [.int (x1 + x2), t0] h Q := zE_pure (q := (38, [l0, l1], [.int (x1 + x2), t0])) dz146_37 rfl rfl rfl
theorem dz146_38 : decode (z_code 146) 38 = .ok (.putfield 159, 3) := by decide +kernel
theorem u146_38 (ho : zO a 10) : zEv sc 146 38 [l0, l1] [.int x, .ref a] (zst p iv) Q ↔ zEv sc 146 41 [l0, l1] [] (zst p (w2 iv a 10 x)) Q := zE_pfI dz146_38 (by decide +kernel : z_lk3 zFT (z_cls 146) 159 = some (10, 10, 0, 687)) (by decide +kernel) (by decide +kernel) (by decide +kernel) ho
theorem dz146_41 : decode (z_code 146) 41 = .ok (.return_, 1) := by decide +kernel
theorem u146_41 : zEv sc 146 41 [l0, l1] [] h Q ↔ Q none h := zE_rv dz146_41 (by decide +kernel)
theorem dz146_36 : decode (z_code 146) 36 = .ok (.iconst 0, 1) := by decide +kernel
theorem u146_36 : zEv sc 146 36 [l0, l1] [t0, t1] h Q ↔ zEv sc 146 37 [l0, l1] [.int 0, t0, t1] h Q := zE_iconst dz146_36 (by decide +kernel)
theorem dz146_16 : decode (z_code 146) 16 = .ok (.iconst 0, 1) := by decide +kernel
theorem u146_16 : zEv sc 146 16 [l0, l1] [t0] h Q ↔ zEv sc 146 17 [l0, l1] [.int 0, t0] h Q := zE_iconst dz146_16 (by decide +kernel)
/-! method 147: FieldMixturesModel.readDigits(II)I -/
theorem dz147_0 : decode (z_code 147) 0 = .ok (.iconst 0, 1) := by decide +kernel
theorem u147_0 : zEv sc 147 0 [l0, l1, l2, l3, l4] [] h Q ↔ zEv sc 147 1 [l0, l1, l2, l3, l4] [.int 0] h Q := zE_iconst dz147_0 (by decide +kernel)
theorem dz147_1 : decode (z_code 147) 1 = .ok (.istore_n 3, 1) := by decide +kernel
theorem u147_1 : zEv sc 147 1 [l0, l1, l2, l3, l4] [.int x] h Q ↔ zEv sc 147 2 [l0, l1, l2, .int x, l4] [] h Q := zE_pure (q := (2, [l0, l1, l2, .int x, l4], [])) dz147_1 rfl rfl rfl
theorem dz147_2 : decode (z_code 147) 2 = .ok (.iconst 0, 1) := by decide +kernel
theorem u147_2 : zEv sc 147 2 [l0, l1, l2, l3, l4] [] h Q ↔ zEv sc 147 3 [l0, l1, l2, l3, l4] [.int 0] h Q := zE_iconst dz147_2 (by decide +kernel)
theorem dz147_3 : decode (z_code 147) 3 = .ok (.istore 4, 2) := by decide +kernel
theorem u147_3 : zEv sc 147 3 [l0, l1, l2, l3, l4] [.int x] h Q ↔ zEv sc 147 5 [l0, l1, l2, l3, .int x] [] h Q := zE_pure (q := (5, [l0, l1, l2, l3, .int x], [])) dz147_3 rfl rfl rfl
theorem dz147_5 : decode (z_code 147) 5 = .ok (.aload_n 0, 1) := by decide +kernel
theorem u147_5 : zEv sc 147 5 [.ref a, l1, l2, l3, l4] [] h Q ↔ zEv sc 147 6 [.ref a, l1, l2, l3, l4] [.ref a] h Q := zE_pure (q := (6, [.ref a, l1, l2, l3, l4], [.ref a])) dz147_5 rfl rfl rfl
theorem dz147_6 : decode (z_code 147) 6 = .ok (.getfield 166, 3) := by decide +kernel
theorem u147_6 (ho : zO a 10) : zEv sc 147 6 [l0, l1, l2, l3, l4] [.ref a] (zst p iv) Q ↔ zEv sc 147 9 [l0, l1, l2, l3, l4] [.int (iv a 11)] (zst p iv) Q := zE_gfI dz147_6 (by decide +kernel : z_lk3 zFT (z_cls 147) 166 = some (10, 11, 0, 688)) (by decide +kernel) ho
theorem dz147_9 : decode (z_code 147) 9 = .ok (.ifCond .eq 45, 3) := by decide +kernel
theorem u147_9 : zEv sc 147 9 [l0, l1, l2, l3, l4] [.int x] h Q ↔ (if x = 0 then zEv sc 147 54 [l0, l1, l2, l3, l4] [] h Q else zEv sc 147 12 [l0, l1, l2, l3, l4] [] h Q) := zE_ifP (P := x = 0) inferInstance 54 dz147_9 rfl rfl
theorem dz147_12 : decode (z_code 147) 12 = .ok (.iload 4, 2) := by decide +kernel
theorem u147_12 : zEv sc 147 12 [l0, l1, l2, l3, .int x] [] h Q ↔ zEv sc 147 14 [l0, l1, l2, l3, .int x] [.int x] h Q := zE_pure (q := (14, [l0, l1, l2, l3, .int x], [.int x])) dz147_12 rfl rfl rfl
theorem dz147_14 : decode (z_code 147) 14 = .ok (.iload_n 2, 1) := by decide +kernel
theorem u147_14 : zEv sc 147 14 [l0, l1, .int x, l3, l4] [t0] h Q ↔ zEv sc 147 15 [l0, l1, .int x, l3, l4] [.int x, t0] h Q := zE_pure (q := (15, [l0, l1, .int x, l3, l4], [.int x, t0])) dz147_14 rfl rfl rfl
theorem dz147_15 : decode (z_code 147) 15 = .ok (.if_icmp .ge 39, 3) := by decide +kernel
theorem u147_15 : zEv sc 147 15 [l0, l1, l2, l3, l4] [.int x2, .int x1] h Q ↔ (if x2 ≤ x1 then zEv sc 147 54 [l0, l1, l2, l3, l4] [] h Q else zEv sc 147 18 [l0, l1, l2, l3, l4] [] h Q) := zE_icP (P := x2 ≤ x1) inferInstance 54 dz147_15 rfl rfl
theorem dz147_18 : decode (z_code 147) 18 = .ok (.aload_n 0, 1) := by decide +kernel
theorem u147_18 : zEv sc 147 18 [.ref a, l1, l2, l3, l4] [] h Q ↔ zEv sc 147 19 [.ref a, l1, l2, l3, l4] [.ref a] h Q := zE_pure (q := (19, [.ref a, l1, l2, l3, l4], [.ref a])) dz147_18 rfl rfl rfl
theorem dz147_19 : decode (z_code 147) 19 = .ok (.invokevirtual 170, 3) := by decide +kernel
theorem u147_19 (ho : zO a 10) : zEv sc 147 19 [l0, l1, l2, l3, l4] [.ref a] (zst p iv) Q ↔ zEv sc 145 0 [.ref a] [] (zst p iv) (fun r h9 => zEv sc 147 22 [l0, l1, l2, l3, l4] (r.toList ++ []) h9 Q) := zE_call (kd := 0) (na := 1) (nr := 0) (as := [.ref a]) (rest := []) (Or.inl ⟨rfl, rfl⟩) dz147_19 (by decide +kernel : z_lk2 zCT (z_cls 147) 170 = some (145, 0, 970)) (fun z => by cases z) rfl rfl rfl (by decide +kernel) rfl (Or.inr (zE_rc ho))
theorem dz147_22 : decode (z_code 147) 22 = .ok (.ifCond .eq 32, 3) := by decide +kernel
theorem u147_22 : zEv sc 147 22 [l0, l1, l2, l3, l4] [.int x] h Q ↔ (if x = 0 then zEv sc 147 54 [l0, l1, l2, l3, l4] [] h Q else zEv sc 147 25 [l0, l1, l2, l3, l4] [] h Q) := zE_ifP (P := x = 0) inferInstance 54 dz147_22 rfl rfl
theorem dz147_25 : decode (z_code 147) 25 = .ok (.bipush 10, 2) := by decide +kernel
theorem u147_25 : zEv sc 147 25 [l0, l1, l2, l3, l4] [] h Q ↔ zEv sc 147 27 [l0, l1, l2, l3, l4] [.int 10] h Q := zE_bipush dz147_25 (by decide +kernel)
theorem dz147_27 : decode (z_code 147) 27 = .ok (.iload_n 3, 1) := by decide +kernel
theorem u147_27 : zEv sc 147 27 [l0, l1, l2, .int x, l4] [t0] h Q ↔ zEv sc 147 28 [l0, l1, l2, .int x, l4] [.int x, t0] h Q := zE_pure (q := (28, [l0, l1, l2, .int x, l4], [.int x, t0])) dz147_27 rfl rfl rfl
theorem dz147_28 : decode (z_code 147) 28 = .ok (.imul, 1) := by decide +kernel
theorem u147_28 : zEv sc 147 28 [l0, l1, l2, l3, l4] [.int x2, .int x1] h Q ↔ zEv sc 147 29 [l0, l1, l2, l3, l4] [.int (x1 * x2)] h Q := zE_pure (q := (29, [l0, l1, l2, l3, l4], [.int (x1 * x2)])) dz147_28 rfl rfl rfl
theorem dz147_29 : decode (z_code 147) 29 = .ok (.aload_n 0, 1) := by decide +kernel
theorem u147_29 : zEv sc 147 29 [.ref a, l1, l2, l3, l4] [t0] h Q ↔ zEv sc 147 30 [.ref a, l1, l2, l3, l4] [.ref a, t0] h Q := zE_pure (q := (30, [.ref a, l1, l2, l3, l4], [.ref a, t0])) dz147_29 rfl rfl rfl
theorem dz147_30 : decode (z_code 147) 30 = .ok (.invokevirtual 162, 3) := by decide +kernel
theorem u147_30 (ho : zO a 10) : zEv sc 147 30 [l0, l1, l2, l3, l4] [.ref a, t0] (zst p iv) Q ↔ zEv sc 144 0 [.ref a] [] (zst p iv) (fun r h9 => zEv sc 147 33 [l0, l1, l2, l3, l4] (r.toList ++ [t0]) h9 Q) := zE_call (kd := 0) (na := 1) (nr := 1) (as := [.ref a]) (rest := [t0]) (Or.inl ⟨rfl, rfl⟩) dz147_30 (by decide +kernel : z_lk2 zCT (z_cls 147) 162 = some (144, 0, 958)) (fun z => by cases z) rfl rfl rfl (by decide +kernel) rfl (Or.inr (zE_rc ho))
theorem dz147_33 : decode (z_code 147) 33 = .ok (.iadd, 1) := by decide +kernel
theorem u147_33 : zEv sc 147 33 [l0, l1, l2, l3, l4] [.int x2, .int x1] h Q ↔ zEv sc 147 34 [l0, l1, l2, l3, l4] [.int (x1 + x2)] h Q := zE_pure (q := (34, [l0, l1, l2, l3, l4], [.int (x1 + x2)])) dz147_33 rfl rfl rfl
theorem dz147_34 : decode (z_code 147) 34 = .ok (.bipush 48, 2) := by decide +kernel
theorem u147_34 : zEv sc 147 34 [l0, l1, l2, l3, l4] [t0] h Q ↔ zEv sc 147 36 [l0, l1, l2, l3, l4] [.int 48, t0] h Q := zE_bipush dz147_34 (by decide +kernel)
theorem dz147_36 : decode (z_code 147) 36 = .ok (.isub, 1) := by decide +kernel
theorem u147_36 : zEv sc 147 36 [l0, l1, l2, l3, l4] [.int x2, .int x1] h Q ↔ zEv sc 147 37 [l0, l1, l2, l3, l4] [.int (x1 - x2)] h Q := zE_pure (q := (37, [l0, l1, l2, l3, l4], [.int (x1 - x2)])) dz147_36 rfl rfl rfl
theorem dz147_37 : decode (z_code 147) 37 = .ok (.istore_n 3, 1) := by decide +kernel
theorem u147_37 : zEv sc 147 37 [l0, l1, l2, l3, l4] [.int x] h Q ↔ zEv sc 147 38 [l0, l1, l2, .int x, l4] [] h Q := zE_pure (q := (38, [l0, l1, l2, .int x, l4], [])) dz147_37 rfl rfl rfl
theorem dz147_38 : decode (z_code 147) 38 = .ok (.aload_n 0, 1) := by decide +kernel
theorem u147_38 : zEv sc 147 38 [.ref a, l1, l2, l3, l4] [] h Q ↔ zEv sc 147 39 [.ref a, l1, l2, l3, l4] [.ref a] h Q := zE_pure (q := (39, [.ref a, l1, l2, l3, l4], [.ref a])) dz147_38 rfl rfl rfl
theorem dz147_39 : decode (z_code 147) 39 = .ok (.dup, 1) := by decide +kernel
theorem u147_39 : zEv sc 147 39 [l0, l1, l2, l3, l4] [v1] h Q ↔ zEv sc 147 40 [l0, l1, l2, l3, l4] [v1, v1] h Q := zE_pure (q := (40, [l0, l1, l2, l3, l4], [v1, v1])) dz147_39 rfl rfl rfl
theorem dz147_40 : decode (z_code 147) 40 = .ok (.getfield 159, 3) := by decide +kernel
theorem u147_40 (ho : zO a 10) : zEv sc 147 40 [l0, l1, l2, l3, l4] [.ref a, t0] (zst p iv) Q ↔ zEv sc 147 43 [l0, l1, l2, l3, l4] [.int (iv a 10), t0] (zst p iv) Q := zE_gfI dz147_40 (by decide +kernel : z_lk3 zFT (z_cls 147) 159 = some (10, 10, 0, 687)) (by decide +kernel) ho
theorem dz147_43 : decode (z_code 147) 43 = .ok (.iconst 1, 1) := by decide +kernel
theorem u147_43 : zEv sc 147 43 [l0, l1, l2, l3, l4] [t0, t1] h Q ↔ zEv sc 147 44 [l0, l1, l2, l3, l4] [.int 1, t0, t1] h Q := zE_iconst dz147_43 (by decide +kernel)
theorem dz147_44 : decode (z_code 147) 44 = .ok (.iadd, 1) := by decide +kernel
theorem u147_44 : zEv sc 147 44 [l0, l1, l2, l3, l4] [.int x2, .int x1, t0] h Q ↔ zEv sc 147 45 [l0, l1, l2, l3, l4] [.int (x1 + x2), t0] h Q := zE_pure (q := (45, [l0, l1, l2, l3, l4], [.int (x1 + x2), t0])) dz147_44 rfl rfl rfl
theorem dz147_45 : decode (z_code 147) 45 = .ok (.putfield 159, 3) := by decide +kernel
theorem u147_45 (ho : zO a 10) : zEv sc 147 45 [l0, l1, l2, l3, l4] [.int x, .ref a] (zst p iv) Q ↔ zEv sc 147 48 [l0, l1, l2, l3, l4] [] (zst p (w2 iv a 10 x)) Q := zE_pfI dz147_45 (by decide +kernel : z_lk3 zFT (z_cls 147) 159 = some (10, 10, 0, 687)) (by decide +kernel) (by decide +kernel) (by decide +kernel) ho
theorem dz147_48 : decode (z_code 147) 48 = .ok (.iinc 4 1, 3) := by decide +kernel
theorem u147_48 : zEv sc 147 48 [l0, l1, l2, l3, .int x] [] h Q ↔ zEv sc 147 51 [l0, l1, l2, l3, .int (x + 1)] [] h Q := zE_iinc (ls2 := [l0, l1, l2, l3, .int (x + 1)]) dz147_48 (by decide +kernel) rfl (by simp) rfl
theorem dz147_51 : decode (z_code 147) 51 = .ok (.goto (-46), 3) := by decide +kernel
theorem u147_51 : zEv sc 147 51 [l0, l1, l2, l3, l4] [] h Q ↔ zEv sc 147 5 [l0, l1, l2, l3, l4] [] h Q := zE_go 5 dz147_51 rfl
theorem dz147_54 : decode (z_code 147) 54 = .ok (.aload_n 0, 1) := by decide +kernel
theorem u147_54 : zEv sc 147 54 [.ref a, l1, l2, l3, l4] [] h Q ↔ zEv sc 147 55 [.ref a, l1, l2, l3, l4] [.ref a] h Q := zE_pure (q := (55, [.ref a, l1, l2, l3, l4], [.ref a])) dz147_54 rfl rfl rfl
theorem dz147_55 : decode (z_code 147) 55 = .ok (.aload_n 0, 1) := by decide +kernel
theorem u147_55 : zEv sc 147 55 [.ref a, l1, l2, l3, l4] [t0] h Q ↔ zEv sc 147 56 [.ref a, l1, l2, l3, l4] [.ref a, t0] h Q := zE_pure (q := (56, [.ref a, l1, l2, l3, l4], [.ref a, t0])) dz147_55 rfl rfl rfl
theorem dz147_56 : decode (z_code 147) 56 = .ok (.getfield 166, 3) := by decide +kernel
theorem u147_56 (ho : zO a 10) : zEv sc 147 56 [l0, l1, l2, l3, l4] [.ref a, t0] (zst p iv) Q ↔ zEv sc 147 59 [l0, l1, l2, l3, l4] [.int (iv a 11), t0] (zst p iv) Q := zE_gfI dz147_56 (by decide +kernel : z_lk3 zFT (z_cls 147) 166 = some (10, 11, 0, 688)) (by decide +kernel) ho
theorem dz147_59 : decode (z_code 147) 59 = .ok (.ifCond .eq 13, 3) := by decide +kernel
theorem u147_59 : zEv sc 147 59 [l0, l1, l2, l3, l4] [.int x, t0] h Q ↔ (if x = 0 then zEv sc 147 72 [l0, l1, l2, l3, l4] [t0] h Q else zEv sc 147 62 [l0, l1, l2, l3, l4] [t0] h Q) := zE_ifP (P := x = 0) inferInstance 72 dz147_59 rfl rfl
theorem dz147_62 : decode (z_code 147) 62 = .ok (.iload 4, 2) := by decide +kernel
theorem u147_62 : zEv sc 147 62 [l0, l1, l2, l3, .int x] [t0] h Q ↔ zEv sc 147 64 [l0, l1, l2, l3, .int x] [.int x, t0] h Q := zE_pure (q := (64, [l0, l1, l2, l3, .int x], [.int x, t0])) dz147_62 rfl rfl rfl
theorem dz147_64 : decode (z_code 147) 64 = .ok (.iload_n 1, 1) := by decide +kernel
theorem u147_64 : zEv sc 147 64 [l0, .int x, l2, l3, l4] [t0, t1] h Q ↔ zEv sc 147 65 [l0, .int x, l2, l3, l4] [.int x, t0, t1] h Q := zE_pure (q := (65, [l0, .int x, l2, l3, l4], [.int x, t0, t1])) dz147_64 rfl rfl rfl
theorem dz147_65 : decode (z_code 147) 65 = .ok (.if_icmp .lt 7, 3) := by decide +kernel
theorem u147_65 : zEv sc 147 65 [l0, l1, l2, l3, l4] [.int x2, .int x1, t0] h Q ↔ (if x1 < x2 then zEv sc 147 72 [l0, l1, l2, l3, l4] [t0] h Q else zEv sc 147 68 [l0, l1, l2, l3, l4] [t0] h Q) := zE_icP (P := x1 < x2) inferInstance 72 dz147_65 rfl rfl
theorem dz147_68 : decode (z_code 147) 68 = .ok (.iconst 1, 1) := by decide +kernel
theorem u147_68 : zEv sc 147 68 [l0, l1, l2, l3, l4] [t0] h Q ↔ zEv sc 147 69 [l0, l1, l2, l3, l4] [.int 1, t0] h Q := zE_iconst dz147_68 (by decide +kernel)
theorem dz147_69 : decode (z_code 147) 69 = .ok (.goto 4, 3) := by decide +kernel
theorem u147_69 : zEv sc 147 69 [l0, l1, l2, l3, l4] [t0, t1] h Q ↔ zEv sc 147 73 [l0, l1, l2, l3, l4] [t0, t1] h Q := zE_go 73 dz147_69 rfl
theorem dz147_73 : decode (z_code 147) 73 = .ok (.putfield 166, 3) := by decide +kernel
theorem u147_73 (ho : zO a 10) : zEv sc 147 73 [l0, l1, l2, l3, l4] [.int x, .ref a] (zst p iv) Q ↔ ((x = 0 ∨ x = 1) ∧ zEv sc 147 76 [l0, l1, l2, l3, l4] [] (zst p (w2 iv a 11 x)) Q) := zE_pfZ dz147_73 (by decide +kernel : z_lk3 zFT (z_cls 147) 166 = some (10, 11, 0, 688)) (by decide +kernel) (by decide +kernel) (by decide +kernel) ho
theorem dz147_76 : decode (z_code 147) 76 = .ok (.iload_n 3, 1) := by decide +kernel
theorem u147_76 : zEv sc 147 76 [l0, l1, l2, .int x, l4] [] h Q ↔ zEv sc 147 77 [l0, l1, l2, .int x, l4] [.int x] h Q := zE_pure (q := (77, [l0, l1, l2, .int x, l4], [.int x])) dz147_76 rfl rfl rfl
theorem dz147_77 : decode (z_code 147) 77 = .ok (.ireturn, 1) := by decide +kernel
theorem u147_77 : zEv sc 147 77 [l0, l1, l2, l3, l4] [.int x] h Q ↔ Q (some (.int x)) h := zE_ri dz147_77 (by decide +kernel)
theorem dz147_72 : decode (z_code 147) 72 = .ok (.iconst 0, 1) := by decide +kernel
theorem u147_72 : zEv sc 147 72 [l0, l1, l2, l3, l4] [t0] h Q ↔ zEv sc 147 73 [l0, l1, l2, l3, l4] [.int 0, t0] h Q := zE_iconst dz147_72 (by decide +kernel)
/-! method 148: FieldMixturesModel.readPart()V -/
theorem dz148_0 : decode (z_code 148) 0 = .ok (.aload_n 0, 1) := by decide +kernel
theorem u148_0 : zEv sc 148 0 [.ref a] [] h Q ↔ zEv sc 148 1 [.ref a] [.ref a] h Q := zE_pure (q := (1, [.ref a], [.ref a])) dz148_0 rfl rfl rfl
theorem dz148_1 : decode (z_code 148) 1 = .ok (.iconst 1, 1) := by decide +kernel
theorem u148_1 : zEv sc 148 1 [l0] [t0] h Q ↔ zEv sc 148 2 [l0] [.int 1, t0] h Q := zE_iconst dz148_1 (by decide +kernel)
theorem dz148_2 : decode (z_code 148) 2 = .ok (.putfield 166, 3) := by decide +kernel
theorem u148_2 (ho : zO a 10) : zEv sc 148 2 [l0] [.int x, .ref a] (zst p iv) Q ↔ ((x = 0 ∨ x = 1) ∧ zEv sc 148 5 [l0] [] (zst p (w2 iv a 11 x)) Q) := zE_pfZ dz148_2 (by decide +kernel : z_lk3 zFT (z_cls 148) 166 = some (10, 11, 0, 688)) (by decide +kernel) (by decide +kernel) (by decide +kernel) ho
theorem dz148_5 : decode (z_code 148) 5 = .ok (.aload_n 0, 1) := by decide +kernel
theorem u148_5 : zEv sc 148 5 [.ref a] [] h Q ↔ zEv sc 148 6 [.ref a] [.ref a] h Q := zE_pure (q := (6, [.ref a], [.ref a])) dz148_5 rfl rfl rfl
theorem dz148_6 : decode (z_code 148) 6 = .ok (.iconst 1, 1) := by decide +kernel
theorem u148_6 : zEv sc 148 6 [l0] [t0] h Q ↔ zEv sc 148 7 [l0] [.int 1, t0] h Q := zE_iconst dz148_6 (by decide +kernel)
theorem dz148_7 : decode (z_code 148) 7 = .ok (.putfield 173, 3) := by decide +kernel
theorem u148_7 (ho : zO a 10) : zEv sc 148 7 [l0] [.int x, .ref a] (zst p iv) Q ↔ zEv sc 148 10 [l0] [] (zst p (w2 iv a 15 x)) Q := zE_pfI dz148_7 (by decide +kernel : z_lk3 zFT (z_cls 148) 173 = some (10, 15, 0, 692)) (by decide +kernel) (by decide +kernel) (by decide +kernel) ho
theorem dz148_10 : decode (z_code 148) 10 = .ok (.aload_n 0, 1) := by decide +kernel
theorem u148_10 : zEv sc 148 10 [.ref a] [] h Q ↔ zEv sc 148 11 [.ref a] [.ref a] h Q := zE_pure (q := (11, [.ref a], [.ref a])) dz148_10 rfl rfl rfl
theorem dz148_11 : decode (z_code 148) 11 = .ok (.aload_n 0, 1) := by decide +kernel
theorem u148_11 : zEv sc 148 11 [.ref a] [t0] h Q ↔ zEv sc 148 12 [.ref a] [.ref a, t0] h Q := zE_pure (q := (12, [.ref a], [.ref a, t0])) dz148_11 rfl rfl rfl
theorem dz148_12 : decode (z_code 148) 12 = .ok (.invokevirtual 162, 3) := by decide +kernel
theorem u148_12 (ho : zO a 10) : zEv sc 148 12 [l0] [.ref a, t0] (zst p iv) Q ↔ zEv sc 144 0 [.ref a] [] (zst p iv) (fun r h9 => zEv sc 148 15 [l0] (r.toList ++ [t0]) h9 Q) := zE_call (kd := 0) (na := 1) (nr := 1) (as := [.ref a]) (rest := [t0]) (Or.inl ⟨rfl, rfl⟩) dz148_12 (by decide +kernel : z_lk2 zCT (z_cls 148) 162 = some (144, 0, 958)) (fun z => by cases z) rfl rfl rfl (by decide +kernel) rfl (Or.inr (zE_rc ho))
theorem dz148_15 : decode (z_code 148) 15 = .ok (.bipush 48, 2) := by decide +kernel
theorem u148_15 : zEv sc 148 15 [l0] [t0, t1] h Q ↔ zEv sc 148 17 [l0] [.int 48, t0, t1] h Q := zE_bipush dz148_15 (by decide +kernel)
theorem dz148_17 : decode (z_code 148) 17 = .ok (.isub, 1) := by decide +kernel
theorem u148_17 : zEv sc 148 17 [l0] [.int x2, .int x1, t0] h Q ↔ zEv sc 148 18 [l0] [.int (x1 - x2), t0] h Q := zE_pure (q := (18, [l0], [.int (x1 - x2), t0])) dz148_17 rfl rfl rfl
theorem dz148_18 : decode (z_code 148) 18 = .ok (.putfield 176, 3) := by decide +kernel
theorem u148_18 (ho : zO a 10) : zEv sc 148 18 [l0] [.int x, .ref a] (zst p iv) Q ↔ zEv sc 148 21 [l0] [] (zst p (w2 iv a 13 x)) Q := zE_pfI dz148_18 (by decide +kernel : z_lk3 zFT (z_cls 148) 176 = some (10, 13, 0, 690)) (by decide +kernel) (by decide +kernel) (by decide +kernel) ho
theorem dz148_21 : decode (z_code 148) 21 = .ok (.aload_n 0, 1) := by decide +kernel
theorem u148_21 : zEv sc 148 21 [.ref a] [] h Q ↔ zEv sc 148 22 [.ref a] [.ref a] h Q := zE_pure (q := (22, [.ref a], [.ref a])) dz148_21 rfl rfl rfl
theorem dz148_22 : decode (z_code 148) 22 = .ok (.aload_n 0, 1) := by decide +kernel
theorem u148_22 : zEv sc 148 22 [.ref a] [t0] h Q ↔ zEv sc 148 23 [.ref a] [.ref a, t0] h Q := zE_pure (q := (23, [.ref a], [.ref a, t0])) dz148_22 rfl rfl rfl
theorem dz148_23 : decode (z_code 148) 23 = .ok (.invokevirtual 162, 3) := by decide +kernel
theorem u148_23 (ho : zO a 10) : zEv sc 148 23 [l0] [.ref a, t0] (zst p iv) Q ↔ zEv sc 144 0 [.ref a] [] (zst p iv) (fun r h9 => zEv sc 148 26 [l0] (r.toList ++ [t0]) h9 Q) := zE_call (kd := 0) (na := 1) (nr := 1) (as := [.ref a]) (rest := [t0]) (Or.inl ⟨rfl, rfl⟩) dz148_23 (by decide +kernel : z_lk2 zCT (z_cls 148) 162 = some (144, 0, 958)) (fun z => by cases z) rfl rfl rfl (by decide +kernel) rfl (Or.inr (zE_rc ho))
theorem dz148_26 : decode (z_code 148) 26 = .ok (.bipush 48, 2) := by decide +kernel
theorem u148_26 : zEv sc 148 26 [l0] [t0, t1] h Q ↔ zEv sc 148 28 [l0] [.int 48, t0, t1] h Q := zE_bipush dz148_26 (by decide +kernel)
theorem dz148_28 : decode (z_code 148) 28 = .ok (.if_icmp .eq 12, 3) := by decide +kernel
theorem u148_28 : zEv sc 148 28 [l0] [.int x2, .int x1, t0] h Q ↔ (if x1 = x2 then zEv sc 148 40 [l0] [t0] h Q else zEv sc 148 31 [l0] [t0] h Q) := zE_icP (P := x1 = x2) inferInstance 40 dz148_28 rfl rfl
theorem dz148_31 : decode (z_code 148) 31 = .ok (.aload_n 0, 1) := by decide +kernel
theorem u148_31 : zEv sc 148 31 [.ref a] [t0] h Q ↔ zEv sc 148 32 [.ref a] [.ref a, t0] h Q := zE_pure (q := (32, [.ref a], [.ref a, t0])) dz148_31 rfl rfl rfl
theorem dz148_32 : decode (z_code 148) 32 = .ok (.invokevirtual 162, 3) := by decide +kernel
theorem u148_32 (ho : zO a 10) : zEv sc 148 32 [l0] [.ref a, t0] (zst p iv) Q ↔ zEv sc 144 0 [.ref a] [] (zst p iv) (fun r h9 => zEv sc 148 35 [l0] (r.toList ++ [t0]) h9 Q) := zE_call (kd := 0) (na := 1) (nr := 1) (as := [.ref a]) (rest := [t0]) (Or.inl ⟨rfl, rfl⟩) dz148_32 (by decide +kernel : z_lk2 zCT (z_cls 148) 162 = some (144, 0, 958)) (fun z => by cases z) rfl rfl rfl (by decide +kernel) rfl (Or.inr (zE_rc ho))
theorem dz148_35 : decode (z_code 148) 35 = .ok (.bipush 49, 2) := by decide +kernel
theorem u148_35 : zEv sc 148 35 [l0] [t0, t1] h Q ↔ zEv sc 148 37 [l0] [.int 49, t0, t1] h Q := zE_bipush dz148_35 (by decide +kernel)
theorem dz148_37 : decode (z_code 148) 37 = .ok (.if_icmp .ne 7, 3) := by decide +kernel
theorem u148_37 : zEv sc 148 37 [l0] [.int x2, .int x1, t0] h Q ↔ (if ¬ x1 = x2 then zEv sc 148 44 [l0] [t0] h Q else zEv sc 148 40 [l0] [t0] h Q) := zE_icP (P := ¬ x1 = x2) inferInstance 44 dz148_37 rfl rfl
theorem dz148_44 : decode (z_code 148) 44 = .ok (.iconst 0, 1) := by decide +kernel
theorem u148_44 : zEv sc 148 44 [l0] [t0] h Q ↔ zEv sc 148 45 [l0] [.int 0, t0] h Q := zE_iconst dz148_44 (by decide +kernel)
theorem dz148_45 : decode (z_code 148) 45 = .ok (.invokevirtual 179, 3) := by decide +kernel
theorem u148_45 (ho : zO a 10) : zEv sc 148 45 [l0] [.int z0, .ref a] (zst p iv) Q ↔ zEv sc 146 0 [.ref a, .int z0] [] (zst p iv) (fun r h9 => zEv sc 148 48 [l0] (r.toList ++ []) h9 Q) := zE_call (kd := 0) (na := 2) (nr := 0) (as := [.ref a, .int z0]) (rest := []) (Or.inl ⟨rfl, rfl⟩) dz148_45 (by decide +kernel : z_lk2 zCT (z_cls 148) 179 = some (146, 0, 962)) (fun z => by cases z) rfl rfl rfl (by decide +kernel) rfl (Or.inr (zE_rc ho))
theorem dz148_48 : decode (z_code 148) 48 = .ok (.aload_n 0, 1) := by decide +kernel
theorem u148_48 : zEv sc 148 48 [.ref a] [] h Q ↔ zEv sc 148 49 [.ref a] [.ref a] h Q := zE_pure (q := (49, [.ref a], [.ref a])) dz148_48 rfl rfl rfl
theorem dz148_49 : decode (z_code 148) 49 = .ok (.aload_n 0, 1) := by decide +kernel
theorem u148_49 : zEv sc 148 49 [.ref a] [t0] h Q ↔ zEv sc 148 50 [.ref a] [.ref a, t0] h Q := zE_pure (q := (50, [.ref a], [.ref a, t0])) dz148_49 rfl rfl rfl
theorem dz148_50 : decode (z_code 148) 50 = .ok (.invokevirtual 162, 3) := by decide +kernel
theorem u148_50 (ho : zO a 10) : zEv sc 148 50 [l0] [.ref a, t0] (zst p iv) Q ↔ zEv sc 144 0 [.ref a] [] (zst p iv) (fun r h9 => zEv sc 148 53 [l0] (r.toList ++ [t0]) h9 Q) := zE_call (kd := 0) (na := 1) (nr := 1) (as := [.ref a]) (rest := [t0]) (Or.inl ⟨rfl, rfl⟩) dz148_50 (by decide +kernel : z_lk2 zCT (z_cls 148) 162 = some (144, 0, 958)) (fun z => by cases z) rfl rfl rfl (by decide +kernel) rfl (Or.inr (zE_rc ho))
theorem dz148_53 : decode (z_code 148) 53 = .ok (.bipush 58, 2) := by decide +kernel
theorem u148_53 : zEv sc 148 53 [l0] [t0, t1] h Q ↔ zEv sc 148 55 [l0] [.int 58, t0, t1] h Q := zE_bipush dz148_53 (by decide +kernel)
theorem dz148_55 : decode (z_code 148) 55 = .ok (.if_icmp .ne 7, 3) := by decide +kernel
theorem u148_55 : zEv sc 148 55 [l0] [.int x2, .int x1, t0] h Q ↔ (if ¬ x1 = x2 then zEv sc 148 62 [l0] [t0] h Q else zEv sc 148 58 [l0] [t0] h Q) := zE_icP (P := ¬ x1 = x2) inferInstance 62 dz148_55 rfl rfl
theorem dz148_58 : decode (z_code 148) 58 = .ok (.iconst 1, 1) := by decide +kernel
theorem u148_58 : zEv sc 148 58 [l0] [t0] h Q ↔ zEv sc 148 59 [l0] [.int 1, t0] h Q := zE_iconst dz148_58 (by decide +kernel)
theorem dz148_59 : decode (z_code 148) 59 = .ok (.goto 4, 3) := by decide +kernel
theorem u148_59 : zEv sc 148 59 [l0] [t0, t1] h Q ↔ zEv sc 148 63 [l0] [t0, t1] h Q := zE_go 63 dz148_59 rfl
theorem dz148_63 : decode (z_code 148) 63 = .ok (.invokevirtual 179, 3) := by decide +kernel
theorem u148_63 (ho : zO a 10) : zEv sc 148 63 [l0] [.int z0, .ref a] (zst p iv) Q ↔ zEv sc 146 0 [.ref a, .int z0] [] (zst p iv) (fun r h9 => zEv sc 148 66 [l0] (r.toList ++ []) h9 Q) := zE_call (kd := 0) (na := 2) (nr := 0) (as := [.ref a, .int z0]) (rest := []) (Or.inl ⟨rfl, rfl⟩) dz148_63 (by decide +kernel : z_lk2 zCT (z_cls 148) 179 = some (146, 0, 962)) (fun z => by cases z) rfl rfl rfl (by decide +kernel) rfl (Or.inr (zE_rc ho))
theorem dz148_66 : decode (z_code 148) 66 = .ok (.aload_n 0, 1) := by decide +kernel
theorem u148_66 : zEv sc 148 66 [.ref a] [] h Q ↔ zEv sc 148 67 [.ref a] [.ref a] h Q := zE_pure (q := (67, [.ref a], [.ref a])) dz148_66 rfl rfl rfl
theorem dz148_67 : decode (z_code 148) 67 = .ok (.aload_n 0, 1) := by decide +kernel
theorem u148_67 : zEv sc 148 67 [.ref a] [t0] h Q ↔ zEv sc 148 68 [.ref a] [.ref a, t0] h Q := zE_pure (q := (68, [.ref a], [.ref a, t0])) dz148_67 rfl rfl rfl
theorem dz148_68 : decode (z_code 148) 68 = .ok (.aload_n 0, 1) := by decide +kernel
theorem u148_68 : zEv sc 148 68 [.ref a] [t0, t1] h Q ↔ zEv sc 148 69 [.ref a] [.ref a, t0, t1] h Q := zE_pure (q := (69, [.ref a], [.ref a, t0, t1])) dz148_68 rfl rfl rfl
theorem dz148_69 : decode (z_code 148) 69 = .ok (.getfield 7, 3) := by decide +kernel
theorem u148_69 (ho : zO a 10) : zEv sc 148 69 [l0] [.ref a, t0, t1] (zst p iv) Q ↔ zRef (zRV p a 0) (fun j => zEv sc 148 72 [l0] [.ref j, t0, t1] (zst p iv) Q) := zE_gfR dz148_69 (by decide +kernel : z_lk3 zFT (z_cls 148) 7 = some (10, 0, 0, 677)) (by decide +kernel) ho
theorem dz148_72 : decode (z_code 148) 72 = .ok (.iconst 0, 1) := by decide +kernel
theorem u148_72 : zEv sc 148 72 [l0] [t0, t1, t2] h Q ↔ zEv sc 148 73 [l0] [.int 0, t0, t1, t2] h Q := zE_iconst dz148_72 (by decide +kernel)
theorem dz148_73 : decode (z_code 148) 73 = .ok (.iaload, 1) := by decide +kernel
theorem u148_73 (ho : zO a 100) : zEv sc 148 73 [l0] [.int x, .ref a, t0, t1] (zst p iv) Q ↔ (vp_in x (zLn a) ∧ zEv sc 148 74 [l0] [.int (iv a x.toNatClampNeg), t0, t1] (zst p iv) Q) := zE_ald (Or.inl ⟨rfl, rfl⟩) dz148_73 ho
theorem dz148_74 : decode (z_code 148) 74 = .ok (.aload_n 0, 1) := by decide +kernel
theorem u148_74 : zEv sc 148 74 [.ref a] [t0, t1, t2] h Q ↔ zEv sc 148 75 [.ref a] [.ref a, t0, t1, t2] h Q := zE_pure (q := (75, [.ref a], [.ref a, t0, t1, t2])) dz148_74 rfl rfl rfl
theorem dz148_75 : decode (z_code 148) 75 = .ok (.getfield 7, 3) := by decide +kernel
theorem u148_75 (ho : zO a 10) : zEv sc 148 75 [l0] [.ref a, t0, t1, t2] (zst p iv) Q ↔ zRef (zRV p a 0) (fun j => zEv sc 148 78 [l0] [.ref j, t0, t1, t2] (zst p iv) Q) := zE_gfR dz148_75 (by decide +kernel : z_lk3 zFT (z_cls 148) 7 = some (10, 0, 0, 677)) (by decide +kernel) ho
theorem dz148_78 : decode (z_code 148) 78 = .ok (.iconst 0, 1) := by decide +kernel
theorem u148_78 : zEv sc 148 78 [l0] [t0, t1, t2, t3] h Q ↔ zEv sc 148 79 [l0] [.int 0, t0, t1, t2, t3] h Q := zE_iconst dz148_78 (by decide +kernel)
theorem dz148_79 : decode (z_code 148) 79 = .ok (.iaload, 1) := by decide +kernel
theorem u148_79 (ho : zO a 100) : zEv sc 148 79 [l0] [.int x, .ref a, t0, t1, t2] (zst p iv) Q ↔ (vp_in x (zLn a) ∧ zEv sc 148 80 [l0] [.int (iv a x.toNatClampNeg), t0, t1, t2] (zst p iv) Q) := zE_ald (Or.inl ⟨rfl, rfl⟩) dz148_79 ho
theorem dz148_80 : decode (z_code 148) 80 = .ok (.invokevirtual 183, 3) := by decide +kernel
theorem u148_80 (ho : zO a 10) : zEv sc 148 80 [l0] [.int z1, .int z0, .ref a, t0] (zst p iv) Q ↔ zEv sc 147 0 [.ref a, .int z0, .int z1, .null, .null] [] (zst p iv) (fun r h9 => zEv sc 148 83 [l0] (r.toList ++ [t0]) h9 Q) := zE_call (kd := 0) (na := 3) (nr := 1) (as := [.ref a, .int z0, .int z1]) (rest := [t0]) (Or.inl ⟨rfl, rfl⟩) dz148_80 (by decide +kernel : z_lk2 zCT (z_cls 148) 183 = some (147, 0, 966)) (fun z => by cases z) rfl rfl rfl (by decide +kernel) rfl (Or.inr (zE_rc ho))
theorem dz148_83 : decode (z_code 148) 83 = .ok (.putfield 186, 3) := by decide +kernel
theorem u148_83 (ho : zO a 10) : zEv sc 148 83 [l0] [.int x, .ref a] (zst p iv) Q ↔ zEv sc 148 86 [l0] [] (zst p (w2 iv a 14 x)) Q := zE_pfI dz148_83 (by decide +kernel : z_lk3 zFT (z_cls 148) 186 = some (10, 14, 0, 691)) (by decide +kernel) (by decide +kernel) (by decide +kernel) ho
theorem dz148_86 : decode (z_code 148) 86 = .ok (.aload_n 0, 1) := by decide +kernel
theorem u148_86 : zEv sc 148 86 [.ref a] [] h Q ↔ zEv sc 148 87 [.ref a] [.ref a] h Q := zE_pure (q := (87, [.ref a], [.ref a])) dz148_86 rfl rfl rfl
theorem dz148_87 : decode (z_code 148) 87 = .ok (.getfield 166, 3) := by decide +kernel
theorem u148_87 (ho : zO a 10) : zEv sc 148 87 [l0] [.ref a] (zst p iv) Q ↔ zEv sc 148 90 [l0] [.int (iv a 11)] (zst p iv) Q := zE_gfI dz148_87 (by decide +kernel : z_lk3 zFT (z_cls 148) 166 = some (10, 11, 0, 688)) (by decide +kernel) ho
theorem dz148_90 : decode (z_code 148) 90 = .ok (.ifCond .eq 32, 3) := by decide +kernel
theorem u148_90 : zEv sc 148 90 [l0] [.int x] h Q ↔ (if x = 0 then zEv sc 148 122 [l0] [] h Q else zEv sc 148 93 [l0] [] h Q) := zE_ifP (P := x = 0) inferInstance 122 dz148_90 rfl rfl
theorem dz148_93 : decode (z_code 148) 93 = .ok (.aload_n 0, 1) := by decide +kernel
theorem u148_93 : zEv sc 148 93 [.ref a] [] h Q ↔ zEv sc 148 94 [.ref a] [.ref a] h Q := zE_pure (q := (94, [.ref a], [.ref a])) dz148_93 rfl rfl rfl
theorem dz148_94 : decode (z_code 148) 94 = .ok (.invokevirtual 162, 3) := by decide +kernel
theorem u148_94 (ho : zO a 10) : zEv sc 148 94 [l0] [.ref a] (zst p iv) Q ↔ zEv sc 144 0 [.ref a] [] (zst p iv) (fun r h9 => zEv sc 148 97 [l0] (r.toList ++ []) h9 Q) := zE_call (kd := 0) (na := 1) (nr := 0) (as := [.ref a]) (rest := []) (Or.inl ⟨rfl, rfl⟩) dz148_94 (by decide +kernel : z_lk2 zCT (z_cls 148) 162 = some (144, 0, 958)) (fun z => by cases z) rfl rfl rfl (by decide +kernel) rfl (Or.inr (zE_rc ho))
theorem dz148_97 : decode (z_code 148) 97 = .ok (.bipush 42, 2) := by decide +kernel
theorem u148_97 : zEv sc 148 97 [l0] [t0] h Q ↔ zEv sc 148 99 [l0] [.int 42, t0] h Q := zE_bipush dz148_97 (by decide +kernel)
theorem dz148_99 : decode (z_code 148) 99 = .ok (.if_icmp .ne 23, 3) := by decide +kernel
theorem u148_99 : zEv sc 148 99 [l0] [.int x2, .int x1] h Q ↔ (if ¬ x1 = x2 then zEv sc 148 122 [l0] [] h Q else zEv sc 148 102 [l0] [] h Q) := zE_icP (P := ¬ x1 = x2) inferInstance 122 dz148_99 rfl rfl
theorem dz148_102 : decode (z_code 148) 102 = .ok (.aload_n 0, 1) := by decide +kernel
theorem u148_102 : zEv sc 148 102 [.ref a] [] h Q ↔ zEv sc 148 103 [.ref a] [.ref a] h Q := zE_pure (q := (103, [.ref a], [.ref a])) dz148_102 rfl rfl rfl
theorem dz148_103 : decode (z_code 148) 103 = .ok (.dup, 1) := by decide +kernel
theorem u148_103 : zEv sc 148 103 [l0] [v1] h Q ↔ zEv sc 148 104 [l0] [v1, v1] h Q := zE_pure (q := (104, [l0], [v1, v1])) dz148_103 rfl rfl rfl
theorem dz148_104 : decode (z_code 148) 104 = .ok (.getfield 159, 3) := by decide +kernel
theorem u148_104 (ho : zO a 10) : zEv sc 148 104 [l0] [.ref a, t0] (zst p iv) Q ↔ zEv sc 148 107 [l0] [.int (iv a 10), t0] (zst p iv) Q := zE_gfI dz148_104 (by decide +kernel : z_lk3 zFT (z_cls 148) 159 = some (10, 10, 0, 687)) (by decide +kernel) ho
theorem dz148_107 : decode (z_code 148) 107 = .ok (.iconst 1, 1) := by decide +kernel
theorem u148_107 : zEv sc 148 107 [l0] [t0, t1] h Q ↔ zEv sc 148 108 [l0] [.int 1, t0, t1] h Q := zE_iconst dz148_107 (by decide +kernel)
theorem dz148_108 : decode (z_code 148) 108 = .ok (.iadd, 1) := by decide +kernel
theorem u148_108 : zEv sc 148 108 [l0] [.int x2, .int x1, t0] h Q ↔ zEv sc 148 109 [l0] [.int (x1 + x2), t0] h Q := zE_pure (q := (109, [l0], [.int (x1 + x2), t0])) dz148_108 rfl rfl rfl
theorem dz148_109 : decode (z_code 148) 109 = .ok (.putfield 159, 3) := by decide +kernel
theorem u148_109 (ho : zO a 10) : zEv sc 148 109 [l0] [.int x, .ref a] (zst p iv) Q ↔ zEv sc 148 112 [l0] [] (zst p (w2 iv a 10 x)) Q := zE_pfI dz148_109 (by decide +kernel : z_lk3 zFT (z_cls 148) 159 = some (10, 10, 0, 687)) (by decide +kernel) (by decide +kernel) (by decide +kernel) ho
theorem dz148_112 : decode (z_code 148) 112 = .ok (.aload_n 0, 1) := by decide +kernel
theorem u148_112 : zEv sc 148 112 [.ref a] [] h Q ↔ zEv sc 148 113 [.ref a] [.ref a] h Q := zE_pure (q := (113, [.ref a], [.ref a])) dz148_112 rfl rfl rfl
theorem dz148_113 : decode (z_code 148) 113 = .ok (.aload_n 0, 1) := by decide +kernel
theorem u148_113 : zEv sc 148 113 [.ref a] [t0] h Q ↔ zEv sc 148 114 [.ref a] [.ref a, t0] h Q := zE_pure (q := (114, [.ref a], [.ref a, t0])) dz148_113 rfl rfl rfl
theorem dz148_114 : decode (z_code 148) 114 = .ok (.iconst 1, 1) := by decide +kernel
theorem u148_114 : zEv sc 148 114 [l0] [t0, t1] h Q ↔ zEv sc 148 115 [l0] [.int 1, t0, t1] h Q := zE_iconst dz148_114 (by decide +kernel)
theorem dz148_115 : decode (z_code 148) 115 = .ok (.iconst 2, 1) := by decide +kernel
theorem u148_115 : zEv sc 148 115 [l0] [t0, t1, t2] h Q ↔ zEv sc 148 116 [l0] [.int 2, t0, t1, t2] h Q := zE_iconst dz148_115 (by decide +kernel)
theorem dz148_116 : decode (z_code 148) 116 = .ok (.invokevirtual 183, 3) := by decide +kernel
theorem u148_116 (ho : zO a 10) : zEv sc 148 116 [l0] [.int z1, .int z0, .ref a, t0] (zst p iv) Q ↔ zEv sc 147 0 [.ref a, .int z0, .int z1, .null, .null] [] (zst p iv) (fun r h9 => zEv sc 148 119 [l0] (r.toList ++ [t0]) h9 Q) := zE_call (kd := 0) (na := 3) (nr := 1) (as := [.ref a, .int z0, .int z1]) (rest := [t0]) (Or.inl ⟨rfl, rfl⟩) dz148_116 (by decide +kernel : z_lk2 zCT (z_cls 148) 183 = some (147, 0, 966)) (fun z => by cases z) rfl rfl rfl (by decide +kernel) rfl (Or.inr (zE_rc ho))
theorem dz148_119 : decode (z_code 148) 119 = .ok (.putfield 173, 3) := by decide +kernel
theorem u148_119 (ho : zO a 10) : zEv sc 148 119 [l0] [.int x, .ref a] (zst p iv) Q ↔ zEv sc 148 122 [l0] [] (zst p (w2 iv a 15 x)) Q := zE_pfI dz148_119 (by decide +kernel : z_lk3 zFT (z_cls 148) 173 = some (10, 15, 0, 692)) (by decide +kernel) (by decide +kernel) (by decide +kernel) ho
theorem dz148_122 : decode (z_code 148) 122 = .ok (.aload_n 0, 1) := by decide +kernel
theorem u148_122 : zEv sc 148 122 [.ref a] [] h Q ↔ zEv sc 148 123 [.ref a] [.ref a] h Q := zE_pure (q := (123, [.ref a], [.ref a])) dz148_122 rfl rfl rfl
theorem dz148_123 : decode (z_code 148) 123 = .ok (.aload_n 0, 1) := by decide +kernel
theorem u148_123 : zEv sc 148 123 [.ref a] [t0] h Q ↔ zEv sc 148 124 [.ref a] [.ref a, t0] h Q := zE_pure (q := (124, [.ref a], [.ref a, t0])) dz148_123 rfl rfl rfl
theorem dz148_124 : decode (z_code 148) 124 = .ok (.invokevirtual 162, 3) := by decide +kernel
theorem u148_124 (ho : zO a 10) : zEv sc 148 124 [l0] [.ref a, t0] (zst p iv) Q ↔ zEv sc 144 0 [.ref a] [] (zst p iv) (fun r h9 => zEv sc 148 127 [l0] (r.toList ++ [t0]) h9 Q) := zE_call (kd := 0) (na := 1) (nr := 1) (as := [.ref a]) (rest := [t0]) (Or.inl ⟨rfl, rfl⟩) dz148_124 (by decide +kernel : z_lk2 zCT (z_cls 148) 162 = some (144, 0, 958)) (fun z => by cases z) rfl rfl rfl (by decide +kernel) rfl (Or.inr (zE_rc ho))
theorem dz148_127 : decode (z_code 148) 127 = .ok (.bipush 59, 2) := by decide +kernel
theorem u148_127 : zEv sc 148 127 [l0] [t0, t1] h Q ↔ zEv sc 148 129 [l0] [.int 59, t0, t1] h Q := zE_bipush dz148_127 (by decide +kernel)
theorem dz148_129 : decode (z_code 148) 129 = .ok (.if_icmp .ne 7, 3) := by decide +kernel
theorem u148_129 : zEv sc 148 129 [l0] [.int x2, .int x1, t0] h Q ↔ (if ¬ x1 = x2 then zEv sc 148 136 [l0] [t0] h Q else zEv sc 148 132 [l0] [t0] h Q) := zE_icP (P := ¬ x1 = x2) inferInstance 136 dz148_129 rfl rfl
theorem dz148_132 : decode (z_code 148) 132 = .ok (.iconst 1, 1) := by decide +kernel
theorem u148_132 : zEv sc 148 132 [l0] [t0] h Q ↔ zEv sc 148 133 [l0] [.int 1, t0] h Q := zE_iconst dz148_132 (by decide +kernel)
theorem dz148_133 : decode (z_code 148) 133 = .ok (.goto 4, 3) := by decide +kernel
theorem u148_133 : zEv sc 148 133 [l0] [t0, t1] h Q ↔ zEv sc 148 137 [l0] [t0, t1] h Q := zE_go 137 dz148_133 rfl
theorem dz148_137 : decode (z_code 148) 137 = .ok (.invokevirtual 179, 3) := by decide +kernel
theorem u148_137 (ho : zO a 10) : zEv sc 148 137 [l0] [.int z0, .ref a] (zst p iv) Q ↔ zEv sc 146 0 [.ref a, .int z0] [] (zst p iv) (fun r h9 => zEv sc 148 140 [l0] (r.toList ++ []) h9 Q) := zE_call (kd := 0) (na := 2) (nr := 0) (as := [.ref a, .int z0]) (rest := []) (Or.inl ⟨rfl, rfl⟩) dz148_137 (by decide +kernel : z_lk2 zCT (z_cls 148) 179 = some (146, 0, 962)) (fun z => by cases z) rfl rfl rfl (by decide +kernel) rfl (Or.inr (zE_rc ho))
theorem dz148_140 : decode (z_code 148) 140 = .ok (.return_, 1) := by decide +kernel
theorem u148_140 : zEv sc 148 140 [l0] [] h Q ↔ Q none h := zE_rv dz148_140 (by decide +kernel)
theorem dz148_136 : decode (z_code 148) 136 = .ok (.iconst 0, 1) := by decide +kernel
theorem u148_136 : zEv sc 148 136 [l0] [t0] h Q ↔ zEv sc 148 137 [l0] [.int 0, t0] h Q := zE_iconst dz148_136 (by decide +kernel)
theorem dz148_62 : decode (z_code 148) 62 = .ok (.iconst 0, 1) := by decide +kernel
theorem u148_62 : zEv sc 148 62 [l0] [t0] h Q ↔ zEv sc 148 63 [l0] [.int 0, t0] h Q := zE_iconst dz148_62 (by decide +kernel)
theorem dz148_40 : decode (z_code 148) 40 = .ok (.iconst 1, 1) := by decide +kernel
theorem u148_40 : zEv sc 148 40 [l0] [t0] h Q ↔ zEv sc 148 41 [l0] [.int 1, t0] h Q := zE_iconst dz148_40 (by decide +kernel)
theorem dz148_41 : decode (z_code 148) 41 = .ok (.goto 4, 3) := by decide +kernel
theorem u148_41 : zEv sc 148 41 [l0] [t0, t1] h Q ↔ zEv sc 148 45 [l0] [t0, t1] h Q := zE_go 45 dz148_41 rfl
/-! method 149: FieldMixturesModel.does()I -/
theorem dz149_0 : decode (z_code 149) 0 = .ok (.aload_n 0, 1) := by decide +kernel
theorem u149_0 : zEv sc 149 0 [.ref a, l1] [] h Q ↔ zEv sc 149 1 [.ref a, l1] [.ref a] h Q := zE_pure (q := (1, [.ref a, l1], [.ref a])) dz149_0 rfl rfl rfl
theorem dz149_1 : decode (z_code 149) 1 = .ok (.iconst 0, 1) := by decide +kernel
theorem u149_1 : zEv sc 149 1 [l0, l1] [t0] h Q ↔ zEv sc 149 2 [l0, l1] [.int 0, t0] h Q := zE_iconst dz149_1 (by decide +kernel)
theorem dz149_2 : decode (z_code 149) 2 = .ok (.putfield 159, 3) := by decide +kernel
theorem u149_2 (ho : zO a 10) : zEv sc 149 2 [l0, l1] [.int x, .ref a] (zst p iv) Q ↔ zEv sc 149 5 [l0, l1] [] (zst p (w2 iv a 10 x)) Q := zE_pfI dz149_2 (by decide +kernel : z_lk3 zFT (z_cls 149) 159 = some (10, 10, 0, 687)) (by decide +kernel) (by decide +kernel) (by decide +kernel) ho
theorem dz149_5 : decode (z_code 149) 5 = .ok (.aload_n 0, 1) := by decide +kernel
theorem u149_5 : zEv sc 149 5 [.ref a, l1] [] h Q ↔ zEv sc 149 6 [.ref a, l1] [.ref a] h Q := zE_pure (q := (6, [.ref a, l1], [.ref a])) dz149_5 rfl rfl rfl
theorem dz149_6 : decode (z_code 149) 6 = .ok (.getfield 159, 3) := by decide +kernel
theorem u149_6 (ho : zO a 10) : zEv sc 149 6 [l0, l1] [.ref a] (zst p iv) Q ↔ zEv sc 149 9 [l0, l1] [.int (iv a 10)] (zst p iv) Q := zE_gfI dz149_6 (by decide +kernel : z_lk3 zFT (z_cls 149) 159 = some (10, 10, 0, 687)) (by decide +kernel) ho
theorem dz149_9 : decode (z_code 149) 9 = .ok (.aload_n 0, 1) := by decide +kernel
theorem u149_9 : zEv sc 149 9 [.ref a, l1] [t0] h Q ↔ zEv sc 149 10 [.ref a, l1] [.ref a, t0] h Q := zE_pure (q := (10, [.ref a, l1], [.ref a, t0])) dz149_9 rfl rfl rfl
theorem dz149_10 : decode (z_code 149) 10 = .ok (.getfield 153, 3) := by decide +kernel
theorem u149_10 (ho : zO a 10) : zEv sc 149 10 [l0, l1] [.ref a, t0] (zst p iv) Q ↔ zEv sc 149 13 [l0, l1] [.int (iv a 5), t0] (zst p iv) Q := zE_gfI dz149_10 (by decide +kernel : z_lk3 zFT (z_cls 149) 153 = some (10, 5, 0, 682)) (by decide +kernel) ho
theorem dz149_13 : decode (z_code 149) 13 = .ok (.if_icmp .ge 103, 3) := by decide +kernel
theorem u149_13 : zEv sc 149 13 [l0, l1] [.int x2, .int x1] h Q ↔ (if x2 ≤ x1 then zEv sc 149 116 [l0, l1] [] h Q else zEv sc 149 16 [l0, l1] [] h Q) := zE_icP (P := x2 ≤ x1) inferInstance 116 dz149_13 rfl rfl
theorem dz149_16 : decode (z_code 149) 16 = .ok (.aload_n 0, 1) := by decide +kernel
theorem u149_16 : zEv sc 149 16 [.ref a, l1] [] h Q ↔ zEv sc 149 17 [.ref a, l1] [.ref a] h Q := zE_pure (q := (17, [.ref a, l1], [.ref a])) dz149_16 rfl rfl rfl
theorem dz149_17 : decode (z_code 149) 17 = .ok (.getfield 159, 3) := by decide +kernel
theorem u149_17 (ho : zO a 10) : zEv sc 149 17 [l0, l1] [.ref a] (zst p iv) Q ↔ zEv sc 149 20 [l0, l1] [.int (iv a 10)] (zst p iv) Q := zE_gfI dz149_17 (by decide +kernel : z_lk3 zFT (z_cls 149) 159 = some (10, 10, 0, 687)) (by decide +kernel) ho
theorem dz149_20 : decode (z_code 149) 20 = .ok (.istore_n 1, 1) := by decide +kernel
theorem u149_20 : zEv sc 149 20 [l0, l1] [.int x] h Q ↔ zEv sc 149 21 [l0, .int x] [] h Q := zE_pure (q := (21, [l0, .int x], [])) dz149_20 rfl rfl rfl
theorem dz149_21 : decode (z_code 149) 21 = .ok (.aload_n 0, 1) := by decide +kernel
theorem u149_21 : zEv sc 149 21 [.ref a, l1] [] h Q ↔ zEv sc 149 22 [.ref a, l1] [.ref a] h Q := zE_pure (q := (22, [.ref a, l1], [.ref a])) dz149_21 rfl rfl rfl
theorem dz149_22 : decode (z_code 149) 22 = .ok (.invokevirtual 189, 3) := by decide +kernel
theorem u149_22 (ho : zO a 10) : zEv sc 149 22 [l0, l1] [.ref a] (zst p iv) Q ↔ zEv sc 148 0 [.ref a] [] (zst p iv) (fun r h9 => zEv sc 149 25 [l0, l1] (r.toList ++ []) h9 Q) := zE_call (kd := 0) (na := 1) (nr := 0) (as := [.ref a]) (rest := []) (Or.inl ⟨rfl, rfl⟩) dz149_22 (by decide +kernel : z_lk2 zCT (z_cls 149) 189 = some (148, 0, 954)) (fun z => by cases z) rfl rfl rfl (by decide +kernel) rfl (Or.inr (zE_rc ho))
theorem dz149_25 : decode (z_code 149) 25 = .ok (.aload_n 0, 1) := by decide +kernel
theorem u149_25 : zEv sc 149 25 [.ref a, l1] [] h Q ↔ zEv sc 149 26 [.ref a, l1] [.ref a] h Q := zE_pure (q := (26, [.ref a, l1], [.ref a])) dz149_25 rfl rfl rfl
theorem dz149_26 : decode (z_code 149) 26 = .ok (.aload_n 0, 1) := by decide +kernel
theorem u149_26 : zEv sc 149 26 [.ref a, l1] [t0] h Q ↔ zEv sc 149 27 [.ref a, l1] [.ref a, t0] h Q := zE_pure (q := (27, [.ref a, l1], [.ref a, t0])) dz149_26 rfl rfl rfl
theorem dz149_27 : decode (z_code 149) 27 = .ok (.getfield 166, 3) := by decide +kernel
theorem u149_27 (ho : zO a 10) : zEv sc 149 27 [l0, l1] [.ref a, t0] (zst p iv) Q ↔ zEv sc 149 30 [l0, l1] [.int (iv a 11), t0] (zst p iv) Q := zE_gfI dz149_27 (by decide +kernel : z_lk3 zFT (z_cls 149) 166 = some (10, 11, 0, 688)) (by decide +kernel) ho
theorem dz149_30 : decode (z_code 149) 30 = .ok (.ifCond .ne 7, 3) := by decide +kernel
theorem u149_30 : zEv sc 149 30 [l0, l1] [.int x, t0] h Q ↔ (if ¬ x = 0 then zEv sc 149 37 [l0, l1] [t0] h Q else zEv sc 149 33 [l0, l1] [t0] h Q) := zE_ifP (P := ¬ x = 0) inferInstance 37 dz149_30 rfl rfl
theorem dz149_33 : decode (z_code 149) 33 = .ok (.iconst 1, 1) := by decide +kernel
theorem u149_33 : zEv sc 149 33 [l0, l1] [t0] h Q ↔ zEv sc 149 34 [l0, l1] [.int 1, t0] h Q := zE_iconst dz149_33 (by decide +kernel)
theorem dz149_34 : decode (z_code 149) 34 = .ok (.goto 30, 3) := by decide +kernel
theorem u149_34 : zEv sc 149 34 [l0, l1] [t0, t1] h Q ↔ zEv sc 149 64 [l0, l1] [t0, t1] h Q := zE_go 64 dz149_34 rfl
theorem dz149_64 : decode (z_code 149) 64 = .ok (.putfield 192, 3) := by decide +kernel
theorem u149_64 (ho : zO a 10) : zEv sc 149 64 [l0, l1] [.int x, .ref a] (zst p iv) Q ↔ zEv sc 149 67 [l0, l1] [] (zst p (w2 iv a 12 x)) Q := zE_pfI dz149_64 (by decide +kernel : z_lk3 zFT (z_cls 149) 192 = some (10, 12, 0, 689)) (by decide +kernel) (by decide +kernel) (by decide +kernel) ho
theorem dz149_67 : decode (z_code 149) 67 = .ok (.aload_n 0, 1) := by decide +kernel
theorem u149_67 : zEv sc 149 67 [.ref a, l1] [] h Q ↔ zEv sc 149 68 [.ref a, l1] [.ref a] h Q := zE_pure (q := (68, [.ref a, l1], [.ref a])) dz149_67 rfl rfl rfl
theorem dz149_68 : decode (z_code 149) 68 = .ok (.getfield 192, 3) := by decide +kernel
theorem u149_68 (ho : zO a 10) : zEv sc 149 68 [l0, l1] [.ref a] (zst p iv) Q ↔ zEv sc 149 71 [l0, l1] [.int (iv a 12)] (zst p iv) Q := zE_gfI dz149_68 (by decide +kernel : z_lk3 zFT (z_cls 149) 192 = some (10, 12, 0, 689)) (by decide +kernel) ho
theorem dz149_71 : decode (z_code 149) 71 = .ok (.ifCond .ne 33, 3) := by decide +kernel
theorem u149_71 : zEv sc 149 71 [l0, l1] [.int x] h Q ↔ (if ¬ x = 0 then zEv sc 149 104 [l0, l1] [] h Q else zEv sc 149 74 [l0, l1] [] h Q) := zE_ifP (P := ¬ x = 0) inferInstance 104 dz149_71 rfl rfl
theorem dz149_74 : decode (z_code 149) 74 = .ok (.aload_n 0, 1) := by decide +kernel
theorem u149_74 : zEv sc 149 74 [.ref a, l1] [] h Q ↔ zEv sc 149 75 [.ref a, l1] [.ref a] h Q := zE_pure (q := (75, [.ref a, l1], [.ref a])) dz149_74 rfl rfl rfl
theorem dz149_75 : decode (z_code 149) 75 = .ok (.aload_n 0, 1) := by decide +kernel
theorem u149_75 : zEv sc 149 75 [.ref a, l1] [t0] h Q ↔ zEv sc 149 76 [.ref a, l1] [.ref a, t0] h Q := zE_pure (q := (76, [.ref a, l1], [.ref a, t0])) dz149_75 rfl rfl rfl
theorem dz149_76 : decode (z_code 149) 76 = .ok (.aload_n 0, 1) := by decide +kernel
theorem u149_76 : zEv sc 149 76 [.ref a, l1] [t0, t1] h Q ↔ zEv sc 149 77 [.ref a, l1] [.ref a, t0, t1] h Q := zE_pure (q := (77, [.ref a, l1], [.ref a, t0, t1])) dz149_76 rfl rfl rfl
theorem dz149_77 : decode (z_code 149) 77 = .ok (.getfield 176, 3) := by decide +kernel
theorem u149_77 (ho : zO a 10) : zEv sc 149 77 [l0, l1] [.ref a, t0, t1] (zst p iv) Q ↔ zEv sc 149 80 [l0, l1] [.int (iv a 13), t0, t1] (zst p iv) Q := zE_gfI dz149_77 (by decide +kernel : z_lk3 zFT (z_cls 149) 176 = some (10, 13, 0, 690)) (by decide +kernel) ho
theorem dz149_80 : decode (z_code 149) 80 = .ok (.aload_n 0, 1) := by decide +kernel
theorem u149_80 : zEv sc 149 80 [.ref a, l1] [t0, t1, t2] h Q ↔ zEv sc 149 81 [.ref a, l1] [.ref a, t0, t1, t2] h Q := zE_pure (q := (81, [.ref a, l1], [.ref a, t0, t1, t2])) dz149_80 rfl rfl rfl
theorem dz149_81 : decode (z_code 149) 81 = .ok (.getfield 186, 3) := by decide +kernel
theorem u149_81 (ho : zO a 10) : zEv sc 149 81 [l0, l1] [.ref a, t0, t1, t2] (zst p iv) Q ↔ zEv sc 149 84 [l0, l1] [.int (iv a 14), t0, t1, t2] (zst p iv) Q := zE_gfI dz149_81 (by decide +kernel : z_lk3 zFT (z_cls 149) 186 = some (10, 14, 0, 691)) (by decide +kernel) ho
theorem dz149_84 : decode (z_code 149) 84 = .ok (.aload_n 0, 1) := by decide +kernel
theorem u149_84 : zEv sc 149 84 [.ref a, l1] [t0, t1, t2, t3] h Q ↔ zEv sc 149 85 [.ref a, l1] [.ref a, t0, t1, t2, t3] h Q := zE_pure (q := (85, [.ref a, l1], [.ref a, t0, t1, t2, t3])) dz149_84 rfl rfl rfl
theorem dz149_85 : decode (z_code 149) 85 = .ok (.getfield 173, 3) := by decide +kernel
theorem u149_85 (ho : zO a 10) : zEv sc 149 85 [l0, l1] [.ref a, t0, t1, t2, t3] (zst p iv) Q ↔ zEv sc 149 88 [l0, l1] [.int (iv a 15), t0, t1, t2, t3] (zst p iv) Q := zE_gfI dz149_85 (by decide +kernel : z_lk3 zFT (z_cls 149) 173 = some (10, 15, 0, 692)) (by decide +kernel) ho
theorem dz149_88 : decode (z_code 149) 88 = .ok (.invokevirtual 98, 3) := by decide +kernel
theorem u149_88 (ho : zO a 10) : zEv sc 149 88 [l0, l1] [.int z2, .int z1, .int z0, .ref a, t0] (zst p iv) Q ↔ zEv sc 108 0 [.ref a, .int z0, .int z1, .int z2, .null, .null, .null, .null] [] (zst p iv) (fun r h9 => zEv sc 149 91 [l0, l1] (r.toList ++ [t0]) h9 Q) := zE_call (kd := 0) (na := 4) (nr := 1) (as := [.ref a, .int z0, .int z1, .int z2]) (rest := [t0]) (Or.inl ⟨rfl, rfl⟩) dz149_88 (by decide +kernel : z_lk2 zCT (z_cls 149) 98 = some (108, 0, 812)) (fun z => by cases z) rfl rfl rfl (by decide +kernel) rfl (Or.inr (zE_rc ho))
theorem dz149_91 : decode (z_code 149) 91 = .ok (.ldc 73, 2) := by decide +kernel
theorem u149_91 : zEv sc 149 91 [l0, l1] [t0, t1] h Q ↔ zEv sc 149 93 [l0, l1] [.int (-1000003), t0, t1] h Q := zE_ldc (by decide +kernel : z_lkK zKT (z_cls 149) 73 = some ((-1000003), 828)) dz149_91
theorem dz149_93 : decode (z_code 149) 93 = .ok (.if_icmp .ne 7, 3) := by decide +kernel
theorem u149_93 : zEv sc 149 93 [l0, l1] [.int x2, .int x1, t0] h Q ↔ (if ¬ x1 = x2 then zEv sc 149 100 [l0, l1] [t0] h Q else zEv sc 149 96 [l0, l1] [t0] h Q) := zE_icP (P := ¬ x1 = x2) inferInstance 100 dz149_93 rfl rfl
theorem dz149_96 : decode (z_code 149) 96 = .ok (.iconst 3, 1) := by decide +kernel
theorem u149_96 : zEv sc 149 96 [l0, l1] [t0] h Q ↔ zEv sc 149 97 [l0, l1] [.int 3, t0] h Q := zE_iconst dz149_96 (by decide +kernel)
theorem dz149_97 : decode (z_code 149) 97 = .ok (.goto 4, 3) := by decide +kernel
theorem u149_97 : zEv sc 149 97 [l0, l1] [t0, t1] h Q ↔ zEv sc 149 101 [l0, l1] [t0, t1] h Q := zE_go 101 dz149_97 rfl
theorem dz149_101 : decode (z_code 149) 101 = .ok (.putfield 192, 3) := by decide +kernel
theorem u149_101 (ho : zO a 10) : zEv sc 149 101 [l0, l1] [.int x, .ref a] (zst p iv) Q ↔ zEv sc 149 104 [l0, l1] [] (zst p (w2 iv a 12 x)) Q := zE_pfI dz149_101 (by decide +kernel : z_lk3 zFT (z_cls 149) 192 = some (10, 12, 0, 689)) (by decide +kernel) (by decide +kernel) (by decide +kernel) ho
theorem dz149_100 : decode (z_code 149) 100 = .ok (.iconst 0, 1) := by decide +kernel
theorem u149_100 : zEv sc 149 100 [l0, l1] [t0] h Q ↔ zEv sc 149 101 [l0, l1] [.int 0, t0] h Q := zE_iconst dz149_100 (by decide +kernel)
theorem dz149_104 : decode (z_code 149) 104 = .ok (.aload_n 0, 1) := by decide +kernel
theorem u149_104 : zEv sc 149 104 [.ref a, l1] [] h Q ↔ zEv sc 149 105 [.ref a, l1] [.ref a] h Q := zE_pure (q := (105, [.ref a, l1], [.ref a])) dz149_104 rfl rfl rfl
theorem dz149_105 : decode (z_code 149) 105 = .ok (.getfield 192, 3) := by decide +kernel
theorem u149_105 (ho : zO a 10) : zEv sc 149 105 [l0, l1] [.ref a] (zst p iv) Q ↔ zEv sc 149 108 [l0, l1] [.int (iv a 12)] (zst p iv) Q := zE_gfI dz149_105 (by decide +kernel : z_lk3 zFT (z_cls 149) 192 = some (10, 12, 0, 689)) (by decide +kernel) ho
theorem dz149_108 : decode (z_code 149) 108 = .ok (.ifCond .le 5, 3) := by decide +kernel
theorem u149_108 : zEv sc 149 108 [l0, l1] [.int x] h Q ↔ (if x ≤ 0 then zEv sc 149 113 [l0, l1] [] h Q else zEv sc 149 111 [l0, l1] [] h Q) := zE_ifP (P := x ≤ 0) inferInstance 113 dz149_108 rfl rfl
theorem dz149_111 : decode (z_code 149) 111 = .ok (.iload_n 1, 1) := by decide +kernel
theorem u149_111 : zEv sc 149 111 [l0, .int x] [] h Q ↔ zEv sc 149 112 [l0, .int x] [.int x] h Q := zE_pure (q := (112, [l0, .int x], [.int x])) dz149_111 rfl rfl rfl
theorem dz149_112 : decode (z_code 149) 112 = .ok (.ireturn, 1) := by decide +kernel
theorem u149_112 : zEv sc 149 112 [l0, l1] [.int x] h Q ↔ Q (some (.int x)) h := zE_ri dz149_112 (by decide +kernel)
theorem dz149_113 : decode (z_code 149) 113 = .ok (.goto (-108), 3) := by decide +kernel
theorem u149_113 : zEv sc 149 113 [l0, l1] [] h Q ↔ zEv sc 149 5 [l0, l1] [] h Q := zE_go 5 dz149_113 rfl
theorem dz149_37 : decode (z_code 149) 37 = .ok (.aload_n 0, 1) := by decide +kernel
theorem u149_37 : zEv sc 149 37 [.ref a, l1] [t0] h Q ↔ zEv sc 149 38 [.ref a, l1] [.ref a, t0] h Q := zE_pure (q := (38, [.ref a, l1], [.ref a, t0])) dz149_37 rfl rfl rfl
theorem dz149_38 : decode (z_code 149) 38 = .ok (.getfield 173, 3) := by decide +kernel
theorem u149_38 (ho : zO a 10) : zEv sc 149 38 [l0, l1] [.ref a, t0] (zst p iv) Q ↔ zEv sc 149 41 [l0, l1] [.int (iv a 15), t0] (zst p iv) Q := zE_gfI dz149_38 (by decide +kernel : z_lk3 zFT (z_cls 149) 173 = some (10, 15, 0, 692)) (by decide +kernel) ho
theorem dz149_41 : decode (z_code 149) 41 = .ok (.ifCond .eq 18, 3) := by decide +kernel
theorem u149_41 : zEv sc 149 41 [l0, l1] [.int x, t0] h Q ↔ (if x = 0 then zEv sc 149 59 [l0, l1] [t0] h Q else zEv sc 149 44 [l0, l1] [t0] h Q) := zE_ifP (P := x = 0) inferInstance 59 dz149_41 rfl rfl
theorem dz149_44 : decode (z_code 149) 44 = .ok (.aload_n 0, 1) := by decide +kernel
theorem u149_44 : zEv sc 149 44 [.ref a, l1] [t0] h Q ↔ zEv sc 149 45 [.ref a, l1] [.ref a, t0] h Q := zE_pure (q := (45, [.ref a, l1], [.ref a, t0])) dz149_44 rfl rfl rfl
theorem dz149_45 : decode (z_code 149) 45 = .ok (.aload_n 0, 1) := by decide +kernel
theorem u149_45 : zEv sc 149 45 [.ref a, l1] [t0, t1] h Q ↔ zEv sc 149 46 [.ref a, l1] [.ref a, t0, t1] h Q := zE_pure (q := (46, [.ref a, l1], [.ref a, t0, t1])) dz149_45 rfl rfl rfl
theorem dz149_46 : decode (z_code 149) 46 = .ok (.getfield 176, 3) := by decide +kernel
theorem u149_46 (ho : zO a 10) : zEv sc 149 46 [l0, l1] [.ref a, t0, t1] (zst p iv) Q ↔ zEv sc 149 49 [l0, l1] [.int (iv a 13), t0, t1] (zst p iv) Q := zE_gfI dz149_46 (by decide +kernel : z_lk3 zFT (z_cls 149) 176 = some (10, 13, 0, 690)) (by decide +kernel) ho
theorem dz149_49 : decode (z_code 149) 49 = .ok (.aload_n 0, 1) := by decide +kernel
theorem u149_49 : zEv sc 149 49 [.ref a, l1] [t0, t1, t2] h Q ↔ zEv sc 149 50 [.ref a, l1] [.ref a, t0, t1, t2] h Q := zE_pure (q := (50, [.ref a, l1], [.ref a, t0, t1, t2])) dz149_49 rfl rfl rfl
theorem dz149_50 : decode (z_code 149) 50 = .ok (.getfield 186, 3) := by decide +kernel
theorem u149_50 (ho : zO a 10) : zEv sc 149 50 [l0, l1] [.ref a, t0, t1, t2] (zst p iv) Q ↔ zEv sc 149 53 [l0, l1] [.int (iv a 14), t0, t1, t2] (zst p iv) Q := zE_gfI dz149_50 (by decide +kernel : z_lk3 zFT (z_cls 149) 186 = some (10, 14, 0, 691)) (by decide +kernel) ho
theorem dz149_53 : decode (z_code 149) 53 = .ok (.invokevirtual 47, 3) := by decide +kernel
theorem u149_53 (ho : zO a 10) : zEv sc 149 53 [l0, l1] [.int z1, .int z0, .ref a, t0] (zst p iv) Q ↔ zEv sc 96 0 [.ref a, .int z0, .int z1, .null, .null, .null, .null, .null] [] (zst p iv) (fun r h9 => zEv sc 149 56 [l0, l1] (r.toList ++ [t0]) h9 Q) := zE_call (kd := 0) (na := 3) (nr := 1) (as := [.ref a, .int z0, .int z1]) (rest := [t0]) (Or.inl ⟨rfl, rfl⟩) dz149_53 (by decide +kernel : z_lk2 zCT (z_cls 149) 47 = some (96, 0, 784)) (fun z => by cases z) rfl rfl rfl (by decide +kernel) rfl (Or.inr (zE_rc ho))
theorem dz149_56 : decode (z_code 149) 56 = .ok (.ifCond .ne 7, 3) := by decide +kernel
theorem u149_56 : zEv sc 149 56 [l0, l1] [.int x, t0] h Q ↔ (if ¬ x = 0 then zEv sc 149 63 [l0, l1] [t0] h Q else zEv sc 149 59 [l0, l1] [t0] h Q) := zE_ifP (P := ¬ x = 0) inferInstance 63 dz149_56 rfl rfl
theorem dz149_63 : decode (z_code 149) 63 = .ok (.iconst 0, 1) := by decide +kernel
theorem u149_63 : zEv sc 149 63 [l0, l1] [t0] h Q ↔ zEv sc 149 64 [l0, l1] [.int 0, t0] h Q := zE_iconst dz149_63 (by decide +kernel)
theorem dz149_59 : decode (z_code 149) 59 = .ok (.iconst 2, 1) := by decide +kernel
theorem u149_59 : zEv sc 149 59 [l0, l1] [t0] h Q ↔ zEv sc 149 60 [l0, l1] [.int 2, t0] h Q := zE_iconst dz149_59 (by decide +kernel)
theorem dz149_60 : decode (z_code 149) 60 = .ok (.goto 4, 3) := by decide +kernel
theorem u149_60 : zEv sc 149 60 [l0, l1] [t0, t1] h Q ↔ zEv sc 149 64 [l0, l1] [t0, t1] h Q := zE_go 64 dz149_60 rfl
theorem dz149_116 : decode (z_code 149) 116 = .ok (.iconst (-1), 1) := by decide +kernel
theorem u149_116 : zEv sc 149 116 [l0, l1] [] h Q ↔ zEv sc 149 117 [l0, l1] [.int (-1)] h Q := zE_iconst dz149_116 (by decide +kernel)
theorem dz149_117 : decode (z_code 149) 117 = .ok (.ireturn, 1) := by decide +kernel
theorem u149_117 : zEv sc 149 117 [l0, l1] [.int x] h Q ↔ Q (some (.int x)) h := zE_ri dz149_117 (by decide +kernel)
/-! method 150: FieldMixturesModel.fault(I)I -/
theorem dz150_0 : decode (z_code 150) 0 = .ok (.iload_n 1, 1) := by decide +kernel
theorem u150_0 : zEv sc 150 0 [l0, .int x, l2, l3] [] h Q ↔ zEv sc 150 1 [l0, .int x, l2, l3] [.int x] h Q := zE_pure (q := (1, [l0, .int x, l2, l3], [.int x])) dz150_0 rfl rfl rfl
theorem dz150_1 : decode (z_code 150) 1 = .ok (.iconst 0, 1) := by decide +kernel
theorem u150_1 : zEv sc 150 1 [l0, l1, l2, l3] [t0] h Q ↔ zEv sc 150 2 [l0, l1, l2, l3] [.int 0, t0] h Q := zE_iconst dz150_1 (by decide +kernel)
theorem dz150_2 : decode (z_code 150) 2 = .ok (.iconst 2, 1) := by decide +kernel
theorem u150_2 : zEv sc 150 2 [l0, l1, l2, l3] [t0, t1] h Q ↔ zEv sc 150 3 [l0, l1, l2, l3] [.int 2, t0, t1] h Q := zE_iconst dz150_2 (by decide +kernel)
theorem dz150_3 : decode (z_code 150) 3 = .ok (.invokestatic 39, 3) := by decide +kernel
theorem u150_3 : zEv sc 150 3 [l0, l1, l2, l3] [.int z2, .int z1, .int z0] h Q ↔ zEv sc 89 0 [.int z0, .int z1, .int z2] [] h (fun r h9 => zEv sc 150 6 [l0, l1, l2, l3] (r.toList ++ []) h9 Q) := zE_call (kd := 1) (na := 3) (nr := 0) (as := [.int z0, .int z1, .int z2]) (rest := []) (Or.inr ⟨rfl, rfl⟩) dz150_3 (by decide +kernel : z_lk2 zCT (z_cls 150) 39 = some (89, 0, 734)) (fun _ => by decide +kernel) rfl rfl rfl (by decide +kernel) rfl (Or.inl rfl)
theorem dz150_6 : decode (z_code 150) 6 = .ok (.ifCond .ne 6, 3) := by decide +kernel
theorem u150_6 : zEv sc 150 6 [l0, l1, l2, l3] [.int x] h Q ↔ (if ¬ x = 0 then zEv sc 150 12 [l0, l1, l2, l3] [] h Q else zEv sc 150 9 [l0, l1, l2, l3] [] h Q) := zE_ifP (P := ¬ x = 0) inferInstance 12 dz150_6 rfl rfl
theorem dz150_9 : decode (z_code 150) 9 = .ok (.ldc 31, 2) := by decide +kernel
theorem u150_9 : zEv sc 150 9 [l0, l1, l2, l3] [] h Q ↔ zEv sc 150 11 [l0, l1, l2, l3] [.int (-1000001)] h Q := zE_ldc (by decide +kernel : z_lkK zKT (z_cls 150) 31 = some ((-1000001), 744)) dz150_9
theorem dz150_11 : decode (z_code 150) 11 = .ok (.ireturn, 1) := by decide +kernel
theorem u150_11 : zEv sc 150 11 [l0, l1, l2, l3] [.int x] h Q ↔ Q (some (.int x)) h := zE_ri dz150_11 (by decide +kernel)
theorem dz150_12 : decode (z_code 150) 12 = .ok (.aload_n 0, 1) := by decide +kernel
theorem u150_12 : zEv sc 150 12 [.ref a, l1, l2, l3] [] h Q ↔ zEv sc 150 13 [.ref a, l1, l2, l3] [.ref a] h Q := zE_pure (q := (13, [.ref a, l1, l2, l3], [.ref a])) dz150_12 rfl rfl rfl
theorem dz150_13 : decode (z_code 150) 13 = .ok (.invokevirtual 108, 3) := by decide +kernel
theorem u150_13 (ho : zO a 10) : zEv sc 150 13 [l0, l1, l2, l3] [.ref a] (zst p iv) Q ↔ zEv sc 90 0 [.ref a, .null] [] (zst p iv) (fun r h9 => zEv sc 150 16 [l0, l1, l2, l3] (r.toList ++ []) h9 Q) := zE_call (kd := 0) (na := 1) (nr := 0) (as := [.ref a]) (rest := []) (Or.inl ⟨rfl, rfl⟩) dz150_13 (by decide +kernel : z_lk2 zCT (z_cls 150) 108 = some (90, 0, 730)) (fun z => by cases z) rfl rfl rfl (by decide +kernel) rfl (Or.inr (zE_rc ho))
theorem dz150_16 : decode (z_code 150) 16 = .ok (.aload_n 0, 1) := by decide +kernel
theorem u150_16 : zEv sc 150 16 [.ref a, l1, l2, l3] [] h Q ↔ zEv sc 150 17 [.ref a, l1, l2, l3] [.ref a] h Q := zE_pure (q := (17, [.ref a, l1, l2, l3], [.ref a])) dz150_16 rfl rfl rfl
theorem dz150_17 : decode (z_code 150) 17 = .ok (.invokevirtual 195, 3) := by decide +kernel
theorem u150_17 (ho : zO a 10) : zEv sc 150 17 [l0, l1, l2, l3] [.ref a] (zst p iv) Q ↔ zEv sc 149 0 [.ref a, .null] [] (zst p iv) (fun r h9 => zEv sc 150 20 [l0, l1, l2, l3] (r.toList ++ []) h9 Q) := zE_call (kd := 0) (na := 1) (nr := 0) (as := [.ref a]) (rest := []) (Or.inl ⟨rfl, rfl⟩) dz150_17 (by decide +kernel : z_lk2 zCT (z_cls 150) 195 = some (149, 0, 950)) (fun z => by cases z) rfl rfl rfl (by decide +kernel) rfl (Or.inr (zE_rc ho))
theorem dz150_20 : decode (z_code 150) 20 = .ok (.istore_n 2, 1) := by decide +kernel
theorem u150_20 : zEv sc 150 20 [l0, l1, l2, l3] [.int x] h Q ↔ zEv sc 150 21 [l0, l1, .int x, l3] [] h Q := zE_pure (q := (21, [l0, l1, .int x, l3], [])) dz150_20 rfl rfl rfl
theorem dz150_21 : decode (z_code 150) 21 = .ok (.aload_n 0, 1) := by decide +kernel
theorem u150_21 : zEv sc 150 21 [.ref a, l1, l2, l3] [] h Q ↔ zEv sc 150 22 [.ref a, l1, l2, l3] [.ref a] h Q := zE_pure (q := (22, [.ref a, l1, l2, l3], [.ref a])) dz150_21 rfl rfl rfl
theorem dz150_22 : decode (z_code 150) 22 = .ok (.invokevirtual 32, 3) := by decide +kernel
theorem u150_22 (ho : zO a 10) : zEv sc 150 22 [l0, l1, l2, l3] [.ref a] (zst p iv) Q ↔ zEv sc 91 0 [.ref a, .null] [] (zst p iv) (fun r h9 => zEv sc 150 25 [l0, l1, l2, l3] (r.toList ++ []) h9 Q) := zE_call (kd := 0) (na := 1) (nr := 0) (as := [.ref a]) (rest := []) (Or.inl ⟨rfl, rfl⟩) dz150_22 (by decide +kernel : z_lk2 zCT (z_cls 150) 32 = some (91, 0, 749)) (fun z => by cases z) rfl rfl rfl (by decide +kernel) rfl (Or.inr (zE_rc ho))
theorem dz150_25 : decode (z_code 150) 25 = .ok (.iload_n 2, 1) := by decide +kernel
theorem u150_25 : zEv sc 150 25 [l0, l1, .int x, l3] [] h Q ↔ zEv sc 150 26 [l0, l1, .int x, l3] [.int x] h Q := zE_pure (q := (26, [l0, l1, .int x, l3], [.int x])) dz150_25 rfl rfl rfl
theorem dz150_26 : decode (z_code 150) 26 = .ok (.ifCond .lt 20, 3) := by decide +kernel
theorem u150_26 : zEv sc 150 26 [l0, l1, l2, l3] [.int x] h Q ↔ (if x < 0 then zEv sc 150 46 [l0, l1, l2, l3] [] h Q else zEv sc 150 29 [l0, l1, l2, l3] [] h Q) := zE_ifP (P := x < 0) inferInstance 46 dz150_26 rfl rfl
theorem dz150_29 : decode (z_code 150) 29 = .ok (.iload_n 1, 1) := by decide +kernel
theorem u150_29 : zEv sc 150 29 [l0, .int x, l2, l3] [] h Q ↔ zEv sc 150 30 [l0, .int x, l2, l3] [.int x] h Q := zE_pure (q := (30, [l0, .int x, l2, l3], [.int x])) dz150_29 rfl rfl rfl
theorem dz150_30 : decode (z_code 150) 30 = .ok (.iconst 2, 1) := by decide +kernel
theorem u150_30 : zEv sc 150 30 [l0, l1, l2, l3] [t0] h Q ↔ zEv sc 150 31 [l0, l1, l2, l3] [.int 2, t0] h Q := zE_iconst dz150_30 (by decide +kernel)
theorem dz150_31 : decode (z_code 150) 31 = .ok (.if_icmp .lt 11, 3) := by decide +kernel
theorem u150_31 : zEv sc 150 31 [l0, l1, l2, l3] [.int x2, .int x1] h Q ↔ (if x1 < x2 then zEv sc 150 42 [l0, l1, l2, l3] [] h Q else zEv sc 150 34 [l0, l1, l2, l3] [] h Q) := zE_icP (P := x1 < x2) inferInstance 42 dz150_31 rfl rfl
theorem dz150_34 : decode (z_code 150) 34 = .ok (.aload_n 0, 1) := by decide +kernel
theorem u150_34 : zEv sc 150 34 [.ref a, l1, l2, l3] [] h Q ↔ zEv sc 150 35 [.ref a, l1, l2, l3] [.ref a] h Q := zE_pure (q := (35, [.ref a, l1, l2, l3], [.ref a])) dz150_34 rfl rfl rfl
theorem dz150_35 : decode (z_code 150) 35 = .ok (.getfield 192, 3) := by decide +kernel
theorem u150_35 (ho : zO a 10) : zEv sc 150 35 [l0, l1, l2, l3] [.ref a] (zst p iv) Q ↔ zEv sc 150 38 [l0, l1, l2, l3] [.int (iv a 12)] (zst p iv) Q := zE_gfI dz150_35 (by decide +kernel : z_lk3 zFT (z_cls 150) 192 = some (10, 12, 0, 689)) (by decide +kernel) ho
theorem dz150_38 : decode (z_code 150) 38 = .ok (.iconst 1, 1) := by decide +kernel
theorem u150_38 : zEv sc 150 38 [l0, l1, l2, l3] [t0] h Q ↔ zEv sc 150 39 [l0, l1, l2, l3] [.int 1, t0] h Q := zE_iconst dz150_38 (by decide +kernel)
theorem dz150_39 : decode (z_code 150) 39 = .ok (.if_icmp .ne 7, 3) := by decide +kernel
theorem u150_39 : zEv sc 150 39 [l0, l1, l2, l3] [.int x2, .int x1] h Q ↔ (if ¬ x1 = x2 then zEv sc 150 46 [l0, l1, l2, l3] [] h Q else zEv sc 150 42 [l0, l1, l2, l3] [] h Q) := zE_icP (P := ¬ x1 = x2) inferInstance 46 dz150_39 rfl rfl
theorem dz150_42 : decode (z_code 150) 42 = .ok (.iconst 1, 1) := by decide +kernel
theorem u150_42 : zEv sc 150 42 [l0, l1, l2, l3] [] h Q ↔ zEv sc 150 43 [l0, l1, l2, l3] [.int 1] h Q := zE_iconst dz150_42 (by decide +kernel)
theorem dz150_43 : decode (z_code 150) 43 = .ok (.goto 4, 3) := by decide +kernel
theorem u150_43 : zEv sc 150 43 [l0, l1, l2, l3] [t0] h Q ↔ zEv sc 150 47 [l0, l1, l2, l3] [t0] h Q := zE_go 47 dz150_43 rfl
theorem dz150_47 : decode (z_code 150) 47 = .ok (.istore_n 3, 1) := by decide +kernel
theorem u150_47 : zEv sc 150 47 [l0, l1, l2, l3] [.int x] h Q ↔ zEv sc 150 48 [l0, l1, l2, .int x] [] h Q := zE_pure (q := (48, [l0, l1, l2, .int x], [])) dz150_47 rfl rfl rfl
theorem dz150_48 : decode (z_code 150) 48 = .ok (.iload_n 3, 1) := by decide +kernel
theorem u150_48 : zEv sc 150 48 [l0, l1, l2, .int x] [] h Q ↔ zEv sc 150 49 [l0, l1, l2, .int x] [.int x] h Q := zE_pure (q := (49, [l0, l1, l2, .int x], [.int x])) dz150_48 rfl rfl rfl
theorem dz150_49 : decode (z_code 150) 49 = .ok (.ifCond .ne 8, 3) := by decide +kernel
theorem u150_49 : zEv sc 150 49 [l0, l1, l2, l3] [.int x] h Q ↔ (if ¬ x = 0 then zEv sc 150 57 [l0, l1, l2, l3] [] h Q else zEv sc 150 52 [l0, l1, l2, l3] [] h Q) := zE_ifP (P := ¬ x = 0) inferInstance 57 dz150_49 rfl rfl
theorem dz150_52 : decode (z_code 150) 52 = .ok (.ldc 136, 2) := by decide +kernel
theorem u150_52 : zEv sc 150 52 [l0, l1, l2, l3] [] h Q ↔ zEv sc 150 54 [l0, l1, l2, l3] [.int (-1000004)] h Q := zE_ldc (by decide +kernel : z_lkK zKT (z_cls 150) 136 = some ((-1000004), 870)) dz150_52
theorem dz150_54 : decode (z_code 150) 54 = .ok (.goto 29, 3) := by decide +kernel
theorem u150_54 : zEv sc 150 54 [l0, l1, l2, l3] [t0] h Q ↔ zEv sc 150 83 [l0, l1, l2, l3] [t0] h Q := zE_go 83 dz150_54 rfl
theorem dz150_83 : decode (z_code 150) 83 = .ok (.ireturn, 1) := by decide +kernel
theorem u150_83 : zEv sc 150 83 [l0, l1, l2, l3] [.int x] h Q ↔ Q (some (.int x)) h := zE_ri dz150_83 (by decide +kernel)
theorem dz150_57 : decode (z_code 150) 57 = .ok (.iload_n 1, 1) := by decide +kernel
theorem u150_57 : zEv sc 150 57 [l0, .int x, l2, l3] [] h Q ↔ zEv sc 150 58 [l0, .int x, l2, l3] [.int x] h Q := zE_pure (q := (58, [l0, .int x, l2, l3], [.int x])) dz150_57 rfl rfl rfl
theorem dz150_58 : decode (z_code 150) 58 = .ok (.ifCond .ne 7, 3) := by decide +kernel
theorem u150_58 : zEv sc 150 58 [l0, l1, l2, l3] [.int x] h Q ↔ (if ¬ x = 0 then zEv sc 150 65 [l0, l1, l2, l3] [] h Q else zEv sc 150 61 [l0, l1, l2, l3] [] h Q) := zE_ifP (P := ¬ x = 0) inferInstance 65 dz150_58 rfl rfl
theorem dz150_61 : decode (z_code 150) 61 = .ok (.iload_n 2, 1) := by decide +kernel
theorem u150_61 : zEv sc 150 61 [l0, l1, .int x, l3] [] h Q ↔ zEv sc 150 62 [l0, l1, .int x, l3] [.int x] h Q := zE_pure (q := (62, [l0, l1, .int x, l3], [.int x])) dz150_61 rfl rfl rfl
theorem dz150_62 : decode (z_code 150) 62 = .ok (.goto 21, 3) := by decide +kernel
theorem u150_62 : zEv sc 150 62 [l0, l1, l2, l3] [t0] h Q ↔ zEv sc 150 83 [l0, l1, l2, l3] [t0] h Q := zE_go 83 dz150_62 rfl
theorem dz150_65 : decode (z_code 150) 65 = .ok (.iload_n 1, 1) := by decide +kernel
theorem u150_65 : zEv sc 150 65 [l0, .int x, l2, l3] [] h Q ↔ zEv sc 150 66 [l0, .int x, l2, l3] [.int x] h Q := zE_pure (q := (66, [l0, .int x, l2, l3], [.int x])) dz150_65 rfl rfl rfl
theorem dz150_66 : decode (z_code 150) 66 = .ok (.iconst 1, 1) := by decide +kernel
theorem u150_66 : zEv sc 150 66 [l0, l1, l2, l3] [t0] h Q ↔ zEv sc 150 67 [l0, l1, l2, l3] [.int 1, t0] h Q := zE_iconst dz150_66 (by decide +kernel)
theorem dz150_67 : decode (z_code 150) 67 = .ok (.if_icmp .ne 10, 3) := by decide +kernel
theorem u150_67 : zEv sc 150 67 [l0, l1, l2, l3] [.int x2, .int x1] h Q ↔ (if ¬ x1 = x2 then zEv sc 150 77 [l0, l1, l2, l3] [] h Q else zEv sc 150 70 [l0, l1, l2, l3] [] h Q) := zE_icP (P := ¬ x1 = x2) inferInstance 77 dz150_67 rfl rfl
theorem dz150_70 : decode (z_code 150) 70 = .ok (.aload_n 0, 1) := by decide +kernel
theorem u150_70 : zEv sc 150 70 [.ref a, l1, l2, l3] [] h Q ↔ zEv sc 150 71 [.ref a, l1, l2, l3] [.ref a] h Q := zE_pure (q := (71, [.ref a, l1, l2, l3], [.ref a])) dz150_70 rfl rfl rfl
theorem dz150_71 : decode (z_code 150) 71 = .ok (.getfield 192, 3) := by decide +kernel
theorem u150_71 (ho : zO a 10) : zEv sc 150 71 [l0, l1, l2, l3] [.ref a] (zst p iv) Q ↔ zEv sc 150 74 [l0, l1, l2, l3] [.int (iv a 12)] (zst p iv) Q := zE_gfI dz150_71 (by decide +kernel : z_lk3 zFT (z_cls 150) 192 = some (10, 12, 0, 689)) (by decide +kernel) ho
theorem dz150_74 : decode (z_code 150) 74 = .ok (.goto 9, 3) := by decide +kernel
theorem u150_74 : zEv sc 150 74 [l0, l1, l2, l3] [t0] h Q ↔ zEv sc 150 83 [l0, l1, l2, l3] [t0] h Q := zE_go 83 dz150_74 rfl
theorem dz150_77 : decode (z_code 150) 77 = .ok (.aload_n 0, 1) := by decide +kernel
theorem u150_77 : zEv sc 150 77 [.ref a, l1, l2, l3] [] h Q ↔ zEv sc 150 78 [.ref a, l1, l2, l3] [.ref a] h Q := zE_pure (q := (78, [.ref a, l1, l2, l3], [.ref a])) dz150_77 rfl rfl rfl
theorem dz150_78 : decode (z_code 150) 78 = .ok (.getfield 159, 3) := by decide +kernel
theorem u150_78 (ho : zO a 10) : zEv sc 150 78 [l0, l1, l2, l3] [.ref a] (zst p iv) Q ↔ zEv sc 150 81 [l0, l1, l2, l3] [.int (iv a 10)] (zst p iv) Q := zE_gfI dz150_78 (by decide +kernel : z_lk3 zFT (z_cls 150) 159 = some (10, 10, 0, 687)) (by decide +kernel) ho
theorem dz150_81 : decode (z_code 150) 81 = .ok (.iload_n 2, 1) := by decide +kernel
theorem u150_81 : zEv sc 150 81 [l0, l1, .int x, l3] [t0] h Q ↔ zEv sc 150 82 [l0, l1, .int x, l3] [.int x, t0] h Q := zE_pure (q := (82, [l0, l1, .int x, l3], [.int x, t0])) dz150_81 rfl rfl rfl
theorem dz150_82 : decode (z_code 150) 82 = .ok (.isub, 1) := by decide +kernel
theorem u150_82 : zEv sc 150 82 [l0, l1, l2, l3] [.int x2, .int x1] h Q ↔ zEv sc 150 83 [l0, l1, l2, l3] [.int (x1 - x2)] h Q := zE_pure (q := (83, [l0, l1, l2, l3], [.int (x1 - x2)])) dz150_82 rfl rfl rfl
theorem dz150_46 : decode (z_code 150) 46 = .ok (.iconst 0, 1) := by decide +kernel
theorem u150_46 : zEv sc 150 46 [l0, l1, l2, l3] [] h Q ↔ zEv sc 150 47 [l0, l1, l2, l3] [.int 0] h Q := zE_iconst dz150_46 (by decide +kernel)
/-! method 151: FieldMixturesModel.read()I -/
theorem dz151_0 : decode (z_code 151) 0 = .ok (.aload_n 0, 1) := by decide +kernel
theorem u151_0 : zEv sc 151 0 [.ref a] [] h Q ↔ zEv sc 151 1 [.ref a] [.ref a] h Q := zE_pure (q := (1, [.ref a], [.ref a])) dz151_0 rfl rfl rfl
theorem dz151_1 : decode (z_code 151) 1 = .ok (.invokevirtual 108, 3) := by decide +kernel
theorem u151_1 (ho : zO a 10) : zEv sc 151 1 [l0] [.ref a] (zst p iv) Q ↔ zEv sc 90 0 [.ref a, .null] [] (zst p iv) (fun r h9 => zEv sc 151 4 [l0] (r.toList ++ []) h9 Q) := zE_call (kd := 0) (na := 1) (nr := 0) (as := [.ref a]) (rest := []) (Or.inl ⟨rfl, rfl⟩) dz151_1 (by decide +kernel : z_lk2 zCT (z_cls 151) 108 = some (90, 0, 730)) (fun z => by cases z) rfl rfl rfl (by decide +kernel) rfl (Or.inr (zE_rc ho))
theorem dz151_4 : decode (z_code 151) 4 = .ok (.aload_n 0, 1) := by decide +kernel
theorem u151_4 : zEv sc 151 4 [.ref a] [] h Q ↔ zEv sc 151 5 [.ref a] [.ref a] h Q := zE_pure (q := (5, [.ref a], [.ref a])) dz151_4 rfl rfl rfl
theorem dz151_5 : decode (z_code 151) 5 = .ok (.aload_n 0, 1) := by decide +kernel
theorem u151_5 : zEv sc 151 5 [.ref a] [t0] h Q ↔ zEv sc 151 6 [.ref a] [.ref a, t0] h Q := zE_pure (q := (6, [.ref a], [.ref a, t0])) dz151_5 rfl rfl rfl
theorem dz151_6 : decode (z_code 151) 6 = .ok (.invokevirtual 195, 3) := by decide +kernel
theorem u151_6 (ho : zO a 10) : zEv sc 151 6 [l0] [.ref a, t0] (zst p iv) Q ↔ zEv sc 149 0 [.ref a, .null] [] (zst p iv) (fun r h9 => zEv sc 151 9 [l0] (r.toList ++ [t0]) h9 Q) := zE_call (kd := 0) (na := 1) (nr := 1) (as := [.ref a]) (rest := [t0]) (Or.inl ⟨rfl, rfl⟩) dz151_6 (by decide +kernel : z_lk2 zCT (z_cls 151) 195 = some (149, 0, 950)) (fun z => by cases z) rfl rfl rfl (by decide +kernel) rfl (Or.inr (zE_rc ho))
theorem dz151_9 : decode (z_code 151) 9 = .ok (.ifCond .ge 17, 3) := by decide +kernel
theorem u151_9 : zEv sc 151 9 [l0] [.int x, t0] h Q ↔ (if 0 ≤ x then zEv sc 151 26 [l0] [t0] h Q else zEv sc 151 12 [l0] [t0] h Q) := zE_ifP (P := 0 ≤ x) inferInstance 26 dz151_9 rfl rfl
theorem dz151_12 : decode (z_code 151) 12 = .ok (.aload_n 0, 1) := by decide +kernel
theorem u151_12 : zEv sc 151 12 [.ref a] [t0] h Q ↔ zEv sc 151 13 [.ref a] [.ref a, t0] h Q := zE_pure (q := (13, [.ref a], [.ref a, t0])) dz151_12 rfl rfl rfl
theorem dz151_13 : decode (z_code 151) 13 = .ok (.iconst 0, 1) := by decide +kernel
theorem u151_13 : zEv sc 151 13 [l0] [t0, t1] h Q ↔ zEv sc 151 14 [l0] [.int 0, t0, t1] h Q := zE_iconst dz151_13 (by decide +kernel)
theorem dz151_14 : decode (z_code 151) 14 = .ok (.invokevirtual 58, 3) := by decide +kernel
theorem u151_14 (ho : zO a 10) : zEv sc 151 14 [l0] [.int z0, .ref a, t0] (zst p iv) Q ↔ zEv sc 101 0 [.ref a, .int z0] [] (zst p iv) (fun r h9 => zEv sc 151 17 [l0] (r.toList ++ [t0]) h9 Q) := zE_call (kd := 0) (na := 2) (nr := 1) (as := [.ref a, .int z0]) (rest := [t0]) (Or.inl ⟨rfl, rfl⟩) dz151_14 (by decide +kernel : z_lk2 zCT (z_cls 151) 58 = some (101, 0, 776)) (fun z => by cases z) rfl rfl rfl (by decide +kernel) rfl (Or.inr (zE_rc ho))
theorem dz151_17 : decode (z_code 151) 17 = .ok (.aload_n 0, 1) := by decide +kernel
theorem u151_17 : zEv sc 151 17 [.ref a] [t0, t1] h Q ↔ zEv sc 151 18 [.ref a] [.ref a, t0, t1] h Q := zE_pure (q := (18, [.ref a], [.ref a, t0, t1])) dz151_17 rfl rfl rfl
theorem dz151_18 : decode (z_code 151) 18 = .ok (.iconst 1, 1) := by decide +kernel
theorem u151_18 : zEv sc 151 18 [l0] [t0, t1, t2] h Q ↔ zEv sc 151 19 [l0] [.int 1, t0, t1, t2] h Q := zE_iconst dz151_18 (by decide +kernel)
theorem dz151_19 : decode (z_code 151) 19 = .ok (.invokevirtual 58, 3) := by decide +kernel
theorem u151_19 (ho : zO a 10) : zEv sc 151 19 [l0] [.int z0, .ref a, t0, t1] (zst p iv) Q ↔ zEv sc 101 0 [.ref a, .int z0] [] (zst p iv) (fun r h9 => zEv sc 151 22 [l0] (r.toList ++ [t0, t1]) h9 Q) := zE_call (kd := 0) (na := 2) (nr := 2) (as := [.ref a, .int z0]) (rest := [t0, t1]) (Or.inl ⟨rfl, rfl⟩) dz151_19 (by decide +kernel : z_lk2 zCT (z_cls 151) 58 = some (101, 0, 776)) (fun z => by cases z) rfl rfl rfl (by decide +kernel) rfl (Or.inr (zE_rc ho))
theorem dz151_22 : decode (z_code 151) 22 = .ok (.iadd, 1) := by decide +kernel
theorem u151_22 : zEv sc 151 22 [l0] [.int x2, .int x1, t0] h Q ↔ zEv sc 151 23 [l0] [.int (x1 + x2), t0] h Q := zE_pure (q := (23, [l0], [.int (x1 + x2), t0])) dz151_22 rfl rfl rfl
theorem dz151_23 : decode (z_code 151) 23 = .ok (.goto 5, 3) := by decide +kernel
theorem u151_23 : zEv sc 151 23 [l0] [t0, t1] h Q ↔ zEv sc 151 28 [l0] [t0, t1] h Q := zE_go 28 dz151_23 rfl
theorem dz151_28 : decode (z_code 151) 28 = .ok (.invokevirtual 114, 3) := by decide +kernel
theorem u151_28 (ho : zO a 10) : zEv sc 151 28 [l0] [.int z0, .ref a] (zst p iv) Q ↔ zEv sc 92 0 [.ref a, .int z0, .null] [] (zst p iv) (fun r h9 => zEv sc 151 31 [l0] (r.toList ++ []) h9 Q) := zE_call (kd := 0) (na := 2) (nr := 0) (as := [.ref a, .int z0]) (rest := []) (Or.inl ⟨rfl, rfl⟩) dz151_28 (by decide +kernel : z_lk2 zCT (z_cls 151) 114 = some (92, 0, 745)) (fun z => by cases z) rfl rfl rfl (by decide +kernel) rfl (Or.inr (zE_rc ho))
theorem dz151_31 : decode (z_code 151) 31 = .ok (.ireturn, 1) := by decide +kernel
theorem u151_31 : zEv sc 151 31 [l0] [.int x] h Q ↔ Q (some (.int x)) h := zE_ri dz151_31 (by decide +kernel)
theorem dz151_26 : decode (z_code 151) 26 = .ok (.ldc 101, 2) := by decide +kernel
theorem u151_26 : zEv sc 151 26 [l0] [t0] h Q ↔ zEv sc 151 28 [l0] [.int (-1000002), t0] h Q := zE_ldc (by decide +kernel : z_lkK zKT (z_cls 151) 101 = some ((-1000002), 833)) dz151_26
/-! method 152: FieldMixturesLaw.law([I)Z -/
theorem dz152_18 : decode (z_code 152) 18 = .ok (.iload_n 3, 1) := by decide +kernel
theorem u152_18 : zEv sc 152 18 [l0, l1, l2, .int x] [] h Q ↔ zEv sc 152 19 [l0, l1, l2, .int x] [.int x] h Q := zE_pure (q := (19, [l0, l1, l2, .int x], [.int x])) dz152_18 rfl rfl rfl
theorem dz152_19 : decode (z_code 152) 19 = .ok (.aload_n 0, 1) := by decide +kernel
theorem u152_19 : zEv sc 152 19 [.ref a, l1, l2, l3] [t0] h Q ↔ zEv sc 152 20 [.ref a, l1, l2, l3] [.ref a, t0] h Q := zE_pure (q := (20, [.ref a, l1, l2, l3], [.ref a, t0])) dz152_19 rfl rfl rfl
theorem dz152_20 : decode (z_code 152) 20 = .ok (.arraylength, 1) := by decide +kernel
theorem u152_20 : zEv sc 152 20 [l0, l1, l2, l3] [.ref 0, t0] h Q ↔ zEv sc 152 21 [l0, l1, l2, l3] [.int (Int32.ofNat sc.1), t0] h Q := zE_slen dz152_20
theorem dz152_21 : decode (z_code 152) 21 = .ok (.iconst 4, 1) := by decide +kernel
theorem u152_21 : zEv sc 152 21 [l0, l1, l2, l3] [t0, t1] h Q ↔ zEv sc 152 22 [l0, l1, l2, l3] [.int 4, t0, t1] h Q := zE_iconst dz152_21 (by decide +kernel)
theorem dz152_22 : decode (z_code 152) 22 = .ok (.isub, 1) := by decide +kernel
theorem u152_22 : zEv sc 152 22 [l0, l1, l2, l3] [.int x2, .int x1, t0] h Q ↔ zEv sc 152 23 [l0, l1, l2, l3] [.int (x1 - x2), t0] h Q := zE_pure (q := (23, [l0, l1, l2, l3], [.int (x1 - x2), t0])) dz152_22 rfl rfl rfl
theorem dz152_23 : decode (z_code 152) 23 = .ok (.if_icmp .gt 802, 3) := by decide +kernel
theorem u152_23 : zEv sc 152 23 [l0, l1, l2, l3] [.int x2, .int x1] h Q ↔ (if x2 < x1 then zEv sc 152 825 [l0, l1, l2, l3] [] h Q else zEv sc 152 26 [l0, l1, l2, l3] [] h Q) := zE_icP (P := x2 < x1) inferInstance 825 dz152_23 rfl rfl
theorem dz152_26 : decode (z_code 152) 26 = .ok (.aload_n 0, 1) := by decide +kernel
theorem u152_26 : zEv sc 152 26 [.ref a, l1, l2, l3] [] h Q ↔ zEv sc 152 27 [.ref a, l1, l2, l3] [.ref a] h Q := zE_pure (q := (27, [.ref a, l1, l2, l3], [.ref a])) dz152_26 rfl rfl rfl
theorem dz152_27 : decode (z_code 152) 27 = .ok (.iload_n 3, 1) := by decide +kernel
theorem u152_27 : zEv sc 152 27 [l0, l1, l2, .int x] [t0] h Q ↔ zEv sc 152 28 [l0, l1, l2, .int x] [.int x, t0] h Q := zE_pure (q := (28, [l0, l1, l2, .int x], [.int x, t0])) dz152_27 rfl rfl rfl
theorem dz152_28 : decode (z_code 152) 28 = .ok (.iaload, 1) := by decide +kernel
theorem u152_28 (hi : vp_in x sc.1) : zEv sc 152 28 [l0, l1, l2, l3] [.int x, .ref 0] h Q ↔ zEv sc 152 29 [l0, l1, l2, l3] [.int (sc.2 x.toNatClampNeg)] h Q := zE_sld dz152_28 hi
theorem dz152_29 : decode (z_code 152) 29 = .ok (.bipush 31, 2) := by decide +kernel
theorem u152_29 : zEv sc 152 29 [l0, l1, l2, l3] [t0] h Q ↔ zEv sc 152 31 [l0, l1, l2, l3] [.int 31, t0] h Q := zE_bipush dz152_29 (by decide +kernel)
theorem dz152_31 : decode (z_code 152) 31 = .ok (.iand, 1) := by decide +kernel
theorem u152_31 : zEv sc 152 31 [l0, l1, l2, l3] [.int x2, .int x1] h Q ↔ zEv sc 152 32 [l0, l1, l2, l3] [.int (x1 &&& x2)] h Q := zE_pure (q := (32, [l0, l1, l2, l3], [.int (x1 &&& x2)])) dz152_31 rfl rfl rfl
theorem dz152_32 : decode (z_code 152) 32 = .ok (.tableswitch 787 0 22 #[108, 131, 164, 197, 240, 263, 296, 329, 362, 405, 438, 461, 504, 547, 590, 613, 646, 679, 702, 715, 738, 751, 774], 108) := by decide +kernel
theorem u152_32_0 : zEv sc 152 32 [l0, l1, l2, l3] [.int 0] h Q ↔ zEv sc 152 140 [l0, l1, l2, l3] [] h Q := zE_tab (v := 0) (off := 108) 140 dz152_32 (by decide +kernel) (by decide +kernel) (by decide +kernel) rfl
theorem u152_32_1 : zEv sc 152 32 [l0, l1, l2, l3] [.int 1] h Q ↔ zEv sc 152 163 [l0, l1, l2, l3] [] h Q := zE_tab (v := 1) (off := 131) 163 dz152_32 (by decide +kernel) (by decide +kernel) (by decide +kernel) rfl
theorem u152_32_2 : zEv sc 152 32 [l0, l1, l2, l3] [.int 2] h Q ↔ zEv sc 152 196 [l0, l1, l2, l3] [] h Q := zE_tab (v := 2) (off := 164) 196 dz152_32 (by decide +kernel) (by decide +kernel) (by decide +kernel) rfl
theorem u152_32_3 : zEv sc 152 32 [l0, l1, l2, l3] [.int 3] h Q ↔ zEv sc 152 229 [l0, l1, l2, l3] [] h Q := zE_tab (v := 3) (off := 197) 229 dz152_32 (by decide +kernel) (by decide +kernel) (by decide +kernel) rfl
theorem u152_32_4 : zEv sc 152 32 [l0, l1, l2, l3] [.int 4] h Q ↔ zEv sc 152 272 [l0, l1, l2, l3] [] h Q := zE_tab (v := 4) (off := 240) 272 dz152_32 (by decide +kernel) (by decide +kernel) (by decide +kernel) rfl
theorem u152_32_5 : zEv sc 152 32 [l0, l1, l2, l3] [.int 5] h Q ↔ zEv sc 152 295 [l0, l1, l2, l3] [] h Q := zE_tab (v := 5) (off := 263) 295 dz152_32 (by decide +kernel) (by decide +kernel) (by decide +kernel) rfl
theorem u152_32_6 : zEv sc 152 32 [l0, l1, l2, l3] [.int 6] h Q ↔ zEv sc 152 328 [l0, l1, l2, l3] [] h Q := zE_tab (v := 6) (off := 296) 328 dz152_32 (by decide +kernel) (by decide +kernel) (by decide +kernel) rfl
theorem u152_32_7 : zEv sc 152 32 [l0, l1, l2, l3] [.int 7] h Q ↔ zEv sc 152 361 [l0, l1, l2, l3] [] h Q := zE_tab (v := 7) (off := 329) 361 dz152_32 (by decide +kernel) (by decide +kernel) (by decide +kernel) rfl
theorem u152_32_8 : zEv sc 152 32 [l0, l1, l2, l3] [.int 8] h Q ↔ zEv sc 152 394 [l0, l1, l2, l3] [] h Q := zE_tab (v := 8) (off := 362) 394 dz152_32 (by decide +kernel) (by decide +kernel) (by decide +kernel) rfl
theorem u152_32_9 : zEv sc 152 32 [l0, l1, l2, l3] [.int 9] h Q ↔ zEv sc 152 437 [l0, l1, l2, l3] [] h Q := zE_tab (v := 9) (off := 405) 437 dz152_32 (by decide +kernel) (by decide +kernel) (by decide +kernel) rfl
theorem u152_32_10 : zEv sc 152 32 [l0, l1, l2, l3] [.int 10] h Q ↔ zEv sc 152 470 [l0, l1, l2, l3] [] h Q := zE_tab (v := 10) (off := 438) 470 dz152_32 (by decide +kernel) (by decide +kernel) (by decide +kernel) rfl
theorem u152_32_11 : zEv sc 152 32 [l0, l1, l2, l3] [.int 11] h Q ↔ zEv sc 152 493 [l0, l1, l2, l3] [] h Q := zE_tab (v := 11) (off := 461) 493 dz152_32 (by decide +kernel) (by decide +kernel) (by decide +kernel) rfl
theorem u152_32_12 : zEv sc 152 32 [l0, l1, l2, l3] [.int 12] h Q ↔ zEv sc 152 536 [l0, l1, l2, l3] [] h Q := zE_tab (v := 12) (off := 504) 536 dz152_32 (by decide +kernel) (by decide +kernel) (by decide +kernel) rfl
theorem u152_32_13 : zEv sc 152 32 [l0, l1, l2, l3] [.int 13] h Q ↔ zEv sc 152 579 [l0, l1, l2, l3] [] h Q := zE_tab (v := 13) (off := 547) 579 dz152_32 (by decide +kernel) (by decide +kernel) (by decide +kernel) rfl
theorem u152_32_14 : zEv sc 152 32 [l0, l1, l2, l3] [.int 14] h Q ↔ zEv sc 152 622 [l0, l1, l2, l3] [] h Q := zE_tab (v := 14) (off := 590) 622 dz152_32 (by decide +kernel) (by decide +kernel) (by decide +kernel) rfl
theorem u152_32_15 : zEv sc 152 32 [l0, l1, l2, l3] [.int 15] h Q ↔ zEv sc 152 645 [l0, l1, l2, l3] [] h Q := zE_tab (v := 15) (off := 613) 645 dz152_32 (by decide +kernel) (by decide +kernel) (by decide +kernel) rfl
theorem u152_32_16 : zEv sc 152 32 [l0, l1, l2, l3] [.int 16] h Q ↔ zEv sc 152 678 [l0, l1, l2, l3] [] h Q := zE_tab (v := 16) (off := 646) 678 dz152_32 (by decide +kernel) (by decide +kernel) (by decide +kernel) rfl
theorem u152_32_17 : zEv sc 152 32 [l0, l1, l2, l3] [.int 17] h Q ↔ zEv sc 152 711 [l0, l1, l2, l3] [] h Q := zE_tab (v := 17) (off := 679) 711 dz152_32 (by decide +kernel) (by decide +kernel) (by decide +kernel) rfl
theorem u152_32_18 : zEv sc 152 32 [l0, l1, l2, l3] [.int 18] h Q ↔ zEv sc 152 734 [l0, l1, l2, l3] [] h Q := zE_tab (v := 18) (off := 702) 734 dz152_32 (by decide +kernel) (by decide +kernel) (by decide +kernel) rfl
theorem u152_32_19 : zEv sc 152 32 [l0, l1, l2, l3] [.int 19] h Q ↔ zEv sc 152 747 [l0, l1, l2, l3] [] h Q := zE_tab (v := 19) (off := 715) 747 dz152_32 (by decide +kernel) (by decide +kernel) (by decide +kernel) rfl
theorem u152_32_20 : zEv sc 152 32 [l0, l1, l2, l3] [.int 20] h Q ↔ zEv sc 152 770 [l0, l1, l2, l3] [] h Q := zE_tab (v := 20) (off := 738) 770 dz152_32 (by decide +kernel) (by decide +kernel) (by decide +kernel) rfl
theorem u152_32_21 : zEv sc 152 32 [l0, l1, l2, l3] [.int 21] h Q ↔ zEv sc 152 783 [l0, l1, l2, l3] [] h Q := zE_tab (v := 21) (off := 751) 783 dz152_32 (by decide +kernel) (by decide +kernel) (by decide +kernel) rfl
theorem u152_32_22 : zEv sc 152 32 [l0, l1, l2, l3] [.int 22] h Q ↔ zEv sc 152 806 [l0, l1, l2, l3] [] h Q := zE_tab (v := 22) (off := 774) 806 dz152_32 (by decide +kernel) (by decide +kernel) (by decide +kernel) rfl
theorem u152_32_d (hx : x.toInt < 0 ∨ 22 < x.toInt) : zEv sc 152 32 [l0, l1, l2, l3] [.int x] h Q ↔ zEv sc 152 819 [l0, l1, l2, l3] [] h Q := zE_tabD 819 dz152_32 hx rfl
theorem dz152_819 : decode (z_code 152) 819 = .ok (.iinc 3 4, 3) := by decide +kernel
theorem u152_819 : zEv sc 152 819 [l0, l1, l2, .int x] [] h Q ↔ zEv sc 152 822 [l0, l1, l2, .int (x + 4)] [] h Q := zE_iinc (ls2 := [l0, l1, l2, .int (x + 4)]) dz152_819 (by decide +kernel) rfl (by simp) rfl
theorem dz152_822 : decode (z_code 152) 822 = .ok (.goto (-804), 3) := by decide +kernel
theorem u152_822 : zEv sc 152 822 [l0, l1, l2, l3] [] h Q ↔ zEv sc 152 18 [l0, l1, l2, l3] [] h Q := zE_go 18 dz152_822 rfl
theorem dz152_806 : decode (z_code 152) 806 = .ok (.aload_n 1, 1) := by decide +kernel
theorem u152_806 : zEv sc 152 806 [l0, .ref a, l2, l3] [] h Q ↔ zEv sc 152 807 [l0, .ref a, l2, l3] [.ref a] h Q := zE_pure (q := (807, [l0, .ref a, l2, l3], [.ref a])) dz152_806 rfl rfl rfl
theorem dz152_807 : decode (z_code 152) 807 = .ok (.invokevirtual 105, 3) := by decide +kernel
theorem u152_807 (ho : zO a 9) : zEv sc 152 807 [l0, l1, l2, l3] [.ref a] (zst p iv) Q ↔ zEv sc 86 0 [.ref a] [] (zst p iv) (fun r h9 => zEv sc 152 810 [l0, l1, l2, l3] (r.toList ++ []) h9 Q) := zE_call (kd := 0) (na := 1) (nr := 0) (as := [.ref a]) (rest := []) (Or.inl ⟨rfl, rfl⟩) dz152_807 (by decide +kernel : z_lk2 zCT (z_cls 152) 105 = some (86, 0, 663)) (fun z => by cases z) rfl rfl rfl (by decide +kernel) rfl (Or.inr (zE_rc ho))
theorem dz152_810 : decode (z_code 152) 810 = .ok (.aload_n 2, 1) := by decide +kernel
theorem u152_810 : zEv sc 152 810 [l0, l1, .ref a, l3] [t0] h Q ↔ zEv sc 152 811 [l0, l1, .ref a, l3] [.ref a, t0] h Q := zE_pure (q := (811, [l0, l1, .ref a, l3], [.ref a, t0])) dz152_810 rfl rfl rfl
theorem dz152_811 : decode (z_code 152) 811 = .ok (.invokevirtual 108, 3) := by decide +kernel
theorem u152_811 (ho : zO a 10) : zEv sc 152 811 [l0, l1, l2, l3] [.ref a, t0] (zst p iv) Q ↔ zEv sc 151 0 [.ref a] [] (zst p iv) (fun r h9 => zEv sc 152 814 [l0, l1, l2, l3] (r.toList ++ [t0]) h9 Q) := zE_call (kd := 0) (na := 1) (nr := 1) (as := [.ref a]) (rest := [t0]) (Or.inl ⟨rfl, rfl⟩) dz152_811 (by decide +kernel : z_lk2 zCT (z_cls 152) 108 = some (151, 0, 974)) (fun z => by cases z) rfl rfl rfl (by decide +kernel) rfl (Or.inr (zE_rc ho))
theorem dz152_814 : decode (z_code 152) 814 = .ok (.if_icmp .eq 5, 3) := by decide +kernel
theorem u152_814 : zEv sc 152 814 [l0, l1, l2, l3] [.int x2, .int x1] h Q ↔ (if x1 = x2 then zEv sc 152 819 [l0, l1, l2, l3] [] h Q else zEv sc 152 817 [l0, l1, l2, l3] [] h Q) := zE_icP (P := x1 = x2) inferInstance 819 dz152_814 rfl rfl
theorem dz152_817 : decode (z_code 152) 817 = .ok (.iconst 0, 1) := by decide +kernel
theorem u152_817 : zEv sc 152 817 [l0, l1, l2, l3] [] h Q ↔ zEv sc 152 818 [l0, l1, l2, l3] [.int 0] h Q := zE_iconst dz152_817 (by decide +kernel)
theorem dz152_818 : decode (z_code 152) 818 = .ok (.ireturn, 1) := by decide +kernel
theorem u152_818 : zEv sc 152 818 [l0, l1, l2, l3] [.int x] h Q ↔ ((x = 0 ∨ x = 1) ∧ Q (some (.int x)) h) := zE_rz dz152_818 (by decide +kernel)
theorem dz152_783 : decode (z_code 152) 783 = .ok (.aload_n 1, 1) := by decide +kernel
theorem u152_783 : zEv sc 152 783 [l0, .ref a, l2, l3] [] h Q ↔ zEv sc 152 784 [l0, .ref a, l2, l3] [.ref a] h Q := zE_pure (q := (784, [l0, .ref a, l2, l3], [.ref a])) dz152_783 rfl rfl rfl
theorem dz152_784 : decode (z_code 152) 784 = .ok (.aload_n 0, 1) := by decide +kernel
theorem u152_784 : zEv sc 152 784 [.ref a, l1, l2, l3] [t0] h Q ↔ zEv sc 152 785 [.ref a, l1, l2, l3] [.ref a, t0] h Q := zE_pure (q := (785, [.ref a, l1, l2, l3], [.ref a, t0])) dz152_784 rfl rfl rfl
theorem dz152_785 : decode (z_code 152) 785 = .ok (.iload_n 3, 1) := by decide +kernel
theorem u152_785 : zEv sc 152 785 [l0, l1, l2, .int x] [t0, t1] h Q ↔ zEv sc 152 786 [l0, l1, l2, .int x] [.int x, t0, t1] h Q := zE_pure (q := (786, [l0, l1, l2, .int x], [.int x, t0, t1])) dz152_785 rfl rfl rfl
theorem dz152_786 : decode (z_code 152) 786 = .ok (.iconst 1, 1) := by decide +kernel
theorem u152_786 : zEv sc 152 786 [l0, l1, l2, l3] [t0, t1, t2] h Q ↔ zEv sc 152 787 [l0, l1, l2, l3] [.int 1, t0, t1, t2] h Q := zE_iconst dz152_786 (by decide +kernel)
theorem dz152_787 : decode (z_code 152) 787 = .ok (.iadd, 1) := by decide +kernel
theorem u152_787 : zEv sc 152 787 [l0, l1, l2, l3] [.int x2, .int x1, t0, t1] h Q ↔ zEv sc 152 788 [l0, l1, l2, l3] [.int (x1 + x2), t0, t1] h Q := zE_pure (q := (788, [l0, l1, l2, l3], [.int (x1 + x2), t0, t1])) dz152_787 rfl rfl rfl
theorem dz152_788 : decode (z_code 152) 788 = .ok (.iaload, 1) := by decide +kernel
theorem u152_788 (hi : vp_in x sc.1) : zEv sc 152 788 [l0, l1, l2, l3] [.int x, .ref 0, t0] h Q ↔ zEv sc 152 789 [l0, l1, l2, l3] [.int (sc.2 x.toNatClampNeg), t0] h Q := zE_sld dz152_788 hi
theorem dz152_789 : decode (z_code 152) 789 = .ok (.invokevirtual 101, 3) := by decide +kernel
theorem u152_789 (ho : zO a 9) : zEv sc 152 789 [l0, l1, l2, l3] [.int z0, .ref a] (zst p iv) Q ↔ zEv sc 85 0 [.ref a, .int z0] [] (zst p iv) (fun r h9 => zEv sc 152 792 [l0, l1, l2, l3] (r.toList ++ []) h9 Q) := zE_call (kd := 0) (na := 2) (nr := 0) (as := [.ref a, .int z0]) (rest := []) (Or.inl ⟨rfl, rfl⟩) dz152_789 (by decide +kernel : z_lk2 zCT (z_cls 152) 101 = some (85, 0, 617)) (fun z => by cases z) rfl rfl rfl (by decide +kernel) rfl (Or.inr (zE_rc ho))
theorem dz152_792 : decode (z_code 152) 792 = .ok (.aload_n 2, 1) := by decide +kernel
theorem u152_792 : zEv sc 152 792 [l0, l1, .ref a, l3] [t0] h Q ↔ zEv sc 152 793 [l0, l1, .ref a, l3] [.ref a, t0] h Q := zE_pure (q := (793, [l0, l1, .ref a, l3], [.ref a, t0])) dz152_792 rfl rfl rfl
theorem dz152_793 : decode (z_code 152) 793 = .ok (.aload_n 0, 1) := by decide +kernel
theorem u152_793 : zEv sc 152 793 [.ref a, l1, l2, l3] [t0, t1] h Q ↔ zEv sc 152 794 [.ref a, l1, l2, l3] [.ref a, t0, t1] h Q := zE_pure (q := (794, [.ref a, l1, l2, l3], [.ref a, t0, t1])) dz152_793 rfl rfl rfl
theorem dz152_794 : decode (z_code 152) 794 = .ok (.iload_n 3, 1) := by decide +kernel
theorem u152_794 : zEv sc 152 794 [l0, l1, l2, .int x] [t0, t1, t2] h Q ↔ zEv sc 152 795 [l0, l1, l2, .int x] [.int x, t0, t1, t2] h Q := zE_pure (q := (795, [l0, l1, l2, .int x], [.int x, t0, t1, t2])) dz152_794 rfl rfl rfl
theorem dz152_795 : decode (z_code 152) 795 = .ok (.iconst 1, 1) := by decide +kernel
theorem u152_795 : zEv sc 152 795 [l0, l1, l2, l3] [t0, t1, t2, t3] h Q ↔ zEv sc 152 796 [l0, l1, l2, l3] [.int 1, t0, t1, t2, t3] h Q := zE_iconst dz152_795 (by decide +kernel)
theorem dz152_796 : decode (z_code 152) 796 = .ok (.iadd, 1) := by decide +kernel
theorem u152_796 : zEv sc 152 796 [l0, l1, l2, l3] [.int x2, .int x1, t0, t1, t2] h Q ↔ zEv sc 152 797 [l0, l1, l2, l3] [.int (x1 + x2), t0, t1, t2] h Q := zE_pure (q := (797, [l0, l1, l2, l3], [.int (x1 + x2), t0, t1, t2])) dz152_796 rfl rfl rfl
theorem dz152_797 : decode (z_code 152) 797 = .ok (.iaload, 1) := by decide +kernel
theorem u152_797 (hi : vp_in x sc.1) : zEv sc 152 797 [l0, l1, l2, l3] [.int x, .ref 0, t0, t1] h Q ↔ zEv sc 152 798 [l0, l1, l2, l3] [.int (sc.2 x.toNatClampNeg), t0, t1] h Q := zE_sld dz152_797 hi
theorem dz152_798 : decode (z_code 152) 798 = .ok (.invokevirtual 104, 3) := by decide +kernel
theorem u152_798 (ho : zO a 10) : zEv sc 152 798 [l0, l1, l2, l3] [.int z0, .ref a, t0] (zst p iv) Q ↔ zEv sc 150 0 [.ref a, .int z0, .null, .null] [] (zst p iv) (fun r h9 => zEv sc 152 801 [l0, l1, l2, l3] (r.toList ++ [t0]) h9 Q) := zE_call (kd := 0) (na := 2) (nr := 1) (as := [.ref a, .int z0]) (rest := [t0]) (Or.inl ⟨rfl, rfl⟩) dz152_798 (by decide +kernel : z_lk2 zCT (z_cls 152) 104 = some (150, 0, 946)) (fun z => by cases z) rfl rfl rfl (by decide +kernel) rfl (Or.inr (zE_rc ho))
theorem dz152_801 : decode (z_code 152) 801 = .ok (.if_icmp .eq 18, 3) := by decide +kernel
theorem u152_801 : zEv sc 152 801 [l0, l1, l2, l3] [.int x2, .int x1] h Q ↔ (if x1 = x2 then zEv sc 152 819 [l0, l1, l2, l3] [] h Q else zEv sc 152 804 [l0, l1, l2, l3] [] h Q) := zE_icP (P := x1 = x2) inferInstance 819 dz152_801 rfl rfl
theorem dz152_804 : decode (z_code 152) 804 = .ok (.iconst 0, 1) := by decide +kernel
theorem u152_804 : zEv sc 152 804 [l0, l1, l2, l3] [] h Q ↔ zEv sc 152 805 [l0, l1, l2, l3] [.int 0] h Q := zE_iconst dz152_804 (by decide +kernel)
theorem dz152_805 : decode (z_code 152) 805 = .ok (.ireturn, 1) := by decide +kernel
theorem u152_805 : zEv sc 152 805 [l0, l1, l2, l3] [.int x] h Q ↔ ((x = 0 ∨ x = 1) ∧ Q (some (.int x)) h) := zE_rz dz152_805 (by decide +kernel)
theorem dz152_770 : decode (z_code 152) 770 = .ok (.aload_n 1, 1) := by decide +kernel
theorem u152_770 : zEv sc 152 770 [l0, .ref a, l2, l3] [] h Q ↔ zEv sc 152 771 [l0, .ref a, l2, l3] [.ref a] h Q := zE_pure (q := (771, [l0, .ref a, l2, l3], [.ref a])) dz152_770 rfl rfl rfl
theorem dz152_771 : decode (z_code 152) 771 = .ok (.invokevirtual 97, 3) := by decide +kernel
theorem u152_771 (ho : zO a 9) : zEv sc 152 771 [l0, l1, l2, l3] [.ref a] (zst p iv) Q ↔ zEv sc 84 0 [.ref a, .null] [] (zst p iv) (fun r h9 => zEv sc 152 774 [l0, l1, l2, l3] (r.toList ++ []) h9 Q) := zE_call (kd := 0) (na := 1) (nr := 0) (as := [.ref a]) (rest := []) (Or.inl ⟨rfl, rfl⟩) dz152_771 (by decide +kernel : z_lk2 zCT (z_cls 152) 97 = some (84, 0, 609)) (fun z => by cases z) rfl rfl rfl (by decide +kernel) rfl (Or.inr (zE_rc ho))
theorem dz152_774 : decode (z_code 152) 774 = .ok (.aload_n 2, 1) := by decide +kernel
theorem u152_774 : zEv sc 152 774 [l0, l1, .ref a, l3] [t0] h Q ↔ zEv sc 152 775 [l0, l1, .ref a, l3] [.ref a, t0] h Q := zE_pure (q := (775, [l0, l1, .ref a, l3], [.ref a, t0])) dz152_774 rfl rfl rfl
theorem dz152_775 : decode (z_code 152) 775 = .ok (.invokevirtual 100, 3) := by decide +kernel
theorem u152_775 (ho : zO a 10) : zEv sc 152 775 [l0, l1, l2, l3] [.ref a, t0] (zst p iv) Q ↔ zEv sc 143 0 [.ref a, .null] [] (zst p iv) (fun r h9 => zEv sc 152 778 [l0, l1, l2, l3] (r.toList ++ [t0]) h9 Q) := zE_call (kd := 0) (na := 1) (nr := 1) (as := [.ref a]) (rest := [t0]) (Or.inl ⟨rfl, rfl⟩) dz152_775 (by decide +kernel : z_lk2 zCT (z_cls 152) 100 = some (143, 0, 942)) (fun z => by cases z) rfl rfl rfl (by decide +kernel) rfl (Or.inr (zE_rc ho))
theorem dz152_778 : decode (z_code 152) 778 = .ok (.if_icmp .eq 41, 3) := by decide +kernel
theorem u152_778 : zEv sc 152 778 [l0, l1, l2, l3] [.int x2, .int x1] h Q ↔ (if x1 = x2 then zEv sc 152 819 [l0, l1, l2, l3] [] h Q else zEv sc 152 781 [l0, l1, l2, l3] [] h Q) := zE_icP (P := x1 = x2) inferInstance 819 dz152_778 rfl rfl
theorem dz152_781 : decode (z_code 152) 781 = .ok (.iconst 0, 1) := by decide +kernel
theorem u152_781 : zEv sc 152 781 [l0, l1, l2, l3] [] h Q ↔ zEv sc 152 782 [l0, l1, l2, l3] [.int 0] h Q := zE_iconst dz152_781 (by decide +kernel)
theorem dz152_782 : decode (z_code 152) 782 = .ok (.ireturn, 1) := by decide +kernel
theorem u152_782 : zEv sc 152 782 [l0, l1, l2, l3] [.int x] h Q ↔ ((x = 0 ∨ x = 1) ∧ Q (some (.int x)) h) := zE_rz dz152_782 (by decide +kernel)
theorem dz152_747 : decode (z_code 152) 747 = .ok (.aload_n 1, 1) := by decide +kernel
theorem u152_747 : zEv sc 152 747 [l0, .ref a, l2, l3] [] h Q ↔ zEv sc 152 748 [l0, .ref a, l2, l3] [.ref a] h Q := zE_pure (q := (748, [l0, .ref a, l2, l3], [.ref a])) dz152_747 rfl rfl rfl
theorem dz152_748 : decode (z_code 152) 748 = .ok (.aload_n 0, 1) := by decide +kernel
theorem u152_748 : zEv sc 152 748 [.ref a, l1, l2, l3] [t0] h Q ↔ zEv sc 152 749 [.ref a, l1, l2, l3] [.ref a, t0] h Q := zE_pure (q := (749, [.ref a, l1, l2, l3], [.ref a, t0])) dz152_748 rfl rfl rfl
theorem dz152_749 : decode (z_code 152) 749 = .ok (.iload_n 3, 1) := by decide +kernel
theorem u152_749 : zEv sc 152 749 [l0, l1, l2, .int x] [t0, t1] h Q ↔ zEv sc 152 750 [l0, l1, l2, .int x] [.int x, t0, t1] h Q := zE_pure (q := (750, [l0, l1, l2, .int x], [.int x, t0, t1])) dz152_749 rfl rfl rfl
theorem dz152_750 : decode (z_code 152) 750 = .ok (.iconst 1, 1) := by decide +kernel
theorem u152_750 : zEv sc 152 750 [l0, l1, l2, l3] [t0, t1, t2] h Q ↔ zEv sc 152 751 [l0, l1, l2, l3] [.int 1, t0, t1, t2] h Q := zE_iconst dz152_750 (by decide +kernel)
theorem dz152_751 : decode (z_code 152) 751 = .ok (.iadd, 1) := by decide +kernel
theorem u152_751 : zEv sc 152 751 [l0, l1, l2, l3] [.int x2, .int x1, t0, t1] h Q ↔ zEv sc 152 752 [l0, l1, l2, l3] [.int (x1 + x2), t0, t1] h Q := zE_pure (q := (752, [l0, l1, l2, l3], [.int (x1 + x2), t0, t1])) dz152_751 rfl rfl rfl
theorem dz152_752 : decode (z_code 152) 752 = .ok (.iaload, 1) := by decide +kernel
theorem u152_752 (hi : vp_in x sc.1) : zEv sc 152 752 [l0, l1, l2, l3] [.int x, .ref 0, t0] h Q ↔ zEv sc 152 753 [l0, l1, l2, l3] [.int (sc.2 x.toNatClampNeg), t0] h Q := zE_sld dz152_752 hi
theorem dz152_753 : decode (z_code 152) 753 = .ok (.invokevirtual 93, 3) := by decide +kernel
theorem u152_753 (ho : zO a 9) : zEv sc 152 753 [l0, l1, l2, l3] [.int z0, .ref a] (zst p iv) Q ↔ zEv sc 83 0 [.ref a, .int z0] [] (zst p iv) (fun r h9 => zEv sc 152 756 [l0, l1, l2, l3] (r.toList ++ []) h9 Q) := zE_call (kd := 0) (na := 2) (nr := 0) (as := [.ref a, .int z0]) (rest := []) (Or.inl ⟨rfl, rfl⟩) dz152_753 (by decide +kernel : z_lk2 zCT (z_cls 152) 93 = some (83, 0, 601)) (fun z => by cases z) rfl rfl rfl (by decide +kernel) rfl (Or.inr (zE_rc ho))
theorem dz152_756 : decode (z_code 152) 756 = .ok (.aload_n 2, 1) := by decide +kernel
theorem u152_756 : zEv sc 152 756 [l0, l1, .ref a, l3] [t0] h Q ↔ zEv sc 152 757 [l0, l1, .ref a, l3] [.ref a, t0] h Q := zE_pure (q := (757, [l0, l1, .ref a, l3], [.ref a, t0])) dz152_756 rfl rfl rfl
theorem dz152_757 : decode (z_code 152) 757 = .ok (.aload_n 0, 1) := by decide +kernel
theorem u152_757 : zEv sc 152 757 [.ref a, l1, l2, l3] [t0, t1] h Q ↔ zEv sc 152 758 [.ref a, l1, l2, l3] [.ref a, t0, t1] h Q := zE_pure (q := (758, [.ref a, l1, l2, l3], [.ref a, t0, t1])) dz152_757 rfl rfl rfl
theorem dz152_758 : decode (z_code 152) 758 = .ok (.iload_n 3, 1) := by decide +kernel
theorem u152_758 : zEv sc 152 758 [l0, l1, l2, .int x] [t0, t1, t2] h Q ↔ zEv sc 152 759 [l0, l1, l2, .int x] [.int x, t0, t1, t2] h Q := zE_pure (q := (759, [l0, l1, l2, .int x], [.int x, t0, t1, t2])) dz152_758 rfl rfl rfl
theorem dz152_759 : decode (z_code 152) 759 = .ok (.iconst 1, 1) := by decide +kernel
theorem u152_759 : zEv sc 152 759 [l0, l1, l2, l3] [t0, t1, t2, t3] h Q ↔ zEv sc 152 760 [l0, l1, l2, l3] [.int 1, t0, t1, t2, t3] h Q := zE_iconst dz152_759 (by decide +kernel)
theorem dz152_760 : decode (z_code 152) 760 = .ok (.iadd, 1) := by decide +kernel
theorem u152_760 : zEv sc 152 760 [l0, l1, l2, l3] [.int x2, .int x1, t0, t1, t2] h Q ↔ zEv sc 152 761 [l0, l1, l2, l3] [.int (x1 + x2), t0, t1, t2] h Q := zE_pure (q := (761, [l0, l1, l2, l3], [.int (x1 + x2), t0, t1, t2])) dz152_760 rfl rfl rfl
theorem dz152_761 : decode (z_code 152) 761 = .ok (.iaload, 1) := by decide +kernel
theorem u152_761 (hi : vp_in x sc.1) : zEv sc 152 761 [l0, l1, l2, l3] [.int x, .ref 0, t0, t1] h Q ↔ zEv sc 152 762 [l0, l1, l2, l3] [.int (sc.2 x.toNatClampNeg), t0, t1] h Q := zE_sld dz152_761 hi
theorem dz152_762 : decode (z_code 152) 762 = .ok (.invokevirtual 96, 3) := by decide +kernel
theorem u152_762 (ho : zO a 10) : zEv sc 152 762 [l0, l1, l2, l3] [.int z0, .ref a, t0] (zst p iv) Q ↔ zEv sc 142 0 [.ref a, .int z0] [] (zst p iv) (fun r h9 => zEv sc 152 765 [l0, l1, l2, l3] (r.toList ++ [t0]) h9 Q) := zE_call (kd := 0) (na := 2) (nr := 1) (as := [.ref a, .int z0]) (rest := [t0]) (Or.inl ⟨rfl, rfl⟩) dz152_762 (by decide +kernel : z_lk2 zCT (z_cls 152) 96 = some (142, 0, 938)) (fun z => by cases z) rfl rfl rfl (by decide +kernel) rfl (Or.inr (zE_rc ho))
theorem dz152_765 : decode (z_code 152) 765 = .ok (.if_icmp .eq 54, 3) := by decide +kernel
theorem u152_765 : zEv sc 152 765 [l0, l1, l2, l3] [.int x2, .int x1] h Q ↔ (if x1 = x2 then zEv sc 152 819 [l0, l1, l2, l3] [] h Q else zEv sc 152 768 [l0, l1, l2, l3] [] h Q) := zE_icP (P := x1 = x2) inferInstance 819 dz152_765 rfl rfl
theorem dz152_768 : decode (z_code 152) 768 = .ok (.iconst 0, 1) := by decide +kernel
theorem u152_768 : zEv sc 152 768 [l0, l1, l2, l3] [] h Q ↔ zEv sc 152 769 [l0, l1, l2, l3] [.int 0] h Q := zE_iconst dz152_768 (by decide +kernel)
theorem dz152_769 : decode (z_code 152) 769 = .ok (.ireturn, 1) := by decide +kernel
theorem u152_769 : zEv sc 152 769 [l0, l1, l2, l3] [.int x] h Q ↔ ((x = 0 ∨ x = 1) ∧ Q (some (.int x)) h) := zE_rz dz152_769 (by decide +kernel)
theorem dz152_734 : decode (z_code 152) 734 = .ok (.aload_n 1, 1) := by decide +kernel
theorem u152_734 : zEv sc 152 734 [l0, .ref a, l2, l3] [] h Q ↔ zEv sc 152 735 [l0, .ref a, l2, l3] [.ref a] h Q := zE_pure (q := (735, [l0, .ref a, l2, l3], [.ref a])) dz152_734 rfl rfl rfl
theorem dz152_735 : decode (z_code 152) 735 = .ok (.invokevirtual 88, 3) := by decide +kernel
theorem u152_735 (ho : zO a 9) : zEv sc 152 735 [l0, l1, l2, l3] [.ref a] (zst p iv) Q ↔ zEv sc 82 0 [.ref a] [] (zst p iv) (fun r h9 => zEv sc 152 738 [l0, l1, l2, l3] (r.toList ++ []) h9 Q) := zE_call (kd := 0) (na := 1) (nr := 0) (as := [.ref a]) (rest := []) (Or.inl ⟨rfl, rfl⟩) dz152_735 (by decide +kernel : z_lk2 zCT (z_cls 152) 88 = some (82, 0, 593)) (fun z => by cases z) rfl rfl rfl (by decide +kernel) rfl (Or.inr (zE_rc ho))
theorem dz152_738 : decode (z_code 152) 738 = .ok (.aload_n 2, 1) := by decide +kernel
theorem u152_738 : zEv sc 152 738 [l0, l1, .ref a, l3] [t0] h Q ↔ zEv sc 152 739 [l0, l1, .ref a, l3] [.ref a, t0] h Q := zE_pure (q := (739, [l0, l1, .ref a, l3], [.ref a, t0])) dz152_738 rfl rfl rfl
theorem dz152_739 : decode (z_code 152) 739 = .ok (.invokevirtual 92, 3) := by decide +kernel
theorem u152_739 (ho : zO a 10) : zEv sc 152 739 [l0, l1, l2, l3] [.ref a, t0] (zst p iv) Q ↔ zEv sc 141 0 [.ref a, .null] [] (zst p iv) (fun r h9 => zEv sc 152 742 [l0, l1, l2, l3] (r.toList ++ [t0]) h9 Q) := zE_call (kd := 0) (na := 1) (nr := 1) (as := [.ref a]) (rest := [t0]) (Or.inl ⟨rfl, rfl⟩) dz152_739 (by decide +kernel : z_lk2 zCT (z_cls 152) 92 = some (141, 0, 934)) (fun z => by cases z) rfl rfl rfl (by decide +kernel) rfl (Or.inr (zE_rc ho))
theorem dz152_742 : decode (z_code 152) 742 = .ok (.if_icmp .eq 77, 3) := by decide +kernel
theorem u152_742 : zEv sc 152 742 [l0, l1, l2, l3] [.int x2, .int x1] h Q ↔ (if x1 = x2 then zEv sc 152 819 [l0, l1, l2, l3] [] h Q else zEv sc 152 745 [l0, l1, l2, l3] [] h Q) := zE_icP (P := x1 = x2) inferInstance 819 dz152_742 rfl rfl
theorem dz152_745 : decode (z_code 152) 745 = .ok (.iconst 0, 1) := by decide +kernel
theorem u152_745 : zEv sc 152 745 [l0, l1, l2, l3] [] h Q ↔ zEv sc 152 746 [l0, l1, l2, l3] [.int 0] h Q := zE_iconst dz152_745 (by decide +kernel)
theorem dz152_746 : decode (z_code 152) 746 = .ok (.ireturn, 1) := by decide +kernel
theorem u152_746 : zEv sc 152 746 [l0, l1, l2, l3] [.int x] h Q ↔ ((x = 0 ∨ x = 1) ∧ Q (some (.int x)) h) := zE_rz dz152_746 (by decide +kernel)
theorem dz152_711 : decode (z_code 152) 711 = .ok (.aload_n 1, 1) := by decide +kernel
theorem u152_711 : zEv sc 152 711 [l0, .ref a, l2, l3] [] h Q ↔ zEv sc 152 712 [l0, .ref a, l2, l3] [.ref a] h Q := zE_pure (q := (712, [l0, .ref a, l2, l3], [.ref a])) dz152_711 rfl rfl rfl
theorem dz152_712 : decode (z_code 152) 712 = .ok (.aload_n 0, 1) := by decide +kernel
theorem u152_712 : zEv sc 152 712 [.ref a, l1, l2, l3] [t0] h Q ↔ zEv sc 152 713 [.ref a, l1, l2, l3] [.ref a, t0] h Q := zE_pure (q := (713, [.ref a, l1, l2, l3], [.ref a, t0])) dz152_712 rfl rfl rfl
theorem dz152_713 : decode (z_code 152) 713 = .ok (.iload_n 3, 1) := by decide +kernel
theorem u152_713 : zEv sc 152 713 [l0, l1, l2, .int x] [t0, t1] h Q ↔ zEv sc 152 714 [l0, l1, l2, .int x] [.int x, t0, t1] h Q := zE_pure (q := (714, [l0, l1, l2, .int x], [.int x, t0, t1])) dz152_713 rfl rfl rfl
theorem dz152_714 : decode (z_code 152) 714 = .ok (.iconst 1, 1) := by decide +kernel
theorem u152_714 : zEv sc 152 714 [l0, l1, l2, l3] [t0, t1, t2] h Q ↔ zEv sc 152 715 [l0, l1, l2, l3] [.int 1, t0, t1, t2] h Q := zE_iconst dz152_714 (by decide +kernel)
theorem dz152_715 : decode (z_code 152) 715 = .ok (.iadd, 1) := by decide +kernel
theorem u152_715 : zEv sc 152 715 [l0, l1, l2, l3] [.int x2, .int x1, t0, t1] h Q ↔ zEv sc 152 716 [l0, l1, l2, l3] [.int (x1 + x2), t0, t1] h Q := zE_pure (q := (716, [l0, l1, l2, l3], [.int (x1 + x2), t0, t1])) dz152_715 rfl rfl rfl
theorem dz152_716 : decode (z_code 152) 716 = .ok (.iaload, 1) := by decide +kernel
theorem u152_716 (hi : vp_in x sc.1) : zEv sc 152 716 [l0, l1, l2, l3] [.int x, .ref 0, t0] h Q ↔ zEv sc 152 717 [l0, l1, l2, l3] [.int (sc.2 x.toNatClampNeg), t0] h Q := zE_sld dz152_716 hi
theorem dz152_717 : decode (z_code 152) 717 = .ok (.invokevirtual 84, 3) := by decide +kernel
theorem u152_717 (ho : zO a 9) : zEv sc 152 717 [l0, l1, l2, l3] [.int z0, .ref a] (zst p iv) Q ↔ zEv sc 81 0 [.ref a, .int z0] [] (zst p iv) (fun r h9 => zEv sc 152 720 [l0, l1, l2, l3] (r.toList ++ []) h9 Q) := zE_call (kd := 0) (na := 2) (nr := 0) (as := [.ref a, .int z0]) (rest := []) (Or.inl ⟨rfl, rfl⟩) dz152_717 (by decide +kernel : z_lk2 zCT (z_cls 152) 84 = some (81, 0, 585)) (fun z => by cases z) rfl rfl rfl (by decide +kernel) rfl (Or.inr (zE_rc ho))
theorem dz152_720 : decode (z_code 152) 720 = .ok (.aload_n 2, 1) := by decide +kernel
theorem u152_720 : zEv sc 152 720 [l0, l1, .ref a, l3] [t0] h Q ↔ zEv sc 152 721 [l0, l1, .ref a, l3] [.ref a, t0] h Q := zE_pure (q := (721, [l0, l1, .ref a, l3], [.ref a, t0])) dz152_720 rfl rfl rfl
theorem dz152_721 : decode (z_code 152) 721 = .ok (.aload_n 0, 1) := by decide +kernel
theorem u152_721 : zEv sc 152 721 [.ref a, l1, l2, l3] [t0, t1] h Q ↔ zEv sc 152 722 [.ref a, l1, l2, l3] [.ref a, t0, t1] h Q := zE_pure (q := (722, [.ref a, l1, l2, l3], [.ref a, t0, t1])) dz152_721 rfl rfl rfl
theorem dz152_722 : decode (z_code 152) 722 = .ok (.iload_n 3, 1) := by decide +kernel
theorem u152_722 : zEv sc 152 722 [l0, l1, l2, .int x] [t0, t1, t2] h Q ↔ zEv sc 152 723 [l0, l1, l2, .int x] [.int x, t0, t1, t2] h Q := zE_pure (q := (723, [l0, l1, l2, .int x], [.int x, t0, t1, t2])) dz152_722 rfl rfl rfl
theorem dz152_723 : decode (z_code 152) 723 = .ok (.iconst 1, 1) := by decide +kernel
theorem u152_723 : zEv sc 152 723 [l0, l1, l2, l3] [t0, t1, t2, t3] h Q ↔ zEv sc 152 724 [l0, l1, l2, l3] [.int 1, t0, t1, t2, t3] h Q := zE_iconst dz152_723 (by decide +kernel)
theorem dz152_724 : decode (z_code 152) 724 = .ok (.iadd, 1) := by decide +kernel
theorem u152_724 : zEv sc 152 724 [l0, l1, l2, l3] [.int x2, .int x1, t0, t1, t2] h Q ↔ zEv sc 152 725 [l0, l1, l2, l3] [.int (x1 + x2), t0, t1, t2] h Q := zE_pure (q := (725, [l0, l1, l2, l3], [.int (x1 + x2), t0, t1, t2])) dz152_724 rfl rfl rfl
theorem dz152_725 : decode (z_code 152) 725 = .ok (.iaload, 1) := by decide +kernel
theorem u152_725 (hi : vp_in x sc.1) : zEv sc 152 725 [l0, l1, l2, l3] [.int x, .ref 0, t0, t1] h Q ↔ zEv sc 152 726 [l0, l1, l2, l3] [.int (sc.2 x.toNatClampNeg), t0, t1] h Q := zE_sld dz152_725 hi
theorem dz152_726 : decode (z_code 152) 726 = .ok (.invokevirtual 87, 3) := by decide +kernel
theorem u152_726 (ho : zO a 10) : zEv sc 152 726 [l0, l1, l2, l3] [.int z0, .ref a, t0] (zst p iv) Q ↔ zEv sc 140 0 [.ref a, .int z0, .null] [] (zst p iv) (fun r h9 => zEv sc 152 729 [l0, l1, l2, l3] (r.toList ++ [t0]) h9 Q) := zE_call (kd := 0) (na := 2) (nr := 1) (as := [.ref a, .int z0]) (rest := [t0]) (Or.inl ⟨rfl, rfl⟩) dz152_726 (by decide +kernel : z_lk2 zCT (z_cls 152) 87 = some (140, 0, 926)) (fun z => by cases z) rfl rfl rfl (by decide +kernel) rfl (Or.inr (zE_rc ho))
theorem dz152_729 : decode (z_code 152) 729 = .ok (.if_icmp .eq 90, 3) := by decide +kernel
theorem u152_729 : zEv sc 152 729 [l0, l1, l2, l3] [.int x2, .int x1] h Q ↔ (if x1 = x2 then zEv sc 152 819 [l0, l1, l2, l3] [] h Q else zEv sc 152 732 [l0, l1, l2, l3] [] h Q) := zE_icP (P := x1 = x2) inferInstance 819 dz152_729 rfl rfl
theorem dz152_732 : decode (z_code 152) 732 = .ok (.iconst 0, 1) := by decide +kernel
theorem u152_732 : zEv sc 152 732 [l0, l1, l2, l3] [] h Q ↔ zEv sc 152 733 [l0, l1, l2, l3] [.int 0] h Q := zE_iconst dz152_732 (by decide +kernel)
theorem dz152_733 : decode (z_code 152) 733 = .ok (.ireturn, 1) := by decide +kernel
theorem u152_733 : zEv sc 152 733 [l0, l1, l2, l3] [.int x] h Q ↔ ((x = 0 ∨ x = 1) ∧ Q (some (.int x)) h) := zE_rz dz152_733 (by decide +kernel)
theorem dz152_678 : decode (z_code 152) 678 = .ok (.aload_n 1, 1) := by decide +kernel
theorem u152_678 : zEv sc 152 678 [l0, .ref a, l2, l3] [] h Q ↔ zEv sc 152 679 [l0, .ref a, l2, l3] [.ref a] h Q := zE_pure (q := (679, [l0, .ref a, l2, l3], [.ref a])) dz152_678 rfl rfl rfl
theorem dz152_679 : decode (z_code 152) 679 = .ok (.aload_n 0, 1) := by decide +kernel
theorem u152_679 : zEv sc 152 679 [.ref a, l1, l2, l3] [t0] h Q ↔ zEv sc 152 680 [.ref a, l1, l2, l3] [.ref a, t0] h Q := zE_pure (q := (680, [.ref a, l1, l2, l3], [.ref a, t0])) dz152_679 rfl rfl rfl
theorem dz152_680 : decode (z_code 152) 680 = .ok (.iload_n 3, 1) := by decide +kernel
theorem u152_680 : zEv sc 152 680 [l0, l1, l2, .int x] [t0, t1] h Q ↔ zEv sc 152 681 [l0, l1, l2, .int x] [.int x, t0, t1] h Q := zE_pure (q := (681, [l0, l1, l2, .int x], [.int x, t0, t1])) dz152_680 rfl rfl rfl
theorem dz152_681 : decode (z_code 152) 681 = .ok (.iconst 1, 1) := by decide +kernel
theorem u152_681 : zEv sc 152 681 [l0, l1, l2, l3] [t0, t1, t2] h Q ↔ zEv sc 152 682 [l0, l1, l2, l3] [.int 1, t0, t1, t2] h Q := zE_iconst dz152_681 (by decide +kernel)
theorem dz152_682 : decode (z_code 152) 682 = .ok (.iadd, 1) := by decide +kernel
theorem u152_682 : zEv sc 152 682 [l0, l1, l2, l3] [.int x2, .int x1, t0, t1] h Q ↔ zEv sc 152 683 [l0, l1, l2, l3] [.int (x1 + x2), t0, t1] h Q := zE_pure (q := (683, [l0, l1, l2, l3], [.int (x1 + x2), t0, t1])) dz152_682 rfl rfl rfl
theorem dz152_683 : decode (z_code 152) 683 = .ok (.iaload, 1) := by decide +kernel
theorem u152_683 (hi : vp_in x sc.1) : zEv sc 152 683 [l0, l1, l2, l3] [.int x, .ref 0, t0] h Q ↔ zEv sc 152 684 [l0, l1, l2, l3] [.int (sc.2 x.toNatClampNeg), t0] h Q := zE_sld dz152_683 hi
theorem dz152_684 : decode (z_code 152) 684 = .ok (.aload_n 0, 1) := by decide +kernel
theorem u152_684 : zEv sc 152 684 [.ref a, l1, l2, l3] [t0, t1] h Q ↔ zEv sc 152 685 [.ref a, l1, l2, l3] [.ref a, t0, t1] h Q := zE_pure (q := (685, [.ref a, l1, l2, l3], [.ref a, t0, t1])) dz152_684 rfl rfl rfl
theorem dz152_685 : decode (z_code 152) 685 = .ok (.iload_n 3, 1) := by decide +kernel
theorem u152_685 : zEv sc 152 685 [l0, l1, l2, .int x] [t0, t1, t2] h Q ↔ zEv sc 152 686 [l0, l1, l2, .int x] [.int x, t0, t1, t2] h Q := zE_pure (q := (686, [l0, l1, l2, .int x], [.int x, t0, t1, t2])) dz152_685 rfl rfl rfl
theorem dz152_686 : decode (z_code 152) 686 = .ok (.iconst 2, 1) := by decide +kernel
theorem u152_686 : zEv sc 152 686 [l0, l1, l2, l3] [t0, t1, t2, t3] h Q ↔ zEv sc 152 687 [l0, l1, l2, l3] [.int 2, t0, t1, t2, t3] h Q := zE_iconst dz152_686 (by decide +kernel)
theorem dz152_687 : decode (z_code 152) 687 = .ok (.iadd, 1) := by decide +kernel
theorem u152_687 : zEv sc 152 687 [l0, l1, l2, l3] [.int x2, .int x1, t0, t1, t2] h Q ↔ zEv sc 152 688 [l0, l1, l2, l3] [.int (x1 + x2), t0, t1, t2] h Q := zE_pure (q := (688, [l0, l1, l2, l3], [.int (x1 + x2), t0, t1, t2])) dz152_687 rfl rfl rfl
theorem dz152_688 : decode (z_code 152) 688 = .ok (.iaload, 1) := by decide +kernel
theorem u152_688 (hi : vp_in x sc.1) : zEv sc 152 688 [l0, l1, l2, l3] [.int x, .ref 0, t0, t1] h Q ↔ zEv sc 152 689 [l0, l1, l2, l3] [.int (sc.2 x.toNatClampNeg), t0, t1] h Q := zE_sld dz152_688 hi
theorem dz152_689 : decode (z_code 152) 689 = .ok (.invokevirtual 80, 3) := by decide +kernel
theorem u152_689 (ho : zO a 9) : zEv sc 152 689 [l0, l1, l2, l3] [.int z1, .int z0, .ref a] (zst p iv) Q ↔ zEv sc 80 0 [.ref a, .int z0, .int z1, .null, .null, .null] [] (zst p iv) (fun r h9 => zEv sc 152 692 [l0, l1, l2, l3] (r.toList ++ []) h9 Q) := zE_call (kd := 0) (na := 3) (nr := 0) (as := [.ref a, .int z0, .int z1]) (rest := []) (Or.inl ⟨rfl, rfl⟩) dz152_689 (by decide +kernel : z_lk2 zCT (z_cls 152) 80 = some (80, 0, 581)) (fun z => by cases z) rfl rfl rfl (by decide +kernel) rfl (Or.inr (zE_rc ho))
theorem dz152_692 : decode (z_code 152) 692 = .ok (.aload_n 2, 1) := by decide +kernel
theorem u152_692 : zEv sc 152 692 [l0, l1, .ref a, l3] [t0] h Q ↔ zEv sc 152 693 [l0, l1, .ref a, l3] [.ref a, t0] h Q := zE_pure (q := (693, [l0, l1, .ref a, l3], [.ref a, t0])) dz152_692 rfl rfl rfl
theorem dz152_693 : decode (z_code 152) 693 = .ok (.aload_n 0, 1) := by decide +kernel
theorem u152_693 : zEv sc 152 693 [.ref a, l1, l2, l3] [t0, t1] h Q ↔ zEv sc 152 694 [.ref a, l1, l2, l3] [.ref a, t0, t1] h Q := zE_pure (q := (694, [.ref a, l1, l2, l3], [.ref a, t0, t1])) dz152_693 rfl rfl rfl
theorem dz152_694 : decode (z_code 152) 694 = .ok (.iload_n 3, 1) := by decide +kernel
theorem u152_694 : zEv sc 152 694 [l0, l1, l2, .int x] [t0, t1, t2] h Q ↔ zEv sc 152 695 [l0, l1, l2, .int x] [.int x, t0, t1, t2] h Q := zE_pure (q := (695, [l0, l1, l2, .int x], [.int x, t0, t1, t2])) dz152_694 rfl rfl rfl
theorem dz152_695 : decode (z_code 152) 695 = .ok (.iconst 1, 1) := by decide +kernel
theorem u152_695 : zEv sc 152 695 [l0, l1, l2, l3] [t0, t1, t2, t3] h Q ↔ zEv sc 152 696 [l0, l1, l2, l3] [.int 1, t0, t1, t2, t3] h Q := zE_iconst dz152_695 (by decide +kernel)
theorem dz152_696 : decode (z_code 152) 696 = .ok (.iadd, 1) := by decide +kernel
theorem u152_696 : zEv sc 152 696 [l0, l1, l2, l3] [.int x2, .int x1, t0, t1, t2] h Q ↔ zEv sc 152 697 [l0, l1, l2, l3] [.int (x1 + x2), t0, t1, t2] h Q := zE_pure (q := (697, [l0, l1, l2, l3], [.int (x1 + x2), t0, t1, t2])) dz152_696 rfl rfl rfl
theorem dz152_697 : decode (z_code 152) 697 = .ok (.iaload, 1) := by decide +kernel
theorem u152_697 (hi : vp_in x sc.1) : zEv sc 152 697 [l0, l1, l2, l3] [.int x, .ref 0, t0, t1] h Q ↔ zEv sc 152 698 [l0, l1, l2, l3] [.int (sc.2 x.toNatClampNeg), t0, t1] h Q := zE_sld dz152_697 hi
theorem dz152_698 : decode (z_code 152) 698 = .ok (.aload_n 0, 1) := by decide +kernel
theorem u152_698 : zEv sc 152 698 [.ref a, l1, l2, l3] [t0, t1, t2] h Q ↔ zEv sc 152 699 [.ref a, l1, l2, l3] [.ref a, t0, t1, t2] h Q := zE_pure (q := (699, [.ref a, l1, l2, l3], [.ref a, t0, t1, t2])) dz152_698 rfl rfl rfl
theorem dz152_699 : decode (z_code 152) 699 = .ok (.iload_n 3, 1) := by decide +kernel
theorem u152_699 : zEv sc 152 699 [l0, l1, l2, .int x] [t0, t1, t2, t3] h Q ↔ zEv sc 152 700 [l0, l1, l2, .int x] [.int x, t0, t1, t2, t3] h Q := zE_pure (q := (700, [l0, l1, l2, .int x], [.int x, t0, t1, t2, t3])) dz152_699 rfl rfl rfl
theorem dz152_700 : decode (z_code 152) 700 = .ok (.iconst 2, 1) := by decide +kernel
theorem u152_700 : zEv sc 152 700 [l0, l1, l2, l3] [t0, t1, t2, t3, t4] h Q ↔ zEv sc 152 701 [l0, l1, l2, l3] [.int 2, t0, t1, t2, t3, t4] h Q := zE_iconst dz152_700 (by decide +kernel)
theorem dz152_701 : decode (z_code 152) 701 = .ok (.iadd, 1) := by decide +kernel
theorem u152_701 : zEv sc 152 701 [l0, l1, l2, l3] [.int x2, .int x1, t0, t1, t2, t3] h Q ↔ zEv sc 152 702 [l0, l1, l2, l3] [.int (x1 + x2), t0, t1, t2, t3] h Q := zE_pure (q := (702, [l0, l1, l2, l3], [.int (x1 + x2), t0, t1, t2, t3])) dz152_701 rfl rfl rfl
theorem dz152_702 : decode (z_code 152) 702 = .ok (.iaload, 1) := by decide +kernel
theorem u152_702 (hi : vp_in x sc.1) : zEv sc 152 702 [l0, l1, l2, l3] [.int x, .ref 0, t0, t1, t2] h Q ↔ zEv sc 152 703 [l0, l1, l2, l3] [.int (sc.2 x.toNatClampNeg), t0, t1, t2] h Q := zE_sld dz152_702 hi
theorem dz152_703 : decode (z_code 152) 703 = .ok (.invokevirtual 83, 3) := by decide +kernel
theorem u152_703 (ho : zO a 10) : zEv sc 152 703 [l0, l1, l2, l3] [.int z1, .int z0, .ref a, t0] (zst p iv) Q ↔ zEv sc 138 0 [.ref a, .int z0, .int z1, .null, .null] [] (zst p iv) (fun r h9 => zEv sc 152 706 [l0, l1, l2, l3] (r.toList ++ [t0]) h9 Q) := zE_call (kd := 0) (na := 3) (nr := 1) (as := [.ref a, .int z0, .int z1]) (rest := [t0]) (Or.inl ⟨rfl, rfl⟩) dz152_703 (by decide +kernel : z_lk2 zCT (z_cls 152) 83 = some (138, 0, 922)) (fun z => by cases z) rfl rfl rfl (by decide +kernel) rfl (Or.inr (zE_rc ho))
theorem dz152_706 : decode (z_code 152) 706 = .ok (.if_icmp .eq 113, 3) := by decide +kernel
theorem u152_706 : zEv sc 152 706 [l0, l1, l2, l3] [.int x2, .int x1] h Q ↔ (if x1 = x2 then zEv sc 152 819 [l0, l1, l2, l3] [] h Q else zEv sc 152 709 [l0, l1, l2, l3] [] h Q) := zE_icP (P := x1 = x2) inferInstance 819 dz152_706 rfl rfl
theorem dz152_709 : decode (z_code 152) 709 = .ok (.iconst 0, 1) := by decide +kernel
theorem u152_709 : zEv sc 152 709 [l0, l1, l2, l3] [] h Q ↔ zEv sc 152 710 [l0, l1, l2, l3] [.int 0] h Q := zE_iconst dz152_709 (by decide +kernel)
theorem dz152_710 : decode (z_code 152) 710 = .ok (.ireturn, 1) := by decide +kernel
theorem u152_710 : zEv sc 152 710 [l0, l1, l2, l3] [.int x] h Q ↔ ((x = 0 ∨ x = 1) ∧ Q (some (.int x)) h) := zE_rz dz152_710 (by decide +kernel)
theorem dz152_645 : decode (z_code 152) 645 = .ok (.aload_n 1, 1) := by decide +kernel
theorem u152_645 : zEv sc 152 645 [l0, .ref a, l2, l3] [] h Q ↔ zEv sc 152 646 [l0, .ref a, l2, l3] [.ref a] h Q := zE_pure (q := (646, [l0, .ref a, l2, l3], [.ref a])) dz152_645 rfl rfl rfl
theorem dz152_646 : decode (z_code 152) 646 = .ok (.aload_n 0, 1) := by decide +kernel
theorem u152_646 : zEv sc 152 646 [.ref a, l1, l2, l3] [t0] h Q ↔ zEv sc 152 647 [.ref a, l1, l2, l3] [.ref a, t0] h Q := zE_pure (q := (647, [.ref a, l1, l2, l3], [.ref a, t0])) dz152_646 rfl rfl rfl
theorem dz152_647 : decode (z_code 152) 647 = .ok (.iload_n 3, 1) := by decide +kernel
theorem u152_647 : zEv sc 152 647 [l0, l1, l2, .int x] [t0, t1] h Q ↔ zEv sc 152 648 [l0, l1, l2, .int x] [.int x, t0, t1] h Q := zE_pure (q := (648, [l0, l1, l2, .int x], [.int x, t0, t1])) dz152_647 rfl rfl rfl
theorem dz152_648 : decode (z_code 152) 648 = .ok (.iconst 1, 1) := by decide +kernel
theorem u152_648 : zEv sc 152 648 [l0, l1, l2, l3] [t0, t1, t2] h Q ↔ zEv sc 152 649 [l0, l1, l2, l3] [.int 1, t0, t1, t2] h Q := zE_iconst dz152_648 (by decide +kernel)
theorem dz152_649 : decode (z_code 152) 649 = .ok (.iadd, 1) := by decide +kernel
theorem u152_649 : zEv sc 152 649 [l0, l1, l2, l3] [.int x2, .int x1, t0, t1] h Q ↔ zEv sc 152 650 [l0, l1, l2, l3] [.int (x1 + x2), t0, t1] h Q := zE_pure (q := (650, [l0, l1, l2, l3], [.int (x1 + x2), t0, t1])) dz152_649 rfl rfl rfl
theorem dz152_650 : decode (z_code 152) 650 = .ok (.iaload, 1) := by decide +kernel
theorem u152_650 (hi : vp_in x sc.1) : zEv sc 152 650 [l0, l1, l2, l3] [.int x, .ref 0, t0] h Q ↔ zEv sc 152 651 [l0, l1, l2, l3] [.int (sc.2 x.toNatClampNeg), t0] h Q := zE_sld dz152_650 hi
theorem dz152_651 : decode (z_code 152) 651 = .ok (.aload_n 0, 1) := by decide +kernel
theorem u152_651 : zEv sc 152 651 [.ref a, l1, l2, l3] [t0, t1] h Q ↔ zEv sc 152 652 [.ref a, l1, l2, l3] [.ref a, t0, t1] h Q := zE_pure (q := (652, [.ref a, l1, l2, l3], [.ref a, t0, t1])) dz152_651 rfl rfl rfl
theorem dz152_652 : decode (z_code 152) 652 = .ok (.iload_n 3, 1) := by decide +kernel
theorem u152_652 : zEv sc 152 652 [l0, l1, l2, .int x] [t0, t1, t2] h Q ↔ zEv sc 152 653 [l0, l1, l2, .int x] [.int x, t0, t1, t2] h Q := zE_pure (q := (653, [l0, l1, l2, .int x], [.int x, t0, t1, t2])) dz152_652 rfl rfl rfl
theorem dz152_653 : decode (z_code 152) 653 = .ok (.iconst 2, 1) := by decide +kernel
theorem u152_653 : zEv sc 152 653 [l0, l1, l2, l3] [t0, t1, t2, t3] h Q ↔ zEv sc 152 654 [l0, l1, l2, l3] [.int 2, t0, t1, t2, t3] h Q := zE_iconst dz152_653 (by decide +kernel)
theorem dz152_654 : decode (z_code 152) 654 = .ok (.iadd, 1) := by decide +kernel
theorem u152_654 : zEv sc 152 654 [l0, l1, l2, l3] [.int x2, .int x1, t0, t1, t2] h Q ↔ zEv sc 152 655 [l0, l1, l2, l3] [.int (x1 + x2), t0, t1, t2] h Q := zE_pure (q := (655, [l0, l1, l2, l3], [.int (x1 + x2), t0, t1, t2])) dz152_654 rfl rfl rfl
theorem dz152_655 : decode (z_code 152) 655 = .ok (.iaload, 1) := by decide +kernel
theorem u152_655 (hi : vp_in x sc.1) : zEv sc 152 655 [l0, l1, l2, l3] [.int x, .ref 0, t0, t1] h Q ↔ zEv sc 152 656 [l0, l1, l2, l3] [.int (sc.2 x.toNatClampNeg), t0, t1] h Q := zE_sld dz152_655 hi
theorem dz152_656 : decode (z_code 152) 656 = .ok (.invokevirtual 76, 3) := by decide +kernel
theorem u152_656 (ho : zO a 9) : zEv sc 152 656 [l0, l1, l2, l3] [.int z1, .int z0, .ref a] (zst p iv) Q ↔ zEv sc 79 0 [.ref a, .int z0, .int z1] [] (zst p iv) (fun r h9 => zEv sc 152 659 [l0, l1, l2, l3] (r.toList ++ []) h9 Q) := zE_call (kd := 0) (na := 3) (nr := 0) (as := [.ref a, .int z0, .int z1]) (rest := []) (Or.inl ⟨rfl, rfl⟩) dz152_656 (by decide +kernel : z_lk2 zCT (z_cls 152) 76 = some (79, 0, 577)) (fun z => by cases z) rfl rfl rfl (by decide +kernel) rfl (Or.inr (zE_rc ho))
theorem dz152_659 : decode (z_code 152) 659 = .ok (.aload_n 2, 1) := by decide +kernel
theorem u152_659 : zEv sc 152 659 [l0, l1, .ref a, l3] [t0] h Q ↔ zEv sc 152 660 [l0, l1, .ref a, l3] [.ref a, t0] h Q := zE_pure (q := (660, [l0, l1, .ref a, l3], [.ref a, t0])) dz152_659 rfl rfl rfl
theorem dz152_660 : decode (z_code 152) 660 = .ok (.aload_n 0, 1) := by decide +kernel
theorem u152_660 : zEv sc 152 660 [.ref a, l1, l2, l3] [t0, t1] h Q ↔ zEv sc 152 661 [.ref a, l1, l2, l3] [.ref a, t0, t1] h Q := zE_pure (q := (661, [.ref a, l1, l2, l3], [.ref a, t0, t1])) dz152_660 rfl rfl rfl
theorem dz152_661 : decode (z_code 152) 661 = .ok (.iload_n 3, 1) := by decide +kernel
theorem u152_661 : zEv sc 152 661 [l0, l1, l2, .int x] [t0, t1, t2] h Q ↔ zEv sc 152 662 [l0, l1, l2, .int x] [.int x, t0, t1, t2] h Q := zE_pure (q := (662, [l0, l1, l2, .int x], [.int x, t0, t1, t2])) dz152_661 rfl rfl rfl
theorem dz152_662 : decode (z_code 152) 662 = .ok (.iconst 1, 1) := by decide +kernel
theorem u152_662 : zEv sc 152 662 [l0, l1, l2, l3] [t0, t1, t2, t3] h Q ↔ zEv sc 152 663 [l0, l1, l2, l3] [.int 1, t0, t1, t2, t3] h Q := zE_iconst dz152_662 (by decide +kernel)
theorem dz152_663 : decode (z_code 152) 663 = .ok (.iadd, 1) := by decide +kernel
theorem u152_663 : zEv sc 152 663 [l0, l1, l2, l3] [.int x2, .int x1, t0, t1, t2] h Q ↔ zEv sc 152 664 [l0, l1, l2, l3] [.int (x1 + x2), t0, t1, t2] h Q := zE_pure (q := (664, [l0, l1, l2, l3], [.int (x1 + x2), t0, t1, t2])) dz152_663 rfl rfl rfl
theorem dz152_664 : decode (z_code 152) 664 = .ok (.iaload, 1) := by decide +kernel
theorem u152_664 (hi : vp_in x sc.1) : zEv sc 152 664 [l0, l1, l2, l3] [.int x, .ref 0, t0, t1] h Q ↔ zEv sc 152 665 [l0, l1, l2, l3] [.int (sc.2 x.toNatClampNeg), t0, t1] h Q := zE_sld dz152_664 hi
theorem dz152_665 : decode (z_code 152) 665 = .ok (.aload_n 0, 1) := by decide +kernel
theorem u152_665 : zEv sc 152 665 [.ref a, l1, l2, l3] [t0, t1, t2] h Q ↔ zEv sc 152 666 [.ref a, l1, l2, l3] [.ref a, t0, t1, t2] h Q := zE_pure (q := (666, [.ref a, l1, l2, l3], [.ref a, t0, t1, t2])) dz152_665 rfl rfl rfl
theorem dz152_666 : decode (z_code 152) 666 = .ok (.iload_n 3, 1) := by decide +kernel
theorem u152_666 : zEv sc 152 666 [l0, l1, l2, .int x] [t0, t1, t2, t3] h Q ↔ zEv sc 152 667 [l0, l1, l2, .int x] [.int x, t0, t1, t2, t3] h Q := zE_pure (q := (667, [l0, l1, l2, .int x], [.int x, t0, t1, t2, t3])) dz152_666 rfl rfl rfl
theorem dz152_667 : decode (z_code 152) 667 = .ok (.iconst 2, 1) := by decide +kernel
theorem u152_667 : zEv sc 152 667 [l0, l1, l2, l3] [t0, t1, t2, t3, t4] h Q ↔ zEv sc 152 668 [l0, l1, l2, l3] [.int 2, t0, t1, t2, t3, t4] h Q := zE_iconst dz152_667 (by decide +kernel)
theorem dz152_668 : decode (z_code 152) 668 = .ok (.iadd, 1) := by decide +kernel
theorem u152_668 : zEv sc 152 668 [l0, l1, l2, l3] [.int x2, .int x1, t0, t1, t2, t3] h Q ↔ zEv sc 152 669 [l0, l1, l2, l3] [.int (x1 + x2), t0, t1, t2, t3] h Q := zE_pure (q := (669, [l0, l1, l2, l3], [.int (x1 + x2), t0, t1, t2, t3])) dz152_668 rfl rfl rfl
theorem dz152_669 : decode (z_code 152) 669 = .ok (.iaload, 1) := by decide +kernel
theorem u152_669 (hi : vp_in x sc.1) : zEv sc 152 669 [l0, l1, l2, l3] [.int x, .ref 0, t0, t1, t2] h Q ↔ zEv sc 152 670 [l0, l1, l2, l3] [.int (sc.2 x.toNatClampNeg), t0, t1, t2] h Q := zE_sld dz152_669 hi
theorem dz152_670 : decode (z_code 152) 670 = .ok (.invokevirtual 79, 3) := by decide +kernel
theorem u152_670 (ho : zO a 10) : zEv sc 152 670 [l0, l1, l2, l3] [.int z1, .int z0, .ref a, t0] (zst p iv) Q ↔ zEv sc 137 0 [.ref a, .int z0, .int z1, .null] [] (zst p iv) (fun r h9 => zEv sc 152 673 [l0, l1, l2, l3] (r.toList ++ [t0]) h9 Q) := zE_call (kd := 0) (na := 3) (nr := 1) (as := [.ref a, .int z0, .int z1]) (rest := [t0]) (Or.inl ⟨rfl, rfl⟩) dz152_670 (by decide +kernel : z_lk2 zCT (z_cls 152) 79 = some (137, 0, 918)) (fun z => by cases z) rfl rfl rfl (by decide +kernel) rfl (Or.inr (zE_rc ho))
theorem dz152_673 : decode (z_code 152) 673 = .ok (.if_icmp .eq 146, 3) := by decide +kernel
theorem u152_673 : zEv sc 152 673 [l0, l1, l2, l3] [.int x2, .int x1] h Q ↔ (if x1 = x2 then zEv sc 152 819 [l0, l1, l2, l3] [] h Q else zEv sc 152 676 [l0, l1, l2, l3] [] h Q) := zE_icP (P := x1 = x2) inferInstance 819 dz152_673 rfl rfl
theorem dz152_676 : decode (z_code 152) 676 = .ok (.iconst 0, 1) := by decide +kernel
theorem u152_676 : zEv sc 152 676 [l0, l1, l2, l3] [] h Q ↔ zEv sc 152 677 [l0, l1, l2, l3] [.int 0] h Q := zE_iconst dz152_676 (by decide +kernel)
theorem dz152_677 : decode (z_code 152) 677 = .ok (.ireturn, 1) := by decide +kernel
theorem u152_677 : zEv sc 152 677 [l0, l1, l2, l3] [.int x] h Q ↔ ((x = 0 ∨ x = 1) ∧ Q (some (.int x)) h) := zE_rz dz152_677 (by decide +kernel)
theorem dz152_622 : decode (z_code 152) 622 = .ok (.aload_n 1, 1) := by decide +kernel
theorem u152_622 : zEv sc 152 622 [l0, .ref a, l2, l3] [] h Q ↔ zEv sc 152 623 [l0, .ref a, l2, l3] [.ref a] h Q := zE_pure (q := (623, [l0, .ref a, l2, l3], [.ref a])) dz152_622 rfl rfl rfl
theorem dz152_623 : decode (z_code 152) 623 = .ok (.aload_n 0, 1) := by decide +kernel
theorem u152_623 : zEv sc 152 623 [.ref a, l1, l2, l3] [t0] h Q ↔ zEv sc 152 624 [.ref a, l1, l2, l3] [.ref a, t0] h Q := zE_pure (q := (624, [.ref a, l1, l2, l3], [.ref a, t0])) dz152_623 rfl rfl rfl
theorem dz152_624 : decode (z_code 152) 624 = .ok (.iload_n 3, 1) := by decide +kernel
theorem u152_624 : zEv sc 152 624 [l0, l1, l2, .int x] [t0, t1] h Q ↔ zEv sc 152 625 [l0, l1, l2, .int x] [.int x, t0, t1] h Q := zE_pure (q := (625, [l0, l1, l2, .int x], [.int x, t0, t1])) dz152_624 rfl rfl rfl
theorem dz152_625 : decode (z_code 152) 625 = .ok (.iconst 1, 1) := by decide +kernel
theorem u152_625 : zEv sc 152 625 [l0, l1, l2, l3] [t0, t1, t2] h Q ↔ zEv sc 152 626 [l0, l1, l2, l3] [.int 1, t0, t1, t2] h Q := zE_iconst dz152_625 (by decide +kernel)
theorem dz152_626 : decode (z_code 152) 626 = .ok (.iadd, 1) := by decide +kernel
theorem u152_626 : zEv sc 152 626 [l0, l1, l2, l3] [.int x2, .int x1, t0, t1] h Q ↔ zEv sc 152 627 [l0, l1, l2, l3] [.int (x1 + x2), t0, t1] h Q := zE_pure (q := (627, [l0, l1, l2, l3], [.int (x1 + x2), t0, t1])) dz152_626 rfl rfl rfl
theorem dz152_627 : decode (z_code 152) 627 = .ok (.iaload, 1) := by decide +kernel
theorem u152_627 (hi : vp_in x sc.1) : zEv sc 152 627 [l0, l1, l2, l3] [.int x, .ref 0, t0] h Q ↔ zEv sc 152 628 [l0, l1, l2, l3] [.int (sc.2 x.toNatClampNeg), t0] h Q := zE_sld dz152_627 hi
theorem dz152_628 : decode (z_code 152) 628 = .ok (.invokevirtual 72, 3) := by decide +kernel
theorem u152_628 (ho : zO a 9) : zEv sc 152 628 [l0, l1, l2, l3] [.int z0, .ref a] (zst p iv) Q ↔ zEv sc 78 0 [.ref a, .int z0, .null] [] (zst p iv) (fun r h9 => zEv sc 152 631 [l0, l1, l2, l3] (r.toList ++ []) h9 Q) := zE_call (kd := 0) (na := 2) (nr := 0) (as := [.ref a, .int z0]) (rest := []) (Or.inl ⟨rfl, rfl⟩) dz152_628 (by decide +kernel : z_lk2 zCT (z_cls 152) 72 = some (78, 0, 568)) (fun z => by cases z) rfl rfl rfl (by decide +kernel) rfl (Or.inr (zE_rc ho))
theorem dz152_631 : decode (z_code 152) 631 = .ok (.aload_n 2, 1) := by decide +kernel
theorem u152_631 : zEv sc 152 631 [l0, l1, .ref a, l3] [t0] h Q ↔ zEv sc 152 632 [l0, l1, .ref a, l3] [.ref a, t0] h Q := zE_pure (q := (632, [l0, l1, .ref a, l3], [.ref a, t0])) dz152_631 rfl rfl rfl
theorem dz152_632 : decode (z_code 152) 632 = .ok (.aload_n 0, 1) := by decide +kernel
theorem u152_632 : zEv sc 152 632 [.ref a, l1, l2, l3] [t0, t1] h Q ↔ zEv sc 152 633 [.ref a, l1, l2, l3] [.ref a, t0, t1] h Q := zE_pure (q := (633, [.ref a, l1, l2, l3], [.ref a, t0, t1])) dz152_632 rfl rfl rfl
theorem dz152_633 : decode (z_code 152) 633 = .ok (.iload_n 3, 1) := by decide +kernel
theorem u152_633 : zEv sc 152 633 [l0, l1, l2, .int x] [t0, t1, t2] h Q ↔ zEv sc 152 634 [l0, l1, l2, .int x] [.int x, t0, t1, t2] h Q := zE_pure (q := (634, [l0, l1, l2, .int x], [.int x, t0, t1, t2])) dz152_633 rfl rfl rfl
theorem dz152_634 : decode (z_code 152) 634 = .ok (.iconst 1, 1) := by decide +kernel
theorem u152_634 : zEv sc 152 634 [l0, l1, l2, l3] [t0, t1, t2, t3] h Q ↔ zEv sc 152 635 [l0, l1, l2, l3] [.int 1, t0, t1, t2, t3] h Q := zE_iconst dz152_634 (by decide +kernel)
theorem dz152_635 : decode (z_code 152) 635 = .ok (.iadd, 1) := by decide +kernel
theorem u152_635 : zEv sc 152 635 [l0, l1, l2, l3] [.int x2, .int x1, t0, t1, t2] h Q ↔ zEv sc 152 636 [l0, l1, l2, l3] [.int (x1 + x2), t0, t1, t2] h Q := zE_pure (q := (636, [l0, l1, l2, l3], [.int (x1 + x2), t0, t1, t2])) dz152_635 rfl rfl rfl
theorem dz152_636 : decode (z_code 152) 636 = .ok (.iaload, 1) := by decide +kernel
theorem u152_636 (hi : vp_in x sc.1) : zEv sc 152 636 [l0, l1, l2, l3] [.int x, .ref 0, t0, t1] h Q ↔ zEv sc 152 637 [l0, l1, l2, l3] [.int (sc.2 x.toNatClampNeg), t0, t1] h Q := zE_sld dz152_636 hi
theorem dz152_637 : decode (z_code 152) 637 = .ok (.invokevirtual 75, 3) := by decide +kernel
theorem u152_637 (ho : zO a 10) : zEv sc 152 637 [l0, l1, l2, l3] [.int z0, .ref a, t0] (zst p iv) Q ↔ zEv sc 136 0 [.ref a, .int z0] [] (zst p iv) (fun r h9 => zEv sc 152 640 [l0, l1, l2, l3] (r.toList ++ [t0]) h9 Q) := zE_call (kd := 0) (na := 2) (nr := 1) (as := [.ref a, .int z0]) (rest := [t0]) (Or.inl ⟨rfl, rfl⟩) dz152_637 (by decide +kernel : z_lk2 zCT (z_cls 152) 75 = some (136, 0, 906)) (fun z => by cases z) rfl rfl rfl (by decide +kernel) rfl (Or.inr (zE_rc ho))
theorem dz152_640 : decode (z_code 152) 640 = .ok (.if_icmp .eq 179, 3) := by decide +kernel
theorem u152_640 : zEv sc 152 640 [l0, l1, l2, l3] [.int x2, .int x1] h Q ↔ (if x1 = x2 then zEv sc 152 819 [l0, l1, l2, l3] [] h Q else zEv sc 152 643 [l0, l1, l2, l3] [] h Q) := zE_icP (P := x1 = x2) inferInstance 819 dz152_640 rfl rfl
theorem dz152_643 : decode (z_code 152) 643 = .ok (.iconst 0, 1) := by decide +kernel
theorem u152_643 : zEv sc 152 643 [l0, l1, l2, l3] [] h Q ↔ zEv sc 152 644 [l0, l1, l2, l3] [.int 0] h Q := zE_iconst dz152_643 (by decide +kernel)
theorem dz152_644 : decode (z_code 152) 644 = .ok (.ireturn, 1) := by decide +kernel
theorem u152_644 : zEv sc 152 644 [l0, l1, l2, l3] [.int x] h Q ↔ ((x = 0 ∨ x = 1) ∧ Q (some (.int x)) h) := zE_rz dz152_644 (by decide +kernel)
theorem dz152_579 : decode (z_code 152) 579 = .ok (.aload_n 1, 1) := by decide +kernel
theorem u152_579 : zEv sc 152 579 [l0, .ref a, l2, l3] [] h Q ↔ zEv sc 152 580 [l0, .ref a, l2, l3] [.ref a] h Q := zE_pure (q := (580, [l0, .ref a, l2, l3], [.ref a])) dz152_579 rfl rfl rfl
theorem dz152_580 : decode (z_code 152) 580 = .ok (.aload_n 0, 1) := by decide +kernel
theorem u152_580 : zEv sc 152 580 [.ref a, l1, l2, l3] [t0] h Q ↔ zEv sc 152 581 [.ref a, l1, l2, l3] [.ref a, t0] h Q := zE_pure (q := (581, [.ref a, l1, l2, l3], [.ref a, t0])) dz152_580 rfl rfl rfl
theorem dz152_581 : decode (z_code 152) 581 = .ok (.iload_n 3, 1) := by decide +kernel
theorem u152_581 : zEv sc 152 581 [l0, l1, l2, .int x] [t0, t1] h Q ↔ zEv sc 152 582 [l0, l1, l2, .int x] [.int x, t0, t1] h Q := zE_pure (q := (582, [l0, l1, l2, .int x], [.int x, t0, t1])) dz152_581 rfl rfl rfl
theorem dz152_582 : decode (z_code 152) 582 = .ok (.iconst 1, 1) := by decide +kernel
theorem u152_582 : zEv sc 152 582 [l0, l1, l2, l3] [t0, t1, t2] h Q ↔ zEv sc 152 583 [l0, l1, l2, l3] [.int 1, t0, t1, t2] h Q := zE_iconst dz152_582 (by decide +kernel)
theorem dz152_583 : decode (z_code 152) 583 = .ok (.iadd, 1) := by decide +kernel
theorem u152_583 : zEv sc 152 583 [l0, l1, l2, l3] [.int x2, .int x1, t0, t1] h Q ↔ zEv sc 152 584 [l0, l1, l2, l3] [.int (x1 + x2), t0, t1] h Q := zE_pure (q := (584, [l0, l1, l2, l3], [.int (x1 + x2), t0, t1])) dz152_583 rfl rfl rfl
theorem dz152_584 : decode (z_code 152) 584 = .ok (.iaload, 1) := by decide +kernel
theorem u152_584 (hi : vp_in x sc.1) : zEv sc 152 584 [l0, l1, l2, l3] [.int x, .ref 0, t0] h Q ↔ zEv sc 152 585 [l0, l1, l2, l3] [.int (sc.2 x.toNatClampNeg), t0] h Q := zE_sld dz152_584 hi
theorem dz152_585 : decode (z_code 152) 585 = .ok (.aload_n 0, 1) := by decide +kernel
theorem u152_585 : zEv sc 152 585 [.ref a, l1, l2, l3] [t0, t1] h Q ↔ zEv sc 152 586 [.ref a, l1, l2, l3] [.ref a, t0, t1] h Q := zE_pure (q := (586, [.ref a, l1, l2, l3], [.ref a, t0, t1])) dz152_585 rfl rfl rfl
theorem dz152_586 : decode (z_code 152) 586 = .ok (.iload_n 3, 1) := by decide +kernel
theorem u152_586 : zEv sc 152 586 [l0, l1, l2, .int x] [t0, t1, t2] h Q ↔ zEv sc 152 587 [l0, l1, l2, .int x] [.int x, t0, t1, t2] h Q := zE_pure (q := (587, [l0, l1, l2, .int x], [.int x, t0, t1, t2])) dz152_586 rfl rfl rfl
theorem dz152_587 : decode (z_code 152) 587 = .ok (.iconst 2, 1) := by decide +kernel
theorem u152_587 : zEv sc 152 587 [l0, l1, l2, l3] [t0, t1, t2, t3] h Q ↔ zEv sc 152 588 [l0, l1, l2, l3] [.int 2, t0, t1, t2, t3] h Q := zE_iconst dz152_587 (by decide +kernel)
theorem dz152_588 : decode (z_code 152) 588 = .ok (.iadd, 1) := by decide +kernel
theorem u152_588 : zEv sc 152 588 [l0, l1, l2, l3] [.int x2, .int x1, t0, t1, t2] h Q ↔ zEv sc 152 589 [l0, l1, l2, l3] [.int (x1 + x2), t0, t1, t2] h Q := zE_pure (q := (589, [l0, l1, l2, l3], [.int (x1 + x2), t0, t1, t2])) dz152_588 rfl rfl rfl
theorem dz152_589 : decode (z_code 152) 589 = .ok (.iaload, 1) := by decide +kernel
theorem u152_589 (hi : vp_in x sc.1) : zEv sc 152 589 [l0, l1, l2, l3] [.int x, .ref 0, t0, t1] h Q ↔ zEv sc 152 590 [l0, l1, l2, l3] [.int (sc.2 x.toNatClampNeg), t0, t1] h Q := zE_sld dz152_589 hi
theorem dz152_590 : decode (z_code 152) 590 = .ok (.aload_n 0, 1) := by decide +kernel
theorem u152_590 : zEv sc 152 590 [.ref a, l1, l2, l3] [t0, t1, t2] h Q ↔ zEv sc 152 591 [.ref a, l1, l2, l3] [.ref a, t0, t1, t2] h Q := zE_pure (q := (591, [.ref a, l1, l2, l3], [.ref a, t0, t1, t2])) dz152_590 rfl rfl rfl
theorem dz152_591 : decode (z_code 152) 591 = .ok (.iload_n 3, 1) := by decide +kernel
theorem u152_591 : zEv sc 152 591 [l0, l1, l2, .int x] [t0, t1, t2, t3] h Q ↔ zEv sc 152 592 [l0, l1, l2, .int x] [.int x, t0, t1, t2, t3] h Q := zE_pure (q := (592, [l0, l1, l2, .int x], [.int x, t0, t1, t2, t3])) dz152_591 rfl rfl rfl
theorem dz152_592 : decode (z_code 152) 592 = .ok (.iconst 3, 1) := by decide +kernel
theorem u152_592 : zEv sc 152 592 [l0, l1, l2, l3] [t0, t1, t2, t3, t4] h Q ↔ zEv sc 152 593 [l0, l1, l2, l3] [.int 3, t0, t1, t2, t3, t4] h Q := zE_iconst dz152_592 (by decide +kernel)
theorem dz152_593 : decode (z_code 152) 593 = .ok (.iadd, 1) := by decide +kernel
theorem u152_593 : zEv sc 152 593 [l0, l1, l2, l3] [.int x2, .int x1, t0, t1, t2, t3] h Q ↔ zEv sc 152 594 [l0, l1, l2, l3] [.int (x1 + x2), t0, t1, t2, t3] h Q := zE_pure (q := (594, [l0, l1, l2, l3], [.int (x1 + x2), t0, t1, t2, t3])) dz152_593 rfl rfl rfl
theorem dz152_594 : decode (z_code 152) 594 = .ok (.iaload, 1) := by decide +kernel
theorem u152_594 (hi : vp_in x sc.1) : zEv sc 152 594 [l0, l1, l2, l3] [.int x, .ref 0, t0, t1, t2] h Q ↔ zEv sc 152 595 [l0, l1, l2, l3] [.int (sc.2 x.toNatClampNeg), t0, t1, t2] h Q := zE_sld dz152_594 hi
theorem dz152_595 : decode (z_code 152) 595 = .ok (.invokevirtual 68, 3) := by decide +kernel
theorem u152_595 (ho : zO a 9) : zEv sc 152 595 [l0, l1, l2, l3] [.int z2, .int z1, .int z0, .ref a] (zst p iv) Q ↔ zEv sc 77 0 [.ref a, .int z0, .int z1, .int z2, .null, .null, .null] [] (zst p iv) (fun r h9 => zEv sc 152 598 [l0, l1, l2, l3] (r.toList ++ []) h9 Q) := zE_call (kd := 0) (na := 4) (nr := 0) (as := [.ref a, .int z0, .int z1, .int z2]) (rest := []) (Or.inl ⟨rfl, rfl⟩) dz152_595 (by decide +kernel : z_lk2 zCT (z_cls 152) 68 = some (77, 0, 560)) (fun z => by cases z) rfl rfl rfl (by decide +kernel) rfl (Or.inr (zE_rc ho))
theorem dz152_598 : decode (z_code 152) 598 = .ok (.aload_n 2, 1) := by decide +kernel
theorem u152_598 : zEv sc 152 598 [l0, l1, .ref a, l3] [t0] h Q ↔ zEv sc 152 599 [l0, l1, .ref a, l3] [.ref a, t0] h Q := zE_pure (q := (599, [l0, l1, .ref a, l3], [.ref a, t0])) dz152_598 rfl rfl rfl
theorem dz152_599 : decode (z_code 152) 599 = .ok (.aload_n 0, 1) := by decide +kernel
theorem u152_599 : zEv sc 152 599 [.ref a, l1, l2, l3] [t0, t1] h Q ↔ zEv sc 152 600 [.ref a, l1, l2, l3] [.ref a, t0, t1] h Q := zE_pure (q := (600, [.ref a, l1, l2, l3], [.ref a, t0, t1])) dz152_599 rfl rfl rfl
theorem dz152_600 : decode (z_code 152) 600 = .ok (.iload_n 3, 1) := by decide +kernel
theorem u152_600 : zEv sc 152 600 [l0, l1, l2, .int x] [t0, t1, t2] h Q ↔ zEv sc 152 601 [l0, l1, l2, .int x] [.int x, t0, t1, t2] h Q := zE_pure (q := (601, [l0, l1, l2, .int x], [.int x, t0, t1, t2])) dz152_600 rfl rfl rfl
theorem dz152_601 : decode (z_code 152) 601 = .ok (.iconst 1, 1) := by decide +kernel
theorem u152_601 : zEv sc 152 601 [l0, l1, l2, l3] [t0, t1, t2, t3] h Q ↔ zEv sc 152 602 [l0, l1, l2, l3] [.int 1, t0, t1, t2, t3] h Q := zE_iconst dz152_601 (by decide +kernel)
theorem dz152_602 : decode (z_code 152) 602 = .ok (.iadd, 1) := by decide +kernel
theorem u152_602 : zEv sc 152 602 [l0, l1, l2, l3] [.int x2, .int x1, t0, t1, t2] h Q ↔ zEv sc 152 603 [l0, l1, l2, l3] [.int (x1 + x2), t0, t1, t2] h Q := zE_pure (q := (603, [l0, l1, l2, l3], [.int (x1 + x2), t0, t1, t2])) dz152_602 rfl rfl rfl
theorem dz152_603 : decode (z_code 152) 603 = .ok (.iaload, 1) := by decide +kernel
theorem u152_603 (hi : vp_in x sc.1) : zEv sc 152 603 [l0, l1, l2, l3] [.int x, .ref 0, t0, t1] h Q ↔ zEv sc 152 604 [l0, l1, l2, l3] [.int (sc.2 x.toNatClampNeg), t0, t1] h Q := zE_sld dz152_603 hi
theorem dz152_604 : decode (z_code 152) 604 = .ok (.aload_n 0, 1) := by decide +kernel
theorem u152_604 : zEv sc 152 604 [.ref a, l1, l2, l3] [t0, t1, t2] h Q ↔ zEv sc 152 605 [.ref a, l1, l2, l3] [.ref a, t0, t1, t2] h Q := zE_pure (q := (605, [.ref a, l1, l2, l3], [.ref a, t0, t1, t2])) dz152_604 rfl rfl rfl
theorem dz152_605 : decode (z_code 152) 605 = .ok (.iload_n 3, 1) := by decide +kernel
theorem u152_605 : zEv sc 152 605 [l0, l1, l2, .int x] [t0, t1, t2, t3] h Q ↔ zEv sc 152 606 [l0, l1, l2, .int x] [.int x, t0, t1, t2, t3] h Q := zE_pure (q := (606, [l0, l1, l2, .int x], [.int x, t0, t1, t2, t3])) dz152_605 rfl rfl rfl
theorem dz152_606 : decode (z_code 152) 606 = .ok (.iconst 2, 1) := by decide +kernel
theorem u152_606 : zEv sc 152 606 [l0, l1, l2, l3] [t0, t1, t2, t3, t4] h Q ↔ zEv sc 152 607 [l0, l1, l2, l3] [.int 2, t0, t1, t2, t3, t4] h Q := zE_iconst dz152_606 (by decide +kernel)
theorem dz152_607 : decode (z_code 152) 607 = .ok (.iadd, 1) := by decide +kernel
theorem u152_607 : zEv sc 152 607 [l0, l1, l2, l3] [.int x2, .int x1, t0, t1, t2, t3] h Q ↔ zEv sc 152 608 [l0, l1, l2, l3] [.int (x1 + x2), t0, t1, t2, t3] h Q := zE_pure (q := (608, [l0, l1, l2, l3], [.int (x1 + x2), t0, t1, t2, t3])) dz152_607 rfl rfl rfl
theorem dz152_608 : decode (z_code 152) 608 = .ok (.iaload, 1) := by decide +kernel
theorem u152_608 (hi : vp_in x sc.1) : zEv sc 152 608 [l0, l1, l2, l3] [.int x, .ref 0, t0, t1, t2] h Q ↔ zEv sc 152 609 [l0, l1, l2, l3] [.int (sc.2 x.toNatClampNeg), t0, t1, t2] h Q := zE_sld dz152_608 hi
theorem dz152_609 : decode (z_code 152) 609 = .ok (.aload_n 0, 1) := by decide +kernel
theorem u152_609 : zEv sc 152 609 [.ref a, l1, l2, l3] [t0, t1, t2, t3] h Q ↔ zEv sc 152 610 [.ref a, l1, l2, l3] [.ref a, t0, t1, t2, t3] h Q := zE_pure (q := (610, [.ref a, l1, l2, l3], [.ref a, t0, t1, t2, t3])) dz152_609 rfl rfl rfl
theorem dz152_610 : decode (z_code 152) 610 = .ok (.iload_n 3, 1) := by decide +kernel
theorem u152_610 : zEv sc 152 610 [l0, l1, l2, .int x] [t0, t1, t2, t3, t4] h Q ↔ zEv sc 152 611 [l0, l1, l2, .int x] [.int x, t0, t1, t2, t3, t4] h Q := zE_pure (q := (611, [l0, l1, l2, .int x], [.int x, t0, t1, t2, t3, t4])) dz152_610 rfl rfl rfl
theorem dz152_611 : decode (z_code 152) 611 = .ok (.iconst 3, 1) := by decide +kernel
theorem u152_611 : zEv sc 152 611 [l0, l1, l2, l3] [t0, t1, t2, t3, t4, t5] h Q ↔ zEv sc 152 612 [l0, l1, l2, l3] [.int 3, t0, t1, t2, t3, t4, t5] h Q := zE_iconst dz152_611 (by decide +kernel)
theorem dz152_612 : decode (z_code 152) 612 = .ok (.iadd, 1) := by decide +kernel
theorem u152_612 : zEv sc 152 612 [l0, l1, l2, l3] [.int x2, .int x1, t0, t1, t2, t3, t4] h Q ↔ zEv sc 152 613 [l0, l1, l2, l3] [.int (x1 + x2), t0, t1, t2, t3, t4] h Q := zE_pure (q := (613, [l0, l1, l2, l3], [.int (x1 + x2), t0, t1, t2, t3, t4])) dz152_612 rfl rfl rfl
theorem dz152_613 : decode (z_code 152) 613 = .ok (.iaload, 1) := by decide +kernel
theorem u152_613 (hi : vp_in x sc.1) : zEv sc 152 613 [l0, l1, l2, l3] [.int x, .ref 0, t0, t1, t2, t3] h Q ↔ zEv sc 152 614 [l0, l1, l2, l3] [.int (sc.2 x.toNatClampNeg), t0, t1, t2, t3] h Q := zE_sld dz152_613 hi
theorem dz152_614 : decode (z_code 152) 614 = .ok (.invokevirtual 71, 3) := by decide +kernel
theorem u152_614 (ho : zO a 10) : zEv sc 152 614 [l0, l1, l2, l3] [.int z2, .int z1, .int z0, .ref a, t0] (zst p iv) Q ↔ zEv sc 134 0 [.ref a, .int z0, .int z1, .int z2, .null, .null] [] (zst p iv) (fun r h9 => zEv sc 152 617 [l0, l1, l2, l3] (r.toList ++ [t0]) h9 Q) := zE_call (kd := 0) (na := 4) (nr := 1) (as := [.ref a, .int z0, .int z1, .int z2]) (rest := [t0]) (Or.inl ⟨rfl, rfl⟩) dz152_614 (by decide +kernel : z_lk2 zCT (z_cls 152) 71 = some (134, 0, 902)) (fun z => by cases z) rfl rfl rfl (by decide +kernel) rfl (Or.inr (zE_rc ho))
theorem dz152_617 : decode (z_code 152) 617 = .ok (.if_icmp .eq 202, 3) := by decide +kernel
theorem u152_617 : zEv sc 152 617 [l0, l1, l2, l3] [.int x2, .int x1] h Q ↔ (if x1 = x2 then zEv sc 152 819 [l0, l1, l2, l3] [] h Q else zEv sc 152 620 [l0, l1, l2, l3] [] h Q) := zE_icP (P := x1 = x2) inferInstance 819 dz152_617 rfl rfl
theorem dz152_620 : decode (z_code 152) 620 = .ok (.iconst 0, 1) := by decide +kernel
theorem u152_620 : zEv sc 152 620 [l0, l1, l2, l3] [] h Q ↔ zEv sc 152 621 [l0, l1, l2, l3] [.int 0] h Q := zE_iconst dz152_620 (by decide +kernel)
theorem dz152_621 : decode (z_code 152) 621 = .ok (.ireturn, 1) := by decide +kernel
theorem u152_621 : zEv sc 152 621 [l0, l1, l2, l3] [.int x] h Q ↔ ((x = 0 ∨ x = 1) ∧ Q (some (.int x)) h) := zE_rz dz152_621 (by decide +kernel)
theorem dz152_536 : decode (z_code 152) 536 = .ok (.aload_n 1, 1) := by decide +kernel
theorem u152_536 : zEv sc 152 536 [l0, .ref a, l2, l3] [] h Q ↔ zEv sc 152 537 [l0, .ref a, l2, l3] [.ref a] h Q := zE_pure (q := (537, [l0, .ref a, l2, l3], [.ref a])) dz152_536 rfl rfl rfl
theorem dz152_537 : decode (z_code 152) 537 = .ok (.aload_n 0, 1) := by decide +kernel
theorem u152_537 : zEv sc 152 537 [.ref a, l1, l2, l3] [t0] h Q ↔ zEv sc 152 538 [.ref a, l1, l2, l3] [.ref a, t0] h Q := zE_pure (q := (538, [.ref a, l1, l2, l3], [.ref a, t0])) dz152_537 rfl rfl rfl
theorem dz152_538 : decode (z_code 152) 538 = .ok (.iload_n 3, 1) := by decide +kernel
theorem u152_538 : zEv sc 152 538 [l0, l1, l2, .int x] [t0, t1] h Q ↔ zEv sc 152 539 [l0, l1, l2, .int x] [.int x, t0, t1] h Q := zE_pure (q := (539, [l0, l1, l2, .int x], [.int x, t0, t1])) dz152_538 rfl rfl rfl
theorem dz152_539 : decode (z_code 152) 539 = .ok (.iconst 1, 1) := by decide +kernel
theorem u152_539 : zEv sc 152 539 [l0, l1, l2, l3] [t0, t1, t2] h Q ↔ zEv sc 152 540 [l0, l1, l2, l3] [.int 1, t0, t1, t2] h Q := zE_iconst dz152_539 (by decide +kernel)
theorem dz152_540 : decode (z_code 152) 540 = .ok (.iadd, 1) := by decide +kernel
theorem u152_540 : zEv sc 152 540 [l0, l1, l2, l3] [.int x2, .int x1, t0, t1] h Q ↔ zEv sc 152 541 [l0, l1, l2, l3] [.int (x1 + x2), t0, t1] h Q := zE_pure (q := (541, [l0, l1, l2, l3], [.int (x1 + x2), t0, t1])) dz152_540 rfl rfl rfl
theorem dz152_541 : decode (z_code 152) 541 = .ok (.iaload, 1) := by decide +kernel
theorem u152_541 (hi : vp_in x sc.1) : zEv sc 152 541 [l0, l1, l2, l3] [.int x, .ref 0, t0] h Q ↔ zEv sc 152 542 [l0, l1, l2, l3] [.int (sc.2 x.toNatClampNeg), t0] h Q := zE_sld dz152_541 hi
theorem dz152_542 : decode (z_code 152) 542 = .ok (.aload_n 0, 1) := by decide +kernel
theorem u152_542 : zEv sc 152 542 [.ref a, l1, l2, l3] [t0, t1] h Q ↔ zEv sc 152 543 [.ref a, l1, l2, l3] [.ref a, t0, t1] h Q := zE_pure (q := (543, [.ref a, l1, l2, l3], [.ref a, t0, t1])) dz152_542 rfl rfl rfl
theorem dz152_543 : decode (z_code 152) 543 = .ok (.iload_n 3, 1) := by decide +kernel
theorem u152_543 : zEv sc 152 543 [l0, l1, l2, .int x] [t0, t1, t2] h Q ↔ zEv sc 152 544 [l0, l1, l2, .int x] [.int x, t0, t1, t2] h Q := zE_pure (q := (544, [l0, l1, l2, .int x], [.int x, t0, t1, t2])) dz152_543 rfl rfl rfl
theorem dz152_544 : decode (z_code 152) 544 = .ok (.iconst 2, 1) := by decide +kernel
theorem u152_544 : zEv sc 152 544 [l0, l1, l2, l3] [t0, t1, t2, t3] h Q ↔ zEv sc 152 545 [l0, l1, l2, l3] [.int 2, t0, t1, t2, t3] h Q := zE_iconst dz152_544 (by decide +kernel)
theorem dz152_545 : decode (z_code 152) 545 = .ok (.iadd, 1) := by decide +kernel
theorem u152_545 : zEv sc 152 545 [l0, l1, l2, l3] [.int x2, .int x1, t0, t1, t2] h Q ↔ zEv sc 152 546 [l0, l1, l2, l3] [.int (x1 + x2), t0, t1, t2] h Q := zE_pure (q := (546, [l0, l1, l2, l3], [.int (x1 + x2), t0, t1, t2])) dz152_545 rfl rfl rfl
theorem dz152_546 : decode (z_code 152) 546 = .ok (.iaload, 1) := by decide +kernel
theorem u152_546 (hi : vp_in x sc.1) : zEv sc 152 546 [l0, l1, l2, l3] [.int x, .ref 0, t0, t1] h Q ↔ zEv sc 152 547 [l0, l1, l2, l3] [.int (sc.2 x.toNatClampNeg), t0, t1] h Q := zE_sld dz152_546 hi
theorem dz152_547 : decode (z_code 152) 547 = .ok (.aload_n 0, 1) := by decide +kernel
theorem u152_547 : zEv sc 152 547 [.ref a, l1, l2, l3] [t0, t1, t2] h Q ↔ zEv sc 152 548 [.ref a, l1, l2, l3] [.ref a, t0, t1, t2] h Q := zE_pure (q := (548, [.ref a, l1, l2, l3], [.ref a, t0, t1, t2])) dz152_547 rfl rfl rfl
theorem dz152_548 : decode (z_code 152) 548 = .ok (.iload_n 3, 1) := by decide +kernel
theorem u152_548 : zEv sc 152 548 [l0, l1, l2, .int x] [t0, t1, t2, t3] h Q ↔ zEv sc 152 549 [l0, l1, l2, .int x] [.int x, t0, t1, t2, t3] h Q := zE_pure (q := (549, [l0, l1, l2, .int x], [.int x, t0, t1, t2, t3])) dz152_548 rfl rfl rfl
theorem dz152_549 : decode (z_code 152) 549 = .ok (.iconst 3, 1) := by decide +kernel
theorem u152_549 : zEv sc 152 549 [l0, l1, l2, l3] [t0, t1, t2, t3, t4] h Q ↔ zEv sc 152 550 [l0, l1, l2, l3] [.int 3, t0, t1, t2, t3, t4] h Q := zE_iconst dz152_549 (by decide +kernel)
theorem dz152_550 : decode (z_code 152) 550 = .ok (.iadd, 1) := by decide +kernel
theorem u152_550 : zEv sc 152 550 [l0, l1, l2, l3] [.int x2, .int x1, t0, t1, t2, t3] h Q ↔ zEv sc 152 551 [l0, l1, l2, l3] [.int (x1 + x2), t0, t1, t2, t3] h Q := zE_pure (q := (551, [l0, l1, l2, l3], [.int (x1 + x2), t0, t1, t2, t3])) dz152_550 rfl rfl rfl
theorem dz152_551 : decode (z_code 152) 551 = .ok (.iaload, 1) := by decide +kernel
theorem u152_551 (hi : vp_in x sc.1) : zEv sc 152 551 [l0, l1, l2, l3] [.int x, .ref 0, t0, t1, t2] h Q ↔ zEv sc 152 552 [l0, l1, l2, l3] [.int (sc.2 x.toNatClampNeg), t0, t1, t2] h Q := zE_sld dz152_551 hi
theorem dz152_552 : decode (z_code 152) 552 = .ok (.invokevirtual 64, 3) := by decide +kernel
theorem u152_552 (ho : zO a 9) : zEv sc 152 552 [l0, l1, l2, l3] [.int z2, .int z1, .int z0, .ref a] (zst p iv) Q ↔ zEv sc 75 0 [.ref a, .int z0, .int z1, .int z2, .null, .null, .null] [] (zst p iv) (fun r h9 => zEv sc 152 555 [l0, l1, l2, l3] (r.toList ++ []) h9 Q) := zE_call (kd := 0) (na := 4) (nr := 0) (as := [.ref a, .int z0, .int z1, .int z2]) (rest := []) (Or.inl ⟨rfl, rfl⟩) dz152_552 (by decide +kernel : z_lk2 zCT (z_cls 152) 64 = some (75, 0, 555)) (fun z => by cases z) rfl rfl rfl (by decide +kernel) rfl (Or.inr (zE_rc ho))
theorem dz152_555 : decode (z_code 152) 555 = .ok (.aload_n 2, 1) := by decide +kernel
theorem u152_555 : zEv sc 152 555 [l0, l1, .ref a, l3] [t0] h Q ↔ zEv sc 152 556 [l0, l1, .ref a, l3] [.ref a, t0] h Q := zE_pure (q := (556, [l0, l1, .ref a, l3], [.ref a, t0])) dz152_555 rfl rfl rfl
theorem dz152_556 : decode (z_code 152) 556 = .ok (.aload_n 0, 1) := by decide +kernel
theorem u152_556 : zEv sc 152 556 [.ref a, l1, l2, l3] [t0, t1] h Q ↔ zEv sc 152 557 [.ref a, l1, l2, l3] [.ref a, t0, t1] h Q := zE_pure (q := (557, [.ref a, l1, l2, l3], [.ref a, t0, t1])) dz152_556 rfl rfl rfl
theorem dz152_557 : decode (z_code 152) 557 = .ok (.iload_n 3, 1) := by decide +kernel
theorem u152_557 : zEv sc 152 557 [l0, l1, l2, .int x] [t0, t1, t2] h Q ↔ zEv sc 152 558 [l0, l1, l2, .int x] [.int x, t0, t1, t2] h Q := zE_pure (q := (558, [l0, l1, l2, .int x], [.int x, t0, t1, t2])) dz152_557 rfl rfl rfl
theorem dz152_558 : decode (z_code 152) 558 = .ok (.iconst 1, 1) := by decide +kernel
theorem u152_558 : zEv sc 152 558 [l0, l1, l2, l3] [t0, t1, t2, t3] h Q ↔ zEv sc 152 559 [l0, l1, l2, l3] [.int 1, t0, t1, t2, t3] h Q := zE_iconst dz152_558 (by decide +kernel)
theorem dz152_559 : decode (z_code 152) 559 = .ok (.iadd, 1) := by decide +kernel
theorem u152_559 : zEv sc 152 559 [l0, l1, l2, l3] [.int x2, .int x1, t0, t1, t2] h Q ↔ zEv sc 152 560 [l0, l1, l2, l3] [.int (x1 + x2), t0, t1, t2] h Q := zE_pure (q := (560, [l0, l1, l2, l3], [.int (x1 + x2), t0, t1, t2])) dz152_559 rfl rfl rfl
theorem dz152_560 : decode (z_code 152) 560 = .ok (.iaload, 1) := by decide +kernel
theorem u152_560 (hi : vp_in x sc.1) : zEv sc 152 560 [l0, l1, l2, l3] [.int x, .ref 0, t0, t1] h Q ↔ zEv sc 152 561 [l0, l1, l2, l3] [.int (sc.2 x.toNatClampNeg), t0, t1] h Q := zE_sld dz152_560 hi
theorem dz152_561 : decode (z_code 152) 561 = .ok (.aload_n 0, 1) := by decide +kernel
theorem u152_561 : zEv sc 152 561 [.ref a, l1, l2, l3] [t0, t1, t2] h Q ↔ zEv sc 152 562 [.ref a, l1, l2, l3] [.ref a, t0, t1, t2] h Q := zE_pure (q := (562, [.ref a, l1, l2, l3], [.ref a, t0, t1, t2])) dz152_561 rfl rfl rfl
theorem dz152_562 : decode (z_code 152) 562 = .ok (.iload_n 3, 1) := by decide +kernel
theorem u152_562 : zEv sc 152 562 [l0, l1, l2, .int x] [t0, t1, t2, t3] h Q ↔ zEv sc 152 563 [l0, l1, l2, .int x] [.int x, t0, t1, t2, t3] h Q := zE_pure (q := (563, [l0, l1, l2, .int x], [.int x, t0, t1, t2, t3])) dz152_562 rfl rfl rfl
theorem dz152_563 : decode (z_code 152) 563 = .ok (.iconst 2, 1) := by decide +kernel
theorem u152_563 : zEv sc 152 563 [l0, l1, l2, l3] [t0, t1, t2, t3, t4] h Q ↔ zEv sc 152 564 [l0, l1, l2, l3] [.int 2, t0, t1, t2, t3, t4] h Q := zE_iconst dz152_563 (by decide +kernel)
theorem dz152_564 : decode (z_code 152) 564 = .ok (.iadd, 1) := by decide +kernel
theorem u152_564 : zEv sc 152 564 [l0, l1, l2, l3] [.int x2, .int x1, t0, t1, t2, t3] h Q ↔ zEv sc 152 565 [l0, l1, l2, l3] [.int (x1 + x2), t0, t1, t2, t3] h Q := zE_pure (q := (565, [l0, l1, l2, l3], [.int (x1 + x2), t0, t1, t2, t3])) dz152_564 rfl rfl rfl
theorem dz152_565 : decode (z_code 152) 565 = .ok (.iaload, 1) := by decide +kernel
theorem u152_565 (hi : vp_in x sc.1) : zEv sc 152 565 [l0, l1, l2, l3] [.int x, .ref 0, t0, t1, t2] h Q ↔ zEv sc 152 566 [l0, l1, l2, l3] [.int (sc.2 x.toNatClampNeg), t0, t1, t2] h Q := zE_sld dz152_565 hi
theorem dz152_566 : decode (z_code 152) 566 = .ok (.aload_n 0, 1) := by decide +kernel
theorem u152_566 : zEv sc 152 566 [.ref a, l1, l2, l3] [t0, t1, t2, t3] h Q ↔ zEv sc 152 567 [.ref a, l1, l2, l3] [.ref a, t0, t1, t2, t3] h Q := zE_pure (q := (567, [.ref a, l1, l2, l3], [.ref a, t0, t1, t2, t3])) dz152_566 rfl rfl rfl
theorem dz152_567 : decode (z_code 152) 567 = .ok (.iload_n 3, 1) := by decide +kernel
theorem u152_567 : zEv sc 152 567 [l0, l1, l2, .int x] [t0, t1, t2, t3, t4] h Q ↔ zEv sc 152 568 [l0, l1, l2, .int x] [.int x, t0, t1, t2, t3, t4] h Q := zE_pure (q := (568, [l0, l1, l2, .int x], [.int x, t0, t1, t2, t3, t4])) dz152_567 rfl rfl rfl
theorem dz152_568 : decode (z_code 152) 568 = .ok (.iconst 3, 1) := by decide +kernel
theorem u152_568 : zEv sc 152 568 [l0, l1, l2, l3] [t0, t1, t2, t3, t4, t5] h Q ↔ zEv sc 152 569 [l0, l1, l2, l3] [.int 3, t0, t1, t2, t3, t4, t5] h Q := zE_iconst dz152_568 (by decide +kernel)
theorem dz152_569 : decode (z_code 152) 569 = .ok (.iadd, 1) := by decide +kernel
theorem u152_569 : zEv sc 152 569 [l0, l1, l2, l3] [.int x2, .int x1, t0, t1, t2, t3, t4] h Q ↔ zEv sc 152 570 [l0, l1, l2, l3] [.int (x1 + x2), t0, t1, t2, t3, t4] h Q := zE_pure (q := (570, [l0, l1, l2, l3], [.int (x1 + x2), t0, t1, t2, t3, t4])) dz152_569 rfl rfl rfl
theorem dz152_570 : decode (z_code 152) 570 = .ok (.iaload, 1) := by decide +kernel
theorem u152_570 (hi : vp_in x sc.1) : zEv sc 152 570 [l0, l1, l2, l3] [.int x, .ref 0, t0, t1, t2, t3] h Q ↔ zEv sc 152 571 [l0, l1, l2, l3] [.int (sc.2 x.toNatClampNeg), t0, t1, t2, t3] h Q := zE_sld dz152_570 hi
theorem dz152_571 : decode (z_code 152) 571 = .ok (.invokevirtual 67, 3) := by decide +kernel
theorem u152_571 (ho : zO a 10) : zEv sc 152 571 [l0, l1, l2, l3] [.int z2, .int z1, .int z0, .ref a, t0] (zst p iv) Q ↔ zEv sc 133 0 [.ref a, .int z0, .int z1, .int z2, .null, .null] [] (zst p iv) (fun r h9 => zEv sc 152 574 [l0, l1, l2, l3] (r.toList ++ [t0]) h9 Q) := zE_call (kd := 0) (na := 4) (nr := 1) (as := [.ref a, .int z0, .int z1, .int z2]) (rest := [t0]) (Or.inl ⟨rfl, rfl⟩) dz152_571 (by decide +kernel : z_lk2 zCT (z_cls 152) 67 = some (133, 0, 898)) (fun z => by cases z) rfl rfl rfl (by decide +kernel) rfl (Or.inr (zE_rc ho))
theorem dz152_574 : decode (z_code 152) 574 = .ok (.if_icmp .eq 245, 3) := by decide +kernel
theorem u152_574 : zEv sc 152 574 [l0, l1, l2, l3] [.int x2, .int x1] h Q ↔ (if x1 = x2 then zEv sc 152 819 [l0, l1, l2, l3] [] h Q else zEv sc 152 577 [l0, l1, l2, l3] [] h Q) := zE_icP (P := x1 = x2) inferInstance 819 dz152_574 rfl rfl
theorem dz152_577 : decode (z_code 152) 577 = .ok (.iconst 0, 1) := by decide +kernel
theorem u152_577 : zEv sc 152 577 [l0, l1, l2, l3] [] h Q ↔ zEv sc 152 578 [l0, l1, l2, l3] [.int 0] h Q := zE_iconst dz152_577 (by decide +kernel)
theorem dz152_578 : decode (z_code 152) 578 = .ok (.ireturn, 1) := by decide +kernel
theorem u152_578 : zEv sc 152 578 [l0, l1, l2, l3] [.int x] h Q ↔ ((x = 0 ∨ x = 1) ∧ Q (some (.int x)) h) := zE_rz dz152_578 (by decide +kernel)
theorem dz152_493 : decode (z_code 152) 493 = .ok (.aload_n 1, 1) := by decide +kernel
theorem u152_493 : zEv sc 152 493 [l0, .ref a, l2, l3] [] h Q ↔ zEv sc 152 494 [l0, .ref a, l2, l3] [.ref a] h Q := zE_pure (q := (494, [l0, .ref a, l2, l3], [.ref a])) dz152_493 rfl rfl rfl
theorem dz152_494 : decode (z_code 152) 494 = .ok (.aload_n 0, 1) := by decide +kernel
theorem u152_494 : zEv sc 152 494 [.ref a, l1, l2, l3] [t0] h Q ↔ zEv sc 152 495 [.ref a, l1, l2, l3] [.ref a, t0] h Q := zE_pure (q := (495, [.ref a, l1, l2, l3], [.ref a, t0])) dz152_494 rfl rfl rfl
theorem dz152_495 : decode (z_code 152) 495 = .ok (.iload_n 3, 1) := by decide +kernel
theorem u152_495 : zEv sc 152 495 [l0, l1, l2, .int x] [t0, t1] h Q ↔ zEv sc 152 496 [l0, l1, l2, .int x] [.int x, t0, t1] h Q := zE_pure (q := (496, [l0, l1, l2, .int x], [.int x, t0, t1])) dz152_495 rfl rfl rfl
theorem dz152_496 : decode (z_code 152) 496 = .ok (.iconst 1, 1) := by decide +kernel
theorem u152_496 : zEv sc 152 496 [l0, l1, l2, l3] [t0, t1, t2] h Q ↔ zEv sc 152 497 [l0, l1, l2, l3] [.int 1, t0, t1, t2] h Q := zE_iconst dz152_496 (by decide +kernel)
theorem dz152_497 : decode (z_code 152) 497 = .ok (.iadd, 1) := by decide +kernel
theorem u152_497 : zEv sc 152 497 [l0, l1, l2, l3] [.int x2, .int x1, t0, t1] h Q ↔ zEv sc 152 498 [l0, l1, l2, l3] [.int (x1 + x2), t0, t1] h Q := zE_pure (q := (498, [l0, l1, l2, l3], [.int (x1 + x2), t0, t1])) dz152_497 rfl rfl rfl
theorem dz152_498 : decode (z_code 152) 498 = .ok (.iaload, 1) := by decide +kernel
theorem u152_498 (hi : vp_in x sc.1) : zEv sc 152 498 [l0, l1, l2, l3] [.int x, .ref 0, t0] h Q ↔ zEv sc 152 499 [l0, l1, l2, l3] [.int (sc.2 x.toNatClampNeg), t0] h Q := zE_sld dz152_498 hi
theorem dz152_499 : decode (z_code 152) 499 = .ok (.aload_n 0, 1) := by decide +kernel
theorem u152_499 : zEv sc 152 499 [.ref a, l1, l2, l3] [t0, t1] h Q ↔ zEv sc 152 500 [.ref a, l1, l2, l3] [.ref a, t0, t1] h Q := zE_pure (q := (500, [.ref a, l1, l2, l3], [.ref a, t0, t1])) dz152_499 rfl rfl rfl
theorem dz152_500 : decode (z_code 152) 500 = .ok (.iload_n 3, 1) := by decide +kernel
theorem u152_500 : zEv sc 152 500 [l0, l1, l2, .int x] [t0, t1, t2] h Q ↔ zEv sc 152 501 [l0, l1, l2, .int x] [.int x, t0, t1, t2] h Q := zE_pure (q := (501, [l0, l1, l2, .int x], [.int x, t0, t1, t2])) dz152_500 rfl rfl rfl
theorem dz152_501 : decode (z_code 152) 501 = .ok (.iconst 2, 1) := by decide +kernel
theorem u152_501 : zEv sc 152 501 [l0, l1, l2, l3] [t0, t1, t2, t3] h Q ↔ zEv sc 152 502 [l0, l1, l2, l3] [.int 2, t0, t1, t2, t3] h Q := zE_iconst dz152_501 (by decide +kernel)
theorem dz152_502 : decode (z_code 152) 502 = .ok (.iadd, 1) := by decide +kernel
theorem u152_502 : zEv sc 152 502 [l0, l1, l2, l3] [.int x2, .int x1, t0, t1, t2] h Q ↔ zEv sc 152 503 [l0, l1, l2, l3] [.int (x1 + x2), t0, t1, t2] h Q := zE_pure (q := (503, [l0, l1, l2, l3], [.int (x1 + x2), t0, t1, t2])) dz152_502 rfl rfl rfl
theorem dz152_503 : decode (z_code 152) 503 = .ok (.iaload, 1) := by decide +kernel
theorem u152_503 (hi : vp_in x sc.1) : zEv sc 152 503 [l0, l1, l2, l3] [.int x, .ref 0, t0, t1] h Q ↔ zEv sc 152 504 [l0, l1, l2, l3] [.int (sc.2 x.toNatClampNeg), t0, t1] h Q := zE_sld dz152_503 hi
theorem dz152_504 : decode (z_code 152) 504 = .ok (.aload_n 0, 1) := by decide +kernel
theorem u152_504 : zEv sc 152 504 [.ref a, l1, l2, l3] [t0, t1, t2] h Q ↔ zEv sc 152 505 [.ref a, l1, l2, l3] [.ref a, t0, t1, t2] h Q := zE_pure (q := (505, [.ref a, l1, l2, l3], [.ref a, t0, t1, t2])) dz152_504 rfl rfl rfl
theorem dz152_505 : decode (z_code 152) 505 = .ok (.iload_n 3, 1) := by decide +kernel
theorem u152_505 : zEv sc 152 505 [l0, l1, l2, .int x] [t0, t1, t2, t3] h Q ↔ zEv sc 152 506 [l0, l1, l2, .int x] [.int x, t0, t1, t2, t3] h Q := zE_pure (q := (506, [l0, l1, l2, .int x], [.int x, t0, t1, t2, t3])) dz152_505 rfl rfl rfl
theorem dz152_506 : decode (z_code 152) 506 = .ok (.iconst 3, 1) := by decide +kernel
theorem u152_506 : zEv sc 152 506 [l0, l1, l2, l3] [t0, t1, t2, t3, t4] h Q ↔ zEv sc 152 507 [l0, l1, l2, l3] [.int 3, t0, t1, t2, t3, t4] h Q := zE_iconst dz152_506 (by decide +kernel)
theorem dz152_507 : decode (z_code 152) 507 = .ok (.iadd, 1) := by decide +kernel
theorem u152_507 : zEv sc 152 507 [l0, l1, l2, l3] [.int x2, .int x1, t0, t1, t2, t3] h Q ↔ zEv sc 152 508 [l0, l1, l2, l3] [.int (x1 + x2), t0, t1, t2, t3] h Q := zE_pure (q := (508, [l0, l1, l2, l3], [.int (x1 + x2), t0, t1, t2, t3])) dz152_507 rfl rfl rfl
theorem dz152_508 : decode (z_code 152) 508 = .ok (.iaload, 1) := by decide +kernel
theorem u152_508 (hi : vp_in x sc.1) : zEv sc 152 508 [l0, l1, l2, l3] [.int x, .ref 0, t0, t1, t2] h Q ↔ zEv sc 152 509 [l0, l1, l2, l3] [.int (sc.2 x.toNatClampNeg), t0, t1, t2] h Q := zE_sld dz152_508 hi
theorem dz152_509 : decode (z_code 152) 509 = .ok (.invokevirtual 60, 3) := by decide +kernel
theorem u152_509 (ho : zO a 9) : zEv sc 152 509 [l0, l1, l2, l3] [.int z2, .int z1, .int z0, .ref a] (zst p iv) Q ↔ zEv sc 74 0 [.ref a, .int z0, .int z1, .int z2, .null] [] (zst p iv) (fun r h9 => zEv sc 152 512 [l0, l1, l2, l3] (r.toList ++ []) h9 Q) := zE_call (kd := 0) (na := 4) (nr := 0) (as := [.ref a, .int z0, .int z1, .int z2]) (rest := []) (Or.inl ⟨rfl, rfl⟩) dz152_509 (by decide +kernel : z_lk2 zCT (z_cls 152) 60 = some (74, 0, 537)) (fun z => by cases z) rfl rfl rfl (by decide +kernel) rfl (Or.inr (zE_rc ho))
theorem dz152_512 : decode (z_code 152) 512 = .ok (.aload_n 2, 1) := by decide +kernel
theorem u152_512 : zEv sc 152 512 [l0, l1, .ref a, l3] [t0] h Q ↔ zEv sc 152 513 [l0, l1, .ref a, l3] [.ref a, t0] h Q := zE_pure (q := (513, [l0, l1, .ref a, l3], [.ref a, t0])) dz152_512 rfl rfl rfl
theorem dz152_513 : decode (z_code 152) 513 = .ok (.aload_n 0, 1) := by decide +kernel
theorem u152_513 : zEv sc 152 513 [.ref a, l1, l2, l3] [t0, t1] h Q ↔ zEv sc 152 514 [.ref a, l1, l2, l3] [.ref a, t0, t1] h Q := zE_pure (q := (514, [.ref a, l1, l2, l3], [.ref a, t0, t1])) dz152_513 rfl rfl rfl
theorem dz152_514 : decode (z_code 152) 514 = .ok (.iload_n 3, 1) := by decide +kernel
theorem u152_514 : zEv sc 152 514 [l0, l1, l2, .int x] [t0, t1, t2] h Q ↔ zEv sc 152 515 [l0, l1, l2, .int x] [.int x, t0, t1, t2] h Q := zE_pure (q := (515, [l0, l1, l2, .int x], [.int x, t0, t1, t2])) dz152_514 rfl rfl rfl
theorem dz152_515 : decode (z_code 152) 515 = .ok (.iconst 1, 1) := by decide +kernel
theorem u152_515 : zEv sc 152 515 [l0, l1, l2, l3] [t0, t1, t2, t3] h Q ↔ zEv sc 152 516 [l0, l1, l2, l3] [.int 1, t0, t1, t2, t3] h Q := zE_iconst dz152_515 (by decide +kernel)
theorem dz152_516 : decode (z_code 152) 516 = .ok (.iadd, 1) := by decide +kernel
theorem u152_516 : zEv sc 152 516 [l0, l1, l2, l3] [.int x2, .int x1, t0, t1, t2] h Q ↔ zEv sc 152 517 [l0, l1, l2, l3] [.int (x1 + x2), t0, t1, t2] h Q := zE_pure (q := (517, [l0, l1, l2, l3], [.int (x1 + x2), t0, t1, t2])) dz152_516 rfl rfl rfl
theorem dz152_517 : decode (z_code 152) 517 = .ok (.iaload, 1) := by decide +kernel
theorem u152_517 (hi : vp_in x sc.1) : zEv sc 152 517 [l0, l1, l2, l3] [.int x, .ref 0, t0, t1] h Q ↔ zEv sc 152 518 [l0, l1, l2, l3] [.int (sc.2 x.toNatClampNeg), t0, t1] h Q := zE_sld dz152_517 hi
theorem dz152_518 : decode (z_code 152) 518 = .ok (.aload_n 0, 1) := by decide +kernel
theorem u152_518 : zEv sc 152 518 [.ref a, l1, l2, l3] [t0, t1, t2] h Q ↔ zEv sc 152 519 [.ref a, l1, l2, l3] [.ref a, t0, t1, t2] h Q := zE_pure (q := (519, [.ref a, l1, l2, l3], [.ref a, t0, t1, t2])) dz152_518 rfl rfl rfl
theorem dz152_519 : decode (z_code 152) 519 = .ok (.iload_n 3, 1) := by decide +kernel
theorem u152_519 : zEv sc 152 519 [l0, l1, l2, .int x] [t0, t1, t2, t3] h Q ↔ zEv sc 152 520 [l0, l1, l2, .int x] [.int x, t0, t1, t2, t3] h Q := zE_pure (q := (520, [l0, l1, l2, .int x], [.int x, t0, t1, t2, t3])) dz152_519 rfl rfl rfl
theorem dz152_520 : decode (z_code 152) 520 = .ok (.iconst 2, 1) := by decide +kernel
theorem u152_520 : zEv sc 152 520 [l0, l1, l2, l3] [t0, t1, t2, t3, t4] h Q ↔ zEv sc 152 521 [l0, l1, l2, l3] [.int 2, t0, t1, t2, t3, t4] h Q := zE_iconst dz152_520 (by decide +kernel)
theorem dz152_521 : decode (z_code 152) 521 = .ok (.iadd, 1) := by decide +kernel
theorem u152_521 : zEv sc 152 521 [l0, l1, l2, l3] [.int x2, .int x1, t0, t1, t2, t3] h Q ↔ zEv sc 152 522 [l0, l1, l2, l3] [.int (x1 + x2), t0, t1, t2, t3] h Q := zE_pure (q := (522, [l0, l1, l2, l3], [.int (x1 + x2), t0, t1, t2, t3])) dz152_521 rfl rfl rfl
theorem dz152_522 : decode (z_code 152) 522 = .ok (.iaload, 1) := by decide +kernel
theorem u152_522 (hi : vp_in x sc.1) : zEv sc 152 522 [l0, l1, l2, l3] [.int x, .ref 0, t0, t1, t2] h Q ↔ zEv sc 152 523 [l0, l1, l2, l3] [.int (sc.2 x.toNatClampNeg), t0, t1, t2] h Q := zE_sld dz152_522 hi
theorem dz152_523 : decode (z_code 152) 523 = .ok (.aload_n 0, 1) := by decide +kernel
theorem u152_523 : zEv sc 152 523 [.ref a, l1, l2, l3] [t0, t1, t2, t3] h Q ↔ zEv sc 152 524 [.ref a, l1, l2, l3] [.ref a, t0, t1, t2, t3] h Q := zE_pure (q := (524, [.ref a, l1, l2, l3], [.ref a, t0, t1, t2, t3])) dz152_523 rfl rfl rfl
theorem dz152_524 : decode (z_code 152) 524 = .ok (.iload_n 3, 1) := by decide +kernel
theorem u152_524 : zEv sc 152 524 [l0, l1, l2, .int x] [t0, t1, t2, t3, t4] h Q ↔ zEv sc 152 525 [l0, l1, l2, .int x] [.int x, t0, t1, t2, t3, t4] h Q := zE_pure (q := (525, [l0, l1, l2, .int x], [.int x, t0, t1, t2, t3, t4])) dz152_524 rfl rfl rfl
theorem dz152_525 : decode (z_code 152) 525 = .ok (.iconst 3, 1) := by decide +kernel
theorem u152_525 : zEv sc 152 525 [l0, l1, l2, l3] [t0, t1, t2, t3, t4, t5] h Q ↔ zEv sc 152 526 [l0, l1, l2, l3] [.int 3, t0, t1, t2, t3, t4, t5] h Q := zE_iconst dz152_525 (by decide +kernel)
theorem dz152_526 : decode (z_code 152) 526 = .ok (.iadd, 1) := by decide +kernel
theorem u152_526 : zEv sc 152 526 [l0, l1, l2, l3] [.int x2, .int x1, t0, t1, t2, t3, t4] h Q ↔ zEv sc 152 527 [l0, l1, l2, l3] [.int (x1 + x2), t0, t1, t2, t3, t4] h Q := zE_pure (q := (527, [l0, l1, l2, l3], [.int (x1 + x2), t0, t1, t2, t3, t4])) dz152_526 rfl rfl rfl
theorem dz152_527 : decode (z_code 152) 527 = .ok (.iaload, 1) := by decide +kernel
theorem u152_527 (hi : vp_in x sc.1) : zEv sc 152 527 [l0, l1, l2, l3] [.int x, .ref 0, t0, t1, t2, t3] h Q ↔ zEv sc 152 528 [l0, l1, l2, l3] [.int (sc.2 x.toNatClampNeg), t0, t1, t2, t3] h Q := zE_sld dz152_527 hi
theorem dz152_528 : decode (z_code 152) 528 = .ok (.invokevirtual 63, 3) := by decide +kernel
theorem u152_528 (ho : zO a 10) : zEv sc 152 528 [l0, l1, l2, l3] [.int z2, .int z1, .int z0, .ref a, t0] (zst p iv) Q ↔ zEv sc 132 0 [.ref a, .int z0, .int z1, .int z2] [] (zst p iv) (fun r h9 => zEv sc 152 531 [l0, l1, l2, l3] (r.toList ++ [t0]) h9 Q) := zE_call (kd := 0) (na := 4) (nr := 1) (as := [.ref a, .int z0, .int z1, .int z2]) (rest := [t0]) (Or.inl ⟨rfl, rfl⟩) dz152_528 (by decide +kernel : z_lk2 zCT (z_cls 152) 63 = some (132, 0, 883)) (fun z => by cases z) rfl rfl rfl (by decide +kernel) rfl (Or.inr (zE_rc ho))
theorem dz152_531 : decode (z_code 152) 531 = .ok (.if_icmp .eq 288, 3) := by decide +kernel
theorem u152_531 : zEv sc 152 531 [l0, l1, l2, l3] [.int x2, .int x1] h Q ↔ (if x1 = x2 then zEv sc 152 819 [l0, l1, l2, l3] [] h Q else zEv sc 152 534 [l0, l1, l2, l3] [] h Q) := zE_icP (P := x1 = x2) inferInstance 819 dz152_531 rfl rfl
theorem dz152_534 : decode (z_code 152) 534 = .ok (.iconst 0, 1) := by decide +kernel
theorem u152_534 : zEv sc 152 534 [l0, l1, l2, l3] [] h Q ↔ zEv sc 152 535 [l0, l1, l2, l3] [.int 0] h Q := zE_iconst dz152_534 (by decide +kernel)
theorem dz152_535 : decode (z_code 152) 535 = .ok (.ireturn, 1) := by decide +kernel
theorem u152_535 : zEv sc 152 535 [l0, l1, l2, l3] [.int x] h Q ↔ ((x = 0 ∨ x = 1) ∧ Q (some (.int x)) h) := zE_rz dz152_535 (by decide +kernel)
theorem dz152_470 : decode (z_code 152) 470 = .ok (.aload_n 1, 1) := by decide +kernel
theorem u152_470 : zEv sc 152 470 [l0, .ref a, l2, l3] [] h Q ↔ zEv sc 152 471 [l0, .ref a, l2, l3] [.ref a] h Q := zE_pure (q := (471, [l0, .ref a, l2, l3], [.ref a])) dz152_470 rfl rfl rfl
theorem dz152_471 : decode (z_code 152) 471 = .ok (.aload_n 0, 1) := by decide +kernel
theorem u152_471 : zEv sc 152 471 [.ref a, l1, l2, l3] [t0] h Q ↔ zEv sc 152 472 [.ref a, l1, l2, l3] [.ref a, t0] h Q := zE_pure (q := (472, [.ref a, l1, l2, l3], [.ref a, t0])) dz152_471 rfl rfl rfl
theorem dz152_472 : decode (z_code 152) 472 = .ok (.iload_n 3, 1) := by decide +kernel
theorem u152_472 : zEv sc 152 472 [l0, l1, l2, .int x] [t0, t1] h Q ↔ zEv sc 152 473 [l0, l1, l2, .int x] [.int x, t0, t1] h Q := zE_pure (q := (473, [l0, l1, l2, .int x], [.int x, t0, t1])) dz152_472 rfl rfl rfl
theorem dz152_473 : decode (z_code 152) 473 = .ok (.iconst 1, 1) := by decide +kernel
theorem u152_473 : zEv sc 152 473 [l0, l1, l2, l3] [t0, t1, t2] h Q ↔ zEv sc 152 474 [l0, l1, l2, l3] [.int 1, t0, t1, t2] h Q := zE_iconst dz152_473 (by decide +kernel)
theorem dz152_474 : decode (z_code 152) 474 = .ok (.iadd, 1) := by decide +kernel
theorem u152_474 : zEv sc 152 474 [l0, l1, l2, l3] [.int x2, .int x1, t0, t1] h Q ↔ zEv sc 152 475 [l0, l1, l2, l3] [.int (x1 + x2), t0, t1] h Q := zE_pure (q := (475, [l0, l1, l2, l3], [.int (x1 + x2), t0, t1])) dz152_474 rfl rfl rfl
theorem dz152_475 : decode (z_code 152) 475 = .ok (.iaload, 1) := by decide +kernel
theorem u152_475 (hi : vp_in x sc.1) : zEv sc 152 475 [l0, l1, l2, l3] [.int x, .ref 0, t0] h Q ↔ zEv sc 152 476 [l0, l1, l2, l3] [.int (sc.2 x.toNatClampNeg), t0] h Q := zE_sld dz152_475 hi
theorem dz152_476 : decode (z_code 152) 476 = .ok (.invokevirtual 56, 3) := by decide +kernel
theorem u152_476 (ho : zO a 9) : zEv sc 152 476 [l0, l1, l2, l3] [.int z0, .ref a] (zst p iv) Q ↔ zEv sc 71 0 [.ref a, .int z0, .null, .null, .null] [] (zst p iv) (fun r h9 => zEv sc 152 479 [l0, l1, l2, l3] (r.toList ++ []) h9 Q) := zE_call (kd := 0) (na := 2) (nr := 0) (as := [.ref a, .int z0]) (rest := []) (Or.inl ⟨rfl, rfl⟩) dz152_476 (by decide +kernel : z_lk2 zCT (z_cls 152) 56 = some (71, 0, 485)) (fun z => by cases z) rfl rfl rfl (by decide +kernel) rfl (Or.inr (zE_rc ho))
theorem dz152_479 : decode (z_code 152) 479 = .ok (.aload_n 2, 1) := by decide +kernel
theorem u152_479 : zEv sc 152 479 [l0, l1, .ref a, l3] [t0] h Q ↔ zEv sc 152 480 [l0, l1, .ref a, l3] [.ref a, t0] h Q := zE_pure (q := (480, [l0, l1, .ref a, l3], [.ref a, t0])) dz152_479 rfl rfl rfl
theorem dz152_480 : decode (z_code 152) 480 = .ok (.aload_n 0, 1) := by decide +kernel
theorem u152_480 : zEv sc 152 480 [.ref a, l1, l2, l3] [t0, t1] h Q ↔ zEv sc 152 481 [.ref a, l1, l2, l3] [.ref a, t0, t1] h Q := zE_pure (q := (481, [.ref a, l1, l2, l3], [.ref a, t0, t1])) dz152_480 rfl rfl rfl
theorem dz152_481 : decode (z_code 152) 481 = .ok (.iload_n 3, 1) := by decide +kernel
theorem u152_481 : zEv sc 152 481 [l0, l1, l2, .int x] [t0, t1, t2] h Q ↔ zEv sc 152 482 [l0, l1, l2, .int x] [.int x, t0, t1, t2] h Q := zE_pure (q := (482, [l0, l1, l2, .int x], [.int x, t0, t1, t2])) dz152_481 rfl rfl rfl
theorem dz152_482 : decode (z_code 152) 482 = .ok (.iconst 1, 1) := by decide +kernel
theorem u152_482 : zEv sc 152 482 [l0, l1, l2, l3] [t0, t1, t2, t3] h Q ↔ zEv sc 152 483 [l0, l1, l2, l3] [.int 1, t0, t1, t2, t3] h Q := zE_iconst dz152_482 (by decide +kernel)
theorem dz152_483 : decode (z_code 152) 483 = .ok (.iadd, 1) := by decide +kernel
theorem u152_483 : zEv sc 152 483 [l0, l1, l2, l3] [.int x2, .int x1, t0, t1, t2] h Q ↔ zEv sc 152 484 [l0, l1, l2, l3] [.int (x1 + x2), t0, t1, t2] h Q := zE_pure (q := (484, [l0, l1, l2, l3], [.int (x1 + x2), t0, t1, t2])) dz152_483 rfl rfl rfl
theorem dz152_484 : decode (z_code 152) 484 = .ok (.iaload, 1) := by decide +kernel
theorem u152_484 (hi : vp_in x sc.1) : zEv sc 152 484 [l0, l1, l2, l3] [.int x, .ref 0, t0, t1] h Q ↔ zEv sc 152 485 [l0, l1, l2, l3] [.int (sc.2 x.toNatClampNeg), t0, t1] h Q := zE_sld dz152_484 hi
theorem dz152_485 : decode (z_code 152) 485 = .ok (.invokevirtual 59, 3) := by decide +kernel
theorem u152_485 (ho : zO a 10) : zEv sc 152 485 [l0, l1, l2, l3] [.int z0, .ref a, t0] (zst p iv) Q ↔ zEv sc 127 0 [.ref a, .int z0] [] (zst p iv) (fun r h9 => zEv sc 152 488 [l0, l1, l2, l3] (r.toList ++ [t0]) h9 Q) := zE_call (kd := 0) (na := 2) (nr := 1) (as := [.ref a, .int z0]) (rest := [t0]) (Or.inl ⟨rfl, rfl⟩) dz152_485 (by decide +kernel : z_lk2 zCT (z_cls 152) 59 = some (127, 0, 834)) (fun z => by cases z) rfl rfl rfl (by decide +kernel) rfl (Or.inr (zE_rc ho))
theorem dz152_488 : decode (z_code 152) 488 = .ok (.if_icmp .eq 331, 3) := by decide +kernel
theorem u152_488 : zEv sc 152 488 [l0, l1, l2, l3] [.int x2, .int x1] h Q ↔ (if x1 = x2 then zEv sc 152 819 [l0, l1, l2, l3] [] h Q else zEv sc 152 491 [l0, l1, l2, l3] [] h Q) := zE_icP (P := x1 = x2) inferInstance 819 dz152_488 rfl rfl
theorem dz152_491 : decode (z_code 152) 491 = .ok (.iconst 0, 1) := by decide +kernel
theorem u152_491 : zEv sc 152 491 [l0, l1, l2, l3] [] h Q ↔ zEv sc 152 492 [l0, l1, l2, l3] [.int 0] h Q := zE_iconst dz152_491 (by decide +kernel)
theorem dz152_492 : decode (z_code 152) 492 = .ok (.ireturn, 1) := by decide +kernel
theorem u152_492 : zEv sc 152 492 [l0, l1, l2, l3] [.int x] h Q ↔ ((x = 0 ∨ x = 1) ∧ Q (some (.int x)) h) := zE_rz dz152_492 (by decide +kernel)
theorem dz152_437 : decode (z_code 152) 437 = .ok (.aload_n 1, 1) := by decide +kernel
theorem u152_437 : zEv sc 152 437 [l0, .ref a, l2, l3] [] h Q ↔ zEv sc 152 438 [l0, .ref a, l2, l3] [.ref a] h Q := zE_pure (q := (438, [l0, .ref a, l2, l3], [.ref a])) dz152_437 rfl rfl rfl
theorem dz152_438 : decode (z_code 152) 438 = .ok (.aload_n 0, 1) := by decide +kernel
theorem u152_438 : zEv sc 152 438 [.ref a, l1, l2, l3] [t0] h Q ↔ zEv sc 152 439 [.ref a, l1, l2, l3] [.ref a, t0] h Q := zE_pure (q := (439, [.ref a, l1, l2, l3], [.ref a, t0])) dz152_438 rfl rfl rfl
theorem dz152_439 : decode (z_code 152) 439 = .ok (.iload_n 3, 1) := by decide +kernel
theorem u152_439 : zEv sc 152 439 [l0, l1, l2, .int x] [t0, t1] h Q ↔ zEv sc 152 440 [l0, l1, l2, .int x] [.int x, t0, t1] h Q := zE_pure (q := (440, [l0, l1, l2, .int x], [.int x, t0, t1])) dz152_439 rfl rfl rfl
theorem dz152_440 : decode (z_code 152) 440 = .ok (.iconst 1, 1) := by decide +kernel
theorem u152_440 : zEv sc 152 440 [l0, l1, l2, l3] [t0, t1, t2] h Q ↔ zEv sc 152 441 [l0, l1, l2, l3] [.int 1, t0, t1, t2] h Q := zE_iconst dz152_440 (by decide +kernel)
theorem dz152_441 : decode (z_code 152) 441 = .ok (.iadd, 1) := by decide +kernel
theorem u152_441 : zEv sc 152 441 [l0, l1, l2, l3] [.int x2, .int x1, t0, t1] h Q ↔ zEv sc 152 442 [l0, l1, l2, l3] [.int (x1 + x2), t0, t1] h Q := zE_pure (q := (442, [l0, l1, l2, l3], [.int (x1 + x2), t0, t1])) dz152_441 rfl rfl rfl
theorem dz152_442 : decode (z_code 152) 442 = .ok (.iaload, 1) := by decide +kernel
theorem u152_442 (hi : vp_in x sc.1) : zEv sc 152 442 [l0, l1, l2, l3] [.int x, .ref 0, t0] h Q ↔ zEv sc 152 443 [l0, l1, l2, l3] [.int (sc.2 x.toNatClampNeg), t0] h Q := zE_sld dz152_442 hi
theorem dz152_443 : decode (z_code 152) 443 = .ok (.aload_n 0, 1) := by decide +kernel
theorem u152_443 : zEv sc 152 443 [.ref a, l1, l2, l3] [t0, t1] h Q ↔ zEv sc 152 444 [.ref a, l1, l2, l3] [.ref a, t0, t1] h Q := zE_pure (q := (444, [.ref a, l1, l2, l3], [.ref a, t0, t1])) dz152_443 rfl rfl rfl
theorem dz152_444 : decode (z_code 152) 444 = .ok (.iload_n 3, 1) := by decide +kernel
theorem u152_444 : zEv sc 152 444 [l0, l1, l2, .int x] [t0, t1, t2] h Q ↔ zEv sc 152 445 [l0, l1, l2, .int x] [.int x, t0, t1, t2] h Q := zE_pure (q := (445, [l0, l1, l2, .int x], [.int x, t0, t1, t2])) dz152_444 rfl rfl rfl
theorem dz152_445 : decode (z_code 152) 445 = .ok (.iconst 2, 1) := by decide +kernel
theorem u152_445 : zEv sc 152 445 [l0, l1, l2, l3] [t0, t1, t2, t3] h Q ↔ zEv sc 152 446 [l0, l1, l2, l3] [.int 2, t0, t1, t2, t3] h Q := zE_iconst dz152_445 (by decide +kernel)
theorem dz152_446 : decode (z_code 152) 446 = .ok (.iadd, 1) := by decide +kernel
theorem u152_446 : zEv sc 152 446 [l0, l1, l2, l3] [.int x2, .int x1, t0, t1, t2] h Q ↔ zEv sc 152 447 [l0, l1, l2, l3] [.int (x1 + x2), t0, t1, t2] h Q := zE_pure (q := (447, [l0, l1, l2, l3], [.int (x1 + x2), t0, t1, t2])) dz152_446 rfl rfl rfl
theorem dz152_447 : decode (z_code 152) 447 = .ok (.iaload, 1) := by decide +kernel
theorem u152_447 (hi : vp_in x sc.1) : zEv sc 152 447 [l0, l1, l2, l3] [.int x, .ref 0, t0, t1] h Q ↔ zEv sc 152 448 [l0, l1, l2, l3] [.int (sc.2 x.toNatClampNeg), t0, t1] h Q := zE_sld dz152_447 hi
theorem dz152_448 : decode (z_code 152) 448 = .ok (.invokevirtual 52, 3) := by decide +kernel
theorem u152_448 (ho : zO a 9) : zEv sc 152 448 [l0, l1, l2, l3] [.int z1, .int z0, .ref a] (zst p iv) Q ↔ zEv sc 68 0 [.ref a, .int z0, .int z1, .null, .null] [] (zst p iv) (fun r h9 => zEv sc 152 451 [l0, l1, l2, l3] (r.toList ++ []) h9 Q) := zE_call (kd := 0) (na := 3) (nr := 0) (as := [.ref a, .int z0, .int z1]) (rest := []) (Or.inl ⟨rfl, rfl⟩) dz152_448 (by decide +kernel : z_lk2 zCT (z_cls 152) 52 = some (68, 0, 479)) (fun z => by cases z) rfl rfl rfl (by decide +kernel) rfl (Or.inr (zE_rc ho))
theorem dz152_451 : decode (z_code 152) 451 = .ok (.aload_n 2, 1) := by decide +kernel
theorem u152_451 : zEv sc 152 451 [l0, l1, .ref a, l3] [t0] h Q ↔ zEv sc 152 452 [l0, l1, .ref a, l3] [.ref a, t0] h Q := zE_pure (q := (452, [l0, l1, .ref a, l3], [.ref a, t0])) dz152_451 rfl rfl rfl
theorem dz152_452 : decode (z_code 152) 452 = .ok (.aload_n 0, 1) := by decide +kernel
theorem u152_452 : zEv sc 152 452 [.ref a, l1, l2, l3] [t0, t1] h Q ↔ zEv sc 152 453 [.ref a, l1, l2, l3] [.ref a, t0, t1] h Q := zE_pure (q := (453, [.ref a, l1, l2, l3], [.ref a, t0, t1])) dz152_452 rfl rfl rfl
theorem dz152_453 : decode (z_code 152) 453 = .ok (.iload_n 3, 1) := by decide +kernel
theorem u152_453 : zEv sc 152 453 [l0, l1, l2, .int x] [t0, t1, t2] h Q ↔ zEv sc 152 454 [l0, l1, l2, .int x] [.int x, t0, t1, t2] h Q := zE_pure (q := (454, [l0, l1, l2, .int x], [.int x, t0, t1, t2])) dz152_453 rfl rfl rfl
theorem dz152_454 : decode (z_code 152) 454 = .ok (.iconst 1, 1) := by decide +kernel
theorem u152_454 : zEv sc 152 454 [l0, l1, l2, l3] [t0, t1, t2, t3] h Q ↔ zEv sc 152 455 [l0, l1, l2, l3] [.int 1, t0, t1, t2, t3] h Q := zE_iconst dz152_454 (by decide +kernel)
theorem dz152_455 : decode (z_code 152) 455 = .ok (.iadd, 1) := by decide +kernel
theorem u152_455 : zEv sc 152 455 [l0, l1, l2, l3] [.int x2, .int x1, t0, t1, t2] h Q ↔ zEv sc 152 456 [l0, l1, l2, l3] [.int (x1 + x2), t0, t1, t2] h Q := zE_pure (q := (456, [l0, l1, l2, l3], [.int (x1 + x2), t0, t1, t2])) dz152_455 rfl rfl rfl
theorem dz152_456 : decode (z_code 152) 456 = .ok (.iaload, 1) := by decide +kernel
theorem u152_456 (hi : vp_in x sc.1) : zEv sc 152 456 [l0, l1, l2, l3] [.int x, .ref 0, t0, t1] h Q ↔ zEv sc 152 457 [l0, l1, l2, l3] [.int (sc.2 x.toNatClampNeg), t0, t1] h Q := zE_sld dz152_456 hi
theorem dz152_457 : decode (z_code 152) 457 = .ok (.aload_n 0, 1) := by decide +kernel
theorem u152_457 : zEv sc 152 457 [.ref a, l1, l2, l3] [t0, t1, t2] h Q ↔ zEv sc 152 458 [.ref a, l1, l2, l3] [.ref a, t0, t1, t2] h Q := zE_pure (q := (458, [.ref a, l1, l2, l3], [.ref a, t0, t1, t2])) dz152_457 rfl rfl rfl
theorem dz152_458 : decode (z_code 152) 458 = .ok (.iload_n 3, 1) := by decide +kernel
theorem u152_458 : zEv sc 152 458 [l0, l1, l2, .int x] [t0, t1, t2, t3] h Q ↔ zEv sc 152 459 [l0, l1, l2, .int x] [.int x, t0, t1, t2, t3] h Q := zE_pure (q := (459, [l0, l1, l2, .int x], [.int x, t0, t1, t2, t3])) dz152_458 rfl rfl rfl
theorem dz152_459 : decode (z_code 152) 459 = .ok (.iconst 2, 1) := by decide +kernel
theorem u152_459 : zEv sc 152 459 [l0, l1, l2, l3] [t0, t1, t2, t3, t4] h Q ↔ zEv sc 152 460 [l0, l1, l2, l3] [.int 2, t0, t1, t2, t3, t4] h Q := zE_iconst dz152_459 (by decide +kernel)
theorem dz152_460 : decode (z_code 152) 460 = .ok (.iadd, 1) := by decide +kernel
theorem u152_460 : zEv sc 152 460 [l0, l1, l2, l3] [.int x2, .int x1, t0, t1, t2, t3] h Q ↔ zEv sc 152 461 [l0, l1, l2, l3] [.int (x1 + x2), t0, t1, t2, t3] h Q := zE_pure (q := (461, [l0, l1, l2, l3], [.int (x1 + x2), t0, t1, t2, t3])) dz152_460 rfl rfl rfl
theorem dz152_461 : decode (z_code 152) 461 = .ok (.iaload, 1) := by decide +kernel
theorem u152_461 (hi : vp_in x sc.1) : zEv sc 152 461 [l0, l1, l2, l3] [.int x, .ref 0, t0, t1, t2] h Q ↔ zEv sc 152 462 [l0, l1, l2, l3] [.int (sc.2 x.toNatClampNeg), t0, t1, t2] h Q := zE_sld dz152_461 hi
theorem dz152_462 : decode (z_code 152) 462 = .ok (.invokevirtual 55, 3) := by decide +kernel
theorem u152_462 (ho : zO a 10) : zEv sc 152 462 [l0, l1, l2, l3] [.int z1, .int z0, .ref a, t0] (zst p iv) Q ↔ zEv sc 126 0 [.ref a, .int z0, .int z1, .null] [] (zst p iv) (fun r h9 => zEv sc 152 465 [l0, l1, l2, l3] (r.toList ++ [t0]) h9 Q) := zE_call (kd := 0) (na := 3) (nr := 1) (as := [.ref a, .int z0, .int z1]) (rest := [t0]) (Or.inl ⟨rfl, rfl⟩) dz152_462 (by decide +kernel : z_lk2 zCT (z_cls 152) 55 = some (126, 0, 829)) (fun z => by cases z) rfl rfl rfl (by decide +kernel) rfl (Or.inr (zE_rc ho))
theorem dz152_465 : decode (z_code 152) 465 = .ok (.if_icmp .eq 354, 3) := by decide +kernel
theorem u152_465 : zEv sc 152 465 [l0, l1, l2, l3] [.int x2, .int x1] h Q ↔ (if x1 = x2 then zEv sc 152 819 [l0, l1, l2, l3] [] h Q else zEv sc 152 468 [l0, l1, l2, l3] [] h Q) := zE_icP (P := x1 = x2) inferInstance 819 dz152_465 rfl rfl
theorem dz152_468 : decode (z_code 152) 468 = .ok (.iconst 0, 1) := by decide +kernel
theorem u152_468 : zEv sc 152 468 [l0, l1, l2, l3] [] h Q ↔ zEv sc 152 469 [l0, l1, l2, l3] [.int 0] h Q := zE_iconst dz152_468 (by decide +kernel)
theorem dz152_469 : decode (z_code 152) 469 = .ok (.ireturn, 1) := by decide +kernel
theorem u152_469 : zEv sc 152 469 [l0, l1, l2, l3] [.int x] h Q ↔ ((x = 0 ∨ x = 1) ∧ Q (some (.int x)) h) := zE_rz dz152_469 (by decide +kernel)
theorem dz152_394 : decode (z_code 152) 394 = .ok (.aload_n 1, 1) := by decide +kernel
theorem u152_394 : zEv sc 152 394 [l0, .ref a, l2, l3] [] h Q ↔ zEv sc 152 395 [l0, .ref a, l2, l3] [.ref a] h Q := zE_pure (q := (395, [l0, .ref a, l2, l3], [.ref a])) dz152_394 rfl rfl rfl
theorem dz152_395 : decode (z_code 152) 395 = .ok (.aload_n 0, 1) := by decide +kernel
theorem u152_395 : zEv sc 152 395 [.ref a, l1, l2, l3] [t0] h Q ↔ zEv sc 152 396 [.ref a, l1, l2, l3] [.ref a, t0] h Q := zE_pure (q := (396, [.ref a, l1, l2, l3], [.ref a, t0])) dz152_395 rfl rfl rfl
theorem dz152_396 : decode (z_code 152) 396 = .ok (.iload_n 3, 1) := by decide +kernel
theorem u152_396 : zEv sc 152 396 [l0, l1, l2, .int x] [t0, t1] h Q ↔ zEv sc 152 397 [l0, l1, l2, .int x] [.int x, t0, t1] h Q := zE_pure (q := (397, [l0, l1, l2, .int x], [.int x, t0, t1])) dz152_396 rfl rfl rfl
theorem dz152_397 : decode (z_code 152) 397 = .ok (.iconst 1, 1) := by decide +kernel
theorem u152_397 : zEv sc 152 397 [l0, l1, l2, l3] [t0, t1, t2] h Q ↔ zEv sc 152 398 [l0, l1, l2, l3] [.int 1, t0, t1, t2] h Q := zE_iconst dz152_397 (by decide +kernel)
theorem dz152_398 : decode (z_code 152) 398 = .ok (.iadd, 1) := by decide +kernel
theorem u152_398 : zEv sc 152 398 [l0, l1, l2, l3] [.int x2, .int x1, t0, t1] h Q ↔ zEv sc 152 399 [l0, l1, l2, l3] [.int (x1 + x2), t0, t1] h Q := zE_pure (q := (399, [l0, l1, l2, l3], [.int (x1 + x2), t0, t1])) dz152_398 rfl rfl rfl
theorem dz152_399 : decode (z_code 152) 399 = .ok (.iaload, 1) := by decide +kernel
theorem u152_399 (hi : vp_in x sc.1) : zEv sc 152 399 [l0, l1, l2, l3] [.int x, .ref 0, t0] h Q ↔ zEv sc 152 400 [l0, l1, l2, l3] [.int (sc.2 x.toNatClampNeg), t0] h Q := zE_sld dz152_399 hi
theorem dz152_400 : decode (z_code 152) 400 = .ok (.aload_n 0, 1) := by decide +kernel
theorem u152_400 : zEv sc 152 400 [.ref a, l1, l2, l3] [t0, t1] h Q ↔ zEv sc 152 401 [.ref a, l1, l2, l3] [.ref a, t0, t1] h Q := zE_pure (q := (401, [.ref a, l1, l2, l3], [.ref a, t0, t1])) dz152_400 rfl rfl rfl
theorem dz152_401 : decode (z_code 152) 401 = .ok (.iload_n 3, 1) := by decide +kernel
theorem u152_401 : zEv sc 152 401 [l0, l1, l2, .int x] [t0, t1, t2] h Q ↔ zEv sc 152 402 [l0, l1, l2, .int x] [.int x, t0, t1, t2] h Q := zE_pure (q := (402, [l0, l1, l2, .int x], [.int x, t0, t1, t2])) dz152_401 rfl rfl rfl
theorem dz152_402 : decode (z_code 152) 402 = .ok (.iconst 2, 1) := by decide +kernel
theorem u152_402 : zEv sc 152 402 [l0, l1, l2, l3] [t0, t1, t2, t3] h Q ↔ zEv sc 152 403 [l0, l1, l2, l3] [.int 2, t0, t1, t2, t3] h Q := zE_iconst dz152_402 (by decide +kernel)
theorem dz152_403 : decode (z_code 152) 403 = .ok (.iadd, 1) := by decide +kernel
theorem u152_403 : zEv sc 152 403 [l0, l1, l2, l3] [.int x2, .int x1, t0, t1, t2] h Q ↔ zEv sc 152 404 [l0, l1, l2, l3] [.int (x1 + x2), t0, t1, t2] h Q := zE_pure (q := (404, [l0, l1, l2, l3], [.int (x1 + x2), t0, t1, t2])) dz152_403 rfl rfl rfl
theorem dz152_404 : decode (z_code 152) 404 = .ok (.iaload, 1) := by decide +kernel
theorem u152_404 (hi : vp_in x sc.1) : zEv sc 152 404 [l0, l1, l2, l3] [.int x, .ref 0, t0, t1] h Q ↔ zEv sc 152 405 [l0, l1, l2, l3] [.int (sc.2 x.toNatClampNeg), t0, t1] h Q := zE_sld dz152_404 hi
theorem dz152_405 : decode (z_code 152) 405 = .ok (.aload_n 0, 1) := by decide +kernel
theorem u152_405 : zEv sc 152 405 [.ref a, l1, l2, l3] [t0, t1, t2] h Q ↔ zEv sc 152 406 [.ref a, l1, l2, l3] [.ref a, t0, t1, t2] h Q := zE_pure (q := (406, [.ref a, l1, l2, l3], [.ref a, t0, t1, t2])) dz152_405 rfl rfl rfl
theorem dz152_406 : decode (z_code 152) 406 = .ok (.iload_n 3, 1) := by decide +kernel
theorem u152_406 : zEv sc 152 406 [l0, l1, l2, .int x] [t0, t1, t2, t3] h Q ↔ zEv sc 152 407 [l0, l1, l2, .int x] [.int x, t0, t1, t2, t3] h Q := zE_pure (q := (407, [l0, l1, l2, .int x], [.int x, t0, t1, t2, t3])) dz152_406 rfl rfl rfl
theorem dz152_407 : decode (z_code 152) 407 = .ok (.iconst 3, 1) := by decide +kernel
theorem u152_407 : zEv sc 152 407 [l0, l1, l2, l3] [t0, t1, t2, t3, t4] h Q ↔ zEv sc 152 408 [l0, l1, l2, l3] [.int 3, t0, t1, t2, t3, t4] h Q := zE_iconst dz152_407 (by decide +kernel)
theorem dz152_408 : decode (z_code 152) 408 = .ok (.iadd, 1) := by decide +kernel
theorem u152_408 : zEv sc 152 408 [l0, l1, l2, l3] [.int x2, .int x1, t0, t1, t2, t3] h Q ↔ zEv sc 152 409 [l0, l1, l2, l3] [.int (x1 + x2), t0, t1, t2, t3] h Q := zE_pure (q := (409, [l0, l1, l2, l3], [.int (x1 + x2), t0, t1, t2, t3])) dz152_408 rfl rfl rfl
theorem dz152_409 : decode (z_code 152) 409 = .ok (.iaload, 1) := by decide +kernel
theorem u152_409 (hi : vp_in x sc.1) : zEv sc 152 409 [l0, l1, l2, l3] [.int x, .ref 0, t0, t1, t2] h Q ↔ zEv sc 152 410 [l0, l1, l2, l3] [.int (sc.2 x.toNatClampNeg), t0, t1, t2] h Q := zE_sld dz152_409 hi
theorem dz152_410 : decode (z_code 152) 410 = .ok (.invokevirtual 48, 3) := by decide +kernel
theorem u152_410 (ho : zO a 9) : zEv sc 152 410 [l0, l1, l2, l3] [.int z2, .int z1, .int z0, .ref a] (zst p iv) Q ↔ zEv sc 67 0 [.ref a, .int z0, .int z1, .int z2, .null, .null] [] (zst p iv) (fun r h9 => zEv sc 152 413 [l0, l1, l2, l3] (r.toList ++ []) h9 Q) := zE_call (kd := 0) (na := 4) (nr := 0) (as := [.ref a, .int z0, .int z1, .int z2]) (rest := []) (Or.inl ⟨rfl, rfl⟩) dz152_410 (by decide +kernel : z_lk2 zCT (z_cls 152) 48 = some (67, 0, 457)) (fun z => by cases z) rfl rfl rfl (by decide +kernel) rfl (Or.inr (zE_rc ho))
theorem dz152_413 : decode (z_code 152) 413 = .ok (.aload_n 2, 1) := by decide +kernel
theorem u152_413 : zEv sc 152 413 [l0, l1, .ref a, l3] [t0] h Q ↔ zEv sc 152 414 [l0, l1, .ref a, l3] [.ref a, t0] h Q := zE_pure (q := (414, [l0, l1, .ref a, l3], [.ref a, t0])) dz152_413 rfl rfl rfl
theorem dz152_414 : decode (z_code 152) 414 = .ok (.aload_n 0, 1) := by decide +kernel
theorem u152_414 : zEv sc 152 414 [.ref a, l1, l2, l3] [t0, t1] h Q ↔ zEv sc 152 415 [.ref a, l1, l2, l3] [.ref a, t0, t1] h Q := zE_pure (q := (415, [.ref a, l1, l2, l3], [.ref a, t0, t1])) dz152_414 rfl rfl rfl
theorem dz152_415 : decode (z_code 152) 415 = .ok (.iload_n 3, 1) := by decide +kernel
theorem u152_415 : zEv sc 152 415 [l0, l1, l2, .int x] [t0, t1, t2] h Q ↔ zEv sc 152 416 [l0, l1, l2, .int x] [.int x, t0, t1, t2] h Q := zE_pure (q := (416, [l0, l1, l2, .int x], [.int x, t0, t1, t2])) dz152_415 rfl rfl rfl
theorem dz152_416 : decode (z_code 152) 416 = .ok (.iconst 1, 1) := by decide +kernel
theorem u152_416 : zEv sc 152 416 [l0, l1, l2, l3] [t0, t1, t2, t3] h Q ↔ zEv sc 152 417 [l0, l1, l2, l3] [.int 1, t0, t1, t2, t3] h Q := zE_iconst dz152_416 (by decide +kernel)
theorem dz152_417 : decode (z_code 152) 417 = .ok (.iadd, 1) := by decide +kernel
theorem u152_417 : zEv sc 152 417 [l0, l1, l2, l3] [.int x2, .int x1, t0, t1, t2] h Q ↔ zEv sc 152 418 [l0, l1, l2, l3] [.int (x1 + x2), t0, t1, t2] h Q := zE_pure (q := (418, [l0, l1, l2, l3], [.int (x1 + x2), t0, t1, t2])) dz152_417 rfl rfl rfl
theorem dz152_418 : decode (z_code 152) 418 = .ok (.iaload, 1) := by decide +kernel
theorem u152_418 (hi : vp_in x sc.1) : zEv sc 152 418 [l0, l1, l2, l3] [.int x, .ref 0, t0, t1] h Q ↔ zEv sc 152 419 [l0, l1, l2, l3] [.int (sc.2 x.toNatClampNeg), t0, t1] h Q := zE_sld dz152_418 hi
theorem dz152_419 : decode (z_code 152) 419 = .ok (.aload_n 0, 1) := by decide +kernel
theorem u152_419 : zEv sc 152 419 [.ref a, l1, l2, l3] [t0, t1, t2] h Q ↔ zEv sc 152 420 [.ref a, l1, l2, l3] [.ref a, t0, t1, t2] h Q := zE_pure (q := (420, [.ref a, l1, l2, l3], [.ref a, t0, t1, t2])) dz152_419 rfl rfl rfl
theorem dz152_420 : decode (z_code 152) 420 = .ok (.iload_n 3, 1) := by decide +kernel
theorem u152_420 : zEv sc 152 420 [l0, l1, l2, .int x] [t0, t1, t2, t3] h Q ↔ zEv sc 152 421 [l0, l1, l2, .int x] [.int x, t0, t1, t2, t3] h Q := zE_pure (q := (421, [l0, l1, l2, .int x], [.int x, t0, t1, t2, t3])) dz152_420 rfl rfl rfl
theorem dz152_421 : decode (z_code 152) 421 = .ok (.iconst 2, 1) := by decide +kernel
theorem u152_421 : zEv sc 152 421 [l0, l1, l2, l3] [t0, t1, t2, t3, t4] h Q ↔ zEv sc 152 422 [l0, l1, l2, l3] [.int 2, t0, t1, t2, t3, t4] h Q := zE_iconst dz152_421 (by decide +kernel)
theorem dz152_422 : decode (z_code 152) 422 = .ok (.iadd, 1) := by decide +kernel
theorem u152_422 : zEv sc 152 422 [l0, l1, l2, l3] [.int x2, .int x1, t0, t1, t2, t3] h Q ↔ zEv sc 152 423 [l0, l1, l2, l3] [.int (x1 + x2), t0, t1, t2, t3] h Q := zE_pure (q := (423, [l0, l1, l2, l3], [.int (x1 + x2), t0, t1, t2, t3])) dz152_422 rfl rfl rfl
theorem dz152_423 : decode (z_code 152) 423 = .ok (.iaload, 1) := by decide +kernel
theorem u152_423 (hi : vp_in x sc.1) : zEv sc 152 423 [l0, l1, l2, l3] [.int x, .ref 0, t0, t1, t2] h Q ↔ zEv sc 152 424 [l0, l1, l2, l3] [.int (sc.2 x.toNatClampNeg), t0, t1, t2] h Q := zE_sld dz152_423 hi
theorem dz152_424 : decode (z_code 152) 424 = .ok (.aload_n 0, 1) := by decide +kernel
theorem u152_424 : zEv sc 152 424 [.ref a, l1, l2, l3] [t0, t1, t2, t3] h Q ↔ zEv sc 152 425 [.ref a, l1, l2, l3] [.ref a, t0, t1, t2, t3] h Q := zE_pure (q := (425, [.ref a, l1, l2, l3], [.ref a, t0, t1, t2, t3])) dz152_424 rfl rfl rfl
theorem dz152_425 : decode (z_code 152) 425 = .ok (.iload_n 3, 1) := by decide +kernel
theorem u152_425 : zEv sc 152 425 [l0, l1, l2, .int x] [t0, t1, t2, t3, t4] h Q ↔ zEv sc 152 426 [l0, l1, l2, .int x] [.int x, t0, t1, t2, t3, t4] h Q := zE_pure (q := (426, [l0, l1, l2, .int x], [.int x, t0, t1, t2, t3, t4])) dz152_425 rfl rfl rfl
theorem dz152_426 : decode (z_code 152) 426 = .ok (.iconst 3, 1) := by decide +kernel
theorem u152_426 : zEv sc 152 426 [l0, l1, l2, l3] [t0, t1, t2, t3, t4, t5] h Q ↔ zEv sc 152 427 [l0, l1, l2, l3] [.int 3, t0, t1, t2, t3, t4, t5] h Q := zE_iconst dz152_426 (by decide +kernel)
theorem dz152_427 : decode (z_code 152) 427 = .ok (.iadd, 1) := by decide +kernel
theorem u152_427 : zEv sc 152 427 [l0, l1, l2, l3] [.int x2, .int x1, t0, t1, t2, t3, t4] h Q ↔ zEv sc 152 428 [l0, l1, l2, l3] [.int (x1 + x2), t0, t1, t2, t3, t4] h Q := zE_pure (q := (428, [l0, l1, l2, l3], [.int (x1 + x2), t0, t1, t2, t3, t4])) dz152_427 rfl rfl rfl
theorem dz152_428 : decode (z_code 152) 428 = .ok (.iaload, 1) := by decide +kernel
theorem u152_428 (hi : vp_in x sc.1) : zEv sc 152 428 [l0, l1, l2, l3] [.int x, .ref 0, t0, t1, t2, t3] h Q ↔ zEv sc 152 429 [l0, l1, l2, l3] [.int (sc.2 x.toNatClampNeg), t0, t1, t2, t3] h Q := zE_sld dz152_428 hi
theorem dz152_429 : decode (z_code 152) 429 = .ok (.invokevirtual 51, 3) := by decide +kernel
theorem u152_429 (ho : zO a 10) : zEv sc 152 429 [l0, l1, l2, l3] [.int z2, .int z1, .int z0, .ref a, t0] (zst p iv) Q ↔ zEv sc 125 0 [.ref a, .int z0, .int z1, .int z2] [] (zst p iv) (fun r h9 => zEv sc 152 432 [l0, l1, l2, l3] (r.toList ++ [t0]) h9 Q) := zE_call (kd := 0) (na := 4) (nr := 1) (as := [.ref a, .int z0, .int z1, .int z2]) (rest := [t0]) (Or.inl ⟨rfl, rfl⟩) dz152_429 (by decide +kernel : z_lk2 zCT (z_cls 152) 51 = some (125, 0, 804)) (fun z => by cases z) rfl rfl rfl (by decide +kernel) rfl (Or.inr (zE_rc ho))
theorem dz152_432 : decode (z_code 152) 432 = .ok (.if_icmp .eq 387, 3) := by decide +kernel
theorem u152_432 : zEv sc 152 432 [l0, l1, l2, l3] [.int x2, .int x1] h Q ↔ (if x1 = x2 then zEv sc 152 819 [l0, l1, l2, l3] [] h Q else zEv sc 152 435 [l0, l1, l2, l3] [] h Q) := zE_icP (P := x1 = x2) inferInstance 819 dz152_432 rfl rfl
theorem dz152_435 : decode (z_code 152) 435 = .ok (.iconst 0, 1) := by decide +kernel
theorem u152_435 : zEv sc 152 435 [l0, l1, l2, l3] [] h Q ↔ zEv sc 152 436 [l0, l1, l2, l3] [.int 0] h Q := zE_iconst dz152_435 (by decide +kernel)
theorem dz152_436 : decode (z_code 152) 436 = .ok (.ireturn, 1) := by decide +kernel
theorem u152_436 : zEv sc 152 436 [l0, l1, l2, l3] [.int x] h Q ↔ ((x = 0 ∨ x = 1) ∧ Q (some (.int x)) h) := zE_rz dz152_436 (by decide +kernel)
theorem dz152_361 : decode (z_code 152) 361 = .ok (.aload_n 1, 1) := by decide +kernel
theorem u152_361 : zEv sc 152 361 [l0, .ref a, l2, l3] [] h Q ↔ zEv sc 152 362 [l0, .ref a, l2, l3] [.ref a] h Q := zE_pure (q := (362, [l0, .ref a, l2, l3], [.ref a])) dz152_361 rfl rfl rfl
theorem dz152_362 : decode (z_code 152) 362 = .ok (.aload_n 0, 1) := by decide +kernel
theorem u152_362 : zEv sc 152 362 [.ref a, l1, l2, l3] [t0] h Q ↔ zEv sc 152 363 [.ref a, l1, l2, l3] [.ref a, t0] h Q := zE_pure (q := (363, [.ref a, l1, l2, l3], [.ref a, t0])) dz152_362 rfl rfl rfl
theorem dz152_363 : decode (z_code 152) 363 = .ok (.iload_n 3, 1) := by decide +kernel
theorem u152_363 : zEv sc 152 363 [l0, l1, l2, .int x] [t0, t1] h Q ↔ zEv sc 152 364 [l0, l1, l2, .int x] [.int x, t0, t1] h Q := zE_pure (q := (364, [l0, l1, l2, .int x], [.int x, t0, t1])) dz152_363 rfl rfl rfl
theorem dz152_364 : decode (z_code 152) 364 = .ok (.iconst 1, 1) := by decide +kernel
theorem u152_364 : zEv sc 152 364 [l0, l1, l2, l3] [t0, t1, t2] h Q ↔ zEv sc 152 365 [l0, l1, l2, l3] [.int 1, t0, t1, t2] h Q := zE_iconst dz152_364 (by decide +kernel)
theorem dz152_365 : decode (z_code 152) 365 = .ok (.iadd, 1) := by decide +kernel
theorem u152_365 : zEv sc 152 365 [l0, l1, l2, l3] [.int x2, .int x1, t0, t1] h Q ↔ zEv sc 152 366 [l0, l1, l2, l3] [.int (x1 + x2), t0, t1] h Q := zE_pure (q := (366, [l0, l1, l2, l3], [.int (x1 + x2), t0, t1])) dz152_365 rfl rfl rfl
theorem dz152_366 : decode (z_code 152) 366 = .ok (.iaload, 1) := by decide +kernel
theorem u152_366 (hi : vp_in x sc.1) : zEv sc 152 366 [l0, l1, l2, l3] [.int x, .ref 0, t0] h Q ↔ zEv sc 152 367 [l0, l1, l2, l3] [.int (sc.2 x.toNatClampNeg), t0] h Q := zE_sld dz152_366 hi
theorem dz152_367 : decode (z_code 152) 367 = .ok (.aload_n 0, 1) := by decide +kernel
theorem u152_367 : zEv sc 152 367 [.ref a, l1, l2, l3] [t0, t1] h Q ↔ zEv sc 152 368 [.ref a, l1, l2, l3] [.ref a, t0, t1] h Q := zE_pure (q := (368, [.ref a, l1, l2, l3], [.ref a, t0, t1])) dz152_367 rfl rfl rfl
theorem dz152_368 : decode (z_code 152) 368 = .ok (.iload_n 3, 1) := by decide +kernel
theorem u152_368 : zEv sc 152 368 [l0, l1, l2, .int x] [t0, t1, t2] h Q ↔ zEv sc 152 369 [l0, l1, l2, .int x] [.int x, t0, t1, t2] h Q := zE_pure (q := (369, [l0, l1, l2, .int x], [.int x, t0, t1, t2])) dz152_368 rfl rfl rfl
theorem dz152_369 : decode (z_code 152) 369 = .ok (.iconst 2, 1) := by decide +kernel
theorem u152_369 : zEv sc 152 369 [l0, l1, l2, l3] [t0, t1, t2, t3] h Q ↔ zEv sc 152 370 [l0, l1, l2, l3] [.int 2, t0, t1, t2, t3] h Q := zE_iconst dz152_369 (by decide +kernel)
theorem dz152_370 : decode (z_code 152) 370 = .ok (.iadd, 1) := by decide +kernel
theorem u152_370 : zEv sc 152 370 [l0, l1, l2, l3] [.int x2, .int x1, t0, t1, t2] h Q ↔ zEv sc 152 371 [l0, l1, l2, l3] [.int (x1 + x2), t0, t1, t2] h Q := zE_pure (q := (371, [l0, l1, l2, l3], [.int (x1 + x2), t0, t1, t2])) dz152_370 rfl rfl rfl
theorem dz152_371 : decode (z_code 152) 371 = .ok (.iaload, 1) := by decide +kernel
theorem u152_371 (hi : vp_in x sc.1) : zEv sc 152 371 [l0, l1, l2, l3] [.int x, .ref 0, t0, t1] h Q ↔ zEv sc 152 372 [l0, l1, l2, l3] [.int (sc.2 x.toNatClampNeg), t0, t1] h Q := zE_sld dz152_371 hi
theorem dz152_372 : decode (z_code 152) 372 = .ok (.invokevirtual 44, 3) := by decide +kernel
theorem u152_372 (ho : zO a 9) : zEv sc 152 372 [l0, l1, l2, l3] [.int z1, .int z0, .ref a] (zst p iv) Q ↔ zEv sc 66 0 [.ref a, .int z0, .int z1, .null, .null, .null] [] (zst p iv) (fun r h9 => zEv sc 152 375 [l0, l1, l2, l3] (r.toList ++ []) h9 Q) := zE_call (kd := 0) (na := 3) (nr := 0) (as := [.ref a, .int z0, .int z1]) (rest := []) (Or.inl ⟨rfl, rfl⟩) dz152_372 (by decide +kernel : z_lk2 zCT (z_cls 152) 44 = some (66, 0, 449)) (fun z => by cases z) rfl rfl rfl (by decide +kernel) rfl (Or.inr (zE_rc ho))
theorem dz152_375 : decode (z_code 152) 375 = .ok (.aload_n 2, 1) := by decide +kernel
theorem u152_375 : zEv sc 152 375 [l0, l1, .ref a, l3] [t0] h Q ↔ zEv sc 152 376 [l0, l1, .ref a, l3] [.ref a, t0] h Q := zE_pure (q := (376, [l0, l1, .ref a, l3], [.ref a, t0])) dz152_375 rfl rfl rfl
theorem dz152_376 : decode (z_code 152) 376 = .ok (.aload_n 0, 1) := by decide +kernel
theorem u152_376 : zEv sc 152 376 [.ref a, l1, l2, l3] [t0, t1] h Q ↔ zEv sc 152 377 [.ref a, l1, l2, l3] [.ref a, t0, t1] h Q := zE_pure (q := (377, [.ref a, l1, l2, l3], [.ref a, t0, t1])) dz152_376 rfl rfl rfl
theorem dz152_377 : decode (z_code 152) 377 = .ok (.iload_n 3, 1) := by decide +kernel
theorem u152_377 : zEv sc 152 377 [l0, l1, l2, .int x] [t0, t1, t2] h Q ↔ zEv sc 152 378 [l0, l1, l2, .int x] [.int x, t0, t1, t2] h Q := zE_pure (q := (378, [l0, l1, l2, .int x], [.int x, t0, t1, t2])) dz152_377 rfl rfl rfl
theorem dz152_378 : decode (z_code 152) 378 = .ok (.iconst 1, 1) := by decide +kernel
theorem u152_378 : zEv sc 152 378 [l0, l1, l2, l3] [t0, t1, t2, t3] h Q ↔ zEv sc 152 379 [l0, l1, l2, l3] [.int 1, t0, t1, t2, t3] h Q := zE_iconst dz152_378 (by decide +kernel)
theorem dz152_379 : decode (z_code 152) 379 = .ok (.iadd, 1) := by decide +kernel
theorem u152_379 : zEv sc 152 379 [l0, l1, l2, l3] [.int x2, .int x1, t0, t1, t2] h Q ↔ zEv sc 152 380 [l0, l1, l2, l3] [.int (x1 + x2), t0, t1, t2] h Q := zE_pure (q := (380, [l0, l1, l2, l3], [.int (x1 + x2), t0, t1, t2])) dz152_379 rfl rfl rfl
theorem dz152_380 : decode (z_code 152) 380 = .ok (.iaload, 1) := by decide +kernel
theorem u152_380 (hi : vp_in x sc.1) : zEv sc 152 380 [l0, l1, l2, l3] [.int x, .ref 0, t0, t1] h Q ↔ zEv sc 152 381 [l0, l1, l2, l3] [.int (sc.2 x.toNatClampNeg), t0, t1] h Q := zE_sld dz152_380 hi
theorem dz152_381 : decode (z_code 152) 381 = .ok (.aload_n 0, 1) := by decide +kernel
theorem u152_381 : zEv sc 152 381 [.ref a, l1, l2, l3] [t0, t1, t2] h Q ↔ zEv sc 152 382 [.ref a, l1, l2, l3] [.ref a, t0, t1, t2] h Q := zE_pure (q := (382, [.ref a, l1, l2, l3], [.ref a, t0, t1, t2])) dz152_381 rfl rfl rfl
theorem dz152_382 : decode (z_code 152) 382 = .ok (.iload_n 3, 1) := by decide +kernel
theorem u152_382 : zEv sc 152 382 [l0, l1, l2, .int x] [t0, t1, t2, t3] h Q ↔ zEv sc 152 383 [l0, l1, l2, .int x] [.int x, t0, t1, t2, t3] h Q := zE_pure (q := (383, [l0, l1, l2, .int x], [.int x, t0, t1, t2, t3])) dz152_382 rfl rfl rfl
theorem dz152_383 : decode (z_code 152) 383 = .ok (.iconst 2, 1) := by decide +kernel
theorem u152_383 : zEv sc 152 383 [l0, l1, l2, l3] [t0, t1, t2, t3, t4] h Q ↔ zEv sc 152 384 [l0, l1, l2, l3] [.int 2, t0, t1, t2, t3, t4] h Q := zE_iconst dz152_383 (by decide +kernel)
theorem dz152_384 : decode (z_code 152) 384 = .ok (.iadd, 1) := by decide +kernel
theorem u152_384 : zEv sc 152 384 [l0, l1, l2, l3] [.int x2, .int x1, t0, t1, t2, t3] h Q ↔ zEv sc 152 385 [l0, l1, l2, l3] [.int (x1 + x2), t0, t1, t2, t3] h Q := zE_pure (q := (385, [l0, l1, l2, l3], [.int (x1 + x2), t0, t1, t2, t3])) dz152_384 rfl rfl rfl
theorem dz152_385 : decode (z_code 152) 385 = .ok (.iaload, 1) := by decide +kernel
theorem u152_385 (hi : vp_in x sc.1) : zEv sc 152 385 [l0, l1, l2, l3] [.int x, .ref 0, t0, t1, t2] h Q ↔ zEv sc 152 386 [l0, l1, l2, l3] [.int (sc.2 x.toNatClampNeg), t0, t1, t2] h Q := zE_sld dz152_385 hi
theorem dz152_386 : decode (z_code 152) 386 = .ok (.invokevirtual 47, 3) := by decide +kernel
theorem u152_386 (ho : zO a 10) : zEv sc 152 386 [l0, l1, l2, l3] [.int z1, .int z0, .ref a, t0] (zst p iv) Q ↔ zEv sc 131 0 [.ref a, .int z0, .int z1, .null] [] (zst p iv) (fun r h9 => zEv sc 152 389 [l0, l1, l2, l3] (r.toList ++ [t0]) h9 Q) := zE_call (kd := 0) (na := 3) (nr := 1) (as := [.ref a, .int z0, .int z1]) (rest := [t0]) (Or.inl ⟨rfl, rfl⟩) dz152_386 (by decide +kernel : z_lk2 zCT (z_cls 152) 47 = some (131, 0, 875)) (fun z => by cases z) rfl rfl rfl (by decide +kernel) rfl (Or.inr (zE_rc ho))
theorem dz152_389 : decode (z_code 152) 389 = .ok (.if_icmp .eq 430, 3) := by decide +kernel
theorem u152_389 : zEv sc 152 389 [l0, l1, l2, l3] [.int x2, .int x1] h Q ↔ (if x1 = x2 then zEv sc 152 819 [l0, l1, l2, l3] [] h Q else zEv sc 152 392 [l0, l1, l2, l3] [] h Q) := zE_icP (P := x1 = x2) inferInstance 819 dz152_389 rfl rfl
theorem dz152_392 : decode (z_code 152) 392 = .ok (.iconst 0, 1) := by decide +kernel
theorem u152_392 : zEv sc 152 392 [l0, l1, l2, l3] [] h Q ↔ zEv sc 152 393 [l0, l1, l2, l3] [.int 0] h Q := zE_iconst dz152_392 (by decide +kernel)
theorem dz152_393 : decode (z_code 152) 393 = .ok (.ireturn, 1) := by decide +kernel
theorem u152_393 : zEv sc 152 393 [l0, l1, l2, l3] [.int x] h Q ↔ ((x = 0 ∨ x = 1) ∧ Q (some (.int x)) h) := zE_rz dz152_393 (by decide +kernel)
theorem dz152_328 : decode (z_code 152) 328 = .ok (.aload_n 1, 1) := by decide +kernel
theorem u152_328 : zEv sc 152 328 [l0, .ref a, l2, l3] [] h Q ↔ zEv sc 152 329 [l0, .ref a, l2, l3] [.ref a] h Q := zE_pure (q := (329, [l0, .ref a, l2, l3], [.ref a])) dz152_328 rfl rfl rfl
theorem dz152_329 : decode (z_code 152) 329 = .ok (.aload_n 0, 1) := by decide +kernel
theorem u152_329 : zEv sc 152 329 [.ref a, l1, l2, l3] [t0] h Q ↔ zEv sc 152 330 [.ref a, l1, l2, l3] [.ref a, t0] h Q := zE_pure (q := (330, [.ref a, l1, l2, l3], [.ref a, t0])) dz152_329 rfl rfl rfl
theorem dz152_330 : decode (z_code 152) 330 = .ok (.iload_n 3, 1) := by decide +kernel
theorem u152_330 : zEv sc 152 330 [l0, l1, l2, .int x] [t0, t1] h Q ↔ zEv sc 152 331 [l0, l1, l2, .int x] [.int x, t0, t1] h Q := zE_pure (q := (331, [l0, l1, l2, .int x], [.int x, t0, t1])) dz152_330 rfl rfl rfl
theorem dz152_331 : decode (z_code 152) 331 = .ok (.iconst 1, 1) := by decide +kernel
theorem u152_331 : zEv sc 152 331 [l0, l1, l2, l3] [t0, t1, t2] h Q ↔ zEv sc 152 332 [l0, l1, l2, l3] [.int 1, t0, t1, t2] h Q := zE_iconst dz152_331 (by decide +kernel)
theorem dz152_332 : decode (z_code 152) 332 = .ok (.iadd, 1) := by decide +kernel
theorem u152_332 : zEv sc 152 332 [l0, l1, l2, l3] [.int x2, .int x1, t0, t1] h Q ↔ zEv sc 152 333 [l0, l1, l2, l3] [.int (x1 + x2), t0, t1] h Q := zE_pure (q := (333, [l0, l1, l2, l3], [.int (x1 + x2), t0, t1])) dz152_332 rfl rfl rfl
theorem dz152_333 : decode (z_code 152) 333 = .ok (.iaload, 1) := by decide +kernel
theorem u152_333 (hi : vp_in x sc.1) : zEv sc 152 333 [l0, l1, l2, l3] [.int x, .ref 0, t0] h Q ↔ zEv sc 152 334 [l0, l1, l2, l3] [.int (sc.2 x.toNatClampNeg), t0] h Q := zE_sld dz152_333 hi
theorem dz152_334 : decode (z_code 152) 334 = .ok (.aload_n 0, 1) := by decide +kernel
theorem u152_334 : zEv sc 152 334 [.ref a, l1, l2, l3] [t0, t1] h Q ↔ zEv sc 152 335 [.ref a, l1, l2, l3] [.ref a, t0, t1] h Q := zE_pure (q := (335, [.ref a, l1, l2, l3], [.ref a, t0, t1])) dz152_334 rfl rfl rfl
theorem dz152_335 : decode (z_code 152) 335 = .ok (.iload_n 3, 1) := by decide +kernel
theorem u152_335 : zEv sc 152 335 [l0, l1, l2, .int x] [t0, t1, t2] h Q ↔ zEv sc 152 336 [l0, l1, l2, .int x] [.int x, t0, t1, t2] h Q := zE_pure (q := (336, [l0, l1, l2, .int x], [.int x, t0, t1, t2])) dz152_335 rfl rfl rfl
theorem dz152_336 : decode (z_code 152) 336 = .ok (.iconst 2, 1) := by decide +kernel
theorem u152_336 : zEv sc 152 336 [l0, l1, l2, l3] [t0, t1, t2, t3] h Q ↔ zEv sc 152 337 [l0, l1, l2, l3] [.int 2, t0, t1, t2, t3] h Q := zE_iconst dz152_336 (by decide +kernel)
theorem dz152_337 : decode (z_code 152) 337 = .ok (.iadd, 1) := by decide +kernel
theorem u152_337 : zEv sc 152 337 [l0, l1, l2, l3] [.int x2, .int x1, t0, t1, t2] h Q ↔ zEv sc 152 338 [l0, l1, l2, l3] [.int (x1 + x2), t0, t1, t2] h Q := zE_pure (q := (338, [l0, l1, l2, l3], [.int (x1 + x2), t0, t1, t2])) dz152_337 rfl rfl rfl
theorem dz152_338 : decode (z_code 152) 338 = .ok (.iaload, 1) := by decide +kernel
theorem u152_338 (hi : vp_in x sc.1) : zEv sc 152 338 [l0, l1, l2, l3] [.int x, .ref 0, t0, t1] h Q ↔ zEv sc 152 339 [l0, l1, l2, l3] [.int (sc.2 x.toNatClampNeg), t0, t1] h Q := zE_sld dz152_338 hi
theorem dz152_339 : decode (z_code 152) 339 = .ok (.invokevirtual 40, 3) := by decide +kernel
theorem u152_339 (ho : zO a 9) : zEv sc 152 339 [l0, l1, l2, l3] [.int z1, .int z0, .ref a] (zst p iv) Q ↔ zEv sc 64 0 [.ref a, .int z0, .int z1] [] (zst p iv) (fun r h9 => zEv sc 152 342 [l0, l1, l2, l3] (r.toList ++ []) h9 Q) := zE_call (kd := 0) (na := 3) (nr := 0) (as := [.ref a, .int z0, .int z1]) (rest := []) (Or.inl ⟨rfl, rfl⟩) dz152_339 (by decide +kernel : z_lk2 zCT (z_cls 152) 40 = some (64, 0, 431)) (fun z => by cases z) rfl rfl rfl (by decide +kernel) rfl (Or.inr (zE_rc ho))
theorem dz152_342 : decode (z_code 152) 342 = .ok (.aload_n 2, 1) := by decide +kernel
theorem u152_342 : zEv sc 152 342 [l0, l1, .ref a, l3] [t0] h Q ↔ zEv sc 152 343 [l0, l1, .ref a, l3] [.ref a, t0] h Q := zE_pure (q := (343, [l0, l1, .ref a, l3], [.ref a, t0])) dz152_342 rfl rfl rfl
theorem dz152_343 : decode (z_code 152) 343 = .ok (.aload_n 0, 1) := by decide +kernel
theorem u152_343 : zEv sc 152 343 [.ref a, l1, l2, l3] [t0, t1] h Q ↔ zEv sc 152 344 [.ref a, l1, l2, l3] [.ref a, t0, t1] h Q := zE_pure (q := (344, [.ref a, l1, l2, l3], [.ref a, t0, t1])) dz152_343 rfl rfl rfl
theorem dz152_344 : decode (z_code 152) 344 = .ok (.iload_n 3, 1) := by decide +kernel
theorem u152_344 : zEv sc 152 344 [l0, l1, l2, .int x] [t0, t1, t2] h Q ↔ zEv sc 152 345 [l0, l1, l2, .int x] [.int x, t0, t1, t2] h Q := zE_pure (q := (345, [l0, l1, l2, .int x], [.int x, t0, t1, t2])) dz152_344 rfl rfl rfl
theorem dz152_345 : decode (z_code 152) 345 = .ok (.iconst 1, 1) := by decide +kernel
theorem u152_345 : zEv sc 152 345 [l0, l1, l2, l3] [t0, t1, t2, t3] h Q ↔ zEv sc 152 346 [l0, l1, l2, l3] [.int 1, t0, t1, t2, t3] h Q := zE_iconst dz152_345 (by decide +kernel)
theorem dz152_346 : decode (z_code 152) 346 = .ok (.iadd, 1) := by decide +kernel
theorem u152_346 : zEv sc 152 346 [l0, l1, l2, l3] [.int x2, .int x1, t0, t1, t2] h Q ↔ zEv sc 152 347 [l0, l1, l2, l3] [.int (x1 + x2), t0, t1, t2] h Q := zE_pure (q := (347, [l0, l1, l2, l3], [.int (x1 + x2), t0, t1, t2])) dz152_346 rfl rfl rfl
theorem dz152_347 : decode (z_code 152) 347 = .ok (.iaload, 1) := by decide +kernel
theorem u152_347 (hi : vp_in x sc.1) : zEv sc 152 347 [l0, l1, l2, l3] [.int x, .ref 0, t0, t1] h Q ↔ zEv sc 152 348 [l0, l1, l2, l3] [.int (sc.2 x.toNatClampNeg), t0, t1] h Q := zE_sld dz152_347 hi
theorem dz152_348 : decode (z_code 152) 348 = .ok (.aload_n 0, 1) := by decide +kernel
theorem u152_348 : zEv sc 152 348 [.ref a, l1, l2, l3] [t0, t1, t2] h Q ↔ zEv sc 152 349 [.ref a, l1, l2, l3] [.ref a, t0, t1, t2] h Q := zE_pure (q := (349, [.ref a, l1, l2, l3], [.ref a, t0, t1, t2])) dz152_348 rfl rfl rfl
theorem dz152_349 : decode (z_code 152) 349 = .ok (.iload_n 3, 1) := by decide +kernel
theorem u152_349 : zEv sc 152 349 [l0, l1, l2, .int x] [t0, t1, t2, t3] h Q ↔ zEv sc 152 350 [l0, l1, l2, .int x] [.int x, t0, t1, t2, t3] h Q := zE_pure (q := (350, [l0, l1, l2, .int x], [.int x, t0, t1, t2, t3])) dz152_349 rfl rfl rfl
theorem dz152_350 : decode (z_code 152) 350 = .ok (.iconst 2, 1) := by decide +kernel
theorem u152_350 : zEv sc 152 350 [l0, l1, l2, l3] [t0, t1, t2, t3, t4] h Q ↔ zEv sc 152 351 [l0, l1, l2, l3] [.int 2, t0, t1, t2, t3, t4] h Q := zE_iconst dz152_350 (by decide +kernel)
theorem dz152_351 : decode (z_code 152) 351 = .ok (.iadd, 1) := by decide +kernel
theorem u152_351 : zEv sc 152 351 [l0, l1, l2, l3] [.int x2, .int x1, t0, t1, t2, t3] h Q ↔ zEv sc 152 352 [l0, l1, l2, l3] [.int (x1 + x2), t0, t1, t2, t3] h Q := zE_pure (q := (352, [l0, l1, l2, l3], [.int (x1 + x2), t0, t1, t2, t3])) dz152_351 rfl rfl rfl
theorem dz152_352 : decode (z_code 152) 352 = .ok (.iaload, 1) := by decide +kernel
theorem u152_352 (hi : vp_in x sc.1) : zEv sc 152 352 [l0, l1, l2, l3] [.int x, .ref 0, t0, t1, t2] h Q ↔ zEv sc 152 353 [l0, l1, l2, l3] [.int (sc.2 x.toNatClampNeg), t0, t1, t2] h Q := zE_sld dz152_352 hi
theorem dz152_353 : decode (z_code 152) 353 = .ok (.invokevirtual 43, 3) := by decide +kernel
theorem u152_353 (ho : zO a 10) : zEv sc 152 353 [l0, l1, l2, l3] [.int z1, .int z0, .ref a, t0] (zst p iv) Q ↔ zEv sc 129 0 [.ref a, .int z0, .int z1] [] (zst p iv) (fun r h9 => zEv sc 152 356 [l0, l1, l2, l3] (r.toList ++ [t0]) h9 Q) := zE_call (kd := 0) (na := 3) (nr := 1) (as := [.ref a, .int z0, .int z1]) (rest := [t0]) (Or.inl ⟨rfl, rfl⟩) dz152_353 (by decide +kernel : z_lk2 zCT (z_cls 152) 43 = some (129, 0, 871)) (fun z => by cases z) rfl rfl rfl (by decide +kernel) rfl (Or.inr (zE_rc ho))
theorem dz152_356 : decode (z_code 152) 356 = .ok (.if_icmp .eq 463, 3) := by decide +kernel
theorem u152_356 : zEv sc 152 356 [l0, l1, l2, l3] [.int x2, .int x1] h Q ↔ (if x1 = x2 then zEv sc 152 819 [l0, l1, l2, l3] [] h Q else zEv sc 152 359 [l0, l1, l2, l3] [] h Q) := zE_icP (P := x1 = x2) inferInstance 819 dz152_356 rfl rfl
theorem dz152_359 : decode (z_code 152) 359 = .ok (.iconst 0, 1) := by decide +kernel
theorem u152_359 : zEv sc 152 359 [l0, l1, l2, l3] [] h Q ↔ zEv sc 152 360 [l0, l1, l2, l3] [.int 0] h Q := zE_iconst dz152_359 (by decide +kernel)
theorem dz152_360 : decode (z_code 152) 360 = .ok (.ireturn, 1) := by decide +kernel
theorem u152_360 : zEv sc 152 360 [l0, l1, l2, l3] [.int x] h Q ↔ ((x = 0 ∨ x = 1) ∧ Q (some (.int x)) h) := zE_rz dz152_360 (by decide +kernel)
theorem dz152_295 : decode (z_code 152) 295 = .ok (.aload_n 1, 1) := by decide +kernel
theorem u152_295 : zEv sc 152 295 [l0, .ref a, l2, l3] [] h Q ↔ zEv sc 152 296 [l0, .ref a, l2, l3] [.ref a] h Q := zE_pure (q := (296, [l0, .ref a, l2, l3], [.ref a])) dz152_295 rfl rfl rfl
theorem dz152_296 : decode (z_code 152) 296 = .ok (.aload_n 0, 1) := by decide +kernel
theorem u152_296 : zEv sc 152 296 [.ref a, l1, l2, l3] [t0] h Q ↔ zEv sc 152 297 [.ref a, l1, l2, l3] [.ref a, t0] h Q := zE_pure (q := (297, [.ref a, l1, l2, l3], [.ref a, t0])) dz152_296 rfl rfl rfl
theorem dz152_297 : decode (z_code 152) 297 = .ok (.iload_n 3, 1) := by decide +kernel
theorem u152_297 : zEv sc 152 297 [l0, l1, l2, .int x] [t0, t1] h Q ↔ zEv sc 152 298 [l0, l1, l2, .int x] [.int x, t0, t1] h Q := zE_pure (q := (298, [l0, l1, l2, .int x], [.int x, t0, t1])) dz152_297 rfl rfl rfl
theorem dz152_298 : decode (z_code 152) 298 = .ok (.iconst 1, 1) := by decide +kernel
theorem u152_298 : zEv sc 152 298 [l0, l1, l2, l3] [t0, t1, t2] h Q ↔ zEv sc 152 299 [l0, l1, l2, l3] [.int 1, t0, t1, t2] h Q := zE_iconst dz152_298 (by decide +kernel)
theorem dz152_299 : decode (z_code 152) 299 = .ok (.iadd, 1) := by decide +kernel
theorem u152_299 : zEv sc 152 299 [l0, l1, l2, l3] [.int x2, .int x1, t0, t1] h Q ↔ zEv sc 152 300 [l0, l1, l2, l3] [.int (x1 + x2), t0, t1] h Q := zE_pure (q := (300, [l0, l1, l2, l3], [.int (x1 + x2), t0, t1])) dz152_299 rfl rfl rfl
theorem dz152_300 : decode (z_code 152) 300 = .ok (.iaload, 1) := by decide +kernel
theorem u152_300 (hi : vp_in x sc.1) : zEv sc 152 300 [l0, l1, l2, l3] [.int x, .ref 0, t0] h Q ↔ zEv sc 152 301 [l0, l1, l2, l3] [.int (sc.2 x.toNatClampNeg), t0] h Q := zE_sld dz152_300 hi
theorem dz152_301 : decode (z_code 152) 301 = .ok (.aload_n 0, 1) := by decide +kernel
theorem u152_301 : zEv sc 152 301 [.ref a, l1, l2, l3] [t0, t1] h Q ↔ zEv sc 152 302 [.ref a, l1, l2, l3] [.ref a, t0, t1] h Q := zE_pure (q := (302, [.ref a, l1, l2, l3], [.ref a, t0, t1])) dz152_301 rfl rfl rfl
theorem dz152_302 : decode (z_code 152) 302 = .ok (.iload_n 3, 1) := by decide +kernel
theorem u152_302 : zEv sc 152 302 [l0, l1, l2, .int x] [t0, t1, t2] h Q ↔ zEv sc 152 303 [l0, l1, l2, .int x] [.int x, t0, t1, t2] h Q := zE_pure (q := (303, [l0, l1, l2, .int x], [.int x, t0, t1, t2])) dz152_302 rfl rfl rfl
theorem dz152_303 : decode (z_code 152) 303 = .ok (.iconst 2, 1) := by decide +kernel
theorem u152_303 : zEv sc 152 303 [l0, l1, l2, l3] [t0, t1, t2, t3] h Q ↔ zEv sc 152 304 [l0, l1, l2, l3] [.int 2, t0, t1, t2, t3] h Q := zE_iconst dz152_303 (by decide +kernel)
theorem dz152_304 : decode (z_code 152) 304 = .ok (.iadd, 1) := by decide +kernel
theorem u152_304 : zEv sc 152 304 [l0, l1, l2, l3] [.int x2, .int x1, t0, t1, t2] h Q ↔ zEv sc 152 305 [l0, l1, l2, l3] [.int (x1 + x2), t0, t1, t2] h Q := zE_pure (q := (305, [l0, l1, l2, l3], [.int (x1 + x2), t0, t1, t2])) dz152_304 rfl rfl rfl
theorem dz152_305 : decode (z_code 152) 305 = .ok (.iaload, 1) := by decide +kernel
theorem u152_305 (hi : vp_in x sc.1) : zEv sc 152 305 [l0, l1, l2, l3] [.int x, .ref 0, t0, t1] h Q ↔ zEv sc 152 306 [l0, l1, l2, l3] [.int (sc.2 x.toNatClampNeg), t0, t1] h Q := zE_sld dz152_305 hi
theorem dz152_306 : decode (z_code 152) 306 = .ok (.invokevirtual 36, 3) := by decide +kernel
theorem u152_306 (ho : zO a 9) : zEv sc 152 306 [l0, l1, l2, l3] [.int z1, .int z0, .ref a] (zst p iv) Q ↔ zEv sc 63 0 [.ref a, .int z0, .int z1, .null] [] (zst p iv) (fun r h9 => zEv sc 152 309 [l0, l1, l2, l3] (r.toList ++ []) h9 Q) := zE_call (kd := 0) (na := 3) (nr := 0) (as := [.ref a, .int z0, .int z1]) (rest := []) (Or.inl ⟨rfl, rfl⟩) dz152_306 (by decide +kernel : z_lk2 zCT (z_cls 152) 36 = some (63, 0, 417)) (fun z => by cases z) rfl rfl rfl (by decide +kernel) rfl (Or.inr (zE_rc ho))
theorem dz152_309 : decode (z_code 152) 309 = .ok (.aload_n 2, 1) := by decide +kernel
theorem u152_309 : zEv sc 152 309 [l0, l1, .ref a, l3] [t0] h Q ↔ zEv sc 152 310 [l0, l1, .ref a, l3] [.ref a, t0] h Q := zE_pure (q := (310, [l0, l1, .ref a, l3], [.ref a, t0])) dz152_309 rfl rfl rfl
theorem dz152_310 : decode (z_code 152) 310 = .ok (.aload_n 0, 1) := by decide +kernel
theorem u152_310 : zEv sc 152 310 [.ref a, l1, l2, l3] [t0, t1] h Q ↔ zEv sc 152 311 [.ref a, l1, l2, l3] [.ref a, t0, t1] h Q := zE_pure (q := (311, [.ref a, l1, l2, l3], [.ref a, t0, t1])) dz152_310 rfl rfl rfl
theorem dz152_311 : decode (z_code 152) 311 = .ok (.iload_n 3, 1) := by decide +kernel
theorem u152_311 : zEv sc 152 311 [l0, l1, l2, .int x] [t0, t1, t2] h Q ↔ zEv sc 152 312 [l0, l1, l2, .int x] [.int x, t0, t1, t2] h Q := zE_pure (q := (312, [l0, l1, l2, .int x], [.int x, t0, t1, t2])) dz152_311 rfl rfl rfl
theorem dz152_312 : decode (z_code 152) 312 = .ok (.iconst 1, 1) := by decide +kernel
theorem u152_312 : zEv sc 152 312 [l0, l1, l2, l3] [t0, t1, t2, t3] h Q ↔ zEv sc 152 313 [l0, l1, l2, l3] [.int 1, t0, t1, t2, t3] h Q := zE_iconst dz152_312 (by decide +kernel)
theorem dz152_313 : decode (z_code 152) 313 = .ok (.iadd, 1) := by decide +kernel
theorem u152_313 : zEv sc 152 313 [l0, l1, l2, l3] [.int x2, .int x1, t0, t1, t2] h Q ↔ zEv sc 152 314 [l0, l1, l2, l3] [.int (x1 + x2), t0, t1, t2] h Q := zE_pure (q := (314, [l0, l1, l2, l3], [.int (x1 + x2), t0, t1, t2])) dz152_313 rfl rfl rfl
theorem dz152_314 : decode (z_code 152) 314 = .ok (.iaload, 1) := by decide +kernel
theorem u152_314 (hi : vp_in x sc.1) : zEv sc 152 314 [l0, l1, l2, l3] [.int x, .ref 0, t0, t1] h Q ↔ zEv sc 152 315 [l0, l1, l2, l3] [.int (sc.2 x.toNatClampNeg), t0, t1] h Q := zE_sld dz152_314 hi
theorem dz152_315 : decode (z_code 152) 315 = .ok (.aload_n 0, 1) := by decide +kernel
theorem u152_315 : zEv sc 152 315 [.ref a, l1, l2, l3] [t0, t1, t2] h Q ↔ zEv sc 152 316 [.ref a, l1, l2, l3] [.ref a, t0, t1, t2] h Q := zE_pure (q := (316, [.ref a, l1, l2, l3], [.ref a, t0, t1, t2])) dz152_315 rfl rfl rfl
theorem dz152_316 : decode (z_code 152) 316 = .ok (.iload_n 3, 1) := by decide +kernel
theorem u152_316 : zEv sc 152 316 [l0, l1, l2, .int x] [t0, t1, t2, t3] h Q ↔ zEv sc 152 317 [l0, l1, l2, .int x] [.int x, t0, t1, t2, t3] h Q := zE_pure (q := (317, [l0, l1, l2, .int x], [.int x, t0, t1, t2, t3])) dz152_316 rfl rfl rfl
theorem dz152_317 : decode (z_code 152) 317 = .ok (.iconst 2, 1) := by decide +kernel
theorem u152_317 : zEv sc 152 317 [l0, l1, l2, l3] [t0, t1, t2, t3, t4] h Q ↔ zEv sc 152 318 [l0, l1, l2, l3] [.int 2, t0, t1, t2, t3, t4] h Q := zE_iconst dz152_317 (by decide +kernel)
theorem dz152_318 : decode (z_code 152) 318 = .ok (.iadd, 1) := by decide +kernel
theorem u152_318 : zEv sc 152 318 [l0, l1, l2, l3] [.int x2, .int x1, t0, t1, t2, t3] h Q ↔ zEv sc 152 319 [l0, l1, l2, l3] [.int (x1 + x2), t0, t1, t2, t3] h Q := zE_pure (q := (319, [l0, l1, l2, l3], [.int (x1 + x2), t0, t1, t2, t3])) dz152_318 rfl rfl rfl
theorem dz152_319 : decode (z_code 152) 319 = .ok (.iaload, 1) := by decide +kernel
theorem u152_319 (hi : vp_in x sc.1) : zEv sc 152 319 [l0, l1, l2, l3] [.int x, .ref 0, t0, t1, t2] h Q ↔ zEv sc 152 320 [l0, l1, l2, l3] [.int (sc.2 x.toNatClampNeg), t0, t1, t2] h Q := zE_sld dz152_319 hi
theorem dz152_320 : decode (z_code 152) 320 = .ok (.invokevirtual 39, 3) := by decide +kernel
theorem u152_320 (ho : zO a 10) : zEv sc 152 320 [l0, l1, l2, l3] [.int z1, .int z0, .ref a, t0] (zst p iv) Q ↔ zEv sc 128 0 [.ref a, .int z0, .int z1] [] (zst p iv) (fun r h9 => zEv sc 152 323 [l0, l1, l2, l3] (r.toList ++ [t0]) h9 Q) := zE_call (kd := 0) (na := 3) (nr := 1) (as := [.ref a, .int z0, .int z1]) (rest := [t0]) (Or.inl ⟨rfl, rfl⟩) dz152_320 (by decide +kernel : z_lk2 zCT (z_cls 152) 39 = some (128, 0, 866)) (fun z => by cases z) rfl rfl rfl (by decide +kernel) rfl (Or.inr (zE_rc ho))
theorem dz152_323 : decode (z_code 152) 323 = .ok (.if_icmp .eq 496, 3) := by decide +kernel
theorem u152_323 : zEv sc 152 323 [l0, l1, l2, l3] [.int x2, .int x1] h Q ↔ (if x1 = x2 then zEv sc 152 819 [l0, l1, l2, l3] [] h Q else zEv sc 152 326 [l0, l1, l2, l3] [] h Q) := zE_icP (P := x1 = x2) inferInstance 819 dz152_323 rfl rfl
theorem dz152_326 : decode (z_code 152) 326 = .ok (.iconst 0, 1) := by decide +kernel
theorem u152_326 : zEv sc 152 326 [l0, l1, l2, l3] [] h Q ↔ zEv sc 152 327 [l0, l1, l2, l3] [.int 0] h Q := zE_iconst dz152_326 (by decide +kernel)
theorem dz152_327 : decode (z_code 152) 327 = .ok (.ireturn, 1) := by decide +kernel
theorem u152_327 : zEv sc 152 327 [l0, l1, l2, l3] [.int x] h Q ↔ ((x = 0 ∨ x = 1) ∧ Q (some (.int x)) h) := zE_rz dz152_327 (by decide +kernel)
theorem dz152_272 : decode (z_code 152) 272 = .ok (.aload_n 1, 1) := by decide +kernel
theorem u152_272 : zEv sc 152 272 [l0, .ref a, l2, l3] [] h Q ↔ zEv sc 152 273 [l0, .ref a, l2, l3] [.ref a] h Q := zE_pure (q := (273, [l0, .ref a, l2, l3], [.ref a])) dz152_272 rfl rfl rfl
theorem dz152_273 : decode (z_code 152) 273 = .ok (.aload_n 0, 1) := by decide +kernel
theorem u152_273 : zEv sc 152 273 [.ref a, l1, l2, l3] [t0] h Q ↔ zEv sc 152 274 [.ref a, l1, l2, l3] [.ref a, t0] h Q := zE_pure (q := (274, [.ref a, l1, l2, l3], [.ref a, t0])) dz152_273 rfl rfl rfl
theorem dz152_274 : decode (z_code 152) 274 = .ok (.iload_n 3, 1) := by decide +kernel
theorem u152_274 : zEv sc 152 274 [l0, l1, l2, .int x] [t0, t1] h Q ↔ zEv sc 152 275 [l0, l1, l2, .int x] [.int x, t0, t1] h Q := zE_pure (q := (275, [l0, l1, l2, .int x], [.int x, t0, t1])) dz152_274 rfl rfl rfl
theorem dz152_275 : decode (z_code 152) 275 = .ok (.iconst 1, 1) := by decide +kernel
theorem u152_275 : zEv sc 152 275 [l0, l1, l2, l3] [t0, t1, t2] h Q ↔ zEv sc 152 276 [l0, l1, l2, l3] [.int 1, t0, t1, t2] h Q := zE_iconst dz152_275 (by decide +kernel)
theorem dz152_276 : decode (z_code 152) 276 = .ok (.iadd, 1) := by decide +kernel
theorem u152_276 : zEv sc 152 276 [l0, l1, l2, l3] [.int x2, .int x1, t0, t1] h Q ↔ zEv sc 152 277 [l0, l1, l2, l3] [.int (x1 + x2), t0, t1] h Q := zE_pure (q := (277, [l0, l1, l2, l3], [.int (x1 + x2), t0, t1])) dz152_276 rfl rfl rfl
theorem dz152_277 : decode (z_code 152) 277 = .ok (.iaload, 1) := by decide +kernel
theorem u152_277 (hi : vp_in x sc.1) : zEv sc 152 277 [l0, l1, l2, l3] [.int x, .ref 0, t0] h Q ↔ zEv sc 152 278 [l0, l1, l2, l3] [.int (sc.2 x.toNatClampNeg), t0] h Q := zE_sld dz152_277 hi
theorem dz152_278 : decode (z_code 152) 278 = .ok (.invokevirtual 32, 3) := by decide +kernel
theorem u152_278 (ho : zO a 9) : zEv sc 152 278 [l0, l1, l2, l3] [.int z0, .ref a] (zst p iv) Q ↔ zEv sc 61 0 [.ref a, .int z0, .null] [] (zst p iv) (fun r h9 => zEv sc 152 281 [l0, l1, l2, l3] (r.toList ++ []) h9 Q) := zE_call (kd := 0) (na := 2) (nr := 0) (as := [.ref a, .int z0]) (rest := []) (Or.inl ⟨rfl, rfl⟩) dz152_278 (by decide +kernel : z_lk2 zCT (z_cls 152) 32 = some (61, 0, 413)) (fun z => by cases z) rfl rfl rfl (by decide +kernel) rfl (Or.inr (zE_rc ho))
theorem dz152_281 : decode (z_code 152) 281 = .ok (.aload_n 2, 1) := by decide +kernel
theorem u152_281 : zEv sc 152 281 [l0, l1, .ref a, l3] [t0] h Q ↔ zEv sc 152 282 [l0, l1, .ref a, l3] [.ref a, t0] h Q := zE_pure (q := (282, [l0, l1, .ref a, l3], [.ref a, t0])) dz152_281 rfl rfl rfl
theorem dz152_282 : decode (z_code 152) 282 = .ok (.aload_n 0, 1) := by decide +kernel
theorem u152_282 : zEv sc 152 282 [.ref a, l1, l2, l3] [t0, t1] h Q ↔ zEv sc 152 283 [.ref a, l1, l2, l3] [.ref a, t0, t1] h Q := zE_pure (q := (283, [.ref a, l1, l2, l3], [.ref a, t0, t1])) dz152_282 rfl rfl rfl
theorem dz152_283 : decode (z_code 152) 283 = .ok (.iload_n 3, 1) := by decide +kernel
theorem u152_283 : zEv sc 152 283 [l0, l1, l2, .int x] [t0, t1, t2] h Q ↔ zEv sc 152 284 [l0, l1, l2, .int x] [.int x, t0, t1, t2] h Q := zE_pure (q := (284, [l0, l1, l2, .int x], [.int x, t0, t1, t2])) dz152_283 rfl rfl rfl
theorem dz152_284 : decode (z_code 152) 284 = .ok (.iconst 1, 1) := by decide +kernel
theorem u152_284 : zEv sc 152 284 [l0, l1, l2, l3] [t0, t1, t2, t3] h Q ↔ zEv sc 152 285 [l0, l1, l2, l3] [.int 1, t0, t1, t2, t3] h Q := zE_iconst dz152_284 (by decide +kernel)
theorem dz152_285 : decode (z_code 152) 285 = .ok (.iadd, 1) := by decide +kernel
theorem u152_285 : zEv sc 152 285 [l0, l1, l2, l3] [.int x2, .int x1, t0, t1, t2] h Q ↔ zEv sc 152 286 [l0, l1, l2, l3] [.int (x1 + x2), t0, t1, t2] h Q := zE_pure (q := (286, [l0, l1, l2, l3], [.int (x1 + x2), t0, t1, t2])) dz152_285 rfl rfl rfl
theorem dz152_286 : decode (z_code 152) 286 = .ok (.iaload, 1) := by decide +kernel
theorem u152_286 (hi : vp_in x sc.1) : zEv sc 152 286 [l0, l1, l2, l3] [.int x, .ref 0, t0, t1] h Q ↔ zEv sc 152 287 [l0, l1, l2, l3] [.int (sc.2 x.toNatClampNeg), t0, t1] h Q := zE_sld dz152_286 hi
theorem dz152_287 : decode (z_code 152) 287 = .ok (.invokevirtual 35, 3) := by decide +kernel
theorem u152_287 (ho : zO a 10) : zEv sc 152 287 [l0, l1, l2, l3] [.int z0, .ref a, t0] (zst p iv) Q ↔ zEv sc 123 0 [.ref a, .int z0] [] (zst p iv) (fun r h9 => zEv sc 152 290 [l0, l1, l2, l3] (r.toList ++ [t0]) h9 Q) := zE_call (kd := 0) (na := 2) (nr := 1) (as := [.ref a, .int z0]) (rest := [t0]) (Or.inl ⟨rfl, rfl⟩) dz152_287 (by decide +kernel : z_lk2 zCT (z_cls 152) 35 = some (123, 0, 800)) (fun z => by cases z) rfl rfl rfl (by decide +kernel) rfl (Or.inr (zE_rc ho))
theorem dz152_290 : decode (z_code 152) 290 = .ok (.if_icmp .eq 529, 3) := by decide +kernel
theorem u152_290 : zEv sc 152 290 [l0, l1, l2, l3] [.int x2, .int x1] h Q ↔ (if x1 = x2 then zEv sc 152 819 [l0, l1, l2, l3] [] h Q else zEv sc 152 293 [l0, l1, l2, l3] [] h Q) := zE_icP (P := x1 = x2) inferInstance 819 dz152_290 rfl rfl
theorem dz152_293 : decode (z_code 152) 293 = .ok (.iconst 0, 1) := by decide +kernel
theorem u152_293 : zEv sc 152 293 [l0, l1, l2, l3] [] h Q ↔ zEv sc 152 294 [l0, l1, l2, l3] [.int 0] h Q := zE_iconst dz152_293 (by decide +kernel)
theorem dz152_294 : decode (z_code 152) 294 = .ok (.ireturn, 1) := by decide +kernel
theorem u152_294 : zEv sc 152 294 [l0, l1, l2, l3] [.int x] h Q ↔ ((x = 0 ∨ x = 1) ∧ Q (some (.int x)) h) := zE_rz dz152_294 (by decide +kernel)
theorem dz152_229 : decode (z_code 152) 229 = .ok (.aload_n 1, 1) := by decide +kernel
theorem u152_229 : zEv sc 152 229 [l0, .ref a, l2, l3] [] h Q ↔ zEv sc 152 230 [l0, .ref a, l2, l3] [.ref a] h Q := zE_pure (q := (230, [l0, .ref a, l2, l3], [.ref a])) dz152_229 rfl rfl rfl
theorem dz152_230 : decode (z_code 152) 230 = .ok (.aload_n 0, 1) := by decide +kernel
theorem u152_230 : zEv sc 152 230 [.ref a, l1, l2, l3] [t0] h Q ↔ zEv sc 152 231 [.ref a, l1, l2, l3] [.ref a, t0] h Q := zE_pure (q := (231, [.ref a, l1, l2, l3], [.ref a, t0])) dz152_230 rfl rfl rfl
theorem dz152_231 : decode (z_code 152) 231 = .ok (.iload_n 3, 1) := by decide +kernel
theorem u152_231 : zEv sc 152 231 [l0, l1, l2, .int x] [t0, t1] h Q ↔ zEv sc 152 232 [l0, l1, l2, .int x] [.int x, t0, t1] h Q := zE_pure (q := (232, [l0, l1, l2, .int x], [.int x, t0, t1])) dz152_231 rfl rfl rfl
theorem dz152_232 : decode (z_code 152) 232 = .ok (.iconst 1, 1) := by decide +kernel
theorem u152_232 : zEv sc 152 232 [l0, l1, l2, l3] [t0, t1, t2] h Q ↔ zEv sc 152 233 [l0, l1, l2, l3] [.int 1, t0, t1, t2] h Q := zE_iconst dz152_232 (by decide +kernel)
theorem dz152_233 : decode (z_code 152) 233 = .ok (.iadd, 1) := by decide +kernel
theorem u152_233 : zEv sc 152 233 [l0, l1, l2, l3] [.int x2, .int x1, t0, t1] h Q ↔ zEv sc 152 234 [l0, l1, l2, l3] [.int (x1 + x2), t0, t1] h Q := zE_pure (q := (234, [l0, l1, l2, l3], [.int (x1 + x2), t0, t1])) dz152_233 rfl rfl rfl
theorem dz152_234 : decode (z_code 152) 234 = .ok (.iaload, 1) := by decide +kernel
theorem u152_234 (hi : vp_in x sc.1) : zEv sc 152 234 [l0, l1, l2, l3] [.int x, .ref 0, t0] h Q ↔ zEv sc 152 235 [l0, l1, l2, l3] [.int (sc.2 x.toNatClampNeg), t0] h Q := zE_sld dz152_234 hi
theorem dz152_235 : decode (z_code 152) 235 = .ok (.aload_n 0, 1) := by decide +kernel
theorem u152_235 : zEv sc 152 235 [.ref a, l1, l2, l3] [t0, t1] h Q ↔ zEv sc 152 236 [.ref a, l1, l2, l3] [.ref a, t0, t1] h Q := zE_pure (q := (236, [.ref a, l1, l2, l3], [.ref a, t0, t1])) dz152_235 rfl rfl rfl
theorem dz152_236 : decode (z_code 152) 236 = .ok (.iload_n 3, 1) := by decide +kernel
theorem u152_236 : zEv sc 152 236 [l0, l1, l2, .int x] [t0, t1, t2] h Q ↔ zEv sc 152 237 [l0, l1, l2, .int x] [.int x, t0, t1, t2] h Q := zE_pure (q := (237, [l0, l1, l2, .int x], [.int x, t0, t1, t2])) dz152_236 rfl rfl rfl
theorem dz152_237 : decode (z_code 152) 237 = .ok (.iconst 2, 1) := by decide +kernel
theorem u152_237 : zEv sc 152 237 [l0, l1, l2, l3] [t0, t1, t2, t3] h Q ↔ zEv sc 152 238 [l0, l1, l2, l3] [.int 2, t0, t1, t2, t3] h Q := zE_iconst dz152_237 (by decide +kernel)
theorem dz152_238 : decode (z_code 152) 238 = .ok (.iadd, 1) := by decide +kernel
theorem u152_238 : zEv sc 152 238 [l0, l1, l2, l3] [.int x2, .int x1, t0, t1, t2] h Q ↔ zEv sc 152 239 [l0, l1, l2, l3] [.int (x1 + x2), t0, t1, t2] h Q := zE_pure (q := (239, [l0, l1, l2, l3], [.int (x1 + x2), t0, t1, t2])) dz152_238 rfl rfl rfl
theorem dz152_239 : decode (z_code 152) 239 = .ok (.iaload, 1) := by decide +kernel
theorem u152_239 (hi : vp_in x sc.1) : zEv sc 152 239 [l0, l1, l2, l3] [.int x, .ref 0, t0, t1] h Q ↔ zEv sc 152 240 [l0, l1, l2, l3] [.int (sc.2 x.toNatClampNeg), t0, t1] h Q := zE_sld dz152_239 hi
theorem dz152_240 : decode (z_code 152) 240 = .ok (.aload_n 0, 1) := by decide +kernel
theorem u152_240 : zEv sc 152 240 [.ref a, l1, l2, l3] [t0, t1, t2] h Q ↔ zEv sc 152 241 [.ref a, l1, l2, l3] [.ref a, t0, t1, t2] h Q := zE_pure (q := (241, [.ref a, l1, l2, l3], [.ref a, t0, t1, t2])) dz152_240 rfl rfl rfl
theorem dz152_241 : decode (z_code 152) 241 = .ok (.iload_n 3, 1) := by decide +kernel
theorem u152_241 : zEv sc 152 241 [l0, l1, l2, .int x] [t0, t1, t2, t3] h Q ↔ zEv sc 152 242 [l0, l1, l2, .int x] [.int x, t0, t1, t2, t3] h Q := zE_pure (q := (242, [l0, l1, l2, .int x], [.int x, t0, t1, t2, t3])) dz152_241 rfl rfl rfl
theorem dz152_242 : decode (z_code 152) 242 = .ok (.iconst 3, 1) := by decide +kernel
theorem u152_242 : zEv sc 152 242 [l0, l1, l2, l3] [t0, t1, t2, t3, t4] h Q ↔ zEv sc 152 243 [l0, l1, l2, l3] [.int 3, t0, t1, t2, t3, t4] h Q := zE_iconst dz152_242 (by decide +kernel)
theorem dz152_243 : decode (z_code 152) 243 = .ok (.iadd, 1) := by decide +kernel
theorem u152_243 : zEv sc 152 243 [l0, l1, l2, l3] [.int x2, .int x1, t0, t1, t2, t3] h Q ↔ zEv sc 152 244 [l0, l1, l2, l3] [.int (x1 + x2), t0, t1, t2, t3] h Q := zE_pure (q := (244, [l0, l1, l2, l3], [.int (x1 + x2), t0, t1, t2, t3])) dz152_243 rfl rfl rfl
theorem dz152_244 : decode (z_code 152) 244 = .ok (.iaload, 1) := by decide +kernel
theorem u152_244 (hi : vp_in x sc.1) : zEv sc 152 244 [l0, l1, l2, l3] [.int x, .ref 0, t0, t1, t2] h Q ↔ zEv sc 152 245 [l0, l1, l2, l3] [.int (sc.2 x.toNatClampNeg), t0, t1, t2] h Q := zE_sld dz152_244 hi
theorem dz152_245 : decode (z_code 152) 245 = .ok (.invokevirtual 27, 3) := by decide +kernel
theorem u152_245 (ho : zO a 9) : zEv sc 152 245 [l0, l1, l2, l3] [.int z2, .int z1, .int z0, .ref a] (zst p iv) Q ↔ zEv sc 60 0 [.ref a, .int z0, .int z1, .int z2, .null] [] (zst p iv) (fun r h9 => zEv sc 152 248 [l0, l1, l2, l3] (r.toList ++ []) h9 Q) := zE_call (kd := 0) (na := 4) (nr := 0) (as := [.ref a, .int z0, .int z1, .int z2]) (rest := []) (Or.inl ⟨rfl, rfl⟩) dz152_245 (by decide +kernel : z_lk2 zCT (z_cls 152) 27 = some (60, 0, 409)) (fun z => by cases z) rfl rfl rfl (by decide +kernel) rfl (Or.inr (zE_rc ho))
theorem dz152_248 : decode (z_code 152) 248 = .ok (.aload_n 2, 1) := by decide +kernel
theorem u152_248 : zEv sc 152 248 [l0, l1, .ref a, l3] [t0] h Q ↔ zEv sc 152 249 [l0, l1, .ref a, l3] [.ref a, t0] h Q := zE_pure (q := (249, [l0, l1, .ref a, l3], [.ref a, t0])) dz152_248 rfl rfl rfl
theorem dz152_249 : decode (z_code 152) 249 = .ok (.aload_n 0, 1) := by decide +kernel
theorem u152_249 : zEv sc 152 249 [.ref a, l1, l2, l3] [t0, t1] h Q ↔ zEv sc 152 250 [.ref a, l1, l2, l3] [.ref a, t0, t1] h Q := zE_pure (q := (250, [.ref a, l1, l2, l3], [.ref a, t0, t1])) dz152_249 rfl rfl rfl
theorem dz152_250 : decode (z_code 152) 250 = .ok (.iload_n 3, 1) := by decide +kernel
theorem u152_250 : zEv sc 152 250 [l0, l1, l2, .int x] [t0, t1, t2] h Q ↔ zEv sc 152 251 [l0, l1, l2, .int x] [.int x, t0, t1, t2] h Q := zE_pure (q := (251, [l0, l1, l2, .int x], [.int x, t0, t1, t2])) dz152_250 rfl rfl rfl
theorem dz152_251 : decode (z_code 152) 251 = .ok (.iconst 1, 1) := by decide +kernel
theorem u152_251 : zEv sc 152 251 [l0, l1, l2, l3] [t0, t1, t2, t3] h Q ↔ zEv sc 152 252 [l0, l1, l2, l3] [.int 1, t0, t1, t2, t3] h Q := zE_iconst dz152_251 (by decide +kernel)
theorem dz152_252 : decode (z_code 152) 252 = .ok (.iadd, 1) := by decide +kernel
theorem u152_252 : zEv sc 152 252 [l0, l1, l2, l3] [.int x2, .int x1, t0, t1, t2] h Q ↔ zEv sc 152 253 [l0, l1, l2, l3] [.int (x1 + x2), t0, t1, t2] h Q := zE_pure (q := (253, [l0, l1, l2, l3], [.int (x1 + x2), t0, t1, t2])) dz152_252 rfl rfl rfl
theorem dz152_253 : decode (z_code 152) 253 = .ok (.iaload, 1) := by decide +kernel
theorem u152_253 (hi : vp_in x sc.1) : zEv sc 152 253 [l0, l1, l2, l3] [.int x, .ref 0, t0, t1] h Q ↔ zEv sc 152 254 [l0, l1, l2, l3] [.int (sc.2 x.toNatClampNeg), t0, t1] h Q := zE_sld dz152_253 hi
theorem dz152_254 : decode (z_code 152) 254 = .ok (.aload_n 0, 1) := by decide +kernel
theorem u152_254 : zEv sc 152 254 [.ref a, l1, l2, l3] [t0, t1, t2] h Q ↔ zEv sc 152 255 [.ref a, l1, l2, l3] [.ref a, t0, t1, t2] h Q := zE_pure (q := (255, [.ref a, l1, l2, l3], [.ref a, t0, t1, t2])) dz152_254 rfl rfl rfl
theorem dz152_255 : decode (z_code 152) 255 = .ok (.iload_n 3, 1) := by decide +kernel
theorem u152_255 : zEv sc 152 255 [l0, l1, l2, .int x] [t0, t1, t2, t3] h Q ↔ zEv sc 152 256 [l0, l1, l2, .int x] [.int x, t0, t1, t2, t3] h Q := zE_pure (q := (256, [l0, l1, l2, .int x], [.int x, t0, t1, t2, t3])) dz152_255 rfl rfl rfl
theorem dz152_256 : decode (z_code 152) 256 = .ok (.iconst 2, 1) := by decide +kernel
theorem u152_256 : zEv sc 152 256 [l0, l1, l2, l3] [t0, t1, t2, t3, t4] h Q ↔ zEv sc 152 257 [l0, l1, l2, l3] [.int 2, t0, t1, t2, t3, t4] h Q := zE_iconst dz152_256 (by decide +kernel)
theorem dz152_257 : decode (z_code 152) 257 = .ok (.iadd, 1) := by decide +kernel
theorem u152_257 : zEv sc 152 257 [l0, l1, l2, l3] [.int x2, .int x1, t0, t1, t2, t3] h Q ↔ zEv sc 152 258 [l0, l1, l2, l3] [.int (x1 + x2), t0, t1, t2, t3] h Q := zE_pure (q := (258, [l0, l1, l2, l3], [.int (x1 + x2), t0, t1, t2, t3])) dz152_257 rfl rfl rfl
theorem dz152_258 : decode (z_code 152) 258 = .ok (.iaload, 1) := by decide +kernel
theorem u152_258 (hi : vp_in x sc.1) : zEv sc 152 258 [l0, l1, l2, l3] [.int x, .ref 0, t0, t1, t2] h Q ↔ zEv sc 152 259 [l0, l1, l2, l3] [.int (sc.2 x.toNatClampNeg), t0, t1, t2] h Q := zE_sld dz152_258 hi
theorem dz152_259 : decode (z_code 152) 259 = .ok (.aload_n 0, 1) := by decide +kernel
theorem u152_259 : zEv sc 152 259 [.ref a, l1, l2, l3] [t0, t1, t2, t3] h Q ↔ zEv sc 152 260 [.ref a, l1, l2, l3] [.ref a, t0, t1, t2, t3] h Q := zE_pure (q := (260, [.ref a, l1, l2, l3], [.ref a, t0, t1, t2, t3])) dz152_259 rfl rfl rfl
theorem dz152_260 : decode (z_code 152) 260 = .ok (.iload_n 3, 1) := by decide +kernel
theorem u152_260 : zEv sc 152 260 [l0, l1, l2, .int x] [t0, t1, t2, t3, t4] h Q ↔ zEv sc 152 261 [l0, l1, l2, .int x] [.int x, t0, t1, t2, t3, t4] h Q := zE_pure (q := (261, [l0, l1, l2, .int x], [.int x, t0, t1, t2, t3, t4])) dz152_260 rfl rfl rfl
theorem dz152_261 : decode (z_code 152) 261 = .ok (.iconst 3, 1) := by decide +kernel
theorem u152_261 : zEv sc 152 261 [l0, l1, l2, l3] [t0, t1, t2, t3, t4, t5] h Q ↔ zEv sc 152 262 [l0, l1, l2, l3] [.int 3, t0, t1, t2, t3, t4, t5] h Q := zE_iconst dz152_261 (by decide +kernel)
theorem dz152_262 : decode (z_code 152) 262 = .ok (.iadd, 1) := by decide +kernel
theorem u152_262 : zEv sc 152 262 [l0, l1, l2, l3] [.int x2, .int x1, t0, t1, t2, t3, t4] h Q ↔ zEv sc 152 263 [l0, l1, l2, l3] [.int (x1 + x2), t0, t1, t2, t3, t4] h Q := zE_pure (q := (263, [l0, l1, l2, l3], [.int (x1 + x2), t0, t1, t2, t3, t4])) dz152_262 rfl rfl rfl
theorem dz152_263 : decode (z_code 152) 263 = .ok (.iaload, 1) := by decide +kernel
theorem u152_263 (hi : vp_in x sc.1) : zEv sc 152 263 [l0, l1, l2, l3] [.int x, .ref 0, t0, t1, t2, t3] h Q ↔ zEv sc 152 264 [l0, l1, l2, l3] [.int (sc.2 x.toNatClampNeg), t0, t1, t2, t3] h Q := zE_sld dz152_263 hi
theorem dz152_264 : decode (z_code 152) 264 = .ok (.invokevirtual 31, 3) := by decide +kernel
theorem u152_264 (ho : zO a 10) : zEv sc 152 264 [l0, l1, l2, l3] [.int z2, .int z1, .int z0, .ref a, t0] (zst p iv) Q ↔ zEv sc 122 0 [.ref a, .int z0, .int z1, .int z2] [] (zst p iv) (fun r h9 => zEv sc 152 267 [l0, l1, l2, l3] (r.toList ++ [t0]) h9 Q) := zE_call (kd := 0) (na := 4) (nr := 1) (as := [.ref a, .int z0, .int z1, .int z2]) (rest := [t0]) (Or.inl ⟨rfl, rfl⟩) dz152_264 (by decide +kernel : z_lk2 zCT (z_cls 152) 31 = some (122, 0, 796)) (fun z => by cases z) rfl rfl rfl (by decide +kernel) rfl (Or.inr (zE_rc ho))
theorem dz152_267 : decode (z_code 152) 267 = .ok (.if_icmp .eq 552, 3) := by decide +kernel
theorem u152_267 : zEv sc 152 267 [l0, l1, l2, l3] [.int x2, .int x1] h Q ↔ (if x1 = x2 then zEv sc 152 819 [l0, l1, l2, l3] [] h Q else zEv sc 152 270 [l0, l1, l2, l3] [] h Q) := zE_icP (P := x1 = x2) inferInstance 819 dz152_267 rfl rfl
theorem dz152_270 : decode (z_code 152) 270 = .ok (.iconst 0, 1) := by decide +kernel
theorem u152_270 : zEv sc 152 270 [l0, l1, l2, l3] [] h Q ↔ zEv sc 152 271 [l0, l1, l2, l3] [.int 0] h Q := zE_iconst dz152_270 (by decide +kernel)
theorem dz152_271 : decode (z_code 152) 271 = .ok (.ireturn, 1) := by decide +kernel
theorem u152_271 : zEv sc 152 271 [l0, l1, l2, l3] [.int x] h Q ↔ ((x = 0 ∨ x = 1) ∧ Q (some (.int x)) h) := zE_rz dz152_271 (by decide +kernel)
theorem dz152_196 : decode (z_code 152) 196 = .ok (.aload_n 1, 1) := by decide +kernel
theorem u152_196 : zEv sc 152 196 [l0, .ref a, l2, l3] [] h Q ↔ zEv sc 152 197 [l0, .ref a, l2, l3] [.ref a] h Q := zE_pure (q := (197, [l0, .ref a, l2, l3], [.ref a])) dz152_196 rfl rfl rfl
theorem dz152_197 : decode (z_code 152) 197 = .ok (.aload_n 0, 1) := by decide +kernel
theorem u152_197 : zEv sc 152 197 [.ref a, l1, l2, l3] [t0] h Q ↔ zEv sc 152 198 [.ref a, l1, l2, l3] [.ref a, t0] h Q := zE_pure (q := (198, [.ref a, l1, l2, l3], [.ref a, t0])) dz152_197 rfl rfl rfl
theorem dz152_198 : decode (z_code 152) 198 = .ok (.iload_n 3, 1) := by decide +kernel
theorem u152_198 : zEv sc 152 198 [l0, l1, l2, .int x] [t0, t1] h Q ↔ zEv sc 152 199 [l0, l1, l2, .int x] [.int x, t0, t1] h Q := zE_pure (q := (199, [l0, l1, l2, .int x], [.int x, t0, t1])) dz152_198 rfl rfl rfl
theorem dz152_199 : decode (z_code 152) 199 = .ok (.iconst 1, 1) := by decide +kernel
theorem u152_199 : zEv sc 152 199 [l0, l1, l2, l3] [t0, t1, t2] h Q ↔ zEv sc 152 200 [l0, l1, l2, l3] [.int 1, t0, t1, t2] h Q := zE_iconst dz152_199 (by decide +kernel)
theorem dz152_200 : decode (z_code 152) 200 = .ok (.iadd, 1) := by decide +kernel
theorem u152_200 : zEv sc 152 200 [l0, l1, l2, l3] [.int x2, .int x1, t0, t1] h Q ↔ zEv sc 152 201 [l0, l1, l2, l3] [.int (x1 + x2), t0, t1] h Q := zE_pure (q := (201, [l0, l1, l2, l3], [.int (x1 + x2), t0, t1])) dz152_200 rfl rfl rfl
theorem dz152_201 : decode (z_code 152) 201 = .ok (.iaload, 1) := by decide +kernel
theorem u152_201 (hi : vp_in x sc.1) : zEv sc 152 201 [l0, l1, l2, l3] [.int x, .ref 0, t0] h Q ↔ zEv sc 152 202 [l0, l1, l2, l3] [.int (sc.2 x.toNatClampNeg), t0] h Q := zE_sld dz152_201 hi
theorem dz152_202 : decode (z_code 152) 202 = .ok (.aload_n 0, 1) := by decide +kernel
theorem u152_202 : zEv sc 152 202 [.ref a, l1, l2, l3] [t0, t1] h Q ↔ zEv sc 152 203 [.ref a, l1, l2, l3] [.ref a, t0, t1] h Q := zE_pure (q := (203, [.ref a, l1, l2, l3], [.ref a, t0, t1])) dz152_202 rfl rfl rfl
theorem dz152_203 : decode (z_code 152) 203 = .ok (.iload_n 3, 1) := by decide +kernel
theorem u152_203 : zEv sc 152 203 [l0, l1, l2, .int x] [t0, t1, t2] h Q ↔ zEv sc 152 204 [l0, l1, l2, .int x] [.int x, t0, t1, t2] h Q := zE_pure (q := (204, [l0, l1, l2, .int x], [.int x, t0, t1, t2])) dz152_203 rfl rfl rfl
theorem dz152_204 : decode (z_code 152) 204 = .ok (.iconst 2, 1) := by decide +kernel
theorem u152_204 : zEv sc 152 204 [l0, l1, l2, l3] [t0, t1, t2, t3] h Q ↔ zEv sc 152 205 [l0, l1, l2, l3] [.int 2, t0, t1, t2, t3] h Q := zE_iconst dz152_204 (by decide +kernel)
theorem dz152_205 : decode (z_code 152) 205 = .ok (.iadd, 1) := by decide +kernel
theorem u152_205 : zEv sc 152 205 [l0, l1, l2, l3] [.int x2, .int x1, t0, t1, t2] h Q ↔ zEv sc 152 206 [l0, l1, l2, l3] [.int (x1 + x2), t0, t1, t2] h Q := zE_pure (q := (206, [l0, l1, l2, l3], [.int (x1 + x2), t0, t1, t2])) dz152_205 rfl rfl rfl
theorem dz152_206 : decode (z_code 152) 206 = .ok (.iaload, 1) := by decide +kernel
theorem u152_206 (hi : vp_in x sc.1) : zEv sc 152 206 [l0, l1, l2, l3] [.int x, .ref 0, t0, t1] h Q ↔ zEv sc 152 207 [l0, l1, l2, l3] [.int (sc.2 x.toNatClampNeg), t0, t1] h Q := zE_sld dz152_206 hi
theorem dz152_207 : decode (z_code 152) 207 = .ok (.invokevirtual 23, 3) := by decide +kernel
theorem u152_207 (ho : zO a 9) : zEv sc 152 207 [l0, l1, l2, l3] [.int z1, .int z0, .ref a] (zst p iv) Q ↔ zEv sc 59 0 [.ref a, .int z0, .int z1, .null] [] (zst p iv) (fun r h9 => zEv sc 152 210 [l0, l1, l2, l3] (r.toList ++ []) h9 Q) := zE_call (kd := 0) (na := 3) (nr := 0) (as := [.ref a, .int z0, .int z1]) (rest := []) (Or.inl ⟨rfl, rfl⟩) dz152_207 (by decide +kernel : z_lk2 zCT (z_cls 152) 23 = some (59, 0, 378)) (fun z => by cases z) rfl rfl rfl (by decide +kernel) rfl (Or.inr (zE_rc ho))
theorem dz152_210 : decode (z_code 152) 210 = .ok (.aload_n 2, 1) := by decide +kernel
theorem u152_210 : zEv sc 152 210 [l0, l1, .ref a, l3] [t0] h Q ↔ zEv sc 152 211 [l0, l1, .ref a, l3] [.ref a, t0] h Q := zE_pure (q := (211, [l0, l1, .ref a, l3], [.ref a, t0])) dz152_210 rfl rfl rfl
theorem dz152_211 : decode (z_code 152) 211 = .ok (.aload_n 0, 1) := by decide +kernel
theorem u152_211 : zEv sc 152 211 [.ref a, l1, l2, l3] [t0, t1] h Q ↔ zEv sc 152 212 [.ref a, l1, l2, l3] [.ref a, t0, t1] h Q := zE_pure (q := (212, [.ref a, l1, l2, l3], [.ref a, t0, t1])) dz152_211 rfl rfl rfl
theorem dz152_212 : decode (z_code 152) 212 = .ok (.iload_n 3, 1) := by decide +kernel
theorem u152_212 : zEv sc 152 212 [l0, l1, l2, .int x] [t0, t1, t2] h Q ↔ zEv sc 152 213 [l0, l1, l2, .int x] [.int x, t0, t1, t2] h Q := zE_pure (q := (213, [l0, l1, l2, .int x], [.int x, t0, t1, t2])) dz152_212 rfl rfl rfl
theorem dz152_213 : decode (z_code 152) 213 = .ok (.iconst 1, 1) := by decide +kernel
theorem u152_213 : zEv sc 152 213 [l0, l1, l2, l3] [t0, t1, t2, t3] h Q ↔ zEv sc 152 214 [l0, l1, l2, l3] [.int 1, t0, t1, t2, t3] h Q := zE_iconst dz152_213 (by decide +kernel)
theorem dz152_214 : decode (z_code 152) 214 = .ok (.iadd, 1) := by decide +kernel
theorem u152_214 : zEv sc 152 214 [l0, l1, l2, l3] [.int x2, .int x1, t0, t1, t2] h Q ↔ zEv sc 152 215 [l0, l1, l2, l3] [.int (x1 + x2), t0, t1, t2] h Q := zE_pure (q := (215, [l0, l1, l2, l3], [.int (x1 + x2), t0, t1, t2])) dz152_214 rfl rfl rfl
theorem dz152_215 : decode (z_code 152) 215 = .ok (.iaload, 1) := by decide +kernel
theorem u152_215 (hi : vp_in x sc.1) : zEv sc 152 215 [l0, l1, l2, l3] [.int x, .ref 0, t0, t1] h Q ↔ zEv sc 152 216 [l0, l1, l2, l3] [.int (sc.2 x.toNatClampNeg), t0, t1] h Q := zE_sld dz152_215 hi
theorem dz152_216 : decode (z_code 152) 216 = .ok (.aload_n 0, 1) := by decide +kernel
theorem u152_216 : zEv sc 152 216 [.ref a, l1, l2, l3] [t0, t1, t2] h Q ↔ zEv sc 152 217 [.ref a, l1, l2, l3] [.ref a, t0, t1, t2] h Q := zE_pure (q := (217, [.ref a, l1, l2, l3], [.ref a, t0, t1, t2])) dz152_216 rfl rfl rfl
theorem dz152_217 : decode (z_code 152) 217 = .ok (.iload_n 3, 1) := by decide +kernel
theorem u152_217 : zEv sc 152 217 [l0, l1, l2, .int x] [t0, t1, t2, t3] h Q ↔ zEv sc 152 218 [l0, l1, l2, .int x] [.int x, t0, t1, t2, t3] h Q := zE_pure (q := (218, [l0, l1, l2, .int x], [.int x, t0, t1, t2, t3])) dz152_217 rfl rfl rfl
theorem dz152_218 : decode (z_code 152) 218 = .ok (.iconst 2, 1) := by decide +kernel
theorem u152_218 : zEv sc 152 218 [l0, l1, l2, l3] [t0, t1, t2, t3, t4] h Q ↔ zEv sc 152 219 [l0, l1, l2, l3] [.int 2, t0, t1, t2, t3, t4] h Q := zE_iconst dz152_218 (by decide +kernel)
theorem dz152_219 : decode (z_code 152) 219 = .ok (.iadd, 1) := by decide +kernel
theorem u152_219 : zEv sc 152 219 [l0, l1, l2, l3] [.int x2, .int x1, t0, t1, t2, t3] h Q ↔ zEv sc 152 220 [l0, l1, l2, l3] [.int (x1 + x2), t0, t1, t2, t3] h Q := zE_pure (q := (220, [l0, l1, l2, l3], [.int (x1 + x2), t0, t1, t2, t3])) dz152_219 rfl rfl rfl
theorem dz152_220 : decode (z_code 152) 220 = .ok (.iaload, 1) := by decide +kernel
theorem u152_220 (hi : vp_in x sc.1) : zEv sc 152 220 [l0, l1, l2, l3] [.int x, .ref 0, t0, t1, t2] h Q ↔ zEv sc 152 221 [l0, l1, l2, l3] [.int (sc.2 x.toNatClampNeg), t0, t1, t2] h Q := zE_sld dz152_220 hi
theorem dz152_221 : decode (z_code 152) 221 = .ok (.invokevirtual 26, 3) := by decide +kernel
theorem u152_221 (ho : zO a 10) : zEv sc 152 221 [l0, l1, l2, l3] [.int z1, .int z0, .ref a, t0] (zst p iv) Q ↔ zEv sc 121 0 [.ref a, .int z0, .int z1] [] (zst p iv) (fun r h9 => zEv sc 152 224 [l0, l1, l2, l3] (r.toList ++ [t0]) h9 Q) := zE_call (kd := 0) (na := 3) (nr := 1) (as := [.ref a, .int z0, .int z1]) (rest := [t0]) (Or.inl ⟨rfl, rfl⟩) dz152_221 (by decide +kernel : z_lk2 zCT (z_cls 152) 26 = some (121, 0, 765)) (fun z => by cases z) rfl rfl rfl (by decide +kernel) rfl (Or.inr (zE_rc ho))
theorem dz152_224 : decode (z_code 152) 224 = .ok (.if_icmp .eq 595, 3) := by decide +kernel
theorem u152_224 : zEv sc 152 224 [l0, l1, l2, l3] [.int x2, .int x1] h Q ↔ (if x1 = x2 then zEv sc 152 819 [l0, l1, l2, l3] [] h Q else zEv sc 152 227 [l0, l1, l2, l3] [] h Q) := zE_icP (P := x1 = x2) inferInstance 819 dz152_224 rfl rfl
theorem dz152_227 : decode (z_code 152) 227 = .ok (.iconst 0, 1) := by decide +kernel
theorem u152_227 : zEv sc 152 227 [l0, l1, l2, l3] [] h Q ↔ zEv sc 152 228 [l0, l1, l2, l3] [.int 0] h Q := zE_iconst dz152_227 (by decide +kernel)
theorem dz152_228 : decode (z_code 152) 228 = .ok (.ireturn, 1) := by decide +kernel
theorem u152_228 : zEv sc 152 228 [l0, l1, l2, l3] [.int x] h Q ↔ ((x = 0 ∨ x = 1) ∧ Q (some (.int x)) h) := zE_rz dz152_228 (by decide +kernel)
theorem dz152_163 : decode (z_code 152) 163 = .ok (.aload_n 1, 1) := by decide +kernel
theorem u152_163 : zEv sc 152 163 [l0, .ref a, l2, l3] [] h Q ↔ zEv sc 152 164 [l0, .ref a, l2, l3] [.ref a] h Q := zE_pure (q := (164, [l0, .ref a, l2, l3], [.ref a])) dz152_163 rfl rfl rfl
theorem dz152_164 : decode (z_code 152) 164 = .ok (.aload_n 0, 1) := by decide +kernel
theorem u152_164 : zEv sc 152 164 [.ref a, l1, l2, l3] [t0] h Q ↔ zEv sc 152 165 [.ref a, l1, l2, l3] [.ref a, t0] h Q := zE_pure (q := (165, [.ref a, l1, l2, l3], [.ref a, t0])) dz152_164 rfl rfl rfl
theorem dz152_165 : decode (z_code 152) 165 = .ok (.iload_n 3, 1) := by decide +kernel
theorem u152_165 : zEv sc 152 165 [l0, l1, l2, .int x] [t0, t1] h Q ↔ zEv sc 152 166 [l0, l1, l2, .int x] [.int x, t0, t1] h Q := zE_pure (q := (166, [l0, l1, l2, .int x], [.int x, t0, t1])) dz152_165 rfl rfl rfl
theorem dz152_166 : decode (z_code 152) 166 = .ok (.iconst 1, 1) := by decide +kernel
theorem u152_166 : zEv sc 152 166 [l0, l1, l2, l3] [t0, t1, t2] h Q ↔ zEv sc 152 167 [l0, l1, l2, l3] [.int 1, t0, t1, t2] h Q := zE_iconst dz152_166 (by decide +kernel)
theorem dz152_167 : decode (z_code 152) 167 = .ok (.iadd, 1) := by decide +kernel
theorem u152_167 : zEv sc 152 167 [l0, l1, l2, l3] [.int x2, .int x1, t0, t1] h Q ↔ zEv sc 152 168 [l0, l1, l2, l3] [.int (x1 + x2), t0, t1] h Q := zE_pure (q := (168, [l0, l1, l2, l3], [.int (x1 + x2), t0, t1])) dz152_167 rfl rfl rfl
theorem dz152_168 : decode (z_code 152) 168 = .ok (.iaload, 1) := by decide +kernel
theorem u152_168 (hi : vp_in x sc.1) : zEv sc 152 168 [l0, l1, l2, l3] [.int x, .ref 0, t0] h Q ↔ zEv sc 152 169 [l0, l1, l2, l3] [.int (sc.2 x.toNatClampNeg), t0] h Q := zE_sld dz152_168 hi
theorem dz152_169 : decode (z_code 152) 169 = .ok (.aload_n 0, 1) := by decide +kernel
theorem u152_169 : zEv sc 152 169 [.ref a, l1, l2, l3] [t0, t1] h Q ↔ zEv sc 152 170 [.ref a, l1, l2, l3] [.ref a, t0, t1] h Q := zE_pure (q := (170, [.ref a, l1, l2, l3], [.ref a, t0, t1])) dz152_169 rfl rfl rfl
theorem dz152_170 : decode (z_code 152) 170 = .ok (.iload_n 3, 1) := by decide +kernel
theorem u152_170 : zEv sc 152 170 [l0, l1, l2, .int x] [t0, t1, t2] h Q ↔ zEv sc 152 171 [l0, l1, l2, .int x] [.int x, t0, t1, t2] h Q := zE_pure (q := (171, [l0, l1, l2, .int x], [.int x, t0, t1, t2])) dz152_170 rfl rfl rfl
theorem dz152_171 : decode (z_code 152) 171 = .ok (.iconst 2, 1) := by decide +kernel
theorem u152_171 : zEv sc 152 171 [l0, l1, l2, l3] [t0, t1, t2, t3] h Q ↔ zEv sc 152 172 [l0, l1, l2, l3] [.int 2, t0, t1, t2, t3] h Q := zE_iconst dz152_171 (by decide +kernel)
theorem dz152_172 : decode (z_code 152) 172 = .ok (.iadd, 1) := by decide +kernel
theorem u152_172 : zEv sc 152 172 [l0, l1, l2, l3] [.int x2, .int x1, t0, t1, t2] h Q ↔ zEv sc 152 173 [l0, l1, l2, l3] [.int (x1 + x2), t0, t1, t2] h Q := zE_pure (q := (173, [l0, l1, l2, l3], [.int (x1 + x2), t0, t1, t2])) dz152_172 rfl rfl rfl
theorem dz152_173 : decode (z_code 152) 173 = .ok (.iaload, 1) := by decide +kernel
theorem u152_173 (hi : vp_in x sc.1) : zEv sc 152 173 [l0, l1, l2, l3] [.int x, .ref 0, t0, t1] h Q ↔ zEv sc 152 174 [l0, l1, l2, l3] [.int (sc.2 x.toNatClampNeg), t0, t1] h Q := zE_sld dz152_173 hi
theorem dz152_174 : decode (z_code 152) 174 = .ok (.invokevirtual 18, 3) := by decide +kernel
theorem u152_174 (ho : zO a 9) : zEv sc 152 174 [l0, l1, l2, l3] [.int z1, .int z0, .ref a] (zst p iv) Q ↔ zEv sc 58 0 [.ref a, .int z0, .int z1, .null] [] (zst p iv) (fun r h9 => zEv sc 152 177 [l0, l1, l2, l3] (r.toList ++ []) h9 Q) := zE_call (kd := 0) (na := 3) (nr := 0) (as := [.ref a, .int z0, .int z1]) (rest := []) (Or.inl ⟨rfl, rfl⟩) dz152_174 (by decide +kernel : z_lk2 zCT (z_cls 152) 18 = some (58, 0, 369)) (fun z => by cases z) rfl rfl rfl (by decide +kernel) rfl (Or.inr (zE_rc ho))
theorem dz152_177 : decode (z_code 152) 177 = .ok (.aload_n 2, 1) := by decide +kernel
theorem u152_177 : zEv sc 152 177 [l0, l1, .ref a, l3] [t0] h Q ↔ zEv sc 152 178 [l0, l1, .ref a, l3] [.ref a, t0] h Q := zE_pure (q := (178, [l0, l1, .ref a, l3], [.ref a, t0])) dz152_177 rfl rfl rfl
theorem dz152_178 : decode (z_code 152) 178 = .ok (.aload_n 0, 1) := by decide +kernel
theorem u152_178 : zEv sc 152 178 [.ref a, l1, l2, l3] [t0, t1] h Q ↔ zEv sc 152 179 [.ref a, l1, l2, l3] [.ref a, t0, t1] h Q := zE_pure (q := (179, [.ref a, l1, l2, l3], [.ref a, t0, t1])) dz152_178 rfl rfl rfl
theorem dz152_179 : decode (z_code 152) 179 = .ok (.iload_n 3, 1) := by decide +kernel
theorem u152_179 : zEv sc 152 179 [l0, l1, l2, .int x] [t0, t1, t2] h Q ↔ zEv sc 152 180 [l0, l1, l2, .int x] [.int x, t0, t1, t2] h Q := zE_pure (q := (180, [l0, l1, l2, .int x], [.int x, t0, t1, t2])) dz152_179 rfl rfl rfl
theorem dz152_180 : decode (z_code 152) 180 = .ok (.iconst 1, 1) := by decide +kernel
theorem u152_180 : zEv sc 152 180 [l0, l1, l2, l3] [t0, t1, t2, t3] h Q ↔ zEv sc 152 181 [l0, l1, l2, l3] [.int 1, t0, t1, t2, t3] h Q := zE_iconst dz152_180 (by decide +kernel)
theorem dz152_181 : decode (z_code 152) 181 = .ok (.iadd, 1) := by decide +kernel
theorem u152_181 : zEv sc 152 181 [l0, l1, l2, l3] [.int x2, .int x1, t0, t1, t2] h Q ↔ zEv sc 152 182 [l0, l1, l2, l3] [.int (x1 + x2), t0, t1, t2] h Q := zE_pure (q := (182, [l0, l1, l2, l3], [.int (x1 + x2), t0, t1, t2])) dz152_181 rfl rfl rfl
theorem dz152_182 : decode (z_code 152) 182 = .ok (.iaload, 1) := by decide +kernel
theorem u152_182 (hi : vp_in x sc.1) : zEv sc 152 182 [l0, l1, l2, l3] [.int x, .ref 0, t0, t1] h Q ↔ zEv sc 152 183 [l0, l1, l2, l3] [.int (sc.2 x.toNatClampNeg), t0, t1] h Q := zE_sld dz152_182 hi
theorem dz152_183 : decode (z_code 152) 183 = .ok (.aload_n 0, 1) := by decide +kernel
theorem u152_183 : zEv sc 152 183 [.ref a, l1, l2, l3] [t0, t1, t2] h Q ↔ zEv sc 152 184 [.ref a, l1, l2, l3] [.ref a, t0, t1, t2] h Q := zE_pure (q := (184, [.ref a, l1, l2, l3], [.ref a, t0, t1, t2])) dz152_183 rfl rfl rfl
theorem dz152_184 : decode (z_code 152) 184 = .ok (.iload_n 3, 1) := by decide +kernel
theorem u152_184 : zEv sc 152 184 [l0, l1, l2, .int x] [t0, t1, t2, t3] h Q ↔ zEv sc 152 185 [l0, l1, l2, .int x] [.int x, t0, t1, t2, t3] h Q := zE_pure (q := (185, [l0, l1, l2, .int x], [.int x, t0, t1, t2, t3])) dz152_184 rfl rfl rfl
theorem dz152_185 : decode (z_code 152) 185 = .ok (.iconst 2, 1) := by decide +kernel
theorem u152_185 : zEv sc 152 185 [l0, l1, l2, l3] [t0, t1, t2, t3, t4] h Q ↔ zEv sc 152 186 [l0, l1, l2, l3] [.int 2, t0, t1, t2, t3, t4] h Q := zE_iconst dz152_185 (by decide +kernel)
theorem dz152_186 : decode (z_code 152) 186 = .ok (.iadd, 1) := by decide +kernel
theorem u152_186 : zEv sc 152 186 [l0, l1, l2, l3] [.int x2, .int x1, t0, t1, t2, t3] h Q ↔ zEv sc 152 187 [l0, l1, l2, l3] [.int (x1 + x2), t0, t1, t2, t3] h Q := zE_pure (q := (187, [l0, l1, l2, l3], [.int (x1 + x2), t0, t1, t2, t3])) dz152_186 rfl rfl rfl
theorem dz152_187 : decode (z_code 152) 187 = .ok (.iaload, 1) := by decide +kernel
theorem u152_187 (hi : vp_in x sc.1) : zEv sc 152 187 [l0, l1, l2, l3] [.int x, .ref 0, t0, t1, t2] h Q ↔ zEv sc 152 188 [l0, l1, l2, l3] [.int (sc.2 x.toNatClampNeg), t0, t1, t2] h Q := zE_sld dz152_187 hi
theorem dz152_188 : decode (z_code 152) 188 = .ok (.invokevirtual 22, 3) := by decide +kernel
theorem u152_188 (ho : zO a 10) : zEv sc 152 188 [l0, l1, l2, l3] [.int z1, .int z0, .ref a, t0] (zst p iv) Q ↔ zEv sc 120 0 [.ref a, .int z0, .int z1] [] (zst p iv) (fun r h9 => zEv sc 152 191 [l0, l1, l2, l3] (r.toList ++ [t0]) h9 Q) := zE_call (kd := 0) (na := 3) (nr := 1) (as := [.ref a, .int z0, .int z1]) (rest := [t0]) (Or.inl ⟨rfl, rfl⟩) dz152_188 (by decide +kernel : z_lk2 zCT (z_cls 152) 22 = some (120, 0, 753)) (fun z => by cases z) rfl rfl rfl (by decide +kernel) rfl (Or.inr (zE_rc ho))
theorem dz152_191 : decode (z_code 152) 191 = .ok (.if_icmp .eq 628, 3) := by decide +kernel
theorem u152_191 : zEv sc 152 191 [l0, l1, l2, l3] [.int x2, .int x1] h Q ↔ (if x1 = x2 then zEv sc 152 819 [l0, l1, l2, l3] [] h Q else zEv sc 152 194 [l0, l1, l2, l3] [] h Q) := zE_icP (P := x1 = x2) inferInstance 819 dz152_191 rfl rfl
theorem dz152_194 : decode (z_code 152) 194 = .ok (.iconst 0, 1) := by decide +kernel
theorem u152_194 : zEv sc 152 194 [l0, l1, l2, l3] [] h Q ↔ zEv sc 152 195 [l0, l1, l2, l3] [.int 0] h Q := zE_iconst dz152_194 (by decide +kernel)
theorem dz152_195 : decode (z_code 152) 195 = .ok (.ireturn, 1) := by decide +kernel
theorem u152_195 : zEv sc 152 195 [l0, l1, l2, l3] [.int x] h Q ↔ ((x = 0 ∨ x = 1) ∧ Q (some (.int x)) h) := zE_rz dz152_195 (by decide +kernel)
theorem dz152_140 : decode (z_code 152) 140 = .ok (.aload_n 1, 1) := by decide +kernel
theorem u152_140 : zEv sc 152 140 [l0, .ref a, l2, l3] [] h Q ↔ zEv sc 152 141 [l0, .ref a, l2, l3] [.ref a] h Q := zE_pure (q := (141, [l0, .ref a, l2, l3], [.ref a])) dz152_140 rfl rfl rfl
theorem dz152_141 : decode (z_code 152) 141 = .ok (.aload_n 0, 1) := by decide +kernel
theorem u152_141 : zEv sc 152 141 [.ref a, l1, l2, l3] [t0] h Q ↔ zEv sc 152 142 [.ref a, l1, l2, l3] [.ref a, t0] h Q := zE_pure (q := (142, [.ref a, l1, l2, l3], [.ref a, t0])) dz152_141 rfl rfl rfl
theorem dz152_142 : decode (z_code 152) 142 = .ok (.iload_n 3, 1) := by decide +kernel
theorem u152_142 : zEv sc 152 142 [l0, l1, l2, .int x] [t0, t1] h Q ↔ zEv sc 152 143 [l0, l1, l2, .int x] [.int x, t0, t1] h Q := zE_pure (q := (143, [l0, l1, l2, .int x], [.int x, t0, t1])) dz152_142 rfl rfl rfl
theorem dz152_143 : decode (z_code 152) 143 = .ok (.iconst 1, 1) := by decide +kernel
theorem u152_143 : zEv sc 152 143 [l0, l1, l2, l3] [t0, t1, t2] h Q ↔ zEv sc 152 144 [l0, l1, l2, l3] [.int 1, t0, t1, t2] h Q := zE_iconst dz152_143 (by decide +kernel)
theorem dz152_144 : decode (z_code 152) 144 = .ok (.iadd, 1) := by decide +kernel
theorem u152_144 : zEv sc 152 144 [l0, l1, l2, l3] [.int x2, .int x1, t0, t1] h Q ↔ zEv sc 152 145 [l0, l1, l2, l3] [.int (x1 + x2), t0, t1] h Q := zE_pure (q := (145, [l0, l1, l2, l3], [.int (x1 + x2), t0, t1])) dz152_144 rfl rfl rfl
theorem dz152_145 : decode (z_code 152) 145 = .ok (.iaload, 1) := by decide +kernel
theorem u152_145 (hi : vp_in x sc.1) : zEv sc 152 145 [l0, l1, l2, l3] [.int x, .ref 0, t0] h Q ↔ zEv sc 152 146 [l0, l1, l2, l3] [.int (sc.2 x.toNatClampNeg), t0] h Q := zE_sld dz152_145 hi
theorem dz152_146 : decode (z_code 152) 146 = .ok (.invokevirtual 13, 3) := by decide +kernel
theorem u152_146 (ho : zO a 9) : zEv sc 152 146 [l0, l1, l2, l3] [.int z0, .ref a] (zst p iv) Q ↔ zEv sc 57 0 [.ref a, .int z0, .null] [] (zst p iv) (fun r h9 => zEv sc 152 149 [l0, l1, l2, l3] (r.toList ++ []) h9 Q) := zE_call (kd := 0) (na := 2) (nr := 0) (as := [.ref a, .int z0]) (rest := []) (Or.inl ⟨rfl, rfl⟩) dz152_146 (by decide +kernel : z_lk2 zCT (z_cls 152) 13 = some (57, 0, 340)) (fun z => by cases z) rfl rfl rfl (by decide +kernel) rfl (Or.inr (zE_rc ho))
theorem dz152_149 : decode (z_code 152) 149 = .ok (.aload_n 2, 1) := by decide +kernel
theorem u152_149 : zEv sc 152 149 [l0, l1, .ref a, l3] [t0] h Q ↔ zEv sc 152 150 [l0, l1, .ref a, l3] [.ref a, t0] h Q := zE_pure (q := (150, [l0, l1, .ref a, l3], [.ref a, t0])) dz152_149 rfl rfl rfl
theorem dz152_150 : decode (z_code 152) 150 = .ok (.aload_n 0, 1) := by decide +kernel
theorem u152_150 : zEv sc 152 150 [.ref a, l1, l2, l3] [t0, t1] h Q ↔ zEv sc 152 151 [.ref a, l1, l2, l3] [.ref a, t0, t1] h Q := zE_pure (q := (151, [.ref a, l1, l2, l3], [.ref a, t0, t1])) dz152_150 rfl rfl rfl
theorem dz152_151 : decode (z_code 152) 151 = .ok (.iload_n 3, 1) := by decide +kernel
theorem u152_151 : zEv sc 152 151 [l0, l1, l2, .int x] [t0, t1, t2] h Q ↔ zEv sc 152 152 [l0, l1, l2, .int x] [.int x, t0, t1, t2] h Q := zE_pure (q := (152, [l0, l1, l2, .int x], [.int x, t0, t1, t2])) dz152_151 rfl rfl rfl
theorem dz152_152 : decode (z_code 152) 152 = .ok (.iconst 1, 1) := by decide +kernel
theorem u152_152 : zEv sc 152 152 [l0, l1, l2, l3] [t0, t1, t2, t3] h Q ↔ zEv sc 152 153 [l0, l1, l2, l3] [.int 1, t0, t1, t2, t3] h Q := zE_iconst dz152_152 (by decide +kernel)
theorem dz152_153 : decode (z_code 152) 153 = .ok (.iadd, 1) := by decide +kernel
theorem u152_153 : zEv sc 152 153 [l0, l1, l2, l3] [.int x2, .int x1, t0, t1, t2] h Q ↔ zEv sc 152 154 [l0, l1, l2, l3] [.int (x1 + x2), t0, t1, t2] h Q := zE_pure (q := (154, [l0, l1, l2, l3], [.int (x1 + x2), t0, t1, t2])) dz152_153 rfl rfl rfl
theorem dz152_154 : decode (z_code 152) 154 = .ok (.iaload, 1) := by decide +kernel
theorem u152_154 (hi : vp_in x sc.1) : zEv sc 152 154 [l0, l1, l2, l3] [.int x, .ref 0, t0, t1] h Q ↔ zEv sc 152 155 [l0, l1, l2, l3] [.int (sc.2 x.toNatClampNeg), t0, t1] h Q := zE_sld dz152_154 hi
theorem dz152_155 : decode (z_code 152) 155 = .ok (.invokevirtual 17, 3) := by decide +kernel
theorem u152_155 (ho : zO a 10) : zEv sc 152 155 [l0, l1, l2, l3] [.int z0, .ref a, t0] (zst p iv) Q ↔ zEv sc 119 0 [.ref a, .int z0] [] (zst p iv) (fun r h9 => zEv sc 152 158 [l0, l1, l2, l3] (r.toList ++ [t0]) h9 Q) := zE_call (kd := 0) (na := 2) (nr := 1) (as := [.ref a, .int z0]) (rest := [t0]) (Or.inl ⟨rfl, rfl⟩) dz152_155 (by decide +kernel : z_lk2 zCT (z_cls 152) 17 = some (119, 0, 726)) (fun z => by cases z) rfl rfl rfl (by decide +kernel) rfl (Or.inr (zE_rc ho))
theorem dz152_158 : decode (z_code 152) 158 = .ok (.if_icmp .eq 661, 3) := by decide +kernel
theorem u152_158 : zEv sc 152 158 [l0, l1, l2, l3] [.int x2, .int x1] h Q ↔ (if x1 = x2 then zEv sc 152 819 [l0, l1, l2, l3] [] h Q else zEv sc 152 161 [l0, l1, l2, l3] [] h Q) := zE_icP (P := x1 = x2) inferInstance 819 dz152_158 rfl rfl
theorem dz152_161 : decode (z_code 152) 161 = .ok (.iconst 0, 1) := by decide +kernel
theorem u152_161 : zEv sc 152 161 [l0, l1, l2, l3] [] h Q ↔ zEv sc 152 162 [l0, l1, l2, l3] [.int 0] h Q := zE_iconst dz152_161 (by decide +kernel)
theorem dz152_162 : decode (z_code 152) 162 = .ok (.ireturn, 1) := by decide +kernel
theorem u152_162 : zEv sc 152 162 [l0, l1, l2, l3] [.int x] h Q ↔ ((x = 0 ∨ x = 1) ∧ Q (some (.int x)) h) := zE_rz dz152_162 (by decide +kernel)
theorem dz152_825 : decode (z_code 152) 825 = .ok (.iconst 1, 1) := by decide +kernel
theorem u152_825 : zEv sc 152 825 [l0, l1, l2, l3] [] h Q ↔ zEv sc 152 826 [l0, l1, l2, l3] [.int 1] h Q := zE_iconst dz152_825 (by decide +kernel)
theorem dz152_826 : decode (z_code 152) 826 = .ok (.ireturn, 1) := by decide +kernel
theorem u152_826 : zEv sc 152 826 [l0, l1, l2, l3] [.int x] h Q ↔ ((x = 0 ∨ x = 1) ∧ Q (some (.int x)) h) := zE_rz dz152_826 (by decide +kernel)
end ZU4
