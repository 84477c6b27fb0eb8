/-! ===== the law's own method over states alone: ZP, a row an instruction (printed by wip/p26/gen4.py) ===== -/
def lQ : Option Value → zA → Prop := fun r h => r = some (.int 1) ∧ h.1 ≤ 600000 ∧ h.2.1 ≤ 7302250
/-- from here the law comes to its end with true -/
def ZP (sc : Nat × (Nat → Int32)) (pc : Nat) (L S : List Value) (cs : CS) (hs : List CS) (t : List Nat) : Prop := ∀ p iv, RC iv p cs hs t → zEv sc 93 pc L S (zst p iv) lQ
section ZP0
variable {sc : Nat × (Nat → Int32)} {pc m pc' a b : Nat} {L S L' S' La Sa Lb Sb args : List Value} {cs cs1 : CS} {hs hs1 : List CS} {t t1 : List Nat} {x x1 x2 : Int32} {vv : Value}
theorem zp_iff (e : ∀ h, zEv sc 93 pc L S h lQ ↔ zEv sc 93 pc' L' S' h lQ) : ZP sc pc L S cs hs t ↔ ZP sc pc' L' S' cs hs t := by
  unfold ZP
  simp only [e]
theorem zp_if {c : Prop} [Decidable c] (e : ∀ h, zEv sc 93 pc L S h lQ ↔ (if c then zEv sc 93 a La Sa h lQ else zEv sc 93 b Lb Sb h lQ)) : ZP sc pc L S cs hs t ↔ (if c then ZP sc a La Sa cs hs t else ZP sc b Lb Sb cs hs t) := by
  by_cases hc : c
  · rw [if_pos hc]
    exact zp_iff (fun h => by rw [e, if_pos hc])
  · rw [if_neg hc]
    exact zp_iff (fun h => by rw [e, if_neg hc])
theorem zp_div (hx : ¬ x2 = 0) (e : ∀ h, zEv sc 93 pc L S h lQ ↔ (¬ x2 = 0 ∧ zEv sc 93 pc' L' S' h lQ)) : ZP sc pc L S cs hs t ↔ ZP sc pc' L' S' cs hs t := zp_iff (fun h => by rw [e]; exact ⟨fun z => z.2, fun z => ⟨hx, z⟩⟩)
theorem zp_r (e : ∀ h, zEv sc 93 pc L [.int 1] h lQ ↔ (((1 : Int32) = 0 ∨ (1 : Int32) = 1) ∧ lQ (some (.int 1)) h)) : ZP sc pc L [.int 1] cs hs t := fun p iv R => (e _).mpr ⟨Or.inr rfl, rfl, by show 90 ≤ 600000; omega, Nat.le_trans zc_ok.2.2.1 (by omega)⟩
theorem zp_call (u : ∀ p iv, zEv sc 93 pc L S (zst p iv) lQ ↔ zEv sc m 0 args [] (zst p iv) (fun r h9 => zEv sc 93 pc' L' (r.toList ++ S') h9 lQ)) (K : ∀ p iv, RC iv p cs hs t → OKc sc m args p iv x cs1 hs1 t1) (g : ZP sc pc' L' (.int x :: S') cs1 hs1 t1) : ZP sc pc L S cs hs t := by
  intro p iv R
  obtain ⟨iv1, p1, R1, -, e1⟩ := K p iv R
  exact (u p iv).mpr (e1 _ (g p1 iv1 R1))
theorem zp_callZ (u : ∀ h, zEv sc 93 pc L S h lQ ↔ zEv sc m 0 args [] h (fun r h9 => zEv sc 93 pc' L' (r.toList ++ S') h9 lQ)) (K : ZR sc m 0 args [] cs hs t (vv, cs1, hs1, t1)) (g : ZP sc pc' L' (vv :: S') cs1 hs1 t1) : ZP sc pc L S cs hs t := by
  intro p iv R
  obtain ⟨iv1, p1, R1, e1⟩ := K p iv R
  exact (u _).mpr (e1 _ (g p1 iv1 R1))
theorem ZP_of (g : sOk cs → hs.length ≤ 4 → t.length ≤ 80 → ZP sc pc L S cs hs t) : ZP sc pc L S cs hs t := fun p iv R => g R.sk R.2.2.1.1 R.2.2.2.2.2.1 p iv R
end ZP0
section ZP1
variable {sc : Nat × (Nat → Int32)} {cs : CS} {hs : List CS} {t : List Nat} {l0 l1 l2 l3 l4 l5 l6 l7 l8 l9 l10 l11 t0 t1 t2 t3 t4 t5 t6 v1 v2 : Value} {x x1 x2 z0 z1 z2 z3 : Int32} {j1 j2 : Int64} {a b0 b1 b2 : Nat}
theorem p93_8 : ZP sc 8 [l0, .ref a, l2, l3, l4, l5, l6, l7, l8, l9, l10] [] cs hs t ↔ ZP sc 9 [l0, .ref a, l2, l3, l4, l5, l6, l7, l8, l9, l10] [.ref a] cs hs t := zp_iff (fun _ => u93_8)
theorem p93_9 : ZP sc 9 [l0, l1, l2, l3, l4, l5, l6, l7, l8, l9, l10] [t0] cs hs t ↔ ZP sc 10 [l0, l1, l2, l3, l4, l5, l6, l7, l8, l9, l10] [.int 0, t0] cs hs t := zp_iff (fun _ => u93_9)
theorem p93_10 {vv : Value} {cs1 : CS} {hs1 : List CS} {ts1 : List Nat} (K : ZR sc 89 0 [.ref 1, .int z0, .null, .null, .null, .null, .null, .null, .null, .null, .null, .null] [] cs hs t (vv, cs1, hs1, ts1)) (g : ZP sc 13 [l0, l1, l2, l3, l4, l5, l6, l7, l8, l9, l10] [vv] cs1 hs1 ts1) : ZP sc 10 [l0, l1, l2, l3, l4, l5, l6, l7, l8, l9, l10] [.int z0, .ref 1] cs hs t := zp_callZ (fun _ => u93_10) K g
theorem p93_13 : ZP sc 13 [l0, l1, l2, l3, l4, l5, l6, l7, l8, l9, l10] [.int x] cs hs t ↔ (if x = 0 then ZP sc 29 [l0, l1, l2, l3, l4, l5, l6, l7, l8, l9, l10] [] cs hs t else ZP sc 16 [l0, l1, l2, l3, l4, l5, l6, l7, l8, l9, l10] [] cs hs t) := zp_if (fun _ => u93_13)
theorem p93_16 : ZP sc 16 [l0, .ref a, l2, l3, l4, l5, l6, l7, l8, l9, l10] [] cs hs t ↔ ZP sc 17 [l0, .ref a, l2, l3, l4, l5, l6, l7, l8, l9, l10] [.ref a] cs hs t := zp_iff (fun _ => u93_16)
theorem p93_17 (g : ZP sc 20 [l0, l1, l2, l3, l4, l5, l6, l7, l8, l9, l10] [.int (sUndo cs hs).1] (sUndo cs hs).2.1 (sUndo cs hs).2.2 t) : ZP sc 17 [l0, l1, l2, l3, l4, l5, l6, l7, l8, l9, l10] [.ref 1] cs hs t := zp_call (fun _ _ => u93_17 zl_o9) (fun _ _ R => k_undo R) g
theorem p93_20 : ZP sc 20 [l0, l1, l2, l3, l4, l5, l6, l7, l8, l9, l10] [t0] cs hs t ↔ ZP sc 22 [l0, l1, l2, l3, l4, l5, l6, l7, l8, l9, l10] [.int (-1000002), t0] cs hs t := zp_iff (fun _ => u93_20)
theorem p93_22 : ZP sc 22 [l0, l1, l2, l3, l4, l5, l6, l7, l8, l9, l10] [.int x2, .int x1] cs hs t ↔ (if ¬ x1 = x2 then ZP sc 29 [l0, l1, l2, l3, l4, l5, l6, l7, l8, l9, l10] [] cs hs t else ZP sc 25 [l0, l1, l2, l3, l4, l5, l6, l7, l8, l9, l10] [] cs hs t) := zp_if (fun _ => u93_22)
theorem p93_25 : ZP sc 25 [l0, l1, l2, l3, l4, l5, l6, l7, l8, l9, l10] [] cs hs t ↔ ZP sc 26 [l0, l1, l2, l3, l4, l5, l6, l7, l8, l9, l10] [.int 1] cs hs t := zp_iff (fun _ => u93_25)
theorem p93_26 : ZP sc 26 [l0, l1, l2, l3, l4, l5, l6, l7, l8, l9, l10] [t0] cs hs t ↔ ZP sc 30 [l0, l1, l2, l3, l4, l5, l6, l7, l8, l9, l10] [t0] cs hs t := zp_iff (fun _ => u93_26)
theorem p93_30 : ZP sc 30 [l0, l1, l2, l3, l4, l5, l6, l7, l8, l9, l10] [.int x] cs hs t ↔ ZP sc 31 [l0, l1, .int x, l3, l4, l5, l6, l7, l8, l9, l10] [] cs hs t := zp_iff (fun _ => u93_30)
theorem p93_31 : ZP sc 31 [l0, l1, l2, l3, l4, l5, l6, l7, l8, l9, l10] [] cs hs t ↔ ZP sc 32 [l0, l1, l2, l3, l4, l5, l6, l7, l8, l9, l10] [.int 0] cs hs t := zp_iff (fun _ => u93_31)
theorem p93_32 : ZP sc 32 [l0, l1, l2, l3, l4, l5, l6, l7, l8, l9, l10] [.int x] cs hs t ↔ ZP sc 33 [l0, l1, l2, .int x, l4, l5, l6, l7, l8, l9, l10] [] cs hs t := zp_iff (fun _ => u93_32)
theorem p93_33 : ZP sc 33 [l0, l1, l2, .int x, l4, l5, l6, l7, l8, l9, l10] [] cs hs t ↔ ZP sc 34 [l0, l1, l2, .int x, l4, l5, l6, l7, l8, l9, l10] [.int x] cs hs t := zp_iff (fun _ => u93_33)
theorem p93_34 : ZP sc 34 [l0, l1, l2, l3, l4, l5, l6, l7, l8, l9, l10] [t0] cs hs t ↔ ZP sc 36 [l0, l1, l2, l3, l4, l5, l6, l7, l8, l9, l10] [.int 26, t0] cs hs t := zp_iff (fun _ => u93_34)
theorem p93_36 : ZP sc 36 [l0, l1, l2, l3, l4, l5, l6, l7, l8, l9, l10] [.int x2, .int x1] cs hs t ↔ (if x2 ≤ x1 then ZP sc 270 [l0, l1, l2, l3, l4, l5, l6, l7, l8, l9, l10] [] cs hs t else ZP sc 39 [l0, l1, l2, l3, l4, l5, l6, l7, l8, l9, l10] [] cs hs t) := zp_if (fun _ => u93_36)
theorem p93_39 : ZP sc 39 [l0, l1, .int x, l3, l4, l5, l6, l7, l8, l9, l10] [] cs hs t ↔ ZP sc 40 [l0, l1, .int x, l3, l4, l5, l6, l7, l8, l9, l10] [.int x] cs hs t := zp_iff (fun _ => u93_39)
theorem p93_40 : ZP sc 40 [l0, l1, l2, l3, l4, l5, l6, l7, l8, l9, l10] [.int x] cs hs t ↔ (if x = 0 then ZP sc 270 [l0, l1, l2, l3, l4, l5, l6, l7, l8, l9, l10] [] cs hs t else ZP sc 43 [l0, l1, l2, l3, l4, l5, l6, l7, l8, l9, l10] [] cs hs t) := zp_if (fun _ => u93_40)
theorem p93_43 : ZP sc 43 [.ref a, l1, l2, l3, l4, l5, l6, l7, l8, l9, l10] [] cs hs t ↔ ZP sc 44 [.ref a, l1, l2, l3, l4, l5, l6, l7, l8, l9, l10] [.ref a] cs hs t := zp_iff (fun _ => u93_43)
theorem p93_44 : ZP sc 44 [l0, l1, l2, l3, l4, l5, l6, l7, l8, l9, l10] [t0] cs hs t ↔ ZP sc 45 [l0, l1, l2, l3, l4, l5, l6, l7, l8, l9, l10] [.int 2, t0] cs hs t := zp_iff (fun _ => u93_44)
theorem p93_45 : ZP sc 45 [l0, l1, l2, .int x, l4, l5, l6, l7, l8, l9, l10] [t0, t1] cs hs t ↔ ZP sc 46 [l0, l1, l2, .int x, l4, l5, l6, l7, l8, l9, l10] [.int x, t0, t1] cs hs t := zp_iff (fun _ => u93_45)
theorem p93_46 : ZP sc 46 [l0, l1, l2, l3, l4, l5, l6, l7, l8, l9, l10] [.int x2, .int x1, t0] cs hs t ↔ ZP sc 47 [l0, l1, l2, l3, l4, l5, l6, l7, l8, l9, l10] [.int (x1 * x2), t0] cs hs t := zp_iff (fun _ => u93_46)
theorem p93_47 (hx : ¬ x < 0 ∧ sc.1 ≤ 2048) : ZP sc 47 [l0, l1, l2, l3, l4, l5, l6, l7, l8, l9, l10] [.int x, .ref 0] cs hs t ↔ ZP sc 50 [l0, l1, l2, l3, l4, l5, l6, l7, l8, l9, l10] [.int (z_lt sc x)] cs hs t := zp_iff (fun _ => u93_47 hx)
theorem p93_50 : ZP sc 50 [l0, l1, l2, l3, l4, l5, l6, l7, l8, l9, l10] [.int x] cs hs t ↔ ZP sc 52 [l0, l1, l2, l3, .int x, l5, l6, l7, l8, l9, l10] [] cs hs t := zp_iff (fun _ => u93_50)
theorem p93_52 : ZP sc 52 [.ref a, l1, l2, l3, l4, l5, l6, l7, l8, l9, l10] [] cs hs t ↔ ZP sc 53 [.ref a, l1, l2, l3, l4, l5, l6, l7, l8, l9, l10] [.ref a] cs hs t := zp_iff (fun _ => u93_52)
theorem p93_53 : ZP sc 53 [l0, l1, l2, l3, l4, l5, l6, l7, l8, l9, l10] [t0] cs hs t ↔ ZP sc 54 [l0, l1, l2, l3, l4, l5, l6, l7, l8, l9, l10] [.int 2, t0] cs hs t := zp_iff (fun _ => u93_53)
theorem p93_54 : ZP sc 54 [l0, l1, l2, .int x, l4, l5, l6, l7, l8, l9, l10] [t0, t1] cs hs t ↔ ZP sc 55 [l0, l1, l2, .int x, l4, l5, l6, l7, l8, l9, l10] [.int x, t0, t1] cs hs t := zp_iff (fun _ => u93_54)
theorem p93_55 : ZP sc 55 [l0, l1, l2, l3, l4, l5, l6, l7, l8, l9, l10] [.int x2, .int x1, t0] cs hs t ↔ ZP sc 56 [l0, l1, l2, l3, l4, l5, l6, l7, l8, l9, l10] [.int (x1 * x2), t0] cs hs t := zp_iff (fun _ => u93_55)
theorem p93_56 : ZP sc 56 [l0, l1, l2, l3, l4, l5, l6, l7, l8, l9, l10] [t0, t1] cs hs t ↔ ZP sc 57 [l0, l1, l2, l3, l4, l5, l6, l7, l8, l9, l10] [.int 1, t0, t1] cs hs t := zp_iff (fun _ => u93_56)
theorem p93_57 : ZP sc 57 [l0, l1, l2, l3, l4, l5, l6, l7, l8, l9, l10] [.int x2, .int x1, t0] cs hs t ↔ ZP sc 58 [l0, l1, l2, l3, l4, l5, l6, l7, l8, l9, l10] [.int (x1 + x2), t0] cs hs t := zp_iff (fun _ => u93_57)
theorem p93_58 (hx : ¬ x < 0 ∧ sc.1 ≤ 2048) : ZP sc 58 [l0, l1, l2, l3, l4, l5, l6, l7, l8, l9, l10] [.int x, .ref 0] cs hs t ↔ ZP sc 61 [l0, l1, l2, l3, l4, l5, l6, l7, l8, l9, l10] [.int (z_lt sc x)] cs hs t := zp_iff (fun _ => u93_58 hx)
theorem p93_61 : ZP sc 61 [l0, l1, l2, l3, l4, l5, l6, l7, l8, l9, l10] [.int x] cs hs t ↔ ZP sc 63 [l0, l1, l2, l3, l4, .int x, l6, l7, l8, l9, l10] [] cs hs t := zp_iff (fun _ => u93_61)
theorem p93_63 : ZP sc 63 [l0, .ref a, l2, l3, l4, l5, l6, l7, l8, l9, l10] [] cs hs t ↔ ZP sc 64 [l0, .ref a, l2, l3, l4, l5, l6, l7, l8, l9, l10] [.ref a] cs hs t := zp_iff (fun _ => u93_63)
theorem p93_64 {vv : Value} {cs1 : CS} {hs1 : List CS} {ts1 : List Nat} (K : ZR sc 88 0 [.ref 1, .null, .null, .null, .null] [] cs hs t (vv, cs1, hs1, ts1)) (g : ZP sc 67 [l0, l1, l2, l3, l4, l5, l6, l7, l8, l9, l10] [vv] cs1 hs1 ts1) : ZP sc 64 [l0, l1, l2, l3, l4, l5, l6, l7, l8, l9, l10] [.ref 1] cs hs t := zp_callZ (fun _ => u93_64) K g
theorem p93_67 : ZP sc 67 [l0, l1, l2, l3, l4, l5, l6, l7, l8, l9, l10] [.long j1] cs hs t ↔ ZP sc 69 [l0, l1, l2, l3, l4, l5, .long j1, .float 0, l8, l9, l10] [] cs hs t := zp_iff (fun _ => u93_67)
theorem p93_69 : ZP sc 69 [l0, .ref a, l2, l3, l4, l5, l6, l7, l8, l9, l10] [] cs hs t ↔ ZP sc 70 [l0, .ref a, l2, l3, l4, l5, l6, l7, l8, l9, l10] [.ref a] cs hs t := zp_iff (fun _ => u93_69)
theorem p93_70 : ZP sc 70 [l0, l1, l2, l3, l4, l5, l6, l7, l8, l9, l10] [t0] cs hs t ↔ ZP sc 72 [l0, l1, l2, l3, l4, l5, l6, l7, l8, l9, l10] [.int 9, t0] cs hs t := zp_iff (fun _ => u93_70)
theorem p93_72 (g : ZP sc 75 [l0, l1, l2, l3, l4, l5, l6, l7, l8, l9, l10] [.int (sCount cs hs.length t.length z0)] cs hs t) : ZP sc 72 [l0, l1, l2, l3, l4, l5, l6, l7, l8, l9, l10] [.int z0, .ref 1] cs hs t := zp_call (fun _ _ => u93_72 zl_o9) (fun _ _ R => k_count R) g
theorem p93_75 : ZP sc 75 [l0, l1, l2, l3, l4, l5, l6, l7, l8, l9, l10] [.int x] cs hs t ↔ ZP sc 77 [l0, l1, l2, l3, l4, l5, l6, l7, .int x, l9, l10] [] cs hs t := zp_iff (fun _ => u93_75)
theorem p93_77 : ZP sc 77 [l0, .ref a, l2, l3, l4, l5, l6, l7, l8, l9, l10] [] cs hs t ↔ ZP sc 78 [l0, .ref a, l2, l3, l4, l5, l6, l7, l8, l9, l10] [.ref a] cs hs t := zp_iff (fun _ => u93_77)
theorem p93_78 : ZP sc 78 [l0, l1, l2, .int x, l4, l5, l6, l7, l8, l9, l10] [t0] cs hs t ↔ ZP sc 79 [l0, l1, l2, .int x, l4, l5, l6, l7, l8, l9, l10] [.int x, t0] cs hs t := zp_iff (fun _ => u93_78)
theorem p93_79 : ZP sc 79 [l0, l1, l2, l3, l4, l5, l6, l7, l8, l9, l10] [t0, t1] cs hs t ↔ ZP sc 80 [l0, l1, l2, l3, l4, l5, l6, l7, l8, l9, l10] [.int 4, t0, t1] cs hs t := zp_iff (fun _ => u93_79)
theorem p93_80 : ZP sc 80 [l0, l1, l2, l3, l4, l5, l6, l7, l8, l9, l10] [.int x2, .int x1, t0] cs hs t ↔ (if x2 ≤ x1 then ZP sc 91 [l0, l1, l2, l3, l4, l5, l6, l7, l8, l9, l10] [t0] cs hs t else ZP sc 83 [l0, l1, l2, l3, l4, l5, l6, l7, l8, l9, l10] [t0] cs hs t) := zp_if (fun _ => u93_80)
theorem p93_83 : ZP sc 83 [l0, l1, l2, l3, .int x, l5, l6, l7, l8, l9, l10] [t0] cs hs t ↔ ZP sc 85 [l0, l1, l2, l3, .int x, l5, l6, l7, l8, l9, l10] [.int x, t0] cs hs t := zp_iff (fun _ => u93_83)
theorem p93_85 : ZP sc 85 [l0, l1, l2, l3, l4, l5, l6, l7, l8, l9, l10] [t0, t1] cs hs t ↔ ZP sc 87 [l0, l1, l2, l3, l4, l5, l6, l7, l8, l9, l10] [.int (-16), t0, t1] cs hs t := zp_iff (fun _ => u93_85)
theorem p93_87 : ZP sc 87 [l0, l1, l2, l3, l4, l5, l6, l7, l8, l9, l10] [.int x2, .int x1, t0] cs hs t ↔ ZP sc 88 [l0, l1, l2, l3, l4, l5, l6, l7, l8, l9, l10] [.int (x1 &&& x2), t0] cs hs t := zp_iff (fun _ => u93_87)
theorem p93_88 : ZP sc 88 [l0, l1, l2, l3, l4, l5, l6, l7, l8, l9, l10] [t0, t1] cs hs t ↔ ZP sc 93 [l0, l1, l2, l3, l4, l5, l6, l7, l8, l9, l10] [t0, t1] cs hs t := zp_iff (fun _ => u93_88)
theorem p93_93 : ZP sc 93 [l0, l1, l2, l3, l4, .int x, l6, l7, l8, l9, l10] [t0, t1] cs hs t ↔ ZP sc 95 [l0, l1, l2, l3, l4, .int x, l6, l7, l8, l9, l10] [.int x, t0, t1] cs hs t := zp_iff (fun _ => u93_93)
theorem p93_95 {vv : Value} {cs1 : CS} {hs1 : List CS} {ts1 : List Nat} (K : ZR sc 92 0 [.ref 1, .int z0, .int z1, .null, .null, .null, .null, .null, .null, .null, .null] [] cs hs t (vv, cs1, hs1, ts1)) (g : ZP sc 98 [l0, l1, l2, l3, l4, l5, l6, l7, l8, l9, l10] [vv] cs1 hs1 ts1) : ZP sc 95 [l0, l1, l2, l3, l4, l5, l6, l7, l8, l9, l10] [.int z1, .int z0, .ref 1] cs hs t := zp_callZ (fun _ => u93_95) K g
theorem p93_98 : ZP sc 98 [l0, l1, l2, l3, l4, l5, l6, l7, l8, l9, l10] [.int x] cs hs t ↔ (if x = 0 then ZP sc 116 [l0, l1, l2, l3, l4, l5, l6, l7, l8, l9, l10] [] cs hs t else ZP sc 101 [l0, l1, l2, l3, l4, l5, l6, l7, l8, l9, l10] [] cs hs t) := zp_if (fun _ => u93_98)
theorem p93_101 : ZP sc 101 [l0, .ref a, l2, l3, l4, l5, l6, l7, l8, l9, l10] [] cs hs t ↔ ZP sc 102 [l0, .ref a, l2, l3, l4, l5, l6, l7, l8, l9, l10] [.ref a] cs hs t := zp_iff (fun _ => u93_101)
theorem p93_102 : ZP sc 102 [l0, l1, l2, l3, l4, .int x, l6, l7, l8, l9, l10] [t0] cs hs t ↔ ZP sc 104 [l0, l1, l2, l3, l4, .int x, l6, l7, l8, l9, l10] [.int x, t0] cs hs t := zp_iff (fun _ => u93_102)
theorem p93_104 : ZP sc 104 [l0, l1, l2, l3, l4, l5, l6, l7, l8, l9, l10] [t0, t1] cs hs t ↔ ZP sc 105 [l0, l1, l2, l3, l4, l5, l6, l7, l8, l9, l10] [.int 5, t0, t1] cs hs t := zp_iff (fun _ => u93_104)
theorem p93_105 : ZP sc 105 [l0, l1, l2, l3, l4, l5, l6, l7, l8, l9, l10] [.int x2, .int x1, t0] cs hs t ↔ ZP sc 106 [l0, l1, l2, l3, l4, l5, l6, l7, l8, l9, l10] [.int (x1 >>> (x2 &&& 31)), t0] cs hs t := zp_iff (fun _ => u93_105)
theorem p93_106 {vv : Value} {cs1 : CS} {hs1 : List CS} {ts1 : List Nat} (K : ZR sc 89 0 [.ref 1, .int z0, .null, .null, .null, .null, .null, .null, .null, .null, .null, .null] [] cs hs t (vv, cs1, hs1, ts1)) (g : ZP sc 109 [l0, l1, l2, l3, l4, l5, l6, l7, l8, l9, l10] [vv] cs1 hs1 ts1) : ZP sc 106 [l0, l1, l2, l3, l4, l5, l6, l7, l8, l9, l10] [.int z0, .ref 1] cs hs t := zp_callZ (fun _ => u93_106) K g
theorem p93_109 : ZP sc 109 [l0, l1, l2, l3, l4, l5, l6, l7, l8, l9, l10] [.int x] cs hs t ↔ (if x = 0 then ZP sc 116 [l0, l1, l2, l3, l4, l5, l6, l7, l8, l9, l10] [] cs hs t else ZP sc 112 [l0, l1, l2, l3, l4, l5, l6, l7, l8, l9, l10] [] cs hs t) := zp_if (fun _ => u93_109)
theorem p93_112 : ZP sc 112 [l0, l1, l2, l3, l4, l5, l6, l7, l8, l9, l10] [] cs hs t ↔ ZP sc 113 [l0, l1, l2, l3, l4, l5, l6, l7, l8, l9, l10] [.int 1] cs hs t := zp_iff (fun _ => u93_112)
theorem p93_113 : ZP sc 113 [l0, l1, l2, l3, l4, l5, l6, l7, l8, l9, l10] [t0] cs hs t ↔ ZP sc 117 [l0, l1, l2, l3, l4, l5, l6, l7, l8, l9, l10] [t0] cs hs t := zp_iff (fun _ => u93_113)
theorem p93_117 : ZP sc 117 [l0, l1, l2, l3, l4, l5, l6, l7, l8, l9, l10] [.int x] cs hs t ↔ ZP sc 118 [l0, l1, .int x, l3, l4, l5, l6, l7, l8, l9, l10] [] cs hs t := zp_iff (fun _ => u93_117)
theorem p93_118 : ZP sc 118 [l0, .ref a, l2, l3, l4, l5, l6, l7, l8, l9, l10] [] cs hs t ↔ ZP sc 119 [l0, .ref a, l2, l3, l4, l5, l6, l7, l8, l9, l10] [.ref a] cs hs t := zp_iff (fun _ => u93_118)
theorem p93_119 : ZP sc 119 [l0, l1, l2, l3, l4, l5, l6, l7, l8, l9, l10] [t0] cs hs t ↔ ZP sc 121 [l0, l1, l2, l3, l4, l5, l6, l7, l8, l9, l10] [.int 9, t0] cs hs t := zp_iff (fun _ => u93_119)
theorem p93_121 (g : ZP sc 124 [l0, l1, l2, l3, l4, l5, l6, l7, l8, l9, l10] [.int (sCount cs hs.length t.length z0)] cs hs t) : ZP sc 121 [l0, l1, l2, l3, l4, l5, l6, l7, l8, l9, l10] [.int z0, .ref 1] cs hs t := zp_call (fun _ _ => u93_121 zl_o9) (fun _ _ R => k_count R) g
theorem p93_124 : ZP sc 124 [l0, l1, l2, l3, l4, l5, l6, l7, l8, l9, l10] [.int x] cs hs t ↔ ZP sc 126 [l0, l1, l2, l3, l4, l5, l6, l7, l8, .int x, l10] [] cs hs t := zp_iff (fun _ => u93_124)
theorem p93_126 : ZP sc 126 [l0, l1, .int x, l3, l4, l5, l6, l7, l8, l9, l10] [] cs hs t ↔ ZP sc 127 [l0, l1, .int x, l3, l4, l5, l6, l7, l8, l9, l10] [.int x] cs hs t := zp_iff (fun _ => u93_126)
theorem p93_127 : ZP sc 127 [l0, l1, l2, l3, l4, l5, l6, l7, l8, l9, l10] [.int x] cs hs t ↔ (if x = 0 then ZP sc 166 [l0, l1, l2, l3, l4, l5, l6, l7, l8, l9, l10] [] cs hs t else ZP sc 130 [l0, l1, l2, l3, l4, l5, l6, l7, l8, l9, l10] [] cs hs t) := zp_if (fun _ => u93_127)
theorem p93_130 : ZP sc 130 [l0, l1, l2, l3, l4, l5, l6, l7, l8, .int x, l10] [] cs hs t ↔ ZP sc 132 [l0, l1, l2, l3, l4, l5, l6, l7, l8, .int x, l10] [.int x] cs hs t := zp_iff (fun _ => u93_130)
theorem p93_132 : ZP sc 132 [l0, l1, l2, l3, l4, l5, l6, l7, .int x, l9, l10] [t0] cs hs t ↔ ZP sc 134 [l0, l1, l2, l3, l4, l5, l6, l7, .int x, l9, l10] [.int x, t0] cs hs t := zp_iff (fun _ => u93_132)
theorem p93_134 : ZP sc 134 [l0, l1, l2, l3, l4, l5, l6, l7, l8, l9, l10] [.int x2, .int x1] cs hs t ↔ (if ¬ x1 = x2 then ZP sc 153 [l0, l1, l2, l3, l4, l5, l6, l7, l8, l9, l10] [] cs hs t else ZP sc 137 [l0, l1, l2, l3, l4, l5, l6, l7, l8, l9, l10] [] cs hs t) := zp_if (fun _ => u93_134)
theorem p93_137 : ZP sc 137 [l0, l1, l2, l3, l4, l5, l6, l7, .int x, l9, l10] [] cs hs t ↔ ZP sc 139 [l0, l1, l2, l3, l4, l5, l6, l7, .int x, l9, l10] [.int x] cs hs t := zp_iff (fun _ => u93_137)
theorem p93_139 : ZP sc 139 [l0, l1, l2, l3, l4, l5, l6, l7, l8, l9, l10] [t0] cs hs t ↔ ZP sc 140 [l0, l1, l2, l3, l4, l5, l6, l7, l8, l9, l10] [.int 4, t0] cs hs t := zp_iff (fun _ => u93_139)
theorem p93_140 : ZP sc 140 [l0, l1, l2, l3, l4, l5, l6, l7, l8, l9, l10] [.int x2, .int x1] cs hs t ↔ (if x1 = x2 then ZP sc 162 [l0, l1, l2, l3, l4, l5, l6, l7, l8, l9, l10] [] cs hs t else ZP sc 143 [l0, l1, l2, l3, l4, l5, l6, l7, l8, l9, l10] [] cs hs t) := zp_if (fun _ => u93_140)
theorem p93_143 : ZP sc 143 [l0, .ref a, l2, l3, l4, l5, l6, l7, l8, l9, l10] [] cs hs t ↔ ZP sc 144 [l0, .ref a, l2, l3, l4, l5, l6, l7, l8, l9, l10] [.ref a] cs hs t := zp_iff (fun _ => u93_143)
theorem p93_144 {vv : Value} {cs1 : CS} {hs1 : List CS} {ts1 : List Nat} (K : ZR sc 88 0 [.ref 1, .null, .null, .null, .null] [] cs hs t (vv, cs1, hs1, ts1)) (g : ZP sc 147 [l0, l1, l2, l3, l4, l5, l6, l7, l8, l9, l10] [vv] cs1 hs1 ts1) : ZP sc 144 [l0, l1, l2, l3, l4, l5, l6, l7, l8, l9, l10] [.ref 1] cs hs t := zp_callZ (fun _ => u93_144) K g
theorem p93_147 : ZP sc 147 [l0, l1, l2, l3, l4, l5, .long j1, .float 0, l8, l9, l10] [t0] cs hs t ↔ ZP sc 149 [l0, l1, l2, l3, l4, l5, .long j1, .float 0, l8, l9, l10] [.long j1, t0] cs hs t := zp_iff (fun _ => u93_147)
theorem p93_149 : ZP sc 149 [l0, l1, l2, l3, l4, l5, l6, l7, l8, l9, l10] [.long j2, .long j1] cs hs t ↔ ZP sc 150 [l0, l1, l2, l3, l4, l5, l6, l7, l8, l9, l10] [.int (lg_cmp j1 j2)] cs hs t := zp_iff (fun _ => u93_149)
theorem p93_150 : ZP sc 150 [l0, l1, l2, l3, l4, l5, l6, l7, l8, l9, l10] [.int x] cs hs t ↔ (if x = 0 then ZP sc 162 [l0, l1, l2, l3, l4, l5, l6, l7, l8, l9, l10] [] cs hs t else ZP sc 153 [l0, l1, l2, l3, l4, l5, l6, l7, l8, l9, l10] [] cs hs t) := zp_if (fun _ => u93_150)
theorem p93_162 : ZP sc 162 [l0, l1, l2, l3, l4, l5, l6, l7, l8, l9, l10] [] cs hs t ↔ ZP sc 163 [l0, l1, l2, l3, l4, l5, l6, l7, l8, l9, l10] [.int 1] cs hs t := zp_iff (fun _ => u93_162)
theorem p93_163 : ZP sc 163 [l0, l1, l2, l3, l4, l5, l6, l7, l8, l9, l10] [t0] cs hs t ↔ ZP sc 167 [l0, l1, l2, l3, l4, l5, l6, l7, l8, l9, l10] [t0] cs hs t := zp_iff (fun _ => u93_163)
theorem p93_167 : ZP sc 167 [l0, l1, l2, l3, l4, l5, l6, l7, l8, l9, l10] [.int x] cs hs t ↔ ZP sc 168 [l0, l1, .int x, l3, l4, l5, l6, l7, l8, l9, l10] [] cs hs t := zp_iff (fun _ => u93_167)
theorem p93_168 : ZP sc 168 [l0, l1, .int x, l3, l4, l5, l6, l7, l8, l9, l10] [] cs hs t ↔ ZP sc 169 [l0, l1, .int x, l3, l4, l5, l6, l7, l8, l9, l10] [.int x] cs hs t := zp_iff (fun _ => u93_168)
theorem p93_169 : ZP sc 169 [l0, l1, l2, l3, l4, l5, l6, l7, l8, l9, l10] [.int x] cs hs t ↔ (if x = 0 then ZP sc 218 [l0, l1, l2, l3, l4, l5, l6, l7, l8, l9, l10] [] cs hs t else ZP sc 172 [l0, l1, l2, l3, l4, l5, l6, l7, l8, l9, l10] [] cs hs t) := zp_if (fun _ => u93_169)
theorem p93_172 : ZP sc 172 [l0, l1, l2, l3, l4, l5, l6, l7, l8, .int x, l10] [] cs hs t ↔ ZP sc 174 [l0, l1, l2, l3, l4, l5, l6, l7, l8, .int x, l10] [.int x] cs hs t := zp_iff (fun _ => u93_172)
theorem p93_174 : ZP sc 174 [l0, l1, l2, l3, l4, l5, l6, l7, .int x, l9, l10] [t0] cs hs t ↔ ZP sc 176 [l0, l1, l2, l3, l4, l5, l6, l7, .int x, l9, l10] [.int x, t0] cs hs t := zp_iff (fun _ => u93_174)
theorem p93_176 : ZP sc 176 [l0, l1, l2, l3, l4, l5, l6, l7, l8, l9, l10] [t0, t1] cs hs t ↔ ZP sc 177 [l0, l1, l2, l3, l4, l5, l6, l7, l8, l9, l10] [.int 1, t0, t1] cs hs t := zp_iff (fun _ => u93_176)
theorem p93_177 : ZP sc 177 [l0, l1, l2, l3, l4, l5, l6, l7, l8, l9, l10] [.int x2, .int x1, t0] cs hs t ↔ ZP sc 178 [l0, l1, l2, l3, l4, l5, l6, l7, l8, l9, l10] [.int (x1 + x2), t0] cs hs t := zp_iff (fun _ => u93_177)
theorem p93_178 : ZP sc 178 [l0, l1, l2, l3, l4, l5, l6, l7, l8, l9, l10] [.int x2, .int x1] cs hs t ↔ (if ¬ x1 = x2 then ZP sc 218 [l0, l1, l2, l3, l4, l5, l6, l7, l8, l9, l10] [] cs hs t else ZP sc 181 [l0, l1, l2, l3, l4, l5, l6, l7, l8, l9, l10] [] cs hs t) := zp_if (fun _ => u93_178)
theorem p93_181 : ZP sc 181 [l0, l1, l2, l3, l4, .int x, l6, l7, l8, l9, l10] [] cs hs t ↔ ZP sc 183 [l0, l1, l2, l3, l4, .int x, l6, l7, l8, l9, l10] [.int x] cs hs t := zp_iff (fun _ => u93_181)
theorem p93_183 : ZP sc 183 [l0, l1, l2, l3, l4, l5, l6, l7, l8, l9, l10] [t0] cs hs t ↔ ZP sc 185 [l0, l1, l2, l3, l4, l5, l6, l7, l8, l9, l10] [.int 8, t0] cs hs t := zp_iff (fun _ => u93_183)
theorem p93_185 : ZP sc 185 [l0, l1, l2, l3, l4, l5, l6, l7, l8, l9, l10] [.int x2, .int x1] cs hs t ↔ ZP sc 186 [l0, l1, l2, l3, l4, l5, l6, l7, l8, l9, l10] [.int (x1 >>> (x2 &&& 31))] cs hs t := zp_iff (fun _ => u93_185)
theorem p93_186 : ZP sc 186 [l0, l1, l2, l3, l4, l5, l6, l7, l8, l9, l10] [t0] cs hs t ↔ ZP sc 187 [l0, l1, l2, l3, l4, l5, l6, l7, l8, l9, l10] [.int 2, t0] cs hs t := zp_iff (fun _ => u93_186)
theorem p93_187 (hn : ¬ z1 = 0) : ZP sc 187 [l0, l1, l2, l3, l4, l5, l6, l7, l8, l9, l10] [.int z1, .int z0] cs hs t ↔ ZP sc 190 [l0, l1, l2, l3, l4, l5, l6, l7, l8, l9, l10] [.int (loI z0 z1)] cs hs t := zp_iff (fun h => (u93_187 (h := h)).trans (c_low hn))
theorem p93_190 : ZP sc 190 [l0, l1, l2, l3, l4, l5, l6, l7, l8, l9, l10] [.int x] cs hs t ↔ (if ¬ x = 0 then ZP sc 218 [l0, l1, l2, l3, l4, l5, l6, l7, l8, l9, l10] [] cs hs t else ZP sc 193 [l0, l1, l2, l3, l4, l5, l6, l7, l8, l9, l10] [] cs hs t) := zp_if (fun _ => u93_190)
theorem p93_193 : ZP sc 193 [l0, .ref a, l2, l3, l4, l5, l6, l7, l8, l9, l10] [] cs hs t ↔ ZP sc 194 [l0, .ref a, l2, l3, l4, l5, l6, l7, l8, l9, l10] [.ref a] cs hs t := zp_iff (fun _ => u93_193)
theorem p93_194 (g : ZP sc 197 [l0, l1, l2, l3, l4, l5, l6, l7, l8, l9, l10] [.int (sUndo cs hs).1] (sUndo cs hs).2.1 (sUndo cs hs).2.2 t) : ZP sc 194 [l0, l1, l2, l3, l4, l5, l6, l7, l8, l9, l10] [.ref 1] cs hs t := zp_call (fun _ _ => u93_194 zl_o9) (fun _ _ R => k_undo R) g
theorem p93_197 : ZP sc 197 [l0, l1, l2, l3, l4, l5, l6, l7, .int x, l9, l10] [t0] cs hs t ↔ ZP sc 199 [l0, l1, l2, l3, l4, l5, l6, l7, .int x, l9, l10] [.int x, t0] cs hs t := zp_iff (fun _ => u93_197)
theorem p93_199 : ZP sc 199 [l0, l1, l2, l3, l4, l5, l6, l7, l8, l9, l10] [.int x2, .int x1] cs hs t ↔ (if ¬ x1 = x2 then ZP sc 216 [l0, l1, l2, l3, l4, l5, l6, l7, l8, l9, l10] [] cs hs t else ZP sc 202 [l0, l1, l2, l3, l4, l5, l6, l7, l8, l9, l10] [] cs hs t) := zp_if (fun _ => u93_199)
theorem p93_202 : ZP sc 202 [l0, .ref a, l2, l3, l4, l5, l6, l7, l8, l9, l10] [] cs hs t ↔ ZP sc 203 [l0, .ref a, l2, l3, l4, l5, l6, l7, l8, l9, l10] [.ref a] cs hs t := zp_iff (fun _ => u93_202)
theorem p93_203 {vv : Value} {cs1 : CS} {hs1 : List CS} {ts1 : List Nat} (K : ZR sc 88 0 [.ref 1, .null, .null, .null, .null] [] cs hs t (vv, cs1, hs1, ts1)) (g : ZP sc 206 [l0, l1, l2, l3, l4, l5, l6, l7, l8, l9, l10] [vv] cs1 hs1 ts1) : ZP sc 203 [l0, l1, l2, l3, l4, l5, l6, l7, l8, l9, l10] [.ref 1] cs hs t := zp_callZ (fun _ => u93_203) K g
theorem p93_206 : ZP sc 206 [l0, l1, l2, l3, l4, l5, .long j1, .float 0, l8, l9, l10] [t0] cs hs t ↔ ZP sc 208 [l0, l1, l2, l3, l4, l5, .long j1, .float 0, l8, l9, l10] [.long j1, t0] cs hs t := zp_iff (fun _ => u93_206)
theorem p93_208 : ZP sc 208 [l0, l1, l2, l3, l4, l5, l6, l7, l8, l9, l10] [.long j2, .long j1] cs hs t ↔ ZP sc 209 [l0, l1, l2, l3, l4, l5, l6, l7, l8, l9, l10] [.int (lg_cmp j1 j2)] cs hs t := zp_iff (fun _ => u93_208)
theorem p93_209 : ZP sc 209 [l0, l1, l2, l3, l4, l5, l6, l7, l8, l9, l10] [.int x] cs hs t ↔ (if ¬ x = 0 then ZP sc 216 [l0, l1, l2, l3, l4, l5, l6, l7, l8, l9, l10] [] cs hs t else ZP sc 212 [l0, l1, l2, l3, l4, l5, l6, l7, l8, l9, l10] [] cs hs t) := zp_if (fun _ => u93_209)
theorem p93_212 : ZP sc 212 [l0, l1, l2, l3, l4, l5, l6, l7, l8, l9, l10] [] cs hs t ↔ ZP sc 213 [l0, l1, l2, l3, l4, l5, l6, l7, l8, l9, l10] [.int 1] cs hs t := zp_iff (fun _ => u93_212)
theorem p93_213 : ZP sc 213 [l0, l1, l2, l3, l4, l5, l6, l7, l8, l9, l10] [t0] cs hs t ↔ ZP sc 217 [l0, l1, l2, l3, l4, l5, l6, l7, l8, l9, l10] [t0] cs hs t := zp_iff (fun _ => u93_213)
theorem p93_217 : ZP sc 217 [l0, l1, l2, l3, l4, l5, l6, l7, l8, l9, l10] [.int x] cs hs t ↔ ZP sc 218 [l0, l1, .int x, l3, l4, l5, l6, l7, l8, l9, l10] [] cs hs t := zp_iff (fun _ => u93_217)
theorem p93_216 : ZP sc 216 [l0, l1, l2, l3, l4, l5, l6, l7, l8, l9, l10] [] cs hs t ↔ ZP sc 217 [l0, l1, l2, l3, l4, l5, l6, l7, l8, l9, l10] [.int 0] cs hs t := zp_iff (fun _ => u93_216)
theorem p93_218 : ZP sc 218 [l0, l1, .int x, l3, l4, l5, l6, l7, l8, l9, l10] [] cs hs t ↔ ZP sc 219 [l0, l1, .int x, l3, l4, l5, l6, l7, l8, l9, l10] [.int x] cs hs t := zp_iff (fun _ => u93_218)
theorem p93_219 : ZP sc 219 [l0, l1, l2, l3, l4, l5, l6, l7, l8, l9, l10] [.int x] cs hs t ↔ (if x = 0 then ZP sc 264 [l0, l1, l2, l3, l4, l5, l6, l7, l8, l9, l10] [] cs hs t else ZP sc 222 [l0, l1, l2, l3, l4, l5, l6, l7, l8, l9, l10] [] cs hs t) := zp_if (fun _ => u93_219)
theorem p93_222 : ZP sc 222 [l0, l1, l2, .int x, l4, l5, l6, l7, l8, l9, l10] [] cs hs t ↔ ZP sc 223 [l0, l1, l2, .int x, l4, l5, l6, l7, l8, l9, l10] [.int x] cs hs t := zp_iff (fun _ => u93_222)
theorem p93_223 : ZP sc 223 [l0, l1, l2, l3, l4, l5, l6, l7, l8, l9, l10] [t0] cs hs t ↔ ZP sc 224 [l0, l1, l2, l3, l4, l5, l6, l7, l8, l9, l10] [.int 5, t0] cs hs t := zp_iff (fun _ => u93_223)
theorem p93_224 (hx : ¬ x2 = 0) : ZP sc 224 [l0, l1, l2, l3, l4, l5, l6, l7, l8, l9, l10] [.int x2, .int x1] cs hs t ↔ ZP sc 225 [l0, l1, l2, l3, l4, l5, l6, l7, l8, l9, l10] [.int (x1 - x1 / x2 * x2)] cs hs t := zp_div hx (fun _ => u93_224)
theorem p93_225 : ZP sc 225 [l0, l1, l2, l3, l4, l5, l6, l7, l8, l9, l10] [t0] cs hs t ↔ ZP sc 226 [l0, l1, l2, l3, l4, l5, l6, l7, l8, l9, l10] [.int 4, t0] cs hs t := zp_iff (fun _ => u93_225)
theorem p93_226 : ZP sc 226 [l0, l1, l2, l3, l4, l5, l6, l7, l8, l9, l10] [.int x2, .int x1] cs hs t ↔ (if ¬ x1 = x2 then ZP sc 264 [l0, l1, l2, l3, l4, l5, l6, l7, l8, l9, l10] [] cs hs t else ZP sc 229 [l0, l1, l2, l3, l4, l5, l6, l7, l8, l9, l10] [] cs hs t) := zp_if (fun _ => u93_226)
theorem p93_229 : ZP sc 229 [l0, .ref a, l2, l3, l4, l5, l6, l7, l8, l9, l10] [] cs hs t ↔ ZP sc 230 [l0, .ref a, l2, l3, l4, l5, l6, l7, l8, l9, l10] [.ref a] cs hs t := zp_iff (fun _ => u93_229)
theorem p93_230 : ZP sc 230 [l0, l1, l2, l3, l4, l5, l6, l7, l8, l9, l10] [t0] cs hs t ↔ ZP sc 232 [l0, l1, l2, l3, l4, l5, l6, l7, l8, l9, l10] [.int 9, t0] cs hs t := zp_iff (fun _ => u93_230)
theorem p93_232 (g : ZP sc 235 [l0, l1, l2, l3, l4, l5, l6, l7, l8, l9, l10] [.int (sCount cs hs.length t.length z0)] cs hs t) : ZP sc 232 [l0, l1, l2, l3, l4, l5, l6, l7, l8, l9, l10] [.int z0, .ref 1] cs hs t := zp_call (fun _ _ => u93_232 zl_o9) (fun _ _ R => k_count R) g
theorem p93_235 : ZP sc 235 [l0, l1, l2, l3, l4, l5, l6, l7, l8, l9, l10] [.int x] cs hs t ↔ ZP sc 237 [l0, l1, l2, l3, l4, l5, l6, l7, l8, l9, .int x] [] cs hs t := zp_iff (fun _ => u93_235)
theorem p93_237 : ZP sc 237 [l0, .ref a, l2, l3, l4, l5, l6, l7, l8, l9, l10] [] cs hs t ↔ ZP sc 238 [l0, .ref a, l2, l3, l4, l5, l6, l7, l8, l9, l10] [.ref a] cs hs t := zp_iff (fun _ => u93_237)
theorem p93_238 (g : ZP sc 241 [l0, l1, l2, l3, l4, l5, l6, l7, l8, l9, l10] [.int (sUndo cs hs).1] (sUndo cs hs).2.1 (sUndo cs hs).2.2 t) : ZP sc 238 [l0, l1, l2, l3, l4, l5, l6, l7, l8, l9, l10] [.ref 1] cs hs t := zp_call (fun _ _ => u93_238 zl_o9) (fun _ _ R => k_undo R) g
theorem p93_241 : ZP sc 241 [l0, l1, l2, l3, l4, l5, l6, l7, l8, l9, .int x] [t0] cs hs t ↔ ZP sc 243 [l0, l1, l2, l3, l4, l5, l6, l7, l8, l9, .int x] [.int x, t0] cs hs t := zp_iff (fun _ => u93_241)
theorem p93_243 : ZP sc 243 [l0, l1, l2, l3, l4, l5, l6, l7, l8, l9, l10] [.int x, t0] cs hs t ↔ (if ¬ x = 0 then ZP sc 251 [l0, l1, l2, l3, l4, l5, l6, l7, l8, l9, l10] [t0] cs hs t else ZP sc 246 [l0, l1, l2, l3, l4, l5, l6, l7, l8, l9, l10] [t0] cs hs t) := zp_if (fun _ => u93_243)
theorem p93_246 : ZP sc 246 [l0, l1, l2, l3, l4, l5, l6, l7, l8, l9, l10] [t0] cs hs t ↔ ZP sc 248 [l0, l1, l2, l3, l4, l5, l6, l7, l8, l9, l10] [.int (-1000002), t0] cs hs t := zp_iff (fun _ => u93_246)
theorem p93_248 : ZP sc 248 [l0, l1, l2, l3, l4, l5, l6, l7, l8, l9, l10] [t0, t1] cs hs t ↔ ZP sc 255 [l0, l1, l2, l3, l4, l5, l6, l7, l8, l9, l10] [t0, t1] cs hs t := zp_iff (fun _ => u93_248)
theorem p93_255 : ZP sc 255 [l0, l1, l2, l3, l4, l5, l6, l7, l8, l9, l10] [.int x2, .int x1] cs hs t ↔ (if ¬ x1 = x2 then ZP sc 262 [l0, l1, l2, l3, l4, l5, l6, l7, l8, l9, l10] [] cs hs t else ZP sc 258 [l0, l1, l2, l3, l4, l5, l6, l7, l8, l9, l10] [] cs hs t) := zp_if (fun _ => u93_255)
theorem p93_258 : ZP sc 258 [l0, l1, l2, l3, l4, l5, l6, l7, l8, l9, l10] [] cs hs t ↔ ZP sc 259 [l0, l1, l2, l3, l4, l5, l6, l7, l8, l9, l10] [.int 1] cs hs t := zp_iff (fun _ => u93_258)
theorem p93_259 : ZP sc 259 [l0, l1, l2, l3, l4, l5, l6, l7, l8, l9, l10] [t0] cs hs t ↔ ZP sc 263 [l0, l1, l2, l3, l4, l5, l6, l7, l8, l9, l10] [t0] cs hs t := zp_iff (fun _ => u93_259)
theorem p93_263 : ZP sc 263 [l0, l1, l2, l3, l4, l5, l6, l7, l8, l9, l10] [.int x] cs hs t ↔ ZP sc 264 [l0, l1, .int x, l3, l4, l5, l6, l7, l8, l9, l10] [] cs hs t := zp_iff (fun _ => u93_263)
theorem p93_262 : ZP sc 262 [l0, l1, l2, l3, l4, l5, l6, l7, l8, l9, l10] [] cs hs t ↔ ZP sc 263 [l0, l1, l2, l3, l4, l5, l6, l7, l8, l9, l10] [.int 0] cs hs t := zp_iff (fun _ => u93_262)
theorem p93_251 : ZP sc 251 [l0, l1, l2, l3, l4, l5, l6, l7, l8, l9, .int x] [t0] cs hs t ↔ ZP sc 253 [l0, l1, l2, l3, l4, l5, l6, l7, l8, l9, .int x] [.int x, t0] cs hs t := zp_iff (fun _ => u93_251)
theorem p93_253 : ZP sc 253 [l0, l1, l2, l3, l4, l5, l6, l7, l8, l9, l10] [t0, t1] cs hs t ↔ ZP sc 254 [l0, l1, l2, l3, l4, l5, l6, l7, l8, l9, l10] [.int 1, t0, t1] cs hs t := zp_iff (fun _ => u93_253)
theorem p93_254 : ZP sc 254 [l0, l1, l2, l3, l4, l5, l6, l7, l8, l9, l10] [.int x2, .int x1, t0] cs hs t ↔ ZP sc 255 [l0, l1, l2, l3, l4, l5, l6, l7, l8, l9, l10] [.int (x1 - x2), t0] cs hs t := zp_iff (fun _ => u93_254)
theorem p93_264 : ZP sc 264 [l0, l1, l2, .int x, l4, l5, l6, l7, l8, l9, l10] [] cs hs t ↔ ZP sc 267 [l0, l1, l2, .int (x + 1), l4, l5, l6, l7, l8, l9, l10] [] cs hs t := zp_iff (fun _ => u93_264)
theorem p93_267 : ZP sc 267 [l0, l1, l2, l3, l4, l5, l6, l7, l8, l9, l10] [] cs hs t ↔ ZP sc 33 [l0, l1, l2, l3, l4, l5, l6, l7, l8, l9, l10] [] cs hs t := zp_iff (fun _ => u93_267)
theorem p93_153 : ZP sc 153 [l0, l1, l2, l3, l4, l5, l6, l7, l8, .int x, l10] [] cs hs t ↔ ZP sc 155 [l0, l1, l2, l3, l4, l5, l6, l7, l8, .int x, l10] [.int x] cs hs t := zp_iff (fun _ => u93_153)
theorem p93_155 : ZP sc 155 [l0, l1, l2, l3, l4, l5, l6, l7, .int x, l9, l10] [t0] cs hs t ↔ ZP sc 157 [l0, l1, l2, l3, l4, l5, l6, l7, .int x, l9, l10] [.int x, t0] cs hs t := zp_iff (fun _ => u93_155)
theorem p93_157 : ZP sc 157 [l0, l1, l2, l3, l4, l5, l6, l7, l8, l9, l10] [t0, t1] cs hs t ↔ ZP sc 158 [l0, l1, l2, l3, l4, l5, l6, l7, l8, l9, l10] [.int 1, t0, t1] cs hs t := zp_iff (fun _ => u93_157)
theorem p93_158 : ZP sc 158 [l0, l1, l2, l3, l4, l5, l6, l7, l8, l9, l10] [.int x2, .int x1, t0] cs hs t ↔ ZP sc 159 [l0, l1, l2, l3, l4, l5, l6, l7, l8, l9, l10] [.int (x1 + x2), t0] cs hs t := zp_iff (fun _ => u93_158)
theorem p93_159 : ZP sc 159 [l0, l1, l2, l3, l4, l5, l6, l7, l8, l9, l10] [.int x2, .int x1] cs hs t ↔ (if ¬ x1 = x2 then ZP sc 166 [l0, l1, l2, l3, l4, l5, l6, l7, l8, l9, l10] [] cs hs t else ZP sc 162 [l0, l1, l2, l3, l4, l5, l6, l7, l8, l9, l10] [] cs hs t) := zp_if (fun _ => u93_159)
theorem p93_166 : ZP sc 166 [l0, l1, l2, l3, l4, l5, l6, l7, l8, l9, l10] [] cs hs t ↔ ZP sc 167 [l0, l1, l2, l3, l4, l5, l6, l7, l8, l9, l10] [.int 0] cs hs t := zp_iff (fun _ => u93_166)
theorem p93_116 : ZP sc 116 [l0, l1, l2, l3, l4, l5, l6, l7, l8, l9, l10] [] cs hs t ↔ ZP sc 117 [l0, l1, l2, l3, l4, l5, l6, l7, l8, l9, l10] [.int 0] cs hs t := zp_iff (fun _ => u93_116)
theorem p93_91 : ZP sc 91 [l0, l1, l2, l3, .int x, l5, l6, l7, l8, l9, l10] [t0] cs hs t ↔ ZP sc 93 [l0, l1, l2, l3, .int x, l5, l6, l7, l8, l9, l10] [.int x, t0] cs hs t := zp_iff (fun _ => u93_91)
theorem p93_270 : ZP sc 270 [l0, l1, .int x, l3, l4, l5, l6, l7, l8, l9, l10] [] cs hs t ↔ ZP sc 271 [l0, l1, .int x, l3, l4, l5, l6, l7, l8, l9, l10] [.int x] cs hs t := zp_iff (fun _ => u93_270)
theorem p93_271 : ZP sc 271 [l0, l1, l2, l3, l4, l5, l6, l7, l8, l9, l10] [.int 1] cs hs t := zp_r (fun _ => u93_271)
theorem p93_29 : ZP sc 29 [l0, l1, l2, l3, l4, l5, l6, l7, l8, l9, l10] [] cs hs t ↔ ZP sc 30 [l0, l1, l2, l3, l4, l5, l6, l7, l8, l9, l10] [.int 0] cs hs t := zp_iff (fun _ => u93_29)
end ZP1
