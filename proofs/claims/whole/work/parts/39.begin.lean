/-! ===== the state behind both constructors, the law's first instructions ===== -/
def cs0 : CS := (3, 0, fun _ => 1, fun _ => 4, fun _ _ => 8, fun _ => [])
noncomputable def iv0 : Nat → Nat → Int32 := zc.2.2.2
noncomputable def p0 : Nat → Option Nat := fun k => zc.2.2.1 27 k
theorem iv0_at {a b : Nat} {x : Int32} (ha : a < 98) (hb : b < (if a = 91 then 16 else if a = 92 then 66 else 12)) (e : zi_at a b = x) : iv0 a b = x := (zc_ok.2.2.2.2.2.2.2 a ha b hb).trans e
theorem zb_f4 {f : Nat} (h : f < 4) : f = 0 ∨ f = 1 ∨ f = 2 ∨ f = 3 := by omega
theorem mOk_nil : mOk [] := ⟨Nat.zero_le _, fun k hk => absurd hk (Nat.not_lt_zero _), fun i j _ hj => absurd hj (Nat.not_lt_zero _)⟩
theorem isMix_nil {m : Nat} (h : iv0 m 0 = 0) : isMix iv0 m [] := ⟨mOk_nil, h, fun k hk => absurd hk (Nat.not_lt_zero _)⟩
theorem cs0_ok : cOk cs0 := by
  refine ⟨?_, ?_, ?_, fun f hf => ⟨?_, ?_⟩, fun q hq => ⟨?_, fun f hf => ?_, fun k hk => absurd hk (Nat.not_lt_zero _)⟩⟩
  · show 2 ≤ 3; omega
  · show 3 ≤ 4; omega
  · show 0 ≤ 2; omega
  · show 1 ≤ 1; omega
  · show 1 ≤ 9; omega
  · show 4 ≤ 8; omega
  · show 8 ≤ 8; omega
theorem zb_ct : isCt iv0 2 cs0 := by
  refine ⟨iv0_at (by decide) (by decide) (by decide +kernel), iv0_at (by decide) (by decide) (by decide +kernel), fun f hf => ?_, ⟨iv0_at (by decide) (by decide) (by decide +kernel), fun f hf => ?_, isMix_nil (iv0_at (by decide) (by decide) (by decide +kernel))⟩, ⟨iv0_at (by decide) (by decide) (by decide +kernel), fun f hf => ?_, isMix_nil (iv0_at (by decide) (by decide) (by decide +kernel))⟩⟩
  · rcases zb_f4 hf with rfl | rfl | rfl | rfl <;> exact iv0_at (by decide) (by decide) (by decide +kernel)
  · rcases zb_f4 hf with rfl | rfl | rfl | rfl <;> exact iv0_at (by decide) (by decide) (by decide +kernel)
  · rcases zb_f4 hf with rfl | rfl | rfl | rfl <;> exact iv0_at (by decide) (by decide) (by decide +kernel)
theorem zb_h : isH iv0 p0 [] := by
  refine ⟨Nat.zero_le _, iv0_at (by decide) (by decide) (by decide +kernel), fun j => 28 + 12 * j, fun j hj => ⟨?_, ?_⟩, fun i j _ _ e => ?_, fun j c hc => ?_⟩
  · rcases zb_f4 hj with rfl | rfl | rfl | rfl
    · exact zc_ok.2.2.2.2.2.2.1 (27, 0, 28) (by decide +kernel)
    · exact zc_ok.2.2.2.2.2.2.1 (27, 1, 40) (by decide +kernel)
    · exact zc_ok.2.2.2.2.2.2.1 (27, 2, 52) (by decide +kernel)
    · exact zc_ok.2.2.2.2.2.2.1 (27, 3, 64) (by decide +kernel)
  · show 28 + 12 * j = 28 ∨ 28 + 12 * j = 40 ∨ 28 + 12 * j = 52 ∨ 28 + 12 * j = 64
    omega
  · have e : 28 + 12 * i = 28 + 12 * j := e
    omega
  · cases hc
theorem RC0 : RC iv0 p0 cs0 [] [] := ⟨zb_ct, cs0_ok, zb_h, fun c hc => absurd hc List.not_mem_nil, iv0_at (by decide) (by decide) (by decide +kernel), Nat.zero_le _, fun k hk => absurd hk (Nat.not_lt_zero _)⟩
theorem zb_v0 {k : Nat} {x : Int32} (hk : k < 66) (e : zi_at 92 k = x) : iv0 92 k = x := iv0_at (by decide) hk e
theorem isV0 : isV (iv0 92) cs0 := by
  refine ⟨zb_v0 (by decide) (by decide +kernel), zb_v0 (by decide) (by decide +kernel), fun f hf => ?_, fun q hq => ?_, fun q f hq hf => ?_, fun q hq => ?_, fun q k _ hk => absurd hk (Nat.not_lt_zero _)⟩
  · rcases zb_f4 hf with rfl | rfl | rfl | rfl <;> exact zb_v0 (by decide) (by decide +kernel)
  · rcases (show q = 0 ∨ q = 1 by omega) with rfl | rfl <;> exact zb_v0 (by decide) (by decide +kernel)
  · rcases (show q = 0 ∨ q = 1 by omega) with rfl | rfl <;> rcases zb_f4 hf with rfl | rfl | rfl | rfl <;> exact zb_v0 (by decide) (by decide +kernel)
  · rcases (show q = 0 ∨ q = 1 by omega) with rfl | rfl <;> exact zb_v0 (by decide) (by decide +kernel)
theorem RM0 : RM iv0 cs0 [] [] := ⟨isV0, ⟨cs0_ok, fun q _ => mOk_nil⟩, ⟨iv0_at (by decide) (by decide) (by decide +kernel), Nat.zero_le _, fun j c hc => by cases hc⟩, iv0_at (by decide) (by decide) (by decide +kernel), Nat.zero_le _, fun k hk => absurd hk (Nat.not_lt_zero _)⟩
theorem zi_3e : zi_3 = zst p0 iv0 := by
  rw [zc_ok.2.2.2.1]
  have e : zRV p0 = zc.2.2.1 := by
    funext i k
    unfold zRV p0
    by_cases h : i = 27
    · rw [if_pos h, h]
    · rw [if_neg h]
  unfold zst
  rw [e]
  rfl
section ZB
variable {sc : Nat × (Nat → Int32)} {k pc i y nt tt a : Nat} {ls rest : List Value} {h : zA} {Q : Option Value → zA → Prop}
theorem zE_ini (d : decode (z_code k) pc = .ok (.invokespecial i, 3)) (hq : z_lk2 zCT (z_cls k) i = some (y, nt, tt)) (h0 : z_lk0 zOT (z_cls k) i = none) (hck : z_kd y = 2 ∧ z_np y = 0 ∧ z_ml y = 1 ∧ y < zLaw ∧ z_fr y + 1 ≤ z_fr k ∧ 8 + (z_ml y + 11) + z_lo y ≤ z_lo k) (hrest : rest.length ≤ 8) (hrc : z_rc h (z_cls y) [.ref a] = true) : zEv sc k pc ls (.ref a :: rest) h Q ↔ zEv sc y 0 [.ref a] [] h (fun r h' => zEv sc k (pc + 3) ls (r.toList ++ rest) h' Q) := by
  obtain ⟨c1, c2, c3, c4, c5, c6⟩ := hck
  have e1 : z_np y + z_ar 2 = 1 := by rw [c2]; rfl
  have hcy : z_callY k i 2 (.ref a :: rest) h = some (y, [.ref a], rest) := by
    unfold z_callY
    rw [hq]
    dsimp only
    rw [e1]
    rw [show List.take 1 (Value.ref a :: rest) = [Value.ref a] from rfl, show List.drop 1 (Value.ref a :: rest) = rest from rfl, show [Value.ref a].reverse = [Value.ref a] from rfl, if_pos ⟨c1, by rw [List.length_cons]; omega, by omega, c4, hrest, c5, c6, Or.inr hrc⟩]
  have e2 : ([.ref a] : List Value) ++ List.replicate (z_ml y - ([.ref a] : List Value).length) .null = [.ref a] := by
    rw [c3]
    rfl
  have key := zEv_call (sc := sc) (k := k) (pc := pc) (ls := ls) (st := .ref a :: rest) (h := h) (Q := Q) (q := (y, [.ref a], rest)) (zE_e d rfl) ?_ ?_
  · dsimp only at key
    rw [e2] at key
    exact key
  · unfold z_step
    rw [d]
    dsimp only
    unfold z_stepI
    have e7 : z_heap sc k (.invokespecial i) (.ref a :: rest) h = none := by
      show z_obj k i _ h = none
      unfold z_obj
      rw [h0]
    rw [e7]
    rfl
  · unfold z_inv
    rw [d]
    dsimp only
    rw [if_pos rfl]
    exact hcy
theorem zE_newo {q : Nat × Nat} {st : List Value} (d : decode (z_code k) pc = .ok (.new i, 3)) (hq : z_lk1 zNT (z_cls k) i = some q) (hlt : q.1 < 11) : zEv sc k pc ls st h Q ↔ zEv sc k (pc + 3) ls (.ref (h.1 + 1) :: st) (z_mk h q.1 0 (zN q.1)) Q := by
  refine zE_heap (q := (.ref (h.1 + 1) :: st, z_mk h q.1 0 (zN q.1))) d rfl rfl rfl ?_
  show z_new k i st h = _
  unfold z_new
  rw [hq]
  dsimp only
  rw [if_pos hlt]
theorem d_l0 : decode (z_code 152) 0 = .ok (.new 7, 3) := by decide +kernel
theorem d_l3 : decode (z_code 152) 3 = .ok (.dup, 1) := by decide +kernel
theorem d_l4 : decode (z_code 152) 4 = .ok (.invokespecial 9, 3) := by decide +kernel
theorem d_l7 : decode (z_code 152) 7 = .ok (.astore_n 1, 1) := by decide +kernel
theorem d_l8 : decode (z_code 152) 8 = .ok (.new 10, 3) := by decide +kernel
theorem d_l11 : decode (z_code 152) 11 = .ok (.dup, 1) := by decide +kernel
theorem d_l12 : decode (z_code 152) 12 = .ok (.invokespecial 12, 3) := by decide +kernel
theorem d_l15 : decode (z_code 152) 15 = .ok (.astore_n 2, 1) := by decide +kernel
theorem d_l16 : decode (z_code 152) 16 = .ok (.iconst 0, 1) := by decide +kernel
theorem d_l17 : decode (z_code 152) 17 = .ok (.istore_n 3, 1) := by decide +kernel
theorem mk_rc {h : zA} {c n : Nat} : z_rc (z_mk h c 0 n) c [.ref (h.1 + 1)] = true := by
  refine decide_eq_true ⟨Nat.succ_pos _, Nat.le_refl _, ?_⟩
  show (va_up h.2.2.1 (h.1 + 1) (c, 0) (h.1 + 1)).1 = c
  unfold va_up
  rw [if_pos rfl]
theorem zi2_rc : z_rc zi_2 10 [.ref 91] = true := by
  have e1 : zi_1.1 + 1 = 91 := by rw [zc_ok.2.2.1]
  unfold zi_2
  rw [← e1]
  exact mk_rc
theorem zEv_of {n : Nat} {r : Option Value} {st : List Value} {h' : zA} (e : z_run sc n k pc ls st h = some (r, h')) (q : Q r h') : zEv sc k pc ls st h Q := ⟨n, (r, h'), e, q⟩
theorem zg_a : ∃ n, z_run sc n 56 0 [.ref 1] [] zi_0 = some (none, zi_1) := by
  have h := zc_ok.1
  unfold zi_a at h
  revert h
  generalize (600 : Nat) = n
  intro h
  exact ⟨n, (z_run_sc sc (0, fun _ => 0) n 56 0 _ _ _ (by decide)).trans h⟩
theorem zg_b : ∃ n, z_run sc n 88 0 [.ref 91] [] zi_2 = some (none, zi_3) := by
  have h := zc_ok.2.1
  unfold zi_b at h
  revert h
  generalize (600 : Nat) = n
  intro h
  exact ⟨n, (z_run_sc sc (0, fun _ => 0) n 88 0 _ _ _ (by decide)).trans h⟩
theorem z_begin (hQ : zEv sc 152 18 [.ref 0, .ref 1, .ref 91, .int 0] [] (zst p0 iv0) Q) : zEv sc 152 0 [.ref 0, .null, .null, .null] [] z_h0 Q := by
  refine (zE_newo (q := (9, 97)) d_l0 (by decide +kernel) (by decide)).mpr ?_
  show zEv sc 152 3 [.ref 0, .null, .null, .null] [.ref 1] zi_0 Q
  refine (zE_pure (q := (4, [.ref 0, .null, .null, .null], [.ref 1, .ref 1])) d_l3 rfl rfl rfl).mpr ?_
  refine (zE_ini (y := 56) (nt := 0) (tt := 99) d_l4 (by decide +kernel) (by decide +kernel) (by decide +kernel) (by decide) ?_).mpr ?_
  · rw [show z_cls 56 = 9 by decide +kernel]
    decide +kernel
  obtain ⟨na, ga⟩ := zg_a (sc := sc)
  refine zEv_of ga ?_
  show zEv sc 152 7 [.ref 0, .null, .null, .null] [.ref 1] zi_1 Q
  refine (zE_pure (q := (8, [.ref 0, .ref 1, .null, .null], [])) d_l7 rfl rfl rfl).mpr ?_
  refine (zE_newo (q := (10, 667)) d_l8 (by decide +kernel) (by decide)).mpr ?_
  have e1 : zi_1.1 + 1 = 91 := by rw [zc_ok.2.2.1]
  show zEv sc 152 11 [.ref 0, .ref 1, .null, .null] [.ref (zi_1.1 + 1)] zi_2 Q
  rw [e1]
  refine (zE_pure (q := (12, [.ref 0, .ref 1, .null, .null], [.ref 91, .ref 91])) d_l11 rfl rfl rfl).mpr ?_
  refine (zE_ini (y := 88) (nt := 0) (tt := 669) d_l12 (by decide +kernel) (by decide +kernel) (by decide +kernel) (by decide) ?_).mpr ?_
  · rw [show z_cls 88 = 10 by decide +kernel]
    exact zi2_rc
  obtain ⟨nb, gb⟩ := zg_b (sc := sc)
  refine zEv_of gb ?_
  show zEv sc 152 15 [.ref 0, .ref 1, .null, .null] [.ref 91] zi_3 Q
  refine (zE_pure (q := (16, [.ref 0, .ref 1, .ref 91, .null], [])) d_l15 rfl rfl rfl).mpr ?_
  refine (zE_iconst (v := 0) d_l16 (by decide +kernel)).mpr ?_
  refine (zE_pure (q := (18, [.ref 0, .ref 1, .ref 91, .int 0], [])) d_l17 rfl rfl rfl).mpr ?_
  rw [zi_3e]
  exact hQ
end ZB
