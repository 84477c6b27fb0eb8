/-! ===== the state behind both constructors, the law's first instructions ===== -/
def cs0 : CS := (3, 0, fun _ => 1, fun _ => 4, fun _ _ => 8, fun _ => [])
noncomputable def iv0 : Nat → Nat → Int32 := zc.2.2.2
noncomputable def p0 : Nat → Option Nat := fun k => zc.2.2.1 27 k
theorem iv0_at {a b : Nat} {x : Int32} (ha : a < 91) (hb : b < 12) (e : zi_at a b = x) : iv0 a b = x := (zc_ok.2.2.2.2.2 a ha b hb).trans e
theorem zb_f4 {f : Nat} (h : f < 4) : f = 0 ∨ f = 1 ∨ f = 2 ∨ f = 3 := by omega
theorem mOk_nil : mOk [] := ⟨Nat.zero_le _, fun k hk => absurd hk (Nat.not_lt_zero _), fun i j _ hj => absurd hj (Nat.not_lt_zero _)⟩
theorem isMix_nil {m : Nat} (h : iv0 m 0 = 0) : isMix iv0 m [] := ⟨mOk_nil, h, fun k hk => absurd hk (Nat.not_lt_zero _)⟩
theorem cs0_ok : cOk cs0 := by
  refine ⟨?_, ?_, ?_, fun f hf => ⟨?_, ?_⟩, fun q hq => ⟨?_, fun f hf => ?_, fun k hk => absurd hk (Nat.not_lt_zero _)⟩⟩
  · show 2 ≤ 3; omega
  · show 3 ≤ 4; omega
  · show 0 ≤ 2; omega
  · show 1 ≤ 1; omega
  · show 1 ≤ 9; omega
  · show 4 ≤ 8; omega
  · show 8 ≤ 8; omega
theorem zb_ct : isCt iv0 2 cs0 := by
  refine ⟨iv0_at (by decide) (by decide) (by decide +kernel), iv0_at (by decide) (by decide) (by decide +kernel), fun f hf => ?_, ⟨iv0_at (by decide) (by decide) (by decide +kernel), fun f hf => ?_, isMix_nil (iv0_at (by decide) (by decide) (by decide +kernel))⟩, ⟨iv0_at (by decide) (by decide) (by decide +kernel), fun f hf => ?_, isMix_nil (iv0_at (by decide) (by decide) (by decide +kernel))⟩⟩
  · rcases zb_f4 hf with rfl | rfl | rfl | rfl <;> exact iv0_at (by decide) (by decide) (by decide +kernel)
  · rcases zb_f4 hf with rfl | rfl | rfl | rfl <;> exact iv0_at (by decide) (by decide) (by decide +kernel)
  · rcases zb_f4 hf with rfl | rfl | rfl | rfl <;> exact iv0_at (by decide) (by decide) (by decide +kernel)
theorem zb_h : isH iv0 p0 [] := by
  refine ⟨Nat.zero_le _, iv0_at (by decide) (by decide) (by decide +kernel), fun j => 28 + 12 * j, fun j hj => ⟨?_, ?_⟩, fun i j _ _ e => ?_, fun j c hc => ?_⟩
  · rcases zb_f4 hj with rfl | rfl | rfl | rfl
    · exact zc_ok.2.2.2.2.1 (27, 0, 28) (by decide +kernel)
    · exact zc_ok.2.2.2.2.1 (27, 1, 40) (by decide +kernel)
    · exact zc_ok.2.2.2.2.1 (27, 2, 52) (by decide +kernel)
    · exact zc_ok.2.2.2.2.1 (27, 3, 64) (by decide +kernel)
  · show 28 + 12 * j = 28 ∨ 28 + 12 * j = 40 ∨ 28 + 12 * j = 52 ∨ 28 + 12 * j = 64
    omega
  · have e : 28 + 12 * i = 28 + 12 * j := e
    omega
  · cases hc
theorem RC0 : RC iv0 p0 cs0 [] [] := ⟨zb_ct, cs0_ok, zb_h, fun c hc => absurd hc List.not_mem_nil, iv0_at (by decide) (by decide) (by decide +kernel), Nat.zero_le _, fun k hk => absurd hk (Nat.not_lt_zero _)⟩
theorem zi_3e : zi_3 = zst p0 iv0 := by
  rw [zc_ok.2.1]
  have e : zRV p0 = zc.2.2.1 := by
    funext i k
    unfold zRV p0
    by_cases h : i = 27
    · rw [if_pos h, h]
    · rw [if_neg h]
  unfold zst
  rw [e]
  rfl
section ZB
variable {sc : Nat × (Nat → Int32)} {k pc i y nt tt a : Nat} {ls rest : List Value} {h : zA} {Q : Option Value → zA → Prop}
theorem zE_ini (d : decode (z_code k) pc = .ok (.invokespecial i, 3)) (hq : z_lk2 zCT (z_cls k) i = some (y, nt, tt)) (h0 : z_lk0 zOT (z_cls k) i = none) (hck : z_kd y = 2 ∧ z_np y = 0 ∧ z_ml y = 1 ∧ y < zLaw ∧ z_fr y + 1 ≤ z_fr k ∧ 8 + (z_ml y + 11) + z_lo y ≤ z_lo k) (hrest : rest.length ≤ 4) (hrc : z_rc h (z_cls y) [.ref a] = true) : zEv sc k pc ls (.ref a :: rest) h Q ↔ zEv sc y 0 [.ref a] [] h (fun r h' => zEv sc k (pc + 3) ls (r.toList ++ rest) h' Q) := by
  obtain ⟨c1, c2, c3, c4, c5, c6⟩ := hck
  have e1 : z_np y + z_ar 2 = 1 := by rw [c2]; rfl
  have hcy : z_callY k i 2 (.ref a :: rest) h = some (y, [.ref a], rest) := by
    unfold z_callY
    rw [hq]
    dsimp only
    rw [e1]
    rw [show List.take 1 (Value.ref a :: rest) = [Value.ref a] from rfl, show List.drop 1 (Value.ref a :: rest) = rest from rfl, show [Value.ref a].reverse = [Value.ref a] from rfl, if_pos ⟨c1, by rw [List.length_cons]; omega, by omega, c4, hrest, rfl, c5, c6, Or.inr hrc⟩]
  have e2 : ([.ref a] : List Value) ++ List.replicate (z_ml y - ([.ref a] : List Value).length) .null = [.ref a] := by
    rw [c3]
    rfl
  have key := zEv_call (sc := sc) (k := k) (pc := pc) (ls := ls) (st := .ref a :: rest) (h := h) (Q := Q) (q := (y, [.ref a], rest)) (zE_e d rfl) ?_ ?_
  · dsimp only at key
    rw [e2] at key
    exact key
  · unfold z_step
    rw [d]
    dsimp only
    unfold z_stepI
    have e7 : z_heap sc k (.invokespecial i) (.ref a :: rest) h = none := by
      show z_obj k i _ h = none
      unfold z_obj
      rw [h0]
    rw [e7]
    rfl
  · unfold z_inv
    rw [d]
    dsimp only
    rw [if_pos rfl]
    exact hcy
theorem zE_newo {q : Nat × Nat} {st : List Value} (d : decode (z_code k) pc = .ok (.new i, 3)) (hq : z_lk1 zNT (z_cls k) i = some q) (hlt : q.1 < 10) : zEv sc k pc ls st h Q ↔ zEv sc k (pc + 3) ls (.ref (h.1 + 1) :: st) (z_mk h q.1 0 (zN q.1)) Q := by
  refine zE_heap (q := (.ref (h.1 + 1) :: st, z_mk h q.1 0 (zN q.1))) d rfl rfl rfl ?_
  show z_new k i st h = _
  unfold z_new
  rw [hq]
  dsimp only
  rw [if_pos hlt]
theorem d_l0 : decode (z_code 93) 0 = .ok (.new 14, 3) := by decide +kernel
theorem d_l3 : decode (z_code 93) 3 = .ok (.dup, 1) := by decide +kernel
theorem d_l4 : decode (z_code 93) 4 = .ok (.invokespecial 95, 3) := by decide +kernel
theorem d_l7 : decode (z_code 93) 7 = .ok (.astore_n 1, 1) := by decide +kernel
theorem zEv_of {n : Nat} {r : Option Value} {st : List Value} {h' : zA} (e : z_run sc n k pc ls st h = some (r, h')) (q : Q r h') : zEv sc k pc ls st h Q := ⟨n, (r, h'), e, q⟩
theorem zg_a : ∃ n, z_run sc n 56 0 [.ref 1] [] zi_0 = some (none, zi_3) := by
  have h := zc_ok.1
  unfold zi_a at h
  revert h
  generalize (600 : Nat) = n
  intro h
  exact ⟨n, (z_run_sc sc (0, fun _ => 0) n 56 0 _ _ _ (by decide)).trans h⟩
theorem z_begin (hQ : zEv sc 93 8 [.ref 0, .ref 1, .null, .null, .null, .null, .null, .null, .null, .null, .null] [] (zst p0 iv0) Q) : zEv sc 93 0 [.ref 0, .null, .null, .null, .null, .null, .null, .null, .null, .null, .null] [] z_h0 Q := by
  refine (zE_newo (q := (9, 59)) d_l0 (by decide +kernel) (by decide)).mpr ?_
  show zEv sc 93 3 [.ref 0, .null, .null, .null, .null, .null, .null, .null, .null, .null, .null] [.ref 1] zi_0 Q
  refine (zE_pure (q := (4, [.ref 0, .null, .null, .null, .null, .null, .null, .null, .null, .null, .null], [.ref 1, .ref 1])) d_l3 rfl rfl rfl).mpr ?_
  refine (zE_ini (y := 56) (nt := 0) (tt := 61) d_l4 (by decide +kernel) (by decide +kernel) (by decide +kernel) (by decide) ?_).mpr ?_
  · rw [show z_cls 56 = 9 by decide +kernel]
    decide +kernel
  obtain ⟨na, ga⟩ := zg_a (sc := sc)
  refine zEv_of ga ?_
  show zEv sc 93 7 [.ref 0, .null, .null, .null, .null, .null, .null, .null, .null, .null, .null] [.ref 1] zi_3 Q
  refine (zE_pure (q := (8, [.ref 0, .ref 1, .null, .null, .null, .null, .null, .null, .null, .null, .null], [])) d_l7 rfl rfl rfl).mpr ?_
  rw [zi_3e]
  exact hQ
end ZB
theorem law_runs {sc : Nat × (Nat → Int32)} (hL : sc.1 ≤ 2048) : zEv sc 93 0 [.ref 0, .null, .null, .null, .null, .null, .null, .null, .null, .null, .null] [] z_h0 lQ := z_begin (law_all hL p0 iv0 RC0)
/-- YOUR PART: from the entry, for every script of at most 260 ints, the law comes to its end with true -/
theorem whole_start {p : Program} {e : Env} {s : State} {m : MethodId} {below : List Frame} {meth : Method} {c : Code} (l : Launch) (hflags : l.flags = flags0) {b L : Nat} {xs : Nat → Int32} (hL : L ≤ 260) (C0 : lw_At p s m meth c b L xs) : W p l e room_1 s m #[Value.ref b] below meth c s.heap [] 0 0 (lw_Z below #[Value.ref b] s) (entryFrame m ([Value.ref b] : List Value).toArray 11) := by
  obtain ⟨n, ⟨r, h9⟩, hrun, e1, e2, e3⟩ := law_runs (sc := (L, xs)) (show L ≤ 2048 by omega)
  have e1 : r = some (.int 1) := e1
  subst e1
  exact z_start l C0 hrun e2 e3
