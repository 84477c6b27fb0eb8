/-! ===== the abstract run is sound: a frame of the machine does what it does ===== -/
theorem z_newa_I {kd : Nat} {st : List Value} {h : zA} {q : zG} (hh : z_newa kd st h = some q) : zI h q.2 := by
  replace hh := z_i1_s hh; obtain ⟨n, r, rfl, hh⟩ := hh
  try dsimp only at hh
  split at hh
  · cases hh; exact zI.mk
  · cases hh
theorem z_ast_I {kd : Nat} {nar : Int32 → Int32} {st : List Value} {h : zA} {q : zG} (hh : z_ast kd nar st h = some q) : zI h q.2 := by
  replace hh := z_i2_s hh; obtain ⟨j, x, r0, rfl, hh⟩ := hh
  replace hh := z_r1_s hh; obtain ⟨a, r, rfl, hh⟩ := hh
  try dsimp only at hh
  split at hh
  next hc => cases hh; exact zI.setI
  next => cases hh
theorem z_ald_I {sc : Nat × (Nat → Int32)} {k kd : Nat} {st : List Value} {h : zA} {q : zG} (hh : z_ald sc k kd st h = some q) : zI h q.2 := by
  replace hh := z_i1_s hh; obtain ⟨j, r0, rfl, hh⟩ := hh
  replace hh := z_r1_s hh; obtain ⟨a, r, rfl, hh⟩ := hh
  try dsimp only at hh
  split at hh
  next hc => cases hh; exact zI.rf
  next =>
    split at hh
    next => cases hh; exact zI.rf
    next => cases hh
theorem z_heap_I {sc : Nat × (Nat → Int32)} {k : Nat} {ins : Instr} {st : List Value} {h : zA} {q : zG} (hh : z_heap sc k ins st h = some q) : zI h q.2 := by
  cases ins with
  | getfield i =>
    replace hh := z_r1_s hh; obtain ⟨a, r, rfl, hh⟩ := hh
    try dsimp only at hh
    split at hh
    · split at hh
      · split at hh
        · split at hh
          · cases hh; exact zI.rf
          · cases hh
        · cases hh; exact zI.rf
      · cases hh
    · cases hh
  | putfield i =>
    replace hh := z_v1_s hh; obtain ⟨v, r0, rfl, hh⟩ := hh
    replace hh := z_r1_s hh; obtain ⟨a, r, rfl, hh⟩ := hh
    try dsimp only at hh
    split at hh
    · split at hh
      · split at hh
        next hc => cases hh; exact zI.setI
        next => cases hh
      · split at hh
        · cases hh; exact zI.setR
        · cases hh
      · cases hh
    · cases hh
  | iaload => exact z_ald_I hh
  | caload => exact z_ald_I hh
  | aaload =>
    replace hh := z_i1_s hh; obtain ⟨j, r0, rfl, hh⟩ := hh
    replace hh := z_r1_s hh; obtain ⟨a, r, rfl, hh⟩ := hh
    try dsimp only at hh
    split at hh
    · split at hh
      · cases hh; exact zI.rf
      · cases hh
    · cases hh
  | iastore => exact z_ast_I hh
  | castore => exact z_ast_I hh
  | aastore =>
    replace hh := z_r1_s hh; obtain ⟨v, r1, rfl, hh⟩ := hh
    replace hh := z_i1_s hh; obtain ⟨j, r0, rfl, hh⟩ := hh
    replace hh := z_r1_s hh; obtain ⟨a, r, rfl, hh⟩ := hh
    try dsimp only at hh
    split at hh
    · cases hh; exact zI.setR
    · cases hh
  | arraylength =>
    replace hh := z_r1_s hh; obtain ⟨a, r, rfl, hh⟩ := hh
    try dsimp only at hh
    split at hh
    · cases hh; exact zI.rf
    · cases hh
  | new i =>
    change z_new k i st h = some q at hh
    unfold z_new at hh
    split at hh
    · split at hh
      · cases hh; exact zI.mk
      · cases hh
    · cases hh
  | newarray t =>
    cases t with
    | int => exact z_newa_I hh
    | char => exact z_newa_I hh
    | _ => cases hh
  | anewarray i =>
    change z_newq k i st h = some q at hh
    unfold z_newq at hh
    split at hh
    · exact z_newa_I hh
    · cases hh
  | multianewarray i d =>
    change (if d = 2 then z_newm k i st h else none) = some q at hh
    split at hh
    · unfold z_newm at hh
      split at hh
      · replace hh := z_i2_s hh; obtain ⟨n, m, r, rfl, hh⟩ := hh
        try dsimp only at hh
        split at hh
        · cases hh; exact zI.mk2
        · cases hh
      · cases hh
    · cases hh
  | invokespecial i =>
    change z_obj k i st h = some q at hh
    unfold z_obj at hh
    split at hh
    · replace hh := z_r1_s hh; obtain ⟨a, r, rfl, hh⟩ := hh
      try dsimp only at hh
      split at hh
      · cases hh; exact zI.rf
      · cases hh
    · cases hh
  | invokestatic i =>
    change z_lot sc k i st h = some q at hh
    unfold z_lot at hh
    split at hh
    · replace hh := z_i1_s hh; obtain ⟨x, r0, rfl, hh⟩ := hh
      replace hh := z_r1_s hh; obtain ⟨a, r, rfl, hh⟩ := hh
      try dsimp only at hh
      split at hh
      · cases hh; exact zI.rf
      · cases hh
    unfold z_math at hh
    split at hh
    · split at hh
      · replace hh := z_i1_s hh; obtain ⟨x, r, rfl, hh⟩ := hh
        try dsimp only at hh
        split at hh
        · cases hh; exact zI.rf
        · cases hh
      · split at hh
        · replace hh := z_i2_s hh; obtain ⟨x, y, r, rfl, hh⟩ := hh
          try dsimp only at hh
          split at hh
          · cases hh; exact zI.rf
          · cases hh
        · cases hh
    · cases hh
  | _ => cases hh
theorem z_step_I {sc : Nat × (Nat → Int32)} {k pc : Nat} {ls st : List Value} {h : zA} {q : zH} (hh : z_step sc k pc ls st h = some q) : zI h q.2.2.2 := by
  unfold z_step at hh
  split at hh
  · unfold z_stepI at hh
    split at hh
    · split at hh
      · cases hh; exact zI.rf
      · split at hh
        next q1 e1 => cases hh; exact z_heap_I e1
        next => cases hh
    · cases hh
  · cases hh
theorem z_run_I {sc : Nat × (Nat → Int32)} : ∀ (n k pc : Nat) (ls st : List Value) (h : zA) (r : Option Value × zA), z_run sc n k pc ls st h = some r → zI h r.2 := by
  intro n
  induction n with
  | zero => intro k pc ls st h r e; cases e
  | succ n ih =>
    intro k pc ls st h r e
    unfold z_run at e
    split at e
    · cases e; exact zI.rf
    · split at e
      next q e2 => exact (z_step_I e2).tr (ih _ _ _ _ _ _ e)
      next =>
        split at e
        · split at e
          next r4 e4 => exact (ih _ _ _ _ _ _ e4).tr (ih _ _ _ _ _ _ e)
          next => cases e
        · cases e
section ZSOUND
variable {p : Program} {l : Launch} {e : Env} {R : Room} {s : State} {m : MethodId} {args : Array Value} {below : List Frame} {meth : Method} {c : Code} {H : Heap} {locs : List Loc} {cells slots : Nat} {Q : State → Prop}
variable {D : va_G} {k pc len i : Nat} {ad : Nat → Nat} {cA : Nat → ClassId} {A : Nat → Prop} {H0 : Heap} {h : zA} {ls st : List Value} {cl : Array Slot} {sc : Nat × (Nat → Int32)}
theorem z_heap_W {ins : Instr} {q : zG} (X : zX p R s m args meth c D k) (hcl : cl.size = c.maxLocals) (hdg : decode (z_code k) pc = .ok (ins, len)) (hlen : len = z_len ins len) (S : zS s D A H0 cA ad h H locs) (hsc : zXs sc k A s H0 ad) (hst : ∀ v ∈ st, z_wf h.1 v) (hh : z_heap sc k ins st h = some q) (hce : cells + (q.2.1 - h.1) ≤ R.cells) (hsl : slots + (q.2.2.1 - h.2.1) ≤ R.slots)
    (kk : zKG p l e R s m args below meth c cells slots Q D A H0 ad h cl (pc + len) q) : W p l e R s m args below meth c H locs cells slots Q (F0 m pc cl (st.map (z_ren ad))) := by
  cases ins with
  | getfield i => obtain rfl : len = 3 := hlen; exact z_W_gf X hdg S hst hh kk
  | putfield i => obtain rfl : len = 3 := hlen; exact z_W_pf X hdg S hst hh kk
  | iaload => obtain rfl : len = 1 := hlen; exact z_W_ald (Or.inl ⟨rfl, rfl⟩) X hdg S hsc hst hh kk
  | caload => obtain rfl : len = 1 := hlen; exact z_W_ald (Or.inr ⟨rfl, rfl⟩) X hdg S hsc hst hh kk
  | aaload => obtain rfl : len = 1 := hlen; exact z_W_aald X hdg S hst hh kk
  | iastore => obtain rfl : len = 1 := hlen; exact z_W_ast (Or.inl ⟨rfl, rfl, rfl⟩) X hdg S hst hh kk
  | castore => obtain rfl : len = 1 := hlen; exact z_W_ast (Or.inr ⟨rfl, rfl, rfl⟩) X hdg S hst hh kk
  | aastore => obtain rfl : len = 1 := hlen; exact z_W_aast X hdg S hst hh kk
  | arraylength => obtain rfl : len = 1 := hlen; exact z_W_len0 X hdg S hsc hst hh kk
  | new i => obtain rfl : len = 3 := hlen; exact z_W_new X hdg S hst hh hce hsl kk
  | newarray t =>
    obtain rfl : len = 2 := hlen
    cases t with
    | int => exact z_W_newa (Or.inl ⟨rfl, rfl⟩) X hdg S hst hh hce hsl kk
    | char => exact z_W_newa (Or.inr ⟨rfl, rfl⟩) X hdg S hst hh hce hsl kk
    | _ => cases hh
  | anewarray i => obtain rfl : len = 3 := hlen; exact z_W_newq X hdg S hst hh hce hsl kk
  | multianewarray i d =>
    obtain rfl : len = 4 := hlen
    change (if d = 2 then z_newm k i st h else none) = some q at hh
    split at hh
    next hd => exact z_W_newm hd X hdg S hst hh hce hsl kk
    next => cases hh
  | invokespecial i => obtain rfl : len = 3 := hlen; exact z_W_obj X hcl hdg S hst hh kk
  | invokestatic i => obtain rfl : len = 3 := hlen; exact z_W_lotM X hcl hdg S hsc hst hh (by omega) (by omega) kk
  | _ => cases hh
theorem z_step_W {q : zH} (X : zX p R s m args meth c D k) (S : zS s D A H0 cA ad h H locs) (hsc : zXs sc k A s H0 ad) (hL : z_L ad h.1 (z_ml k) ls cl) (hst : ∀ v ∈ st, z_wf h.1 v) (hh : z_step sc k pc ls st h = some q) (hce : cells + (q.2.2.2.1 - h.1) ≤ R.cells) (hsl : slots + (q.2.2.2.2.1 - h.2.1) ≤ R.slots)
    (kk : ∀ (cA' : Nat → ClassId) (ad' : Nat → Nat) (H' : Heap) (locs' : List Loc) (cl' : Array Slot), (∀ i, i ≤ h.1 → ad' i = ad i) → zS s D A H0 cA' ad' q.2.2.2 H' locs' → z_L ad' q.2.2.2.1 (z_ml k) q.2.1 cl' → (∀ v ∈ q.2.2.1, z_wf q.2.2.2.1 v) → W p l e R s m args below meth c H' locs' (cells + (q.2.2.2.1 - h.1)) (slots + (q.2.2.2.2.1 - h.2.1)) Q (F0 m q.1 cl' (q.2.2.1.map (z_ren ad')))) : W p l e R s m args below meth c H locs cells slots Q (F0 m pc cl (st.map (z_ren ad))) := by
  unfold z_step at hh
  split at hh
  next q0 hdg =>
    unfold z_stepI at hh
    split at hh
    next hlen =>
      split at hh
      next q1 e1 =>
        cases hh
        refine z_pure_W X hdg hlen hL hst e1 (fun cl' hL' hst' => ?_)
        have k2 := kk cA ad H locs cl' (fun _ _ => rfl) S hL' hst'
        dsimp only at k2
        rw [Nat.sub_self, Nat.sub_self] at k2
        exact k2
      next =>
        split at hh
        next q1 e1 =>
          cases hh
          refine z_heap_W X (hL.1.1.trans X.2.2.1.symm) hdg hlen S hsc hst e1 hce hsl (fun cA' ad' H' locs' ha S' hst' => ?_)
          exact kk cA' ad' H' locs' cl ha S' (hL.up ha (z_heap_I e1).1) hst'
        next => cases hh
    next => cases hh
  next => cases hh
/-- what a run says, at one end -/
def zSnd (sc : Nat × (Nat → Int32)) (l : Launch) (D : va_G) (k pc : Nat) (ls st : List Value) (h : zA) (r : Option Value) (h' : zA) : Prop :=
  ∀ (p : Program) (e : Env) (R : Room) (s : State) (m : MethodId) (args : Array Value) (below : List Frame) (meth : Method) (c : Code) (A : Nat → Prop) (H0 H : Heap) (locs : List Loc) (cells slots : Nat) (cA : Nat → ClassId) (ad : Nat → Nat) (cl : Array Slot) (Q : State → Prop),
    zX p R s m args meth c D k → zS s D A H0 cA ad h H locs → zXs sc k A s H0 ad → z_L ad h.1 (z_ml k) ls cl → (∀ v ∈ st, z_wf h.1 v) → cells + (h'.1 - h.1) ≤ R.cells → slots + (h'.2.1 - h.2.1) ≤ R.slots →
    (∀ (pc' : Nat) (st' : List Value) (cl' : Array Slot) (cA' : Nat → ClassId) (ad' : Nat → Nat) (H' : Heap) (locs' : List Loc), z_end k pc' st' = some r → (∀ i, i ≤ h.1 → ad' i = ad i) → zS s D A H0 cA' ad' h' H' locs' → (∀ v ∈ st', z_wf h'.1 v) → W p l e R s m args below meth c H' locs' (cells + (h'.1 - h.1)) (slots + (h'.2.1 - h.2.1)) Q (F0 m pc' cl' (st'.map (z_ren ad')))) →
    W p l e R s m args below meth c H locs cells slots Q (F0 m pc cl (st.map (z_ren ad)))
theorem zk_all : ∀ y, y < zLaw → Jvm.Cond.code (z_y y) (z_code y) (z_ml y) (z_ret y) ∈ zT := by
  intro y hy
  have hlen : zML.length = zLaw + 1 := by decide +kernel
  have hm : zML[y]? = some (zm y) := by
    unfold zm
    rw [List.getD_eq_getElem?_getD, List.getElem?_eq_getElem (by omega)]
    rfl
  have hsp : ∃ a : List (MethodName × ByteArray × Nat × Option FieldType × Nat × Nat × Nat × Nat × Nat), (∀ q ∈ a, zkP q) ∧ ∃ q, zML = a ++ [q] := by
    refine ⟨zML_0 ++ zML_1 ++ zML_2 ++ zML_3 ++ zML_4, ?_, _, rfl⟩
    intro q hq
    rcases List.mem_append.mp hq with hq | hq
    · rcases List.mem_append.mp hq with hq | hq
      · rcases List.mem_append.mp hq with hq | hq
        · rcases List.mem_append.mp hq with hq | hq
          · exact zk_0 q hq
          · exact zk_1 q hq
        · exact zk_2 q hq
      · exact zk_3 q hq
    · exact zk_4 q hq
  obtain ⟨a, ha, q, e⟩ := hsp
  rw [e, List.length_append] at hlen
  rw [e, List.getElem?_append_left (by simp at hlen; omega)] at hm
  exact ha _ (List.mem_of_getElem? hm)
theorem zm_all : ∀ y, y < zLaw → zc_m y = true := by
  intro y hy
  have hy : y < 93 := hy
  have key : ∀ a n, (List.range' a n).all zc_m = true → a ≤ y → y < a + n → zc_m y = true := fun a n h h1 h2 => List.all_eq_true.mp h y (List.mem_range'_1.mpr ⟨h1, h2⟩)
  rcases (show y < 19 ∨ (19 ≤ y ∧ y < 38) ∨ (38 ≤ y ∧ y < 57) ∨ (57 ≤ y ∧ y < 76) ∨ (76 ≤ y) by omega) with h | h | h | h | h
  · exact key _ _ zc_m_0 (by omega) (by omega)
  · exact key _ _ zc_m_19 (by omega) (by omega)
  · exact key _ _ zc_m_38 (by omega) (by omega)
  · exact key _ _ zc_m_57 (by omega) (by omega)
  · exact key _ _ zc_m_76 (by omega) (by omega)
theorem z_facts {y : Nat} (hy : y < zLaw) : Jvm.Cond.initialized (z_y y).cls ∈ zT ∧ ((z_kd y = 0 ∧ Jvm.Cond.instanceMethod (z_y y) ∈ zT ∧ Jvm.Cond.selects (z_y y).cls (z_y y) (z_y y) ∈ zT) ∨ (z_kd y = 1 ∧ Jvm.Cond.static (z_y y) ∈ zT) ∨ (z_kd y ≠ 0 ∧ z_kd y ≠ 1 ∧ Jvm.Cond.instanceMethod (z_y y) ∈ zT ∧ (z_y y).name = "<init>" ∧ z_ret y = none)) ∧ plainName (z_y y).cls = true ∧ (z_y y).cls ≠ "java/lang/invoke/MethodHandle" ∧ (z_y y).cls ≠ "java/lang/invoke/VarHandle" ∧ (parseMethodDescriptor (z_y y).desc).map (fun d => d.parameters.length) = some (z_np y) ∧ (z_y y).cls = zR (z_cls y) ∧ (z_cls y < 10 ∨ z_kd y = 1) := by
  have h := zm_all y hy
  unfold zc_m at h
  simp only [Bool.and_eq_true, decide_eq_true_eq] at h
  obtain ⟨⟨⟨⟨⟨⟨⟨h1, h2⟩, h3⟩, h4⟩, h5⟩, h6⟩, h7⟩, h8⟩ := h
  refine ⟨z_in _ h1 rfl, ?_, h3, h4, h5, h6, h7, h8⟩
  split at h2
  next e =>
    simp only [Bool.and_eq_true, decide_eq_true_eq] at h2
    exact Or.inl ⟨e, z_in _ h2.1 rfl, z_in _ h2.2 rfl⟩
  next e =>
    simp only [decide_eq_true_eq] at h2
    exact Or.inr (Or.inl ⟨e, z_in _ h2 rfl⟩)
  next e0 e1 =>
    simp only [Bool.and_eq_true, decide_eq_true_eq] at h2
    exact Or.inr (Or.inr ⟨e0, e1, z_in _ h2.1.1 rfl, h2.1.2, h2.2⟩)
set_option maxHeartbeats 1000000 in
theorem z_met {y : Nat} {as : List Value} {r : Option Value} {h' : zA} {sz : Nat} (hy : y < zLaw) (hln : as.length ≤ z_ml y) (has : ∀ v ∈ as, z_wf h.1 v) (hc1 : ∀ v ∈ as, z_c1 v = true) (hw : z_hw h) (hnx : (z_ws cA ad h).length = h.1) (hs : zSnd sc l D y 0 (as ++ List.replicate (z_ml y - as.length) .null) [] h r h') :
    Met l (z_y y) (zWs y) (zRm y (h'.1 - h.1) (h'.2.1 - h.2.1)) (zPc D cA ad h as sz) (zQc D ad h h' r (va_A (z_ws cA ad h) sz)) (h'.1 - h.1) (h'.2.1 - h.2.1) (va_A (z_ws cA ad h) sz) := by
  have F := z_facts hy
  refine Met.ofW (cc := z_code y) (maxL := z_ml y) (ret := z_ret y) F.2.2.1 rfl ?_
  intro p e s m args below meth c s₁ B hml hv
  obtain ⟨rfl, hsz, hP, hD0, hAr, hK⟩ := hv
  subst hsz
  have hts : ∀ w ∈ zT, w.before ((as.map (z_ren ad)).toArray) s = true := fun w hw2 => atoms_spec (ws := zWs y) B.pre w (List.mem_cons_of_mem _ hw2)
  have hown0 : s.vm.findClass (z_y y).cls = some m.cls := findClass_of_methodNamed B.named
  rw [F.2.2.2.2.2.2.1] at hown0
  have hlocks := B.notSynchronized
  have hr := B.returns
  have X : zX p (headSpec (zWs y) (zRm y (h'.1 - h.1) (h'.2.1 - h.2.1))).room s m ((as.map (z_ren ad)).toArray) meth c D y := by
    refine ⟨B.exec, B.bytes, hml, hown0, hts, fun hk => ?_, hK, Nat.le_refl _, Nat.le_refl _⟩
    have h1 := (name_of_methodNamed B.named B.method).1
    rcases F.2.1 with g | g | g
    · omega
    · omega
    · exact h1.trans g.2.2.2.1
  have hD := hD0.self (sz := s.heap.size)
  have hAA : ∀ q, s.heap.size ≤ q → va_A (z_ws cA ad h) s.heap.size q := fun q hq => Or.inr hq
  have S : zS s D (va_A (z_ws cA ad h) s.heap.size) s.heap cA ad h s.heap [] := ⟨hP, hD, va_S.rf, hAr, hw, hAA⟩
  have hl := lv_entry (as.map (z_ren ad)) (n := z_ml y) (by rw [z_lg has hc1]; exact hln)
  rw [lg_entry_eq]
  generalize (lg_sl (as.map (z_ren ad)) ++ List.replicate (z_ml y - (lg_sl (as.map (z_ren ad))).length) Slot.unset).toArray = cl at hl ⊢
  have hL : z_L ad h.1 (z_ml y) (as ++ List.replicate (z_ml y - as.length) .null) cl := by
    refine ⟨⟨hl.1, hl.2.1, fun q hq => hl.2.2 q ?_⟩, by simp; omega, fun v hv => ?_⟩
    · obtain ⟨v, e1, e3, e4⟩ := z_lvs_in hq
      obtain ⟨q1, q2⟩ := q
      dsimp only at e1 e3 e4
      subst e3
      by_cases hlt : q1 < as.length
      · rw [List.getElem?_append_left hlt] at e1
        have := z_la (ad := ad) as 0 q1 v has hc1 e1
        rw [Nat.zero_add] at this
        exact this
      · rw [List.getElem?_append_right (by omega)] at e1
        obtain rfl := List.eq_of_mem_replicate (List.mem_of_getElem? e1)
        rcases e4 with (⟨x, e4⟩ | ⟨x, e4⟩) | ⟨x, f, e4, -⟩ <;> cases e4
    · rcases List.mem_append.mp hv with hv | hv
      · exact has v hv
      · rw [List.eq_of_mem_replicate hv]; trivial
  refine hs p e _ s m _ below meth c (va_A (z_ws cA ad h) s.heap.size) s.heap s.heap [] 0 0 cA ad cl _ X S (fun hz => by omega) hL (fun v hv => by cases hv) ?_ ?_ ?_
  · show 0 + (h'.1 - h.1) ≤ h'.1 - h.1; omega
  · show 0 + (h'.2.1 - h.2.1) ≤ h'.2.1 - h.2.1; omega
  intro pc' st' cl' cA' ad' H' locs' hend ha S' hst'
  rw [Nat.zero_add, Nat.zero_add]
  have post : (∀ v, r = some v → z_wf h'.1 v) → ∀ t : State, t.heap = H' → s.WarmedH t.vm → zQc D ad h h' r (va_A (z_ws cA ad h) s.heap.size) ((as.map (z_ren ad)).toArray) s (.returned (r.map (z_ren ad'))) t := by
    intro hrv t ht hW
    exact ⟨⟨cA', ad', ha, rfl, by rw [ht]; exact S'.1, S'.2.1, S'.2.2.2.1.moved hW.alike, S'.2.2.2.2.1, hrv⟩, S'.2.2.1.F ht⟩
  unfold z_end at hend
  split at hend
  next q hdg =>
    split at hend
    next hq1 =>
      obtain ⟨ins, q2⟩ := q
      dsimp only at hq1 hend hdg
      subst hq1
      cases ins with
      | return_ =>
        change (if z_ret y = none ∧ st' = [] then some none else none) = some r at hend
        split at hend
        next hc =>
          obtain ⟨h1, rfl⟩ := hc
          cases hend
          rw [h1] at hr
          exact W.vret B.exec B.bytes hr (post (fun v hv => by cases hv)) S'.2.2.1.2.2 hdg
        next => cases hend
      | ireturn =>
        replace hend := z_i1_s hend; obtain ⟨x, r0, rfl, hend⟩ := hend
        try dsimp only at hend
        split at hend
        next hc =>
          obtain ⟨rfl, hc⟩ := hc
          cases hend
          have p2 := post (fun v hv => by cases hv; trivial)
          rcases hc with hc | ⟨hc, hx⟩
          · rw [hc] at hr
            exact W.iret B.exec B.bytes hr p2 S'.2.2.1.2.2 hdg
          · rw [hc] at hr
            refine W.zret B.exec B.bytes hr ?_ p2 S'.2.2.1.2.2 hdg
            rcases hx with rfl | rfl <;> rfl
        next => cases hend
      | lreturn =>
        replace hend := z_l1_s hend; obtain ⟨x, r0, rfl, hend⟩ := hend
        try dsimp only at hend
        split at hend
        next hc =>
          obtain ⟨rfl, hc⟩ := hc
          cases hend
          have p2 := post (fun v hv => by cases hv; trivial)
          rw [hc] at hr
          exact W.lret B.exec B.bytes hr p2 S'.2.2.1.2.2 hdg
        next => cases hend
      | areturn =>
        replace hend := z_r1_s hend; obtain ⟨x, r0, rfl, hend⟩ := hend
        try dsimp only at hend
        split at hend
        next hc =>
          obtain ⟨rfl, hc⟩ := hc
          cases hend
          have p2 := post (fun v hv => by cases hv; exact hst' _ List.mem_cons_self)
          rcases hc with hc | hc
          · rw [hc] at hr
            exact W.aret B.exec B.bytes hr (Or.inl ⟨_, rfl⟩) (Or.inr ⟨_, rfl⟩) p2 S'.2.2.1.2.2 hdg
          · rw [hc] at hr
            exact W.aret B.exec B.bytes hr (Or.inl ⟨_, rfl⟩) (Or.inr ⟨_, rfl⟩) p2 S'.2.2.1.2.2 hdg
        next => cases hend
      | _ => cases hend
    next => cases hend
  next => cases hend
theorem z_pcU {as : List Value} (hK : z_K D s) (S : zS s D A H0 cA ad h H locs) : ∀ U : State, U.heap = H → s.WarmedH U.vm → zPc D cA ad h as H.size (as.map (z_ren ad)).toArray U := by
  intro U hU hW
  exact ⟨rfl, by rw [hU], by rw [hU]; exact S.1, S.2.1.weaken (fun _ _ _ _ => trivial), S.2.2.2.1.moved hW.alike, hK.warm hW⟩
theorem z_pcB {as : List Value} {sz : Nat} : FrameBlind (zPc D cA ad h as sz) := by
  intro a U g mk q
  obtain ⟨q0, q1, q2, q3, q4, q5⟩ := q
  exact ⟨q0, q1, q2, q3, z_arr.moved (u := U) (U := U.calling g mk a) (Vm.Alike.refl U.vm) q4, z_K.same (u := U) (U := U.calling g mk a) rfl q5⟩
set_option maxHeartbeats 1000000 in
theorem z_call_W {y : Nat} {as rest : List Value} {rv : Option Value} {h1 : zA} {Qs : State → Prop} (X : zX p R s m args meth c D k) (S : zS s D A H0 cA ad h H locs) (hcl : cl.size = c.maxLocals) (hst : ∀ v ∈ st, z_wf h.1 v) (hh : z_inv k pc st h = some (y, as, rest)) (hs : zSnd sc l D y 0 (as ++ List.replicate (z_ml y - as.length) .null) [] h rv h1) (hI : zI h h1) (hce : cells + (h1.1 - h.1) ≤ R.cells) (hsl : slots + (h1.2.1 - h.2.1) ≤ R.slots)
    (kk : ∀ (cA' : Nat → ClassId) (ad' : Nat → Nat) (H' : Heap) (locs' : List Loc), (∀ i, i ≤ h.1 → ad' i = ad i) → zS s D A H0 cA' ad' h1 H' locs' → (∀ v ∈ rv.toList ++ rest, z_wf h1.1 v) → W p l e R s m args below meth c H' locs' (cells + (h1.1 - h.1)) (slots + (h1.2.1 - h.2.1)) Qs (F0 m (pc + 3) cl ((rv.toList ++ rest).map (z_ren ad')))) : W p l e R s m args below meth c H locs cells slots Qs (F0 m pc cl (st.map (z_ren ad))) := by
  have C0 : CallFix p m c (z_code k) (z_ml k) s args zT (zR (z_cls k)) := ⟨X.1, X.2.1, X.2.2.1, X.2.2.2.1, X.2.2.2.2.1⟩
  have hK := X.2.2.2.2.2.2.1
  have hts := X.2.2.2.2.1
  have hsz : cl.size = z_ml k := hcl.trans X.2.2.1
  -- what the table says of a call
  have tab : ∀ (i kd : Nat), z_callY k i kd st h = some (y, as, rest) → ∃ nest : Nat × Nat, z_kd y = kd ∧ y < zLaw ∧ as.length ≤ z_ml y ∧ as.length = z_np y + z_ar kd ∧ rest.length ≤ 4 ∧ (∀ v ∈ as, z_c1 v = true) ∧ z_fr y + 1 ≤ z_fr k ∧ 8 + (z_ml y + 11) + z_lo y ≤ z_lo k ∧ (kd = 1 ∨ z_rc h (z_cls y) as = true) ∧ st = as.reverse ++ rest ∧ lw_tbl[nest.2]? = some (if nest.1 = 0 then .methodLink (zR (z_cls k)) i (z_y y) else .methodLinkNest (zR (z_cls k)) i (z_y y) zHost) ∧ (nest.1 = 1 ∨ kd ≠ 1 ∨ (z_y y).cls = zR (z_cls k)) := by
    intro i kd h2
    unfold z_callY at h2
    split at h2
    next q e1 =>
      have hf := List.all_eq_true.mp zc_c_ok _ (z_lk2_in e1)
      unfold zc_c at hf
      simp only [Bool.and_eq_true, decide_eq_true_eq] at hf
      try dsimp only at h2
      split at h2
      next hc =>
        obtain ⟨c1, c2, c3, c4, c5, c9, c6, c7, c8⟩ := hc
        cases h2
        have hl : (List.take (z_np q.1 + z_ar kd) st).reverse.length = z_np q.1 + z_ar kd := by
          rw [List.length_reverse, List.length_take]
          omega
        refine ⟨(q.2.1, q.2.2), c1, c4, by rw [hl]; exact c3, hl, c5, (fun v hv => List.all_eq_true.mp c9 v (List.mem_reverse.mp hv)), c6, c7, c8, by rw [List.reverse_reverse, List.take_append_drop], hf.1, ?_⟩
        rcases hf.2 with g | g | g
        · exact Or.inl g
        · exact Or.inr (Or.inl (by rw [← c1]; exact g))
        · exact Or.inr (Or.inr g)
      next => cases h2
    next => cases h2
  have has0 : ∀ {as rest : List Value}, st = as.reverse ++ rest → (∀ v ∈ as, z_wf h.1 v) ∧ ∀ v ∈ rest, z_wf h.1 v := fun e => ⟨fun v hv => hst v (by rw [e]; exact List.mem_append_left _ (List.mem_reverse.mpr hv)), fun v hv => hst v (by rw [e]; exact List.mem_append_right _ hv)⟩
  have lks : ∀ (i : Nat) (nest : Nat × Nat), lw_tbl[nest.2]? = some (if nest.1 = 0 then .methodLink (zR (z_cls k)) i (z_y y) else .methodLinkNest (zR (z_cls k)) i (z_y y) zHost) → (nest.1 = 0 ∧ Jvm.Cond.methodLink (zR (z_cls k)) i (z_y y) ∈ zT) ∨ (¬ nest.1 = 0 ∧ va_Nw (.methodLinkNest (zR (z_cls k)) i (z_y y) zHost) s) := by
    intro i nest e
    by_cases g : nest.1 = 0
    · rw [if_pos g] at e; exact Or.inl ⟨g, z_in _ e rfl⟩
    · rw [if_neg g] at e; exact Or.inr ⟨g, hK.2.1 _ (List.mem_of_getElem? e) rfl⟩
  unfold z_inv at hh
  split at hh
  next q hdg =>
    split at hh
    next hq2 =>
      obtain ⟨ins, q2⟩ := q
      dsimp only at hq2 hh hdg
      subst hq2
      have recv : ∀ (as' : List Value) (a : Nat), as = .ref a :: as' → z_rc h (z_cls y) as = true → z_cls y < 10 → y < zLaw → ∃ cellB : Cell, H[ad a]? = some cellB ∧ cellB.vm.isStatics = false ∧ s.vm.findClass (z_y y).cls = some cellB.cls := by
        intro as' a e h2 hk10 hy
        subst e
        have F := z_facts hy
        have h3 : 1 ≤ a ∧ a ≤ h.1 ∧ (h.2.2.1 a).1 = z_cls y := by
          unfold z_rc at h2
          exact of_decide_eq_true h2
        have he : (z_ws cA ad h)[a - 1]? = some (ad a, .inr (z_cls y, z_fs ad h a)) := by rw [z_ws_at h3.1 h3.2.1, z_cellO h3.2.2 hk10]
        have := va_recv (ci := z_cls y) hK.1 S.1 (z_cl_at _ hk10) he
        rw [F.2.2.2.2.2.2.1]
        exact this
      have shape : z_rc h (z_cls y) as = true → ∃ a as', as = .ref a :: as' := by
        intro h2
        unfold z_rc at h2
        split at h2
        next a as' => exact ⟨a, as', rfl⟩
        next => cases h2
      split at hh
      next i =>
        obtain ⟨nest, t1, t2, t3, t4, t5, tc, t6, t7, t8, t9, t10, t11⟩ := tab i 0 hh
        have F := z_facts t2
        obtain ⟨ha, hre⟩ := has0 t9
        have hM := z_met (cA := cA) (ad := ad) (sz := H.size) t2 t3 ha tc S.2.2.2.2.1 z_ws_len hs
        have t8 := t8.resolve_left (by omega)
        obtain ⟨a, as', rfl⟩ := shape t8
        have g : Jvm.Cond.instanceMethod (z_y y) ∈ zT ∧ Jvm.Cond.selects (z_y y).cls (z_y y) (z_y y) ∈ zT := by
          rcases F.2.1 with g | g | g
          · exact g.2
          · omega
          · omega
        have hpre : PreV s H (z_y y).cls (ad a) (zPc D cA ad h (.ref a :: as') H.size) (as'.map (z_ren ad)) := ⟨z_pcB, recv as' a rfl t8 (F.2.2.2.2.2.2.2.resolve_right (by omega)) t2, z_pcU hK S⟩
        have hn : (as'.map (z_ren ad)).length = z_np y := by rw [List.length_map]; simp [z_ar] at t4; omega
        have hstk : (F0 m pc cl (st.map (z_ren ad))).stack = (as'.map (z_ren ad)).reverse ++ .ref (ad a) :: rest.map (z_ren ad) := by
          show st.map (z_ren ad) = _
          rw [t9]
          simp [z_ren]
        have hroom : (zRm y (h1.1 - h.1) (h1.2.1 - h.2.1)).frames + 1 ≤ R.frames ∧ 8 + (z_ml y + 11) + (zRm y (h1.1 - h.1) (h1.2.1 - h.2.1)).locals ≤ R.locals := ⟨Nat.le_trans t6 X.2.2.2.2.2.2.2.1, Nat.le_trans t7 X.2.2.2.2.2.2.2.2⟩
        have hW : 2 * (F0 m pc cl (st.map (z_ren ad))).monitorRoom + ((rest.map (z_ren ad)).map fun v => v.category).sum ≤ 8 := lv_room (by have := z_sum (ad := ad) (r := rest); omega)
        rcases lks i nest t10 with ⟨g1, g2⟩ | ⟨g1, g2⟩
        · refine z_back hK S hre rfl (va_runV C0 hM (cwV (z_np y) hts (z_good ?_) rfl rfl rfl ⟨rfl, F.2.2.2.1, F.2.2.2.2.1, F.2.2.2.2.2.1⟩ hroom) hpre rfl hn hsz hstk hW hdg ⟨hce, hsl⟩) hI kk
          intro w hw
          unfold wsV zWs at hw
          rcases List.mem_append.mp hw with hw | hw
          · simp only [List.mem_cons, List.not_mem_nil, or_false] at hw
            rcases hw with rfl | rfl | rfl | rfl
            · exact g2
            · exact g.1
            · exact g.2
            · exact F.1
          · rcases List.mem_cons.mp hw with rfl | hw
            · exact zk_all y t2
            · exact hw
        · refine z_back hK S hre rfl (va_runVN C0 hM ⟨va_cnB (z_np y) hts (z_good (ws := zWs y) ?_) rfl rfl rfl g2 (hts _ F.1) ⟨F.2.2.2.1, F.2.2.2.2.1, F.2.2.2.2.2.1⟩ hroom, hts _ g.1, hts _ g.2⟩ hpre rfl hn hsz hstk hW hdg ⟨hce, hsl⟩) hI kk
          intro w hw
          rcases List.mem_cons.mp hw with rfl | hw
          · exact zk_all y t2
          · exact hw
      next i =>
        obtain ⟨nest, t1, t2, t3, t4, t5, tc, t6, t7, t8, t9, t10, t11⟩ := tab i 1 hh
        have F := z_facts t2
        obtain ⟨ha, hre⟩ := has0 t9
        have hM := z_met (cA := cA) (ad := ad) (sz := H.size) t2 t3 ha tc S.2.2.2.2.1 z_ws_len hs
        have g : Jvm.Cond.static (z_y y) ∈ zT := by
          rcases F.2.1 with g | g | g
          · omega
          · exact g.2
          · omega
        have hpre : PreS s H (zPc D cA ad h as H.size) (as.map (z_ren ad)) := ⟨z_pcB, z_pcU hK S⟩
        have hn : (as.map (z_ren ad)).length = z_np y := by rw [List.length_map]; simp [z_ar] at t4; omega
        have hstk : (F0 m pc cl (st.map (z_ren ad))).stack = (as.map (z_ren ad)).reverse ++ rest.map (z_ren ad) := by
          show st.map (z_ren ad) = _
          rw [t9]
          simp
        have hroom : (zRm y (h1.1 - h.1) (h1.2.1 - h.2.1)).frames + 1 ≤ R.frames ∧ 8 + (z_ml y + 11) + (zRm y (h1.1 - h.1) (h1.2.1 - h.2.1)).locals ≤ R.locals := ⟨Nat.le_trans t6 X.2.2.2.2.2.2.2.1, Nat.le_trans t7 X.2.2.2.2.2.2.2.2⟩
        have hW : 2 * (F0 m pc cl (st.map (z_ren ad))).monitorRoom + ((rest.map (z_ren ad)).map fun v => v.category).sum ≤ 8 := lv_room (by have := z_sum (ad := ad) (r := rest); omega)
        rcases lks i nest t10 with ⟨g1, g2⟩ | ⟨g1, g2⟩
        · have hc2 : (z_y y).cls = zR (z_cls k) := by
            rcases t11 with z | z | z
            · omega
            · exact absurd rfl z
            · exact z
          refine z_back hK S hre rfl (va_runS C0 hM (cwS (z_np y) hts (z_good ?_) rfl rfl rfl ⟨hc2, F.2.2.2.1, F.2.2.2.2.1, F.2.2.2.2.2.1⟩ hroom) hpre rfl hn hsz hstk hW hdg ⟨hce, hsl⟩) hI kk
          intro w hw
          unfold wsS zWs at hw
          rcases List.mem_append.mp hw with hw | hw
          · simp only [List.mem_cons, List.not_mem_nil, or_false] at hw
            rcases hw with rfl | rfl | rfl
            · exact g2
            · exact g
            · rw [← hc2]; exact F.1
          · rcases List.mem_cons.mp hw with rfl | hw
            · exact zk_all y t2
            · exact hw
        · refine z_back hK S hre rfl (va_runSN C0 hM ⟨va_cnB (z_np y) hts (z_good (ws := zWs y) ?_) rfl rfl rfl g2 (hts _ F.1) ⟨F.2.2.2.1, F.2.2.2.2.1, F.2.2.2.2.2.1⟩ hroom, hts _ g, trivial⟩ hpre rfl hn hsz hstk hW hdg ⟨hce, hsl⟩) hI kk
          intro w hw
          rcases List.mem_cons.mp hw with rfl | hw
          · exact zk_all y t2
          · exact hw
      next i =>
        obtain ⟨nest, t1, t2, t3, t4, t5, tc, t6, t7, t8, t9, t10, t11⟩ := tab i 2 hh
        have F := z_facts t2
        obtain ⟨ha, hre⟩ := has0 t9
        have hM := z_met (cA := cA) (ad := ad) (sz := H.size) t2 t3 ha tc S.2.2.2.2.1 z_ws_len hs
        have t8 := t8.resolve_left (by omega)
        obtain ⟨a, as', rfl⟩ := shape t8
        have g : Jvm.Cond.instanceMethod (z_y y) ∈ zT ∧ (z_y y).name = "<init>" ∧ z_ret y = none := by
          rcases F.2.1 with g | g | g
          · omega
          · omega
          · exact g.2.2
        have hpre : PreS s H (zPc D cA ad h (.ref a :: as') H.size) (.ref (ad a) :: as'.map (z_ren ad)) := ⟨z_pcB, z_pcU hK S⟩
        have hn : (as'.map (z_ren ad)).length = z_np y := by rw [List.length_map]; simp [z_ar] at t4; omega
        have hstk : (F0 m pc cl (st.map (z_ren ad))).stack = (as'.map (z_ren ad)).reverse ++ .ref (ad a) :: rest.map (z_ren ad) := by
          show st.map (z_ren ad) = _
          rw [t9]
          simp [z_ren]
        have hroom : (zRm y (h1.1 - h.1) (h1.2.1 - h.2.1)).frames + 1 ≤ R.frames ∧ 8 + (z_ml y + 11) + (zRm y (h1.1 - h.1) (h1.2.1 - h.2.1)).locals ≤ R.locals := ⟨Nat.le_trans t6 X.2.2.2.2.2.2.2.1, Nat.le_trans t7 X.2.2.2.2.2.2.2.2⟩
        have hW : 2 * (F0 m pc cl (st.map (z_ren ad))).monitorRoom + ((rest.map (z_ren ad)).map fun v => v.category).sum ≤ 8 := lv_room (by have := z_sum (ad := ad) (r := rest); omega)
        have hws : zWs y = Jvm.Cond.code (z_y y) (z_code y) (z_ml y) none :: zT := by unfold zWs; rw [g.2.2]
        have hG : GoodIn zT (zWs y) := z_good (by
          intro w hw
          rcases List.mem_cons.mp hw with rfl | hw
          · exact zk_all y t2
          · exact hw)
        rcases lks i nest t10 with ⟨g1, g2⟩ | ⟨g1, g2⟩
        · exact z_back hK S hre rfl (va_runI C0 hM (cwI (z_np y) hts hG hws rfl rfl (hts _ F.1) (hts _ g2) (hts _ g.1) g.2.1 ⟨F.2.2.2.1, F.2.2.2.2.1, F.2.2.2.2.2.1⟩ hroom) hpre rfl hn hsz hstk hW hdg ⟨hce, hsl⟩) hI kk
        · exact z_back hK S hre rfl (va_runIN C0 hM ⟨va_cnB (z_np y) hts hG hws rfl rfl g2 (hts _ F.1) ⟨F.2.2.2.1, F.2.2.2.2.1, F.2.2.2.2.2.1⟩ hroom, g.2.1, hts _ g.1⟩ hpre rfl hn hsz hstk hW hdg ⟨hce, hsl⟩) hI kk
      next => cases hh
    next => cases hh
  next => cases hh
theorem z_sound (sc : Nat × (Nat → Int32)) (l : Launch) (D : va_G) : ∀ (n k pc : Nat) (ls st : List Value) (h : zA) (r : Option Value) (h' : zA), z_run sc n k pc ls st h = some (r, h') → zSnd sc l D k pc ls st h r h' := by
  intro n
  induction n with
  | zero => intro k pc ls st h r h' e; cases e
  | succ n ih =>
    intro k pc ls st h r h' er p e R s m args below meth c A H0 H locs cells slots cA ad cl Q X S hsc hL hst hce hsl kk
    unfold z_run at er
    split at er
    next r1 e1 =>
      cases er
      have k2 := kk pc st cl cA ad H locs e1 (fun _ _ => rfl) S hst
      rw [Nat.sub_self, Nat.sub_self] at k2
      exact k2
    next =>
      split at er
      next q e2 =>
        have i1 := z_step_I e2
        have i2 := z_run_I _ _ _ _ _ _ _ er
        dsimp only at i2
        have j1 := i1.1
        have j2 := i1.2
        have j3 := i2.1
        have j4 := i2.2
        refine z_step_W X S hsc hL hst e2 (by omega) (by omega) (fun cA' ad' H' locs' cl' ha S' hL' hst' => ?_)
        have hsc' : zXs sc k A s H0 ad' := fun z => by
          obtain ⟨x1, x2, x3⟩ := hsc z
          rw [ha 0 (Nat.zero_le _)]
          exact ⟨x1, x2, x3⟩
        refine ih _ _ _ _ _ _ _ er p e R s m args below meth c A H0 H' locs' _ _ cA' ad' cl' Q X S' hsc' hL' hst' (by omega) (by omega) (fun pc2 st2 cl2 cA2 ad2 H2 locs2 hend ha2 S2 hst2 => ?_)
        have k2 := kk pc2 st2 cl2 cA2 ad2 H2 locs2 hend (fun i hi => (ha2 i (Nat.le_trans hi j1)).trans (ha i hi)) S2 hst2
        exact W.cs (by omega) (by omega) k2
      next =>
        split at er
        next q e3 =>
          obtain ⟨y, as, rest⟩ := q
          dsimp only at er
          split at er
          next r4 e4 =>
            obtain ⟨rv, h1⟩ := r4
            dsimp only at er
            have i1 := z_run_I _ _ _ _ _ _ _ e4
            have i2 := z_run_I _ _ _ _ _ _ _ er
            dsimp only at i1 i2
            have j1 := i1.1
            have j2 := i1.2
            have j3 := i2.1
            have j4 := i2.2
            refine z_call_W X S (hL.1.1.trans X.2.2.1.symm) hst e3 (ih _ _ _ _ _ _ _ e4) i1 (by omega) (by omega) (fun cA' ad' H' locs' ha S' hst' => ?_)
            have hsc' : zXs sc k A s H0 ad' := fun z => by
              obtain ⟨x1, x2, x3⟩ := hsc z
              rw [ha 0 (Nat.zero_le _)]
              exact ⟨x1, x2, x3⟩
            refine ih _ _ _ _ _ _ _ er p e R s m args below meth c A H0 H' locs' _ _ cA' ad' cl Q X S' hsc' (hL.up ha j1) hst' (by omega) (by omega) (fun pc2 st2 cl2 cA2 ad2 H2 locs2 hend ha2 S2 hst2 => ?_)
            have k2 := kk pc2 st2 cl2 cA2 ad2 H2 locs2 hend (fun i hi => (ha2 i (Nat.le_trans hi j1)).trans (ha i hi)) S2 hst2
            exact W.cs (by omega) (by omega) k2
          next => cases er
        next => cases er
end ZSOUND
