-- ===== end of PART A; then your names; then what follows =====
/-! THE CLAIM OUT OF ONE WALK OF THE LAW'S BODY. Your part is whole_start (and what it stands on); all else here is the same for every law, but numbers. -/
def R_law : String := "FieldMixturesLaw"
def lw_P (b : Addr) (xs : List Int32) (args : Array Value) (s : State) : Prop := args = #[.ref b] ∧ s.IntsAt b xs ∧ xs.length ≤ 260 ∧ (Jvm.Cond.and given_1 narrow_1).before args s = true
def lw_Q (_ : Array Value) (s : State) (o : Outcome) (t : State) : Prop := o = .returned (some (.int 1)) ∧ Framed s o t [] 600000 7302250
def lw_Z (below : List Frame) (a : Array Value) (s : State) : State → Prop := fun t => ∃ o, t.status = .running ∧ Ended t below o ∧ lw_Q a s o t
/-- the law's own end, with 1 on the stack, nothing written that was there before, its room as the claim has it -/
theorem lw_ret {p : Program} {l : Launch} {e : Env} {s : State} {m : MethodId} {below : List Frame} {meth : Method} {c : Code} {b : Nat} (hx : p.tables.exec = Jvm.exec) (hb : c.code = code) (hr : meth.sig.returnType = ret) (hlocks : meth.locks = false) {pc : Nat} {H : Heap} {ls : Array Slot} (hdg : decode code pc = .ok (.ireturn, 1)) : W p l e room_1 s m #[Value.ref b] below meth c H [] 600000 7302250 (lw_Z below #[Value.ref b] s) (F0 m pc ls [.int 1]) := by
  intro T hT X
  obtain ⟨fs, hret, hrun, hended, hW, hframe⟩ := X.leave (v := some (.int 1)) (hlocks := hlocks) (fun h => by rw [hr] at h; cases h)
  have hmeth' : T.vm.method? m = some meth := X.method'
  refine ⟨T.setFrames fs, ?_, .returned (some (.int 1)), hrun, hended, rfl, ⟨_, rfl⟩, hW, hframe⟩
  jvm_step X.here [X.here.top, hx, hb, hdg, hmeth', hr, ret, narrow_b1]
  (try refine ⟨rfl, ?_⟩); (try refine ⟨rfl, ?_⟩)
  first | (intro acts; rw [hret _ acts rfl rfl rfl]) | rw [hret _ _ rfl rfl rfl]
  exact Steps.refl _
/-- what holds at the law's entry: the machine, the code, the tables' words (any of lw_tbl by 'hts w (by decide +kernel)'), the script of L ints xs at the cell b, what the Statement gives of the start (any of its parts by flat_of_before) -/
def lw_At (p : Program) (s : State) (m : MethodId) (meth : Method) (c : Code) (b L : Nat) (xs : Nat → Int32) : Prop :=
  p.tables.exec = Jvm.exec ∧ c.code = code ∧ meth.sig.returnType = ret ∧ c.maxLocals = 11 ∧ s.vm.findClass R_law = some m.cls ∧ (∀ w ∈ lw_tbl, w.before #[Value.ref b] s = true) ∧ va_X b L xs s s.heap ∧ b < s.heap.size ∧ meth.locks = false ∧ (Jvm.Cond.and given_1 narrow_1).before #[Value.ref b] s = true
/-- the heap at the law's entry: no cell -/
def z_h0 : zA := (0, 0, fun _ => (110, 0), fun _ _ => 0, fun _ _ => none)
theorem z_D {s : State} {b : Nat} (hts : ∀ w ∈ lw_tbl, w.before #[Value.ref b] s = true) : ∃ D : va_G, z_K D s := by
  have hT : ∀ w ∈ zT, w.before #[Value.ref b] s = true := fun w hw => hts w (List.mem_filter.mp hw).1
  have hk : ∀ ci : Nat, ∃ q : ClassId × (Nat → Nat), ci < 10 → u_Kn s (zR ci) (zTn ci) (zN ci) q.1 q.2 := by
    intro ci
    by_cases h : ci < 10
    · obtain ⟨cC, iS, hu⟩ := u_known hT (z_hin ci h) (hT _ (z_inst ci h).1)
      exact ⟨(cC, iS), fun _ => hu⟩
    · obtain ⟨cC, iS, hu⟩ := u_known hT (z_hin 0 (by omega)) (hT _ (z_inst 0 (by omega)).1)
      exact ⟨(cC, iS), fun g => absurd g h⟩
  refine ⟨(fun ci => (Classical.choose (hk ci)).1, fun ci => (Classical.choose (hk ci)).2), ⟨?_, ?_⟩, ?_, ?_, ?_⟩
  · intro ci q hq
    have hlt : ci < 10 := (List.getElem?_eq_some_iff.mp hq).1
    rw [z_cl_at ci hlt] at hq
    cases hq
    exact Classical.choose_spec (hk ci) hlt
  · intro k q hq
    cases hq
  · intro w hw hn
    have h1 := hts w hw
    cases w <;> first | (cases hn; done) | exact va_Nw.of rfl h1
  · exact va_AO.of (hts _ (List.mem_of_getElem? zc_j.2.2.2.2))
  · exact va_AOA.of (hts _ (List.mem_of_getElem? zc_w.1))
theorem z_start {p : Program} {e : Env} {s : State} {m : MethodId} {below : List Frame} {meth : Method} {c : Code} (l : Launch) {b L : Nat} {xs : Nat → Int32} (C0 : lw_At p s m meth c b L xs) {n : Nat} {h' : zA} (hrun : z_run (L, xs) n zLaw 0 [.ref 0, .null, .null, .null, .null, .null, .null, .null, .null, .null, .null] [] z_h0 = some (some (.int 1), h')) (hc : h'.1 ≤ 600000) (hs : h'.2.1 ≤ 7302250) : W p l e room_1 s m #[Value.ref b] below meth c s.heap [] 0 0 (lw_Z below #[Value.ref b] s) (entryFrame m ([Value.ref b] : List Value).toArray 11) := by
  obtain ⟨hx, hb, hr, hml, hown, hts, hX, hbl, hlocks, hgv⟩ := id C0
  obtain ⟨D, hK⟩ := z_D hts
  have X : zX p room_1 s m #[Value.ref b] meth c D zLaw := ⟨hx, hb, hml, hown, fun w hw => hts w (List.mem_filter.mp hw).1, fun z => (by cases z), hK, Nat.le_refl _, Nat.le_refl _⟩
  have S : zS s D (fun q : Nat => s.heap.size ≤ q) s.heap (fun _ => 0) (fun _ => b) z_h0 s.heap [] := by
    refine ⟨fun k q h => (by cases h), ⟨fun i j p q h => (by cases h), fun k q h => (by cases h)⟩, va_S.rf, fun i h1 h2 => ?_, fun i h1 h2 => ?_, fun _ h => h⟩
    · have h2 : i ≤ 0 := h2
      omega
    · have h2 : i ≤ 0 := h2
      omega
  have hsc : zXs (L, xs) zLaw (fun q : Nat => s.heap.size ≤ q) s s.heap (fun _ => b) := fun _ => ⟨hbl, Nat.not_le.mpr hbl, hX⟩
  have hl := lv_entry ([.ref b]) (n := 11) (Nat.le_of_ble_eq_true rfl)
  rw [lg_entry_eq]
  generalize (lg_sl ([.ref b]) ++ List.replicate (11 - (lg_sl ([.ref b])).length) Slot.unset).toArray = cl at hl ⊢
  have hL : z_L (fun _ => b) z_h0.1 (z_ml zLaw) [.ref 0, .null, .null, .null, .null, .null, .null, .null, .null, .null, .null] cl := by
    refine ⟨⟨hl.1, hl.2.1, fun q hq => hl.2.2 q ?_⟩, rfl, fun v hv => ?_⟩
    · have e : z_lvs (fun _ => b) [.ref 0, .null, .null, .null, .null, .null, .null, .null, .null, .null, .null] = [(0, .ref b)] := rfl
      rw [e] at hq
      exact hq
    · simp only [List.mem_cons, List.not_mem_nil, or_false] at hv
      rcases hv with rfl | rfl | rfl | rfl | rfl | rfl | rfl | rfl | rfl | rfl | rfl
      · exact Nat.le_refl _
      · trivial
      · trivial
      · trivial
      · trivial
      · trivial
      · trivial
      · trivial
      · trivial
      · trivial
      · trivial
  refine z_sound (L, xs) l D n zLaw 0 _ [] _ _ _ hrun p e room_1 s m #[Value.ref b] below meth c _ s.heap s.heap [] 0 0 _ _ cl _ X S hsc hL (fun v hv => by cases hv) ?_ ?_ ?_
  · show 0 + (h'.1 - 0) ≤ 600000; omega
  · show 0 + (h'.2.1 - 0) ≤ 7302250; omega
  intro pc' st' cl' cA' ad' H' locs' hend ha S' hst'
  unfold z_end at hend
  split at hend
  next q hdg =>
    split at hend
    next hq1 =>
      obtain ⟨ins, q2⟩ := q
      dsimp only at hq1 hend hdg
      subst hq1
      cases ins with
      | return_ =>
        change (if z_ret zLaw = none ∧ st' = [] then some none else none) = some (some (Value.int 1)) at hend
        split at hend
        next hc => cases hend
        next => cases hend
      | ireturn =>
        replace hend := z_i1_s hend; obtain ⟨x, r0, rfl, hend⟩ := hend
        try dsimp only at hend
        split at hend
        next hc =>
          obtain ⟨rfl, hc⟩ := hc
          cases hend
          refine W.widen (k := 600000) (n := 7302250) ?_ ?_ (va_forget S'.2.2.1.2.2 ?_)
          · show 0 + (h'.1 - 0) ≤ 600000; omega
          · show 0 + (h'.2.1 - 0) ≤ 7302250; omega
          · exact lw_ret hx hb hr hlocks hdg
        next => cases hend
      | lreturn =>
        replace hend := z_l1_s hend; obtain ⟨x, r0, rfl, hend⟩ := hend
        try dsimp only at hend
        split at hend
        next hc => cases hend
        next => cases hend
      | areturn =>
        replace hend := z_r1_s hend; obtain ⟨x, r0, rfl, hend⟩ := hend
        try dsimp only at hend
        split at hend
        next hc => cases hend
        next => cases hend
      | _ => cases hend
    next => cases hend
  next => cases hend
