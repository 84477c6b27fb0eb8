/-! ===== the law's own method lot, called: its contract over the machine ===== -/
def zI (h h' : zA) : Prop := h.1 ≤ h'.1 ∧ h.2.1 ≤ h'.2.1
theorem zI.rf {h : zA} : zI h h := ⟨Nat.le_refl _, Nat.le_refl _⟩
theorem zI.tr {h h' h2 : zA} (a : zI h h') (b : zI h' h2) : zI h h2 := ⟨Nat.le_trans a.1 b.1, Nat.le_trans a.2 b.2⟩
theorem zI.setI {h : zA} {a f : Nat} {x : Int32} : zI h (z_setI h a f x) := ⟨Nat.le_refl _, Nat.le_refl _⟩
theorem zI.setR {h : zA} {a f : Nat} {x : Nat} : zI h (z_setR h a f x) := ⟨Nat.le_refl _, Nat.le_refl _⟩
theorem zI.mk {h : zA} {kd ln n : Nat} : zI h (z_mk h kd ln n) := ⟨Nat.le_succ _, Nat.le_add_right _ _⟩
theorem zI.mk2 {h : zA} {n y : Nat} : zI h (z_mk2 h n y) := by
  refine ⟨by show h.1 ≤ h.1 + 1 + n; omega, by show h.2.1 ≤ h.2.1 + n + n * y; omega⟩
-- a method's contract
def zPc (D : va_G) (cA : Nat → ClassId) (ad : Nat → Nat) (h : zA) (as : List Value) (sz : Nat) : Array Value → State → Prop := va_Pc (as.map (z_ren ad)) (fun U => U.heap.size = sz ∧ va_P D zCl (z_ws cA ad h) U.heap ∧ va_D (fun _ => True) (z_ws cA ad h) ∧ z_arr cA h U ∧ z_K D U)
def zQc (D : va_G) (ad : Nat → Nat) (h h' : zA) (r : Option Value) (A : Nat → Prop) : Array Value → State → Outcome → State → Prop := fun _ st oc t =>
  (∃ (cA' : Nat → ClassId) (ad' : Nat → Nat), (∀ i, i ≤ h.1 → ad' i = ad i) ∧ oc = .returned (r.map (z_ren ad')) ∧ va_P D zCl (z_ws cA' ad' h') t.heap ∧ va_D A (z_ws cA' ad' h') ∧ z_arr cA' h' t ∧ z_hw h' ∧ ∀ v, r = some v → z_wf h'.1 v) ∧ va_F A st t
def zWs (y : Nat) : List Jvm.Cond := Jvm.Cond.code (z_y y) (z_code y) (z_ml y) (z_ret y) :: zT
def zRm (y mc ms : Nat) : Room := { frames := z_fr y, cells := mc, slots := ms, locals := z_lo y }
theorem z_good {ws : List Jvm.Cond} (h : ∀ w ∈ ws, w ∈ zT) : GoodIn zT ws := fun w hw => ⟨h w hw, good_of_word (List.mem_filter.mp (h w hw)).2⟩
theorem z_lg {as : List Value} {n : Nat} {ad : Nat → Nat} (h : ∀ v ∈ as, z_wf n v) (h1 : ∀ v ∈ as, z_c1 v = true) : (lg_sl (as.map (z_ren ad))).length = as.length := by
  induction as with
  | nil => rfl
  | cons v as ih =>
    have hc := z_cat (ad := ad) (h v List.mem_cons_self) (h1 v List.mem_cons_self)
    have i2 := ih (fun w hw => h w (List.mem_cons_of_mem _ hw)) (fun w hw => h1 w (List.mem_cons_of_mem _ hw))
    unfold lg_sl at i2 ⊢
    rw [List.map_cons, List.flatMap_cons, if_neg (by omega), List.length_append, i2, List.length_cons]
    show 0 + 1 + as.length = _
    rw [List.length_cons]
    omega
theorem z_la {ad : Nat → Nat} {n : Nat} : ∀ (as : List Value) (i0 j : Nat) (v : Value), (∀ v ∈ as, z_wf n v) → (∀ v ∈ as, z_c1 v = true) → as[j]? = some v → (i0 + j, z_ren ad v) ∈ lv_args i0 (as.map (z_ren ad))
  | [], _, j, v, _, _, h => by simp at h
  | w :: as, i0, j, v, hw, h1, h => by
    have hc := z_cat (ad := ad) (hw w List.mem_cons_self) (h1 w List.mem_cons_self)
    rw [List.map_cons]
    unfold lv_args
    rw [if_neg (by omega)]
    cases j with
    | zero => rw [List.getElem?_cons_zero] at h; cases h; exact List.mem_cons_self
    | succ j =>
      rw [List.getElem?_cons_succ] at h
      have i2 := z_la (ad := ad) as (i0 + 1) j v (fun w hx => hw w (List.mem_cons_of_mem _ hx)) (fun w hx => h1 w (List.mem_cons_of_mem _ hx)) h
      rw [show i0 + (j + 1) = i0 + 1 + j by omega]
      exact List.mem_cons_of_mem _ i2
section ZLOT
variable {p : Program} {l : Launch} {e : Env} {R : Room} {s : State} {m : MethodId} {args : Array Value} {below : List Frame} {meth : Method} {c : Code} {H : Heap} {locs : List Loc} {cells slots : Nat} {Q : State → Prop}
variable {D : va_G} {k pc len i : Nat} {ad : Nat → Nat} {cA : Nat → ClassId} {A : Nat → Prop} {H0 : Heap} {h : zA} {ls st : List Value} {cl : Array Slot} {sc : Nat × (Nat → Int32)}
/-- behind a call: the callee's run, put beside the caller's frame -/
theorem z_back {st0 rest : List Value} {rv : Option Value} {h1 : zA} {pc' : Nat} {mc ms : Nat} {aa : Array Value} {Qs : State → Prop} (hK : z_K D s) (S : zS s D A H0 cA ad h H locs) (hrest : ∀ v ∈ rest, z_wf h.1 v) (hpc : pc' = pc + 3)
    (hr : va_Run p l e R s m args below meth c H locs cells slots mc ms (F0 m pc cl st0) (rest.map (z_ren ad)) (zQc D ad h h1 rv (va_A (z_ws cA ad h) H.size) aa) (va_A (z_ws cA ad h) H.size)) (hI : zI h h1)
    (kk : ∀ (cA' : Nat → ClassId) (ad' : Nat → Nat) (H' : Heap) (locs' : List Loc), (∀ i, i ≤ h.1 → ad' i = ad i) → zS s D A H0 cA' ad' h1 H' locs' → (∀ v ∈ rv.toList ++ rest, z_wf h1.1 v) → W p l e R s m args below meth c H' locs' (cells + mc) (slots + ms) Qs (F0 m pc' cl ((rv.toList ++ rest).map (z_ren ad')))) : W p l e R s m args below meth c H locs cells slots Qs (F0 m pc cl st0) := by
  subst hpc
  intro T hT Xs
  obtain ⟨v, st₀, t, T', L, h0, X', hL, e1, e2, ⟨⟨cA', ad', u1, hv, u2, u3, u4, u5, u6⟩, hz, hk⟩, st⟩ := hr T hT Xs
  have hv : v = rv.map (z_ren ad') := by cases hv; rfl
  subst hv
  rw [h0] at hz hk
  have hF : ∀ q, va_A (z_ws cA ad h) H.size q → A q := by
    intro q hq
    rcases hq with ⟨j, e, hq⟩ | hq
    · exact S.2.1.2 j (q, e) hq
    · exact S.2.2.2.2.2 q (Nat.le_trans S.2.2.1.1 hq)
  have hS := S.2.2.1
  have hal : s.vm.Alike t.vm := by rw [← e2]; exact X'.warmed.alike
  have S' : zS s D A H0 cA' ad' h1 T'.heap (locs ++ L) := by
    refine ⟨by rw [e1]; exact u2, u3.weaken (fun _ q _ hq => hF q.1 hq), ⟨Nat.le_trans hS.1 (by rw [e1]; exact hz), fun q g1 g2 => ?_, fun q hq => ?_⟩, u4.moved hal.symm, u5, S.2.2.2.2.2⟩
    · rw [e1, hk q (Nat.lt_of_lt_of_le g1 hS.1) (fun z => g2 (hF q z))]
      exact hS.2.1 q g1 g2
    · rcases List.mem_append.mp hq with g | g
      · exact hS.2.2 q g
      · exact hF _ (hL q g)
  have hst : ∀ v ∈ rv.toList ++ rest, z_wf h1.1 v := by
    intro w hw
    rcases List.mem_append.mp hw with g | g
    · exact u6 w (by cases rv with
        | none => cases g
        | some z => rw [List.mem_singleton.mp g])
    · exact z_wf_up hI.1 (hrest w g)
  obtain ⟨t2, a1, b1⟩ := kk cA' ad' T'.heap (locs ++ L) u1 S' hst T' rfl X'
  refine ⟨t2, st t2 ?_, b1⟩
  have e3 : (rv.toList ++ rest).map (z_ren ad') = (rv.map (z_ren ad')).toList ++ rest.map (z_ren ad) := by
    rw [List.map_append, z_map_up u1 hrest]
    cases rv <;> rfl
  rw [e3] at a1
  exact a1

theorem z_lot0 : decode cL_lot 0 = .ok (.iload_n 1, 1) := by decide +kernel
theorem z_lot1 : decode cL_lot 1 = .ok (.aload_n 0, 1) := by decide +kernel
theorem z_lot2 : decode cL_lot 2 = .ok (.arraylength, 1) := by decide +kernel
theorem z_lot3 : decode cL_lot 3 = .ok (.if_icmp .ge 9, 3) := by decide +kernel
theorem z_lot6 : decode cL_lot 6 = .ok (.aload_n 0, 1) := by decide +kernel
theorem z_lot7 : decode cL_lot 7 = .ok (.iload_n 1, 1) := by decide +kernel
theorem z_lot8 : decode cL_lot 8 = .ok (.iaload, 1) := by decide +kernel
theorem z_lot9 : decode cL_lot 9 = .ok (.goto 15, 3) := by decide +kernel
theorem z_lot12 : decode cL_lot 12 = .ok (.ldc 7, 2) := by decide +kernel
theorem z_lot14 : decode cL_lot 14 = .ok (.iload_n 1, 1) := by decide +kernel
theorem z_lot15 : decode cL_lot 15 = .ok (.sipush 2887, 3) := by decide +kernel
theorem z_lot18 : decode cL_lot 18 = .ok (.iadd, 1) := by decide +kernel
theorem z_lot19 : decode cL_lot 19 = .ok (.imul, 1) := by decide +kernel
theorem z_lot20 : decode cL_lot 20 = .ok (.sipush 2683, 3) := by decide +kernel
theorem z_lot23 : decode cL_lot 23 = .ok (.iadd, 1) := by decide +kernel
theorem z_lot24 : decode cL_lot 24 = .ok (.ireturn, 1) := by decide +kernel
def zWl : List Jvm.Cond := Jvm.Cond.code yL_lot cL_lot 2 (some .int) :: zT
def zRl : Room := { frames := 0, cells := 0, slots := 0, locals := 0 }
def zPl (D : va_G) (cA : Nat → ClassId) (ad : Nat → Nat) (h : zA) (L : Nat) (xs : Nat → Int32) (b : Nat) (x : Int32) (sz : Nat) : Array Value → State → Prop := va_Pc [.ref b, .int x] (fun U => U.heap.size = sz ∧ va_P D zCl (z_ws cA ad h) U.heap ∧ va_D (fun _ => True) (z_ws cA ad h) ∧ z_arr cA h U ∧ b < sz ∧ ¬ va_A (z_ws cA ad h) sz b ∧ va_X b L xs U U.heap)
theorem z_lt_in {L : Nat} {x : Int32} (h0 : ¬ x < 0) (hL : L ≤ 2048) (h : x < Int32.ofNat L) : vp_in x L := by
  rintro (g | g)
  · exact h0 g
  · have h : x < nI L := h
    rw [Int32.lt_iff_toInt_lt, nI_toInt (by omega)] at h
    have e : x.toInt.toNat = x.toNatClampNeg := rfl
    have h0 : ¬ x.toInt < 0 := fun z => h0 (Int32.lt_iff_toInt_lt.mpr z)
    omega
theorem z_lot_met {L : Nat} {xs : Nat → Int32} {b : Nat} {x : Int32} {sz : Nat} (h0 : ¬ x < 0) (hL : L ≤ 2048) (hw : z_hw h) :
    Met l yL_lot zWl zRl (zPl D cA ad h L xs b x sz) (zQc D ad h h (some (.int (z_lt (L, xs) x))) (va_A (z_ws cA ad h) sz)) 0 0 (va_A (z_ws cA ad h) sz) := by
  refine Met.ofW (cc := cL_lot) (maxL := 2) (ret := some .int) (by decide) rfl ?_
  intro p e s m args below meth c s₁ B hml hv
  obtain ⟨rfl, hsz, hP, hD0, hAr, hb1, hb2, hX⟩ := hv
  subst hsz
  have hts : ∀ w ∈ zT, w.before (([.ref b, .int x] : List Value).toArray) s = true := fun w hw2 => atoms_spec (ws := zWl) B.pre w (List.mem_cons_of_mem _ hw2)
  have hown : s.vm.findClass RL = some m.cls := findClass_of_methodNamed B.named
  have hlocks := B.notSynchronized
  have hr := B.returns
  have hx := B.exec
  have hb := B.bytes
  have hcon : (Jvm.Cond.constant RL 7 (-1076894359)).before (([.ref b, .int x] : List Value).toArray) s = true := hts _ (z_in _ zc_vw.2.2.2 rfl)
  have hD := hD0.self (sz := s.heap.size)
  have hS : va_S (va_A (z_ws cA ad h) s.heap.size) s.heap s.heap [] := va_S.rf
  have hl := lv_entry ([.ref b, .int x]) (n := 2) (Nat.le_of_ble_eq_true rfl)
  rw [lg_entry_eq]
  generalize (lg_sl ([.ref b, .int x]) ++ List.replicate (2 - (lg_sl ([.ref b, .int x])).length) Slot.unset).toArray = cl at hl ⊢
  have hl : lv_has cl 2 [(0, .ref b), (1, .int x)] := hl
  have l0 : cl[0]? = some (.val (.ref b)) := lv_at hl 0 rfl
  have l1 : cl[1]? = some (.val (.int x)) := lv_at hl 1 rfl
  have fin : ∀ v : Int32, v = z_lt (L, xs) x → W p l e (headSpec zWl zRl).room s m (([.ref b, .int x] : List Value).toArray) below meth c s.heap [] 0 0 (MQ below (zQc D ad h h (some (.int (z_lt (L, xs) x))) (va_A (z_ws cA ad h) s.heap.size)) (([.ref b, .int x] : List Value).toArray) s 0 0 (va_A (z_ws cA ad h) s.heap.size)) (F0 m 24 cl [.int v]) := by
    intro v hv
    subst hv
    refine W.iret hx hb hr (fun t ht hW => ?_) hS.2.2 z_lot24
    exact ⟨⟨cA, ad, fun _ _ => rfl, rfl, by rw [ht]; exact hP, hD, hAr.moved hW.alike, hw, fun v hv => by cases hv; trivial⟩, hS.F ht⟩
  refine lv_iload_n hx hb z_lot0 rfl l1 ?_
  refine lv_aload_n hx hb z_lot1 rfl l0 ?_
  refine va_slen hx hb hX hb1 hb2 hS z_lot2 ?_
  refine lv_icmp_ge hx hb (tgt := 12) z_lot3 rfl (fun g => ?_) (fun g => ?_)
  · have g : ¬ x < Int32.ofNat L := Int32.not_lt.mpr g
    refine lv_ldc hx hb hown hcon z_lot12 ?_
    refine lv_iload_n hx hb z_lot14 rfl l1 ?_
    refine lv_sipush hx hb z_lot15 rfl ?_
    refine lv_iadd hx hb z_lot18 ?_
    refine lv_imul hx hb z_lot19 ?_
    refine lv_sipush hx hb z_lot20 rfl ?_
    refine lv_iadd hx hb z_lot23 ?_
    refine fin _ ?_
    unfold z_lt
    rw [if_neg g]
    rfl
  · have g : x < Int32.ofNat L := Int32.not_le.mp g
    refine lv_aload_n hx hb z_lot6 rfl l0 ?_
    refine lv_iload_n hx hb z_lot7 rfl l1 ?_
    refine va_sld hx hb hX hb1 hb2 hS (z_lt_in h0 hL g) z_lot8 ?_
    refine lv_goto hx hb (tgt := 24) z_lot9 rfl ?_
    refine fin _ ?_
    unfold z_lt
    rw [if_pos g]
theorem z_W_lotM (X : zX p R s m args meth c D k) (hcl : cl.size = c.maxLocals) (hdg : decode (z_code k) pc = .ok (.invokestatic i, 3)) (S : zS s D A H0 cA ad h H locs) (hsc : zXs sc k A s H0 ad) (hst : ∀ v ∈ st, z_wf h.1 v) {q : zG} (hh : z_lot sc k i st h = some q) (hce : cells ≤ R.cells) (hsl : slots ≤ R.slots)
    (kk : zKG p l e R s m args below meth c cells slots Q D A H0 ad h cl (pc + 3) q) : W p l e R s m args below meth c H locs cells slots Q (F0 m pc cl (st.map (z_ren ad))) := by
  unfold z_lot at hh
  split at hh
  next q0 e1 =>
    have hf := List.all_eq_true.mp zc_v_ok _ (z_lk0_in e1)
    unfold zc_v at hf
    simp only [Bool.and_eq_true, decide_eq_true_eq] at hf
    replace hh := z_i1_s hh; obtain ⟨x, r0, rfl, hh⟩ := hh
    replace hh := z_r1_s hh; obtain ⟨a, r, rfl, hh⟩ := hh
    try dsimp only at hh
    split at hh
    next hc =>
      obtain ⟨⟨rfl, c2, c3, c4⟩, c5, c6, c7⟩ := hc
      cases hh
      have hr : ∀ w ∈ r, z_wf h.1 w := z_wt (z_wt hst)
      obtain ⟨x1, x2, x3⟩ := hsc c2
      have hK := X.2.2.2.2.2.2.1
      have hts := X.2.2.2.2.1
      have hsz : cl.size = z_ml k := hcl.trans X.2.2.1
      have C0 : CallFix p m c (z_code k) (z_ml k) s args zT (zR (z_cls k)) := ⟨X.1, X.2.1, X.2.2.1, X.2.2.2.1, X.2.2.2.2.1⟩
      have hM := z_lot_met (l := l) (D := D) (cA := cA) (ad := ad) (h := h) (L := sc.1) (xs := sc.2) (b := ad 0) (x := x) (sz := H.size) c3 c4 S.2.2.2.2.1
      have hszH : ad 0 < H.size := Nat.lt_of_lt_of_le x1 S.2.2.1.1
      have hnA : ¬ va_A (z_ws cA ad h) H.size (ad 0) := by
        rintro (⟨j, e, hq⟩ | hq)
        · exact x2 (S.2.1.2 j (ad 0, e) hq)
        · omega
      have hpre : PreS s H (zPl D cA ad h sc.1 sc.2 (ad 0) x H.size) [.ref (ad 0), .int x] := by
        refine ⟨?_, fun U hU hW => ?_⟩
        · intro a U g mk q
          obtain ⟨q0, q1, q2, q3, q4, q5, q6, q7⟩ := q
          exact ⟨q0, q1, q2, q3, z_arr.moved (u := U) (U := U.calling g mk a) (Vm.Alike.refl U.vm) q4, q5, q6, va_X.moved (u := U) (U := U.calling g mk a) (Vm.Alike.refl U.vm) q7⟩
        · refine ⟨rfl, by rw [hU], by rw [hU]; exact S.1, S.2.1.weaken (fun _ _ _ _ => trivial), S.2.2.2.1.moved hW.alike, hszH, hnA, ?_⟩
          rw [hU]
          exact va_X.moved hW.alike (x3.kept (S.2.2.1.2.1 (ad 0) x1 x2))
      have hroom : zRl.frames + 1 ≤ R.frames ∧ 8 + (2 + 11) + zRl.locals ≤ R.locals := ⟨Nat.le_trans c5 X.2.2.2.2.2.2.2.1, Nat.le_trans c7 X.2.2.2.2.2.2.2.2⟩
      have hW : 2 * (F0 m pc cl ((Value.int x :: Value.ref 0 :: r).map (z_ren ad))).monitorRoom + ((r.map (z_ren ad)).map fun v => v.category).sum ≤ 8 := lv_room (by have := z_sum (ad := ad) (r := r); omega)
      have hgd : GoodIn zT (wsS RL i yL_lot zWl) := z_good (by
        intro w hw
        unfold wsS zWl at hw
        rcases List.mem_append.mp hw with hw | hw
        · simp only [List.mem_cons, List.not_mem_nil, or_false] at hw
          rcases hw with rfl | rfl | rfl
          · have e := z_in _ hf.1 rfl
            rw [hf.2] at e
            exact e
          · exact z_in _ zc_vw.1 rfl
          · exact z_in _ zc_vw.2.2.1 rfl
        · rcases List.mem_cons.mp hw with rfl | hw
          · exact z_in _ zc_vw.2.1 rfl
          · exact hw)
      rw [hf.2] at C0
      refine z_back (rest := r) (rv := some (.int (z_lt sc x))) (h1 := h) (mc := 0) (ms := 0) (aa := #[.ref (ad 0), .int x]) hK S hr rfl (va_runS C0 hM (cwS 2 hts hgd rfl rfl rfl ⟨rfl, by decide, by decide, by decide +kernel⟩ hroom) hpre rfl rfl hsz rfl hW hdg ⟨hce, hsl⟩) zI.rf (fun cA' ad' H' locs' ha S' hst' => ?_)
      have k2 := kk cA' ad' H' locs' ha S' hst'
      dsimp only at k2
      rw [Nat.sub_self, Nat.sub_self] at k2
      exact k2
    next => cases hh
  next => exact z_W_math X hcl hdg S hst hh hce hsl kk
end ZLOT
