/-! ===== what touches cells: each instruction over a world ===== -/
theorem z_cellO {cA : Nat → ClassId} {ad : Nat → Nat} {h : zA} {i ci : Nat} (e : (h.2.2.1 i).1 = ci) (hc : ci < 10) : z_cell cA ad h i = .inr (ci, z_fs ad h i) := by
  subst e
  unfold z_cell
  rw [if_pos hc]
theorem z_cellI {cA : Nat → ClassId} {ad : Nat → Nat} {h : zA} {i : Nat} (e : (h.2.2.1 i).1 = 100 ∨ (h.2.2.1 i).1 = 101) : z_cell cA ad h i = .inl (cA i, (h.2.2.1 i).2, .inl (h.2.2.2.1 i)) := by
  unfold z_cell
  rw [if_neg (by omega), if_pos (by omega)]
theorem z_cellQ {cA : Nat → ClassId} {ad : Nat → Nat} {h : zA} {i : Nat} (e : (h.2.2.1 i).1 = 102 ∨ (h.2.2.1 i).1 = 103) : z_cell cA ad h i = .inl (cA i, (h.2.2.1 i).2, .inr (.inr (.inr (.inr (fun j => (h.2.2.2.2 i j).map ad))))) := by
  unfold z_cell
  rw [if_neg (by omega), if_neg (by omega)]
theorem z_cell_sI {cA : Nat → ClassId} {ad : Nat → Nat} {h : zA} {a f j : Nat} {x : Int32} (hj : j ≠ a) : z_cell cA ad (z_setI h a f x) j = z_cell cA ad h j := by
  have e : (z_setI h a f x).2.2.2.1 j = h.2.2.2.1 j := va_up_ne _ _ hj
  unfold z_cell z_fs
  rw [e]
  rfl
theorem z_cell_sR {cA : Nat → ClassId} {ad : Nat → Nat} {h : zA} {a f j : Nat} {x : Nat} (hj : j ≠ a) : z_cell cA ad (z_setR h a f x) j = z_cell cA ad h j := by
  have e : (z_setR h a f x).2.2.2.2 j = h.2.2.2.2 j := va_up_ne _ _ hj
  unfold z_cell z_fs
  rw [e]
  rfl
theorem z_cell_mk {cA cA' : Nat → ClassId} {ad ad' : Nat → Nat} {h : zA} {kd ln n j : Nat} (hw : z_hw h) (h1 : 1 ≤ j) (h2 : j ≤ h.1) (hc : cA' j = cA j) (ha : ∀ i, i ≤ h.1 → ad' i = ad i) : z_cell cA' ad' (z_mk h kd ln n) j = z_cell cA ad h j := by
  have hne : j ≠ h.1 + 1 := by omega
  have e1 : (z_mk h kd ln n).2.2.1 j = h.2.2.1 j := va_up_ne _ _ hne
  have e2 : (z_mk h kd ln n).2.2.2.1 j = h.2.2.2.1 j := va_up_ne _ _ hne
  have e3 : (z_mk h kd ln n).2.2.2.2 j = h.2.2.2.2 j := va_up_ne _ _ hne
  have e4 : ∀ f, (h.2.2.2.2 j f).map ad' = (h.2.2.2.2 j f).map ad := by
    intro f
    cases e : h.2.2.2.2 j f with
    | none => rfl
    | some q => exact congrArg some (ha q ((hw j h1 h2).2 f q e))
  unfold z_cell z_fs
  rw [e1, e2, e3, hc]
  simp only [e4]
theorem z_fs_at {ad : Nat → Nat} {h : zA} {i ci f : Nat} (e : (h.2.2.1 i).1 = ci) (hf : f < zN ci) : (z_fs ad h i)[f]? = some (z_fv ci f (h.2.2.2.1 i f) ((h.2.2.2.2 i f).map ad)) := by
  subst e
  unfold z_fs
  rw [List.getElem?_map, List.getElem?_range hf]
  rfl
theorem z_fs_len {ad : Nat → Nat} {h : zA} {i ci : Nat} (e : (h.2.2.1 i).1 = ci) : (z_fs ad h i).length = zN ci := by
  subst e
  simp [z_fs]
theorem z_hwI {h : zA} {a f : Nat} {x : Int32} (hw : z_hw h) : z_hw (z_setI h a f x) := hw
theorem z_hwR {h : zA} {a f x : Nat} (hw : z_hw h) (hx : x ≤ h.1) : z_hw (z_setR h a f x) := by
  intro i h1 h2
  refine ⟨(hw i h1 h2).1, fun g j e => ?_⟩
  by_cases hi : i = a
  · subst hi
    have e' : va_up h.2.2.2.2 i (va_up (h.2.2.2.2 i) f (some x)) i g = some j := e
    rw [va_up_self] at e'
    by_cases hg : g = f
    · subst hg
      rw [va_up_self] at e'
      cases e'
      exact hx
    · rw [va_up_ne _ _ hg] at e'
      exact (hw i h1 h2).2 g j e'
  · have e' : va_up h.2.2.2.2 a (va_up (h.2.2.2.2 a) f (some x)) i g = some j := e
    rw [va_up_ne _ _ hi] at e'
    exact (hw i h1 h2).2 g j e'
theorem z_hw_mk {h : zA} {kd ln n : Nat} (hw : z_hw h) (hk : kd < 10 ∨ (100 ≤ kd ∧ kd ≤ 103)) : z_hw (z_mk h kd ln n) := by
  intro i h1 h2
  have h2 : i ≤ h.1 + 1 := h2
  by_cases hi : i = h.1 + 1
  · subst hi
    refine ⟨?_, fun g j e => ?_⟩
    · show (va_up h.2.2.1 (h.1 + 1) (kd, ln) (h.1 + 1)).1 < 10 ∨ 100 ≤ (va_up h.2.2.1 (h.1 + 1) (kd, ln) (h.1 + 1)).1 ∧ (va_up h.2.2.1 (h.1 + 1) (kd, ln) (h.1 + 1)).1 ≤ 103
      rw [va_up_self]
      exact hk
    · have e' : va_up h.2.2.2.2 (h.1 + 1) (fun _ => none) (h.1 + 1) g = some j := e
      rw [va_up_self] at e'
      cases e'
  · refine ⟨?_, fun g j e => ?_⟩
    · show (va_up h.2.2.1 (h.1 + 1) (kd, ln) i).1 < 10 ∨ 100 ≤ (va_up h.2.2.1 (h.1 + 1) (kd, ln) i).1 ∧ (va_up h.2.2.1 (h.1 + 1) (kd, ln) i).1 ≤ 103
      rw [va_up_ne _ _ hi]
      exact (hw i h1 (by omega)).1
    · have e' : va_up h.2.2.2.2 (h.1 + 1) (fun _ => none) i g = some j := e
      rw [va_up_ne _ _ hi] at e'
      exact Nat.le_succ_of_le ((hw i h1 (by omega)).2 g j e')
theorem z_arr_mk {cA cA' : Nat → ClassId} {h : zA} {kd ln n : Nat} {s : State} (ha : z_arr cA h s) (hc : ∀ i, i ≤ h.1 → cA' i = cA i) (hn : 100 ≤ kd → ArrOfT s (cA' (h.1 + 1)) (z_aty kd) ∧ va_RA s (cA' (h.1 + 1)) (z_aty kd)) : z_arr cA' (z_mk h kd ln n) s := by
  intro i h1 h2 h3
  have h2 : i ≤ h.1 + 1 := h2
  have h3 : 100 ≤ (va_up h.2.2.1 (h.1 + 1) (kd, ln) i).1 := h3
  show ArrOfT s (cA' i) (z_aty (va_up h.2.2.1 (h.1 + 1) (kd, ln) i).1) ∧ va_RA s (cA' i) (z_aty (va_up h.2.2.1 (h.1 + 1) (kd, ln) i).1)
  by_cases hi : i = h.1 + 1
  · subst hi
    rw [va_up_self] at h3 ⊢
    exact hn h3
  · rw [va_up_ne _ _ hi] at h3 ⊢
    rw [hc i (by omega)]
    exact ha i h1 (by omega) h3
section ZHEAP
variable {p : Program} {l : Launch} {e : Env} {R : Room} {s : State} {m : MethodId} {args : Array Value} {below : List Frame} {meth : Method} {c : Code} {H : Heap} {locs : List Loc} {cells slots : Nat} {Q : State → Prop}
variable {D : va_G} {k pc len i : Nat} {ad : Nat → Nat} {cA : Nat → ClassId} {A : Nat → Prop} {H0 : Heap} {h : zA} {ls st : List Value} {cl : Array Slot} {q : zG} {sc : Nat × (Nat → Int32)}
abbrev zKG (p : Program) (l : Launch) (e : Env) (R : Room) (s : State) (m : MethodId) (args : Array Value) (below : List Frame) (meth : Method) (c : Code) (cells slots : Nat) (Q : State → Prop) (D : va_G) (A : Nat → Prop) (H0 : Heap) (ad : Nat → Nat) (h : zA) (cl : Array Slot) (pc' : Nat) (q : zG) : Prop :=
  ∀ (cA' : Nat → ClassId) (ad' : Nat → Nat) (H' : Heap) (locs' : List Loc), (∀ i, i ≤ h.1 → ad' i = ad i) → zS s D A H0 cA' ad' q.2 H' locs' → (∀ v ∈ q.1, z_wf q.2.1 v) → W p l e R s m args below meth c H' locs' (cells + (q.2.1 - h.1)) (slots + (q.2.2.1 - h.2.1)) Q (F0 m pc' cl (q.1.map (z_ren ad')))
/-- the same heap, another stack -/
theorem zKG.same {pc' : Nat} {st' : List Value} (kk : zKG p l e R s m args below meth c cells slots Q D A H0 ad h cl pc' (st', h)) (S : zS s D A H0 cA ad h H locs) (hst : ∀ v ∈ st', z_wf h.1 v) : W p l e R s m args below meth c H locs cells slots Q (F0 m pc' cl (st'.map (z_ren ad))) := by
  have k2 := kk cA ad H locs (fun _ _ => rfl) S hst
  rw [Nat.sub_self, Nat.sub_self] at k2
  exact k2
/-- as many cells as before -/
theorem zKG.keep {pc' : Nat} {st' : List Value} {h' : zA} {H' : Heap} {locs' : List Loc} (kk : zKG p l e R s m args below meth c cells slots Q D A H0 ad h cl pc' (st', h')) (h1 : h'.1 = h.1) (h2 : h'.2.1 = h.2.1) (S : zS s D A H0 cA ad h' H' locs') (hst : ∀ v ∈ st', z_wf h.1 v) : W p l e R s m args below meth c H' locs' cells slots Q (F0 m pc' cl (st'.map (z_ren ad))) := by
  have k2 := kk cA ad H' locs' (fun _ _ => rfl) S (by show ∀ v ∈ st', z_wf h'.1 v; rw [h1]; exact hst)
  dsimp only at k2
  rw [h1, h2, Nat.sub_self, Nat.sub_self] at k2
  exact k2
theorem z_W_gf (X : zX p R s m args meth c D k) (hdg : decode (z_code k) pc = .ok (.getfield i, 3)) (S : zS s D A H0 cA ad h H locs) (hst : ∀ v ∈ st, z_wf h.1 v) (hh : z_gf k i st h = some q)
    (kk : zKG p l e R s m args below meth c cells slots Q D A H0 ad h cl (pc + 3) q) : W p l e R s m args below meth c H locs cells slots Q (F0 m pc cl (st.map (z_ren ad))) := by
  replace hh := z_r1_s hh; obtain ⟨a, r, rfl, hh⟩ := hh
  try dsimp only at hh
  split at hh
  next q0 e1 =>
    split at hh
    next hc =>
      obtain ⟨c1, c2, c3⟩ := hc
      have hf := List.all_eq_true.mp zc_f_ok _ (z_lk3_in e1)
      unfold zc_f at hf
      simp only [Bool.and_eq_true, decide_eq_true_eq] at hf
      obtain ⟨⟨⟨⟨f1, f2⟩, f3⟩, f4⟩, f5⟩ := hf
      have he : (z_ws cA ad h)[a - 1]? = some (ad a, .inr (q0.1, z_fs ad h a)) := by rw [z_ws_at c1 c2, z_cellO c3 f3]
      have go : ∀ v, (z_fs ad h a)[q0.2.1]? = some v → W p l e R s m args below meth c H locs cells slots Q (F0 m (pc + 3) cl (v :: r.map (z_ren ad))) → W p l e R s m args below meth c H locs cells slots Q (F0 m pc cl ((Value.ref a :: r).map (z_ren ad))) := by
        intro v hv k2
        rcases f4 with f4 | f4
        · rw [if_neg (by omega)] at f1
          exact va_getN X.1 X.2.1 X.2.2.2.2.1 (z_hin q0.1 f3) X.2.2.2.1 X.2.2.2.2.2.2.1.1 S.1 (a - 1) he (z_cl_at q0.1 f3) q0.2.1 f2 (va_Nw.use rfl (X.2.2.2.2.2.2.1.2.1 _ (List.mem_of_getElem? f1) rfl)) (fun _ h9 => h9) hv hdg k2
        · rw [if_pos f4] at f1
          exact va_get X.1 X.2.1 X.2.2.2.2.1 (z_hin q0.1 f3) X.2.2.2.1 X.2.2.2.2.2.2.1.1 S.1 (a - 1) he (z_cl_at q0.1 f3) q0.2.1 f2 (X.2.2.2.2.1 _ (z_in _ f1 rfl)) (fun _ h9 => h9) hv hdg k2
      have hv := z_fs_at (ad := ad) c3 f2
      split at hh
      next hr =>
        split at hh
        next j ej =>
          cases hh
          refine go _ hv ?_
          unfold z_fv
          rw [if_pos hr, ej]
          exact kk.same S (z_wc ((S.2.2.2.2.1 a c1 c2).2 _ _ ej) (z_wt hst))
        next => cases hh
      next hr =>
        cases hh
        refine go _ hv ?_
        unfold z_fv
        rw [if_neg hr]
        exact kk.same S (z_wc trivial (z_wt hst))
    next => cases hh
  next => cases hh
theorem z_W_pf (X : zX p R s m args meth c D k) (hdg : decode (z_code k) pc = .ok (.putfield i, 3)) (S : zS s D A H0 cA ad h H locs) (hst : ∀ v ∈ st, z_wf h.1 v) (hh : z_pf k i st h = some q)
    (kk : zKG p l e R s m args below meth c cells slots Q D A H0 ad h cl (pc + 3) q) : W p l e R s m args below meth c H locs cells slots Q (F0 m pc cl (st.map (z_ren ad))) := by
  replace hh := z_v1_s hh; obtain ⟨v, r0, rfl, hh⟩ := hh
  replace hh := z_r1_s hh; obtain ⟨a, r, rfl, hh⟩ := hh
  have hr : ∀ w ∈ r, z_wf h.1 w := z_wt (z_wt hst)
  try dsimp only at hh
  split at hh
  next q0 e1 =>
    have hf := List.all_eq_true.mp zc_f_ok _ (z_lk3_in e1)
    unfold zc_f at hf
    simp only [Bool.and_eq_true, decide_eq_true_eq] at hf
    obtain ⟨⟨⟨⟨f1, f2⟩, f3⟩, f4⟩, f5⟩ := hf
    have hrow := z_row q0.1 f3
    split at hh
    next x =>
      split at hh
      next hc =>
        obtain ⟨c1, c2, c3, c4, c5, c6⟩ := hc
        cases hh
        have he : (z_ws cA ad h)[a - 1]? = some (ad a, .inr (q0.1, z_fs ad h a)) := by rw [z_ws_at c1 c2, z_cellO c3 f3]
        have hset : (z_ws cA ad h).set (a - 1) (ad a, .inr (q0.1, (z_fs ad h a).set q0.2.1 (.int x))) = z_ws cA ad (z_setI h a q0.2.1 x) := by
          refine z_ws_set c1 c2 rfl ?_ (fun j hj => z_cell_sI hj)
          rw [z_cellO (h := z_setI h a q0.2.1 x) c3 f3]
          refine congrArg (fun z => Sum.inr (q0.1, z)) (z_map_set ?_ (fun j hj => ?_))
          · show z_fv (h.2.2.1 a).1 q0.2.1 (va_up h.2.2.2.1 a (upd (h.2.2.2.1 a) q0.2.1 x) a q0.2.1) _ = _
            rw [c3, va_up_self]
            unfold z_fv
            rw [if_neg (by rw [c4]; decide)]
            simp [upd]
          · show z_fv (h.2.2.1 a).1 j (va_up h.2.2.2.1 a (upd (h.2.2.2.1 a) q0.2.1 x) a j) _ = _
            rw [va_up_self]
            unfold upd
            rw [if_neg hj]
            rfl
        have hd := hrow.1 q0.2.1 f2
        have hn : narrow (zTy q0.1 q0.2.1) (.int x) = .int x ∧ fits (zTy q0.1 q0.2.1) (.int x) = true := by
          rcases hrow.2.2 q0.2.1 f2 with g | g | g
          · rw [g.1]; exact ⟨rfl, rfl⟩
          · rw [g.1]
            rcases c5 with c5 | rfl | rfl
            · rw [g.2.2] at c5; cases c5
            · exact ⟨rfl, rfl⟩
            · exact ⟨rfl, rfl⟩
          · rw [g.1] at c4; cases c4
        have k3 : ∀ (H1 : Heap) (locs1 : List Loc), va_P D zCl ((z_ws cA ad h).set (a - 1) (ad a, .inr (q0.1, (z_fs ad h a).set q0.2.1 (.int x)))) H1 → va_D A ((z_ws cA ad h).set (a - 1) (ad a, .inr (q0.1, (z_fs ad h a).set q0.2.1 (.int x)))) → va_S A H0 H1 locs1 → W p l e R s m args below meth c H1 locs1 cells slots Q (F0 m (pc + 3) cl (r.map (z_ren ad))) := by
          intro H1 locs1 hP hD hS
          rw [hset] at hP hD
          exact kk.keep rfl rfl ⟨hP, hD, hS, S.2.2.2.1, z_hwI S.2.2.2.2.1, S.2.2.2.2.2⟩ hr
        rcases f4 with f4 | f4
        · rw [if_neg (by omega)] at f1
          exact va_putN X.1 X.2.1 X.2.2.2.2.1 (z_hin q0.1 f3) (zTy q0.1) hrow.1 hrow.2.1 X.2.2.2.1 X.2.2.2.2.2.2.1.1 S.1 S.2.1 S.2.2.1 (a - 1) he (z_cl_at q0.1 f3) q0.2.1 f2 (va_Nw.use rfl (X.2.2.2.2.2.2.1.2.1 _ (List.mem_of_getElem? f1) rfl)) (fun _ h9 => h9) c6 hd hn.1 hn.2 (by rw [z_fs_len c3]; exact f2) hdg k3
        · rw [if_pos f4] at f1
          exact va_put X.1 X.2.1 X.2.2.2.2.1 (z_hin q0.1 f3) (zTy q0.1) hrow.1 hrow.2.1 X.2.2.2.1 X.2.2.2.2.2.2.1.1 S.1 S.2.1 S.2.2.1 (a - 1) he (z_cl_at q0.1 f3) q0.2.1 f2 (X.2.2.2.2.1 _ (z_in _ f1 rfl)) (fun _ h9 => h9) c6 hd hn.1 hn.2 (by rw [z_fs_len c3]; exact f2) hdg k3
      next => cases hh
    next x =>
      split at hh
      next hc =>
        obtain ⟨c1, c2, c3, c4, c5, c6, c7⟩ := hc
        cases hh
        have hx : x ≤ h.1 := hst _ List.mem_cons_self
        have he : (z_ws cA ad h)[a - 1]? = some (ad a, .inr (q0.1, z_fs ad h a)) := by rw [z_ws_at c1 c2, z_cellO c3 f3]
        have hset : (z_ws cA ad h).set (a - 1) (ad a, .inr (q0.1, (z_fs ad h a).set q0.2.1 (.ref (ad x)))) = z_ws cA ad (z_setR h a q0.2.1 x) := by
          refine z_ws_set c1 c2 rfl ?_ (fun j hj => z_cell_sR hj)
          rw [z_cellO (h := z_setR h a q0.2.1 x) c3 f3]
          refine congrArg (fun z => Sum.inr (q0.1, z)) (z_map_set ?_ (fun j hj => ?_))
          · show z_fv (h.2.2.1 a).1 q0.2.1 _ ((va_up h.2.2.2.2 a (va_up (h.2.2.2.2 a) q0.2.1 (some x)) a q0.2.1).map ad) = _
            rw [c3, va_up_self, va_up_self]
            unfold z_fv
            rw [if_pos c4]
            rfl
          · show z_fv (h.2.2.1 a).1 j _ ((va_up h.2.2.2.2 a (va_up (h.2.2.2.2 a) q0.2.1 (some x)) a j).map ad) = _
            rw [va_up_self, va_up_ne _ _ hj]
            rfl
        have hd := hrow.1 q0.2.1 f2
        have hn : narrow (zTy q0.1 q0.2.1) (.ref (ad x)) = .ref (ad x) ∧ fits (zTy q0.1 q0.2.1) (.ref (ad x)) = true := by
          rcases hrow.2.2 q0.2.1 f2 with g | g | ⟨-, ⟨n, g⟩ | ⟨t, g⟩⟩
          · rw [g.2.1] at c4; cases c4
          · rw [g.2.1] at c4; cases c4
          · rw [g]; exact ⟨rfl, rfl⟩
          · rw [g]; exact ⟨rfl, rfl⟩
        have hw := z_hwR (a := a) (f := q0.2.1) S.2.2.2.2.1 hx
        rw [if_pos c7] at f1
        have hdecl : (zTn q0.1 q0.2.1).1 = zR (z_cls k) := by
          rcases f5 with g | g | g
          · rw [c5] at g; cases g
          · exact g.2
          · omega
        refine va_putF X.1 X.2.1 X.2.2.2.2.1 (z_hin q0.1 f3) (zTy q0.1) hrow.1 hrow.2.1 X.2.2.2.1 X.2.2.2.2.2.2.1.1 S.1 S.2.1 S.2.2.1 (a - 1) he (z_cl_at q0.1 f3) q0.2.1 f2 (X.2.2.2.2.1 _ (z_in _ f1 rfl)) (fun _ h9 => h9) c5 (X.2.2.2.2.2.1 c6) hdecl hd hn.1 hn.2 (by rw [z_fs_len c3]; exact f2) hdg (fun H1 locs1 hP hD hS => ?_)
        have hP : va_P D zCl ((z_ws cA ad h).set (a - 1) (ad a, .inr (q0.1, (z_fs ad h a).set q0.2.1 (.ref (ad x))))) H1 := hP
        have hD : va_D A ((z_ws cA ad h).set (a - 1) (ad a, .inr (q0.1, (z_fs ad h a).set q0.2.1 (.ref (ad x))))) := hD
        rw [hset] at hP hD
        exact kk.keep rfl rfl ⟨hP, hD, hS, S.2.2.2.1, hw, S.2.2.2.2.2⟩ hr
      next => cases hh
    next => cases hh
  next => cases hh
theorem z_W_ald {kd : Nat} {ins : Instr} (hk : (kd = 100 ∧ ins = .iaload) ∨ (kd = 101 ∧ ins = .caload)) (X : zX p R s m args meth c D k) (hdg : decode (z_code k) pc = .ok (ins, 1)) (S : zS s D A H0 cA ad h H locs) (hsc : zXs sc k A s H0 ad) (hst : ∀ v ∈ st, z_wf h.1 v) (hh : z_ald sc k kd st h = some q)
    (kk : zKG p l e R s m args below meth c cells slots Q D A H0 ad h cl (pc + 1) q) : W p l e R s m args below meth c H locs cells slots Q (F0 m pc cl (st.map (z_ren ad))) := by
  replace hh := z_i1_s hh; obtain ⟨j, r0, rfl, hh⟩ := hh
  replace hh := z_r1_s hh; obtain ⟨a, r, rfl, hh⟩ := hh
  try dsimp only at hh
  have k2 : ∀ x : Int32, q = (.int x :: r, h) → W p l e R s m args below meth c H locs cells slots Q (F0 m (pc + 1) cl (.int x :: r.map (z_ren ad))) := by
    intro x e
    subst e
    exact kk.same S (z_wc trivial (z_wt (z_wt hst)))
  split at hh
  next hc =>
    obtain ⟨⟨c1, c2, c3⟩, hin⟩ := hc
    have k2 := k2 _ (Option.some.inj hh).symm
    rcases hk with ⟨rfl, rfl⟩ | ⟨rfl, rfl⟩
    · have he : (z_ws cA ad h)[a - 1]? = some (ad a, .inl (cA a, (h.2.2.1 a).2, .inl (h.2.2.2.1 a))) := by rw [z_ws_at c1 c2, z_cellI (Or.inl c3)]
      have ht := S.2.2.2.1 a c1 c2 (by omega)
      rw [c3] at ht
      exact va_iald X.1 X.2.1 (z_kty X.2.2.2.2.2.2.1 ht) S.1 (a - 1) 0 he rfl hin hdg k2
    · have he : (z_ws cA ad h)[a - 1]? = some (ad a, .inl (cA a, (h.2.2.1 a).2, .inl (h.2.2.2.1 a))) := by rw [z_ws_at c1 c2, z_cellI (Or.inr c3)]
      have ht := S.2.2.2.1 a c1 c2 (by omega)
      rw [c3] at ht
      exact va_cald X.1 X.2.1 (z_kty X.2.2.2.2.2.2.1 ht) S.1 (a - 1) 0 he rfl hin hdg k2
  next =>
    split at hh
    next hc =>
      obtain ⟨⟨rfl, c2, c3⟩, hin⟩ := hc
      have k2 := k2 _ (Option.some.inj hh).symm
      obtain ⟨x1, x2, x3⟩ := hsc c2
      subst c3
      rcases hk with ⟨-, rfl⟩ | ⟨hk, -⟩
      · exact va_sld X.1 X.2.1 x3 x1 x2 S.2.2.1 hin hdg k2
      · cases hk
    next => cases hh
theorem z_W_ast {kd : Nat} {ins : Instr} {nar : Int32 → Int32} (hk : (kd = 100 ∧ ins = .iastore ∧ nar = fun x => x) ∨ (kd = 101 ∧ ins = .castore ∧ nar = fun x => vp_nar .char x)) (X : zX p R s m args meth c D k) (hdg : decode (z_code k) pc = .ok (ins, 1)) (S : zS s D A H0 cA ad h H locs) (hst : ∀ v ∈ st, z_wf h.1 v) (hh : z_ast kd nar st h = some q)
    (kk : zKG p l e R s m args below meth c cells slots Q D A H0 ad h cl (pc + 1) q) : W p l e R s m args below meth c H locs cells slots Q (F0 m pc cl (st.map (z_ren ad))) := by
  replace hh := z_i2_s hh; obtain ⟨j, x, r0, rfl, hh⟩ := hh
  replace hh := z_r1_s hh; obtain ⟨a, r, rfl, hh⟩ := hh
  have hr : ∀ w ∈ r, z_wf h.1 w := z_wt (z_wt (z_wt hst))
  try dsimp only at hh
  split at hh
  next hc =>
    obtain ⟨⟨c1, c2, c3⟩, hin⟩ := hc
    cases hh
    have hk2 : (h.2.2.1 a).1 = 100 ∨ (h.2.2.1 a).1 = 101 := by omega
    have he : (z_ws cA ad h)[a - 1]? = some (ad a, .inl (cA a, (h.2.2.1 a).2, .inl (h.2.2.2.1 a))) := by rw [z_ws_at c1 c2, z_cellI hk2]
    have ht := S.2.2.2.1 a c1 c2 (by omega)
    have hset : ∀ y : Int32, (z_ws cA ad h).set (a - 1) (ad a, .inl (cA a, (h.2.2.1 a).2, .inl (upd (h.2.2.2.1 a) j.toNatClampNeg y))) = z_ws cA ad (z_setI h a j.toNatClampNeg y) := by
      intro y
      refine z_ws_set c1 c2 rfl ?_ (fun j hj => z_cell_sI hj)
      rw [z_cellI (h := z_setI h a j.toNatClampNeg y) hk2]
      refine congrArg (fun z => Sum.inl (cA a, (h.2.2.1 a).2, Sum.inl z)) ?_
      exact (va_up_self _ _ _).symm
    rw [c3] at ht
    rcases hk with ⟨rfl, rfl, rfl⟩ | ⟨rfl, rfl, rfl⟩
    · refine va_iast X.1 X.2.1 (z_kty X.2.2.2.2.2.2.1 ht) S.1 S.2.1 S.2.2.1 (a - 1) 0 he rfl hin hdg (fun H1 locs1 hP hD hS => ?_)
      rw [hset] at hP hD
      exact kk.keep rfl rfl ⟨hP, hD, hS, S.2.2.2.1, z_hwI S.2.2.2.2.1, S.2.2.2.2.2⟩ hr
    · refine va_cast X.1 X.2.1 (z_kty X.2.2.2.2.2.2.1 ht) S.1 S.2.1 S.2.2.1 (a - 1) 0 he rfl hin hdg (fun H1 locs1 hP hD hS => ?_)
      rw [hset] at hP hD
      exact kk.keep rfl rfl ⟨hP, hD, hS, S.2.2.2.1, z_hwI S.2.2.2.2.1, S.2.2.2.2.2⟩ hr
  next => cases hh
theorem z_W_aald (X : zX p R s m args meth c D k) (hdg : decode (z_code k) pc = .ok (.aaload, 1)) (S : zS s D A H0 cA ad h H locs) (hst : ∀ v ∈ st, z_wf h.1 v) (hh : z_aald st h = some q)
    (kk : zKG p l e R s m args below meth c cells slots Q D A H0 ad h cl (pc + 1) q) : W p l e R s m args below meth c H locs cells slots Q (F0 m pc cl (st.map (z_ren ad))) := by
  replace hh := z_i1_s hh; obtain ⟨j, r0, rfl, hh⟩ := hh
  replace hh := z_r1_s hh; obtain ⟨a, r, rfl, hh⟩ := hh
  try dsimp only at hh
  split at hh
  next hc =>
    obtain ⟨⟨c1, c2, c3⟩, hin⟩ := hc
    split at hh
    next y ey =>
      cases hh
      have he : (z_ws cA ad h)[a - 1]? = some (ad a, .inl (cA a, (h.2.2.1 a).2, .inr (.inr (.inr (.inr (fun j => (h.2.2.2.2 a j).map ad)))))) := by rw [z_ws_at c1 c2, z_cellQ c3]
      have ht := S.2.2.2.1 a c1 c2 (by omega)
      have hlt : j.toNatClampNeg < (h.2.2.1 a).2 := Nat.not_le.mp fun q => hin (Or.inr q)
      have k2 := kk.same S (z_wc ((S.2.2.2.2.1 a c1 c2).2 _ _ ey) (z_wt (z_wt hst)))
      refine W.aald (v := .ref (ad y)) (ty := z_aty (h.2.2.1 a).1) X.1 X.2.1 (S.1 (a - 1) _ he) (ht.1 _ (fun j => va_rf ((h.2.2.2.2 a j).map ad))) ?_ (fun q => by cases q) (by show ¬ (j < 0 ∨ (arrV _ _ _).slots.size ≤ _); rw [arrV_size]; exact hin) ?_ rfl rfl hdg k2
      · rcases c3 with c3 | c3 <;> rw [c3] <;> rfl
      · show (arrV _ _ _).slots[_]? = _
        rw [arrV_read _ _ hlt]
        show some (va_rf ((h.2.2.2.2 a j.toNatClampNeg).map ad)) = _
        rw [ey]
        rfl
    next => cases hh
  next => cases hh
theorem z_W_aast (X : zX p R s m args meth c D k) (hdg : decode (z_code k) pc = .ok (.aastore, 1)) (S : zS s D A H0 cA ad h H locs) (hst : ∀ v ∈ st, z_wf h.1 v) (hh : z_aast st h = some q)
    (kk : zKG p l e R s m args below meth c cells slots Q D A H0 ad h cl (pc + 1) q) : W p l e R s m args below meth c H locs cells slots Q (F0 m pc cl (st.map (z_ren ad))) := by
  replace hh := z_r1_s hh; obtain ⟨v, r1, rfl, hh⟩ := hh
  replace hh := z_i1_s hh; obtain ⟨j, r0, rfl, hh⟩ := hh
  replace hh := z_r1_s hh; obtain ⟨a, r, rfl, hh⟩ := hh
  have hr : ∀ w ∈ r, z_wf h.1 w := z_wt (z_wt (z_wt hst))
  try dsimp only at hh
  split at hh
  next hc =>
    obtain ⟨⟨c1, c2, c3⟩, ⟨d1, d2, d3⟩, hin⟩ := hc
    cases hh
    have he : (z_ws cA ad h)[a - 1]? = some (ad a, .inl (cA a, (h.2.2.1 a).2, .inr (.inr (.inr (.inr (fun j => (h.2.2.2.2 a j).map ad)))))) := by rw [z_ws_at c1 c2, z_cellQ (Or.inl c3)]
    have hv : (z_ws cA ad h)[v - 1]? = some (ad v, .inr (2, z_fs ad h v)) := by rw [z_ws_at d1 d2, z_cellO d3 (by omega)]
    have ht := S.2.2.2.1 a c1 c2 (by omega)
    rw [c3] at ht
    have hw := z_hwR (a := a) (f := j.toNatClampNeg) S.2.2.2.2.1 d2
    have hset : (z_ws cA ad h).set (a - 1) (ad a, .inl (cA a, (h.2.2.1 a).2, .inr (.inr (.inr (.inr (va_up (fun j => (h.2.2.2.2 a j).map ad) j.toNatClampNeg (some (ad v)))))))) = z_ws cA ad (z_setR h a j.toNatClampNeg v) := by
      refine z_ws_set c1 c2 rfl ?_ (fun j hj => z_cell_sR hj)
      rw [z_cellQ (h := z_setR h a j.toNatClampNeg v) (Or.inl c3)]
      refine congrArg (fun z => Sum.inl (cA a, (h.2.2.1 a).2, Sum.inr (Sum.inr (Sum.inr (Sum.inr z))))) (funext fun y => ?_)
      show _ = (va_up h.2.2.2.2 a (va_up (h.2.2.2.2 a) j.toNatClampNeg (some v)) a y).map ad
      rw [va_up_self]
      by_cases hy : y = j.toNatClampNeg
      · subst hy; rw [va_up_self, va_up_self]; rfl
      · rw [va_up_ne _ _ hy, va_up_ne _ _ hy]
    refine va_astq (r := (RX2, TX2, zN 2)) X.1 X.2.1 (z_kty X.2.2.2.2.2.2.1 ht) S.1 S.2.1 S.2.2.1 (a - 1) 0 (v - 1) 2 he rfl hv (z_cl_at 2 (by omega)) hin hdg (fun H1 locs1 hP hD hS => ?_)
    rw [hset] at hP hD
    exact kk.keep rfl rfl ⟨hP, hD, hS, S.2.2.2.1, hw, S.2.2.2.2.2⟩ hr
  next => cases hh
/-- a cell comes -/
theorem z_born {cA' : Nat → ClassId} {kd ln n a : Nat} {x : va_E} {H1 : Heap} {locs1 : List Loc} {r : List Value} (S : zS s D A H0 cA ad h H locs) (hr : ∀ v ∈ r, z_wf h.1 v) (hk : kd < 10 ∨ (100 ≤ kd ∧ kd ≤ 103)) (hc : ∀ i, i ≤ h.1 → cA' i = cA i) (hx : x = z_cell cA' (va_up ad (h.1 + 1) a) (z_mk h kd ln n) (h.1 + 1)) (hn : 100 ≤ kd → ArrOfT s (cA' (h.1 + 1)) (z_aty kd) ∧ va_RA s (cA' (h.1 + 1)) (z_aty kd))
    (hP : va_P D zCl (z_ws cA ad h ++ [(a, x)]) H1) (hD : va_D A (z_ws cA ad h ++ [(a, x)])) (hS : va_S A H0 H1 locs1) {pc' : Nat}
    (kk : zKG p l e R s m args below meth c cells slots Q D A H0 ad h cl pc' (.ref (h.1 + 1) :: r, z_mk h kd ln n)) : W p l e R s m args below meth c H1 locs1 (cells + 1) (slots + n) Q (F0 m pc' cl (.ref a :: r.map (z_ren ad))) := by
  have ha : ∀ i, i ≤ h.1 → va_up ad (h.1 + 1) a i = ad i := fun i hi => va_up_ne _ _ (by omega)
  have hw := S.2.2.2.2.1
  have hpush := z_ws_push (cA := cA) (cA' := cA') (ad := ad) (ad' := va_up ad (h.1 + 1) a) (h := h) (h' := z_mk h kd ln n) (q := a) (x := x) rfl (va_up_self _ _ _).symm hx ha (fun j h1 h2 => z_cell_mk hw h1 h2 (hc j h2) ha)
  rw [hpush] at hP hD
  have k2 := kk cA' (va_up ad (h.1 + 1) a) H1 locs1 ha ⟨hP, hD, hS, z_arr_mk S.2.2.2.1 hc hn, z_hw_mk hw hk, S.2.2.2.2.2⟩ (z_wc (Nat.le_refl _) (fun v hv => z_wf_up (Nat.le_succ _) (hr v hv)))
  have e1 : (z_mk h kd ln n).1 - h.1 = 1 := by show h.1 + 1 - h.1 = 1; omega
  have e2 : (z_mk h kd ln n).2.1 - h.2.1 = n := by show h.2.1 + n - h.2.1 = n; omega
  dsimp only at k2
  rw [e1, e2, List.map_cons, z_map_up ha hr] at k2
  have e3 : z_ren (va_up ad (h.1 + 1) a) (.ref (h.1 + 1)) = .ref a := congrArg Value.ref (va_up_self _ _ _)
  rw [e3] at k2
  exact k2
theorem z_W_new (X : zX p R s m args meth c D k) (hdg : decode (z_code k) pc = .ok (.new i, 3)) (S : zS s D A H0 cA ad h H locs) (hst : ∀ v ∈ st, z_wf h.1 v) (hh : z_new k i st h = some q) (hce : cells + (q.2.1 - h.1) ≤ R.cells) (hsl : slots + (q.2.2.1 - h.2.1) ≤ R.slots)
    (kk : zKG p l e R s m args below meth c cells slots Q D A H0 ad h cl (pc + 3) q) : W p l e R s m args below meth c H locs cells slots Q (F0 m pc cl (st.map (z_ren ad))) := by
  unfold z_new at hh
  split at hh
  next q0 e1 =>
    split at hh
    next f3 =>
      cases hh
      have hf := List.all_eq_true.mp zc_n_ok _ (z_lk1_in e1)
      unfold zc_n at hf
      simp only [decide_eq_true_eq] at hf
      have hi := z_inst q0.1 f3
      have hrow := z_row q0.1 f3
      have e2 : (z_mk h q0.1 0 (zN q0.1)).1 - h.1 = 1 := by show h.1 + 1 - h.1 = 1; omega
      have e3 : (z_mk h q0.1 0 (zN q0.1)).2.1 - h.2.1 = zN q0.1 := by show h.2.1 + _ - h.2.1 = _; omega
      dsimp only at hce hsl
      rw [e2] at hce
      rw [e3] at hsl
      refine va_new (ci := q0.1) (fs := (List.range (zN q0.1)).map (fun f => z_fv q0.1 f 0 none)) (C := zR q0.1) (T := zTn q0.1) (N := zN q0.1) X.1 X.2.1 X.2.2.2.2.1 (z_hin q0.1 f3) (zTy q0.1) hrow.1 X.2.2.2.1 (X.2.2.2.2.1 _ (z_in _ hf rfl)) (X.2.2.2.2.1 _ hi.1) (X.2.2.2.2.1 _ hi.2) X.2.2.2.2.2.2.1.1 S.1 S.2.1 S.2.2.1 S.2.2.2.2.2 (z_cl_at q0.1 f3) (fun j hj => ?_) hce hsl hdg (fun a H1 hP hD hS => ?_)
      · unfold vp_V
        rw [List.getD_eq_getElem?_getD, List.getElem?_map, List.getElem?_range hj]
        show _ = z_fv q0.1 j 0 none
        unfold z_fv
        rcases hrow.2.2 j hj with g | g | ⟨g, ⟨n, g2⟩ | ⟨t, g2⟩⟩
        · rw [g.1, g.2.1]; rfl
        · rw [g.1, g.2.1]; rfl
        · rw [g2, g]; rfl
        · rw [g2, g]; rfl
      · refine z_born (cA' := cA) (kd := q0.1) (ln := 0) (n := zN q0.1) S hst (Or.inl f3) (fun _ _ => rfl) ?_ (fun z => by omega) hP hD hS kk
        have e5 : (z_mk h q0.1 0 (zN q0.1)).2.2.1 (h.1 + 1) = (q0.1, 0) := va_up_self _ _ _
        have e6 : (z_mk h q0.1 0 (zN q0.1)).2.2.2.1 (h.1 + 1) = fun _ => 0 := va_up_self _ _ _
        have e7 : (z_mk h q0.1 0 (zN q0.1)).2.2.2.2 (h.1 + 1) = fun _ => none := va_up_self _ _ _
        rw [z_cellO (ci := q0.1) (by rw [e5]) f3]
        unfold z_fs
        rw [e5, e6, e7]
        rfl
    next => cases hh
  next => cases hh
theorem z_W_newa {kd : Nat} {at_ : ArrayType} (hk : (kd = 100 ∧ at_ = .int) ∨ (kd = 101 ∧ at_ = .char)) (X : zX p R s m args meth c D k) (hdg : decode (z_code k) pc = .ok (.newarray at_, 2)) (S : zS s D A H0 cA ad h H locs) (hst : ∀ v ∈ st, z_wf h.1 v) (hh : z_newa kd st h = some q) (hce : cells + (q.2.1 - h.1) ≤ R.cells) (hsl : slots + (q.2.2.1 - h.2.1) ≤ R.slots)
    (kk : zKG p l e R s m args below meth c cells slots Q D A H0 ad h cl (pc + 2) q) : W p l e R s m args below meth c H locs cells slots Q (F0 m pc cl (st.map (z_ren ad))) := by
  replace hh := z_i1_s hh; obtain ⟨n, r, rfl, hh⟩ := hh
  try dsimp only at hh
  split at hh
  next hc =>
    obtain ⟨c1, c2⟩ := hc
    cases hh
    have hr : ∀ w ∈ r, z_wf h.1 w := z_wt hst
    have e2 : (z_mk h kd n.toNatClampNeg n.toNatClampNeg).1 - h.1 = 1 := by show h.1 + 1 - h.1 = 1; omega
    have e3 : (z_mk h kd n.toNatClampNeg n.toNatClampNeg).2.1 - h.2.1 = n.toNatClampNeg := by show h.2.1 + _ - h.2.1 = _; omega
    dsimp only at hce hsl
    rw [e2] at hce
    rw [e3] at hsl
    have hkk : kd < 10 ∨ (100 ≤ kd ∧ kd ≤ 103) := by omega
    have e5 : (z_mk h kd n.toNatClampNeg n.toNatClampNeg).2.2.1 (h.1 + 1) = (kd, n.toNatClampNeg) := va_up_self _ _ _
    have e6 : (z_mk h kd n.toNatClampNeg n.toNatClampNeg).2.2.2.1 (h.1 + 1) = fun _ => 0 := va_up_self _ _ _
    have fin : ∀ (a : Nat) (c1 : ClassId) (H1 : Heap), va_K D zCl ([] ++ [(c1, z_aty kd)]) s → va_P D zCl (z_ws cA ad h ++ [(a, .inl (c1, n.toNatClampNeg, .inl (fun _ => 0)))]) H1 → va_D A (z_ws cA ad h ++ [(a, .inl (c1, n.toNatClampNeg, .inl (fun _ => 0)))]) → va_S A H0 H1 locs → W p l e R s m args below meth c H1 locs (cells + 1) (slots + n.toNatClampNeg) Q (F0 m (pc + 2) cl (.ref a :: r.map (z_ren ad))) := by
      intro a c1 H1 hK hP hD hS
      have hK0 := hK.2 0 (c1, z_aty kd) rfl
      refine z_born (cA' := va_up cA (h.1 + 1) c1) (kd := kd) (ln := n.toNatClampNeg) (n := n.toNatClampNeg) S hr hkk (fun i hi => va_up_ne _ _ (by omega)) ?_ (fun z => by rw [va_up_self]; exact hK0) hP hD hS kk
      rw [z_cellI (by rw [e5]; dsimp only; omega), e5, e6, va_up_self]
    rcases hk with ⟨rfl, rfl⟩ | ⟨rfl, rfl⟩
    · exact va_newa (ty := .int) (a0 := (n.toNatClampNeg, .inl (fun _ => 0))) X.1 X.2.1 (X.2.2.2.2.1 _ (z_in _ zc_j.2.2.1 rfl)) rfl X.2.2.2.2.2.2.1.1 S.1 S.2.1 S.2.2.1 S.2.2.2.2.2 (fun _ => rfl) c1 rfl (by show _ * 4 ≤ _; omega) hce hsl hdg fin
    · exact va_newa (ty := .char) (a0 := (n.toNatClampNeg, .inl (fun _ => 0))) X.1 X.2.1 (X.2.2.2.2.1 _ (z_in _ zc_j.2.2.2.1 rfl)) rfl X.2.2.2.2.2.2.1.1 S.1 S.2.1 S.2.2.1 S.2.2.2.2.2 (fun _ => rfl) c1 rfl (by show _ * 2 ≤ _; omega) hce hsl hdg fin
  next => cases hh
theorem z_W_newq (X : zX p R s m args meth c D k) (hdg : decode (z_code k) pc = .ok (.anewarray i, 3)) (S : zS s D A H0 cA ad h H locs) (hst : ∀ v ∈ st, z_wf h.1 v) (hh : z_newq k i st h = some q) (hce : cells + (q.2.1 - h.1) ≤ R.cells) (hsl : slots + (q.2.2.1 - h.2.1) ≤ R.slots)
    (kk : zKG p l e R s m args below meth c cells slots Q D A H0 ad h cl (pc + 3) q) : W p l e R s m args below meth c H locs cells slots Q (F0 m pc cl (st.map (z_ren ad))) := by
  unfold z_newq at hh
  split at hh
  next q0 e1 =>
    have hf := List.all_eq_true.mp zc_q_ok _ (z_lk0_in e1)
    unfold zc_q at hf
    simp only [decide_eq_true_eq] at hf
    replace hh := z_i1_s hh; obtain ⟨n, r, rfl, hh⟩ := hh
    try dsimp only at hh
    split at hh
    next hc =>
      obtain ⟨c1, c2⟩ := hc
      cases hh
      have hr : ∀ w ∈ r, z_wf h.1 w := z_wt hst
      have e2 : (z_mk h 102 n.toNatClampNeg n.toNatClampNeg).1 - h.1 = 1 := by show h.1 + 1 - h.1 = 1; omega
      have e3 : (z_mk h 102 n.toNatClampNeg n.toNatClampNeg).2.1 - h.2.1 = n.toNatClampNeg := by show h.2.1 + _ - h.2.1 = _; omega
      dsimp only at hce hsl
      rw [e2] at hce
      rw [e3] at hsl
      have e5 : (z_mk h 102 n.toNatClampNeg n.toNatClampNeg).2.2.1 (h.1 + 1) = (102, n.toNatClampNeg) := va_up_self _ _ _
      have e6 : (z_mk h 102 n.toNatClampNeg n.toNatClampNeg).2.2.2.2 (h.1 + 1) = fun _ => none := va_up_self _ _ _
      refine va_newq (N' := n.toNatClampNeg) X.1 X.2.1 X.2.2.2.1 (X.2.2.2.2.1 _ (z_in _ hf rfl)) X.2.2.2.2.2.2.1.2.2.1 X.2.2.2.2.2.2.1.1 S.1 S.2.1 S.2.2.1 S.2.2.2.2.2 c1 rfl (by omega) hce hsl hdg (fun a c1 H1 hK hP hD hS => ?_)
      have hK0 := hK.2 0 (c1, z_aty 102) rfl
      refine z_born (cA' := va_up cA (h.1 + 1) c1) (kd := 102) (ln := n.toNatClampNeg) (n := n.toNatClampNeg) S hr (by omega) (fun i hi => va_up_ne _ _ (by omega)) ?_ (fun z => by rw [va_up_self]; exact hK0) hP hD hS kk
      rw [z_cellQ (by rw [e5]; exact Or.inl rfl), e5, e6, va_up_self]
      rfl
    next => cases hh
  next => cases hh
theorem z_W_len0 (X : zX p R s m args meth c D k) (hdg : decode (z_code k) pc = .ok (.arraylength, 1)) (S : zS s D A H0 cA ad h H locs) (hsc : zXs sc k A s H0 ad) (hst : ∀ v ∈ st, z_wf h.1 v) (hh : z_len0 sc k st h = some q)
    (kk : zKG p l e R s m args below meth c cells slots Q D A H0 ad h cl (pc + 1) q) : W p l e R s m args below meth c H locs cells slots Q (F0 m pc cl (st.map (z_ren ad))) := by
  replace hh := z_r1_s hh; obtain ⟨a, r, rfl, hh⟩ := hh
  try dsimp only at hh
  split at hh
  next hc =>
    obtain ⟨rfl, c2⟩ := hc
    cases hh
    obtain ⟨x1, x2, x3⟩ := hsc c2
    exact va_slen X.1 X.2.1 x3 x1 x2 S.2.2.1 hdg (kk.same S (z_wc trivial (z_wt hst)))
  next => cases hh
theorem z_W_obj (X : zX p R s m args meth c D k) (hcl : cl.size = c.maxLocals) (hdg : decode (z_code k) pc = .ok (.invokespecial i, 3)) (S : zS s D A H0 cA ad h H locs) (hst : ∀ v ∈ st, z_wf h.1 v) (hh : z_obj k i st h = some q)
    (kk : zKG p l e R s m args below meth c cells slots Q D A H0 ad h cl (pc + 3) q) : W p l e R s m args below meth c H locs cells slots Q (F0 m pc cl (st.map (z_ren ad))) := by
  unfold z_obj at hh
  split at hh
  next q0 e1 =>
    have hf := List.all_eq_true.mp zc_o_ok _ (z_lk0_in e1)
    unfold zc_o at hf
    simp only [decide_eq_true_eq] at hf
    replace hh := z_r1_s hh; obtain ⟨a, r, rfl, hh⟩ := hh
    try dsimp only at hh
    split at hh
    next hc =>
      cases hh
      have hr : ∀ w ∈ r, z_wf h.1 w := z_wt hst
      have hR1 := X.2.2.2.2.2.2.2.1
      have hR2 := X.2.2.2.2.2.2.2.2
      refine W.objInit X.1 X.2.1 X.2.2.2.1 (X.2.2.2.2.1 _ (z_in _ hf rfl)) (X.2.2.2.2.1 _ (z_in _ zc_j.1 rfl)) (X.2.2.2.2.1 _ (z_in _ zc_j.2.1 rfl)) rfl hcl rfl hdg (by omega) ?_ ?_
      · show 2 * 0 + ((r.map (z_ren ad)).map fun v => v.category).sum + 12 ≤ R.locals
        have := z_sum (ad := ad) (r := r)
        omega
      · exact kk.same S hr
    next => cases hh
  next => cases hh
theorem z_W_math (X : zX p R s m args meth c D k) (hcl : cl.size = c.maxLocals) (hdg : decode (z_code k) pc = .ok (.invokestatic i, 3)) (S : zS s D A H0 cA ad h H locs) (hst : ∀ v ∈ st, z_wf h.1 v) (hh : z_math k i st h = some q) (hce : cells ≤ R.cells) (hsl : slots ≤ R.slots)
    (kk : zKG p l e R s m args below meth c cells slots Q D A H0 ad h cl (pc + 3) q) : W p l e R s m args below meth c H locs cells slots Q (F0 m pc cl (st.map (z_ren ad))) := by
  unfold z_math at hh
  split at hh
  next q0 e1 =>
    have hf := List.all_eq_true.mp zc_x_ok _ (z_lk1_in e1)
    unfold zc_x at hf
    simp only [decide_eq_true_eq] at hf
    have hR1 := X.2.2.2.2.2.2.2.1
    have hR2 := X.2.2.2.2.2.2.2.2
    split at hh
    next c0 =>
      rw [if_pos c0] at hf
      replace hh := z_i1_s hh; obtain ⟨x, r, rfl, hh⟩ := hh
      try dsimp only at hh
      split at hh
      next hc =>
        cases hh
        have hr : ∀ w ∈ r, z_wf h.1 w := z_wt hst
        refine va_mabs X.1 X.2.1 hcl.symm X.2.2.2.1 (X.2.2.2.2.1 _ (z_in _ hf rfl)) (X.2.2.2.2.1 _ (z_in _ zc_w.2.2.1 rfl)) (X.2.2.2.2.1 _ (z_in _ zc_w.2.1 rfl)) (X.2.2.2.2.1 _ (z_in _ zc_w.2.2.2.1 rfl)) (by omega) ?_ hce hsl hdg (kk.same S (z_wc trivial hr))
        have := z_sum (ad := ad) (r := r)
        omega
      next => cases hh
    next c0 =>
      rw [if_neg c0] at hf
      split at hh
      next c1 =>
        replace hh := z_i2_s hh; obtain ⟨x, y, r, rfl, hh⟩ := hh
        try dsimp only at hh
        split at hh
        next hc =>
          cases hh
          have hr : ∀ w ∈ r, z_wf h.1 w := z_wt (z_wt hst)
          refine va_mmax X.1 X.2.1 hcl.symm X.2.2.2.1 (X.2.2.2.2.1 _ (z_in _ hf rfl)) (X.2.2.2.2.1 _ (z_in _ zc_w.2.2.2.2.1 rfl)) (X.2.2.2.2.1 _ (z_in _ zc_w.2.1 rfl)) (X.2.2.2.2.1 _ (z_in _ zc_w.2.2.2.2.2 rfl)) (by omega) ?_ hce hsl hdg (kk.same S (z_wc trivial hr))
          have := z_sum (ad := ad) (r := r)
          omega
        next => cases hh
      next => cases hh
  next => cases hh
theorem z_wsM {cA cA' : Nat → ClassId} {ad ad' : Nat → Nat} {h h' : zA} {N : Nat} {x : Nat × va_E} {ys : va_W} (hn : h'.1 = h.1 + 1 + N) (ha : ∀ i, i ≤ h.1 → ad' i = ad i) (hc : ∀ j, 1 ≤ j → j ≤ h.1 → z_cell cA' ad' h' j = z_cell cA ad h j) (hx : x = (ad' (h.1 + 1), z_cell cA' ad' h' (h.1 + 1))) (hy : ys = (List.range N).map (fun i => (ad' (h.1 + 2 + i), z_cell cA' ad' h' (h.1 + 2 + i)))) : (z_ws cA ad h ++ [x]) ++ ys = z_ws cA' ad' h' := by
  subst hx hy
  apply List.ext_getElem?
  intro j
  by_cases h1 : j < h.1
  · rw [List.getElem?_append_left (by simp [z_ws_len]; omega), List.getElem?_append_left (by rw [z_ws_len]; exact h1), z_ws_get h1, z_ws_get (by omega), ha _ (by omega), hc _ (by omega) (by omega)]
  · by_cases h2 : j = h.1
    · subst h2
      rw [List.getElem?_append_left (by simp [z_ws_len]), List.getElem?_append_right (by rw [z_ws_len]; omega), z_ws_len, Nat.sub_self, z_ws_get (by omega)]
      rfl
    · rw [List.getElem?_append_right (by simp [z_ws_len]; omega), List.length_append, z_ws_len]
      by_cases h3 : j < h.1 + 1 + N
      · rw [z_ws_get (by omega), List.getElem?_map, List.getElem?_range (by simp; omega)]
        simp only [List.length_cons, List.length_nil, Option.map_some]
        rw [show h.1 + 2 + (j - (h.1 + (0 + 1))) = j + 1 by omega]
      · rw [List.getElem?_eq_none (by simp; omega), List.getElem?_eq_none (by rw [z_ws_len]; omega)]
theorem z_W_newm {d : Nat} (hd : d = 2) (X : zX p R s m args meth c D k) (hdg : decode (z_code k) pc = .ok (.multianewarray i d, 4)) (S : zS s D A H0 cA ad h H locs) (hst : ∀ v ∈ st, z_wf h.1 v) (hh : z_newm k i st h = some q) (hce : cells + (q.2.1 - h.1) ≤ R.cells) (hsl : slots + (q.2.2.1 - h.2.1) ≤ R.slots)
    (kk : zKG p l e R s m args below meth c cells slots Q D A H0 ad h cl (pc + 4) q) : W p l e R s m args below meth c H locs cells slots Q (F0 m pc cl (st.map (z_ren ad))) := by
  subst hd
  unfold z_newm at hh
  split at hh
  next q0 e1 =>
    have hf := List.all_eq_true.mp zc_g_ok _ (z_lk0_in e1)
    unfold zc_g at hf
    simp only [decide_eq_true_eq] at hf
    replace hh := z_i2_s hh; obtain ⟨n, y, r, rfl, hh⟩ := hh
    try dsimp only at hh
    split at hh
    next hc =>
      obtain ⟨c1, c2, c3, c4⟩ := hc
      cases hh
      have hr : ∀ w ∈ r, z_wf h.1 w := z_wt (z_wt hst)
      generalize hN : n.toNatClampNeg = N at *
      generalize hM : y.toNatClampNeg = M at *
      have e2 : (z_mk2 h N M).1 - h.1 = 1 + N := by show h.1 + 1 + N - h.1 = 1 + N; omega
      have e3 : (z_mk2 h N M).2.1 - h.2.1 = N + N * M := by show h.2.1 + N + N * M - h.2.1 = _; omega
      dsimp only at hce hsl
      rw [e2] at hce
      rw [e3] at hsl
      have hcl : (Jvm.Cond.classLink (zR (z_cls k)) i ("[" ++ (FieldType.array .int).toString)).before args s = true := X.2.2.2.2.1 _ (z_in _ hf rfl)
      have hAO := X.2.2.2.2.2.2.1.2.2.2
      obtain ⟨comp, cc, kk0, g1, g2, g3, g4, g5⟩ := z_AOA_spec hAO
      have hP0 : va_P D zCl (z_ws cA ad h ++ va_pl [] (fun _ => .inr (0, []))) H := by show va_P D zCl (z_ws cA ad h ++ []) H; rw [List.append_nil]; exact S.1
      have hD0 : va_D A (z_ws cA ad h ++ va_pl [] (fun _ => .inr (0, []))) := by show va_D A (z_ws cA ad h ++ []); rw [List.append_nil]; exact S.2.1
      have hw := S.2.2.2.2.1
      refine va_mna (X := z_ws cA ad h) (L := []) (f := fun _ => .inr (0, [])) (ty := .int) (cy := comp) (z := (M, .inl (fun _ => 0))) (N' := N) (K' := M) X.1 X.2.1 X.2.2.2.1 hcl hAO (X.2.2.2.2.1 _ (z_in _ zc_j.2.2.1 rfl)) g1 X.2.2.2.2.2.2.1.1 hP0 hD0 S.2.2.1 S.2.2.2.2.2 c1 c3 hN hM (by omega) (by show _ * 4 ≤ _; omega) (by omega) rfl rfl hce hsl ?_ hdg (fun a rr c1 H1 hinj hfr hK hP hD hS => ?_)
      · intro c9
        show _ = arrV c9 M (fun _ => .int 0)
        rw [← arrV_new]
        rfl
      · have hK0 := hK.2 0 (c1, .array .int) rfl
        have hcomp : ArrOfT s comp .int ∧ va_RA s comp .int := by
          obtain ⟨c5, k5, comp5, a1, a2, a3⟩ := Cond.arrayClass_spec (X.2.2.2.2.1 _ (z_in _ zc_j.2.2.1 rfl))
          have e5 : c5 = comp := Option.some.inj (a1.symm.trans g1)
          subst e5
          exact ⟨fun n z => ⟨fun k h => (by cases h), k5, a2, comp5, a3⟩, g1⟩
        have hcell : ∀ (cA' : Nat → ClassId) (ad' : Nat → Nat), (∀ i, i ≤ h.1 → cA' i = cA i) → (∀ i, i ≤ h.1 → ad' i = ad i) → ∀ j, 1 ≤ j → j ≤ h.1 → z_cell cA' ad' (z_mk2 h N M) j = z_cell cA ad h j := by
          intro cA' ad' hc ha j h1 h2
          have f1 : (z_mk2 h N M).2.2.1 j = h.2.2.1 j := by
            show (if j = h.1 + 1 then _ else if h.1 + 1 < j then _ else h.2.2.1 j) = _
            rw [if_neg (by omega), if_neg (by omega)]
          have f2 : (z_mk2 h N M).2.2.2.1 j = h.2.2.2.1 j := by
            show (if h.1 < j then _ else h.2.2.2.1 j) = _
            rw [if_neg (by omega)]
          have f3 : (z_mk2 h N M).2.2.2.2 j = h.2.2.2.2 j := by
            show (if j = h.1 + 1 then _ else if h.1 < j then _ else h.2.2.2.2 j) = _
            rw [if_neg (by omega), if_neg (by omega)]
          have f4 : ∀ f, (h.2.2.2.2 j f).map ad' = (h.2.2.2.2 j f).map ad := by
            intro f
            cases e : h.2.2.2.2 j f with
            | none => rfl
            | some q => exact congrArg some (ha q ((hw j h1 h2).2 f q e))
          unfold z_cell z_fs
          rw [f1, f2, f3, hc j h2]
          simp only [f4]
        obtain ⟨cA', hcA⟩ : ∃ f : Nat → ClassId, f = fun j => if j = h.1 + 1 then c1 else if h.1 + 1 < j then comp else cA j := ⟨_, rfl⟩
        obtain ⟨ad', had⟩ : ∃ f : Nat → Nat, f = fun j => if j = h.1 + 1 then a else if h.1 + 1 < j then rr (j - (h.1 + 2)) else ad j := ⟨_, rfl⟩
        have u1 : ∀ i, i ≤ h.1 → cA' i = cA i := fun i hi => by rw [hcA]; dsimp only; rw [if_neg (by omega), if_neg (by omega)]
        have u2 : ∀ i, i ≤ h.1 → ad' i = ad i := fun i hi => by rw [had]; dsimp only; rw [if_neg (by omega), if_neg (by omega)]
        have u3 : cA' (h.1 + 1) = c1 := by rw [hcA]; dsimp only; rw [if_pos rfl]
        have u4 : ad' (h.1 + 1) = a := by rw [had]; dsimp only; rw [if_pos rfl]
        have u5 : ∀ i, cA' (h.1 + 2 + i) = comp := fun i => by rw [hcA]; dsimp only; rw [if_neg (by omega), if_pos (by omega)]
        have u6 : ∀ i, ad' (h.1 + 2 + i) = rr i := fun i => by rw [had]; dsimp only; rw [if_neg (by omega), if_pos (by omega)]; congr 1; omega
        have w1 : (z_mk2 h N M).2.2.1 (h.1 + 1) = (103, N) := if_pos rfl
        have w2 : (z_mk2 h N M).2.2.2.2 (h.1 + 1) = fun i => if i < N then some (h.1 + 2 + i) else none := if_pos rfl
        have w3 : ∀ i, (z_mk2 h N M).2.2.1 (h.1 + 2 + i) = (100, M) := fun i => by
          show (if h.1 + 2 + i = h.1 + 1 then _ else if h.1 + 1 < h.1 + 2 + i then _ else _) = _
          rw [if_neg (by omega), if_pos (by omega)]
        have w4 : ∀ i, (z_mk2 h N M).2.2.2.1 (h.1 + 2 + i) = fun _ => 0 := fun i => by
          show (if h.1 < h.1 + 2 + i then _ else _) = _
          rw [if_pos (by omega)]
        have w5 : ∀ i, (z_mk2 h N M).2.2.2.2 (h.1 + 2 + i) = fun _ => none := fun i => by
          show (if h.1 + 2 + i = h.1 + 1 then _ else if h.1 < h.1 + 2 + i then _ else _) = _
          rw [if_neg (by omega), if_pos (by omega)]
        have hset := z_wsM (cA := cA) (cA' := cA') (ad := ad) (ad' := ad') (h := h) (h' := z_mk2 h N M) (N := N) (x := (a, .inl (c1, N, .inr (.inr (.inr (.inr (fun i => if i < N then some (rr i) else none))))))) (ys := va_pl ([] ++ (List.range N).map rr) (vr_up (fun _ => .inr (0, [])) ((List.range N).map rr) (.inl (comp, M, .inl (fun _ => 0))))) rfl u2 (hcell cA' ad' u1 u2) ?_ ?_
        · rw [hset] at hP hD
          have hw' : z_hw (z_mk2 h N M) := by
            intro j h1 h2
            have h2 : j ≤ h.1 + 1 + N := h2
            by_cases j1 : j = h.1 + 1
            · subst j1
              rw [w1, w2]
              refine ⟨by dsimp only; omega, fun f z ez => ?_⟩
              dsimp only at ez
              split at ez
              next hlt => cases ez; show h.1 + 2 + f ≤ h.1 + 1 + N; omega
              next => cases ez
            · by_cases j2 : h.1 + 1 < j
              · obtain ⟨i9, rfl⟩ : ∃ i9, j = h.1 + 2 + i9 := ⟨j - (h.1 + 2), by omega⟩
                rw [w3, w5]
                exact ⟨by dsimp only; omega, fun f z ez => by cases ez⟩
              · have f1 : (z_mk2 h N M).2.2.1 j = h.2.2.1 j := by
                  show (if j = h.1 + 1 then _ else if h.1 + 1 < j then _ else h.2.2.1 j) = _
                  rw [if_neg (by omega), if_neg (by omega)]
                have f3 : (z_mk2 h N M).2.2.2.2 j = h.2.2.2.2 j := by
                  show (if j = h.1 + 1 then _ else if h.1 < j then _ else h.2.2.2.2 j) = _
                  rw [if_neg (by omega), if_neg (by omega)]
                rw [f1, f3]
                refine ⟨(hw j h1 (by omega)).1, fun f z ez => ?_⟩
                have := (hw j h1 (by omega)).2 f z ez
                show z ≤ h.1 + 1 + N
                omega
          have ha' : z_arr cA' (z_mk2 h N M) s := by
            intro j h1 h2 h3
            have h2 : j ≤ h.1 + 1 + N := h2
            by_cases j1 : j = h.1 + 1
            · subst j1
              rw [w1, u3]
              exact hK0
            · by_cases j2 : h.1 + 1 < j
              · obtain ⟨i9, rfl⟩ : ∃ i9, j = h.1 + 2 + i9 := ⟨j - (h.1 + 2), by omega⟩
                rw [w3, u5]
                exact hcomp
              · have f1 : (z_mk2 h N M).2.2.1 j = h.2.2.1 j := by
                  show (if j = h.1 + 1 then _ else if h.1 + 1 < j then _ else h.2.2.1 j) = _
                  rw [if_neg (by omega), if_neg (by omega)]
                rw [f1] at h3 ⊢
                rw [u1 j (by omega)]
                exact S.2.2.2.1 j h1 (by omega) h3
          have k2 := kk cA' ad' H1 locs u2 ⟨hP, hD, hS, ha', hw', S.2.2.2.2.2⟩ (z_wc (by show h.1 + 1 ≤ h.1 + 1 + N; omega) (fun v hv => z_wf_up (by show h.1 ≤ h.1 + 1 + N; omega) (hr v hv)))
          dsimp only at k2
          rw [e2, e3, List.map_cons, z_map_up u2 hr, ← Nat.add_assoc, ← Nat.add_assoc] at k2
          have e9 : z_ren ad' (.ref (h.1 + 1)) = .ref a := congrArg Value.ref u4
          rw [e9] at k2
          exact k2
        · rw [z_cellQ (by rw [w1]; exact Or.inr rfl), w1, w2, u3, u4]
          refine congrArg (fun z => (a, Sum.inl (c1, N, Sum.inr (Sum.inr (Sum.inr (Sum.inr z)))))) (funext fun j => ?_)
          by_cases hj : j < N
          · rw [if_pos hj]
            dsimp only
            rw [if_pos hj]
            exact congrArg some (u6 j).symm
          · rw [if_neg hj]
            dsimp only
            rw [if_neg hj]
            rfl
        · unfold va_pl
          rw [List.nil_append, List.map_map]
          refine List.map_congr_left fun j hj => ?_
          have hj := List.mem_range.mp hj
          show (rr j, vr_up _ _ _ (rr j)) = _
          rw [vr_up_in (List.mem_map_of_mem (List.mem_range.mpr hj)), z_cellI (by rw [w3]; exact Or.inl rfl), w3, w4, u5, u6]
    next => cases hh
  next => cases hh
end ZHEAP
