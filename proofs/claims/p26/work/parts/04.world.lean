/-! ===== worlds: the abstract heap at real addresses ===== -/
def z_ren (ad : Nat → Nat) (v : Value) : Value := match v with
  | .ref i => .ref (ad i)
  | v => v
def z_wf (n : Nat) (v : Value) : Prop := match v with
  | .int _ => True
  | .null => True
  | .ref i => i ≤ n
  | .long _ => True
  | .float _ => True
  | _ => False
def z_fv (ci f : Nat) (x : Int32) (r : Option Nat) : Value := if z_isR ci f = true then va_rf r else .int x
def z_fs (ad : Nat → Nat) (h : zA) (i : Nat) : List Value := (List.range (zN (h.2.2.1 i).1)).map (fun f => z_fv (h.2.2.1 i).1 f (h.2.2.2.1 i f) ((h.2.2.2.2 i f).map ad))
def z_cell (cA : Nat → ClassId) (ad : Nat → Nat) (h : zA) (i : Nat) : va_E :=
  if (h.2.2.1 i).1 < 10 then .inr ((h.2.2.1 i).1, z_fs ad h i)
  else if (h.2.2.1 i).1 < 102 then .inl (cA i, (h.2.2.1 i).2, .inl (h.2.2.2.1 i))
  else .inl (cA i, (h.2.2.1 i).2, .inr (.inr (.inr (.inr (fun j => (h.2.2.2.2 i j).map ad)))))
def z_ws (cA : Nat → ClassId) (ad : Nat → Nat) (h : zA) : va_W := (List.range h.1).map (fun j => (ad (j + 1), z_cell cA ad h (j + 1)))
def z_aty (kd : Nat) : FieldType := if kd = 100 then .int else if kd = 101 then .char else if kd = 102 then .object RX2 else .array .int
def z_arr (cA : Nat → ClassId) (h : zA) (s : State) : Prop := ∀ i, 1 ≤ i → i ≤ h.1 → 100 ≤ (h.2.2.1 i).1 → ArrOfT s (cA i) (z_aty (h.2.2.1 i).1) ∧ va_RA s (cA i) (z_aty (h.2.2.1 i).1)
def z_hw (h : zA) : Prop := ∀ i, 1 ≤ i → i ≤ h.1 → ((h.2.2.1 i).1 < 10 ∨ (100 ≤ (h.2.2.1 i).1 ∧ (h.2.2.1 i).1 ≤ 103)) ∧ ∀ f j, h.2.2.2.2 i f = some j → j ≤ h.1
theorem z_ws_at {cA : Nat → ClassId} {ad : Nat → Nat} {h : zA} {i : Nat} (h1 : 1 ≤ i) (h2 : i ≤ h.1) : (z_ws cA ad h)[i - 1]? = some (ad i, z_cell cA ad h i) := by
  obtain ⟨j, rfl⟩ : ∃ j, i = j + 1 := ⟨i - 1, by omega⟩
  simp only [z_ws, Nat.add_sub_cancel, List.getElem?_map, List.getElem?_range (show j < h.1 by omega), Option.map_some]
theorem z_ws_len {cA : Nat → ClassId} {ad : Nat → Nat} {h : zA} : (z_ws cA ad h).length = h.1 := by simp [z_ws]
theorem z_ws_get {cA : Nat → ClassId} {ad : Nat → Nat} {h : zA} {j : Nat} (h2 : j < h.1) : (z_ws cA ad h)[j]? = some (ad (j + 1), z_cell cA ad h (j + 1)) := by
  simp only [z_ws, List.getElem?_map, List.getElem?_range h2, Option.map_some]
theorem z_ws_set {cA : Nat → ClassId} {ad : Nat → Nat} {h h' : zA} {i : Nat} {x : va_E} (h1 : 1 ≤ i) (h2 : i ≤ h.1) (hn : h'.1 = h.1) (hx : x = z_cell cA ad h' i) (hc : ∀ j, j ≠ i → z_cell cA ad h' j = z_cell cA ad h j) : (z_ws cA ad h).set (i - 1) (ad i, x) = z_ws cA ad h' := by
  subst hx
  apply List.ext_getElem?
  intro j
  by_cases hj : j < h.1
  · by_cases e : j = i - 1
    · subst e
      rw [List.getElem?_set_self (by rw [z_ws_len]; exact hj), z_ws_get (by omega), show i - 1 + 1 = i by omega]
    · rw [List.getElem?_set_ne (fun q => e q.symm), z_ws_get hj, z_ws_get (by omega), hc (j + 1) (by omega)]
  · rw [List.getElem?_eq_none (by rw [List.length_set, z_ws_len]; omega), List.getElem?_eq_none (by rw [z_ws_len]; omega)]
theorem z_ws_push {cA cA' : Nat → ClassId} {ad ad' : Nat → Nat} {h h' : zA} {q : Nat} {x : va_E} (hn : h'.1 = h.1 + 1) (hq : q = ad' (h.1 + 1)) (hx : x = z_cell cA' ad' h' (h.1 + 1)) (ha : ∀ i, i ≤ h.1 → ad' i = ad i) (hc : ∀ j, 1 ≤ j → j ≤ h.1 → z_cell cA' ad' h' j = z_cell cA ad h j) : z_ws cA ad h ++ [(q, x)] = z_ws cA' ad' h' := by
  subst hx
  subst hq
  apply List.ext_getElem?
  intro j
  by_cases hj : j < h.1
  · rw [List.getElem?_append_left (by rw [z_ws_len]; exact hj), z_ws_get hj, z_ws_get (by omega), ha _ (by omega), hc _ (by omega) (by omega)]
  · by_cases e : j = h.1
    · subst e
      rw [List.getElem?_append_right (by rw [z_ws_len]; omega), z_ws_len, Nat.sub_self, z_ws_get (by omega)]
      rfl
    · rw [List.getElem?_eq_none (by rw [List.length_append, z_ws_len]; simp; omega), List.getElem?_eq_none (by rw [z_ws_len]; omega)]
theorem z_map_set {α : Type} {n f : Nat} {g g' : Nat → α} {v : α} (hv : g' f = v) (hg : ∀ j, j ≠ f → g' j = g j) : ((List.range n).map g).set f v = (List.range n).map g' := by
  apply List.ext_getElem?
  intro j
  by_cases hj : j < n
  · by_cases e : j = f
    · subst e
      rw [List.getElem?_set_self (by simp; exact hj)]
      simp [hj, hv]
    · rw [List.getElem?_set_ne (fun q => e q.symm)]
      simp [hj, hg j e]
  · rw [List.getElem?_eq_none (by simp; omega), List.getElem?_eq_none (by simp; omega)]
theorem z_cat {n : Nat} {ad : Nat → Nat} {v : Value} (h : z_wf n v) (hc : z_c1 v = true) : (z_ren ad v).category = 1 := by
  cases v <;> first | rfl | (exact h.elim) | (cases hc)
theorem z_cat2 {ad : Nat → Nat} {v : Value} : (z_ren ad v).category ≤ 2 := by
  cases v <;> simp [z_ren, Value.category]
theorem z_sum {ad : Nat → Nat} : ∀ {r : List Value}, ((r.map (z_ren ad)).map fun v => v.category).sum ≤ 2 * r.length
  | [] => Nat.le_refl _
  | v :: r => by
    have h1 := z_cat2 (ad := ad) (v := v)
    have h2 := z_sum (ad := ad) (r := r)
    rw [List.map_cons, List.map_cons, List.sum_cons, List.length_cons]
    omega
theorem z_wf_up {n n' : Nat} (hn : n ≤ n') {v : Value} (h : z_wf n v) : z_wf n' v := by
  cases v <;> first | trivial | exact h.elim | exact Nat.le_trans h hn
theorem z_ren_up {n : Nat} {ad ad' : Nat → Nat} (ha : ∀ i, i ≤ n → ad' i = ad i) {v : Value} (h : z_wf n v) : z_ren ad' v = z_ren ad v := by
  cases v with
  | ref i => exact congrArg Value.ref (ha i h)
  | _ => rfl
theorem z_map_up {n : Nat} {ad ad' : Nat → Nat} (ha : ∀ i, i ≤ n → ad' i = ad i) {st : List Value} (h : ∀ v ∈ st, z_wf n v) : st.map (z_ren ad') = st.map (z_ren ad) := List.map_congr_left fun v hv => z_ren_up ha (h v hv)
theorem z_wc {n : Nat} {v : Value} {st : List Value} (h : z_wf n v) (hs : ∀ v ∈ st, z_wf n v) : ∀ w ∈ v :: st, z_wf n w := fun w hw => by
  rcases List.mem_cons.mp hw with rfl | hw
  · exact h
  · exact hs w hw
theorem z_wt {n : Nat} {v : Value} {st : List Value} (hs : ∀ w ∈ v :: st, z_wf n w) : ∀ w ∈ st, z_wf n w := fun w hw => hs w (List.mem_cons_of_mem _ hw)
-- the locals
def z_lvs (ad : Nat → Nat) (ls : List Value) : List (Nat × Value) := (List.range ls.length).filterMap (fun i => match ls[i]? with
  | some (Value.int x) => some (i, Value.int x)
  | some (Value.ref x) => some (i, Value.ref (ad x))
  | some (Value.long x) => (match ls[i + 1]? with
    | some (Value.float _) => some (i, Value.long x)
    | _ => none)
  | _ => none)
theorem z_lvs_in {ad : Nat → Nat} {ls : List Value} {q : Nat × Value} (h : q ∈ z_lvs ad ls) : ∃ v, ls[q.1]? = some v ∧ q.2 = z_ren ad v ∧ (((∃ x, v = .int x) ∨ ∃ x, v = .ref x) ∨ ∃ x f, v = .long x ∧ ls[q.1 + 1]? = some (.float f)) := by
  obtain ⟨i, -, hi⟩ := List.mem_filterMap.mp h
  split at hi
  next x e => cases hi; exact ⟨_, e, rfl, Or.inl (Or.inl ⟨x, rfl⟩)⟩
  next x e => cases hi; exact ⟨_, e, rfl, Or.inl (Or.inr ⟨x, rfl⟩)⟩
  next x e =>
    split at hi
    next f e2 => cases hi; exact ⟨_, e, rfl, Or.inr ⟨x, f, rfl, e2⟩⟩
    next => cases hi
  next => cases hi
theorem z_lvs_i {ad : Nat → Nat} {ls : List Value} {i : Nat} {x : Int32} (h : ls[i]? = some (.int x)) : (i, Value.int x) ∈ z_lvs ad ls := by
  refine List.mem_filterMap.mpr ⟨i, List.mem_range.mpr (List.getElem?_eq_some_iff.mp h).1, ?_⟩
  rw [h]
theorem z_lvs_r {ad : Nat → Nat} {ls : List Value} {i : Nat} {x : Nat} (h : ls[i]? = some (.ref x)) : (i, Value.ref (ad x)) ∈ z_lvs ad ls := by
  refine List.mem_filterMap.mpr ⟨i, List.mem_range.mpr (List.getElem?_eq_some_iff.mp h).1, ?_⟩
  rw [h]
theorem z_lvs_l {ad : Nat → Nat} {ls : List Value} {i : Nat} {x : Int64} {f : UInt32} (h : ls[i]? = some (.long x)) (h2 : ls[i + 1]? = some (.float f)) : (i, Value.long x) ∈ z_lvs ad ls := by
  refine List.mem_filterMap.mpr ⟨i, List.mem_range.mpr (List.getElem?_eq_some_iff.mp h).1, ?_⟩
  rw [h]
  dsimp only
  rw [h2]
def z_L (ad : Nat → Nat) (n nL : Nat) (ls : List Value) (cl : Array Slot) : Prop := lv_has cl nL (z_lvs ad ls) ∧ ls.length = nL ∧ ∀ v ∈ ls, z_wf n v
theorem z_L.up {ad ad' : Nat → Nat} {n n' nL : Nat} {ls : List Value} {cl : Array Slot} (h : z_L ad n nL ls cl) (ha : ∀ i, i ≤ n → ad' i = ad i) (hn : n ≤ n') : z_L ad' n' nL ls cl := by
  refine ⟨⟨h.1.1, h.1.2.1, fun q hq => ?_⟩, h.2.1, fun v hv => z_wf_up hn (h.2.2 v hv)⟩
  obtain ⟨i, hi0, hi⟩ := List.mem_filterMap.mp hq
  split at hi
  next x e => cases hi; exact h.1.2.2 _ (z_lvs_i e)
  next x e =>
    cases hi
    rw [ha x (h.2.2 (.ref x) (List.mem_of_getElem? e))]
    exact h.1.2.2 _ (z_lvs_r e)
  next x e =>
    split at hi
    next f e2 => cases hi; exact h.1.2.2 _ (z_lvs_l e e2)
    next => cases hi
  next => cases hi
theorem z_L.put {ad : Nat → Nat} {n nL i : Nat} {ls : List Value} {cl cl' : Array Slot} {v : Value} (h : z_L ad n nL ls cl) (hv : z_wf n v) (hvf : (∃ x, v = .int x) ∨ ∃ x, v = .ref x) (hi : i < nL)
    (h' : lv_has cl' nL ((i, z_ren ad v) :: (z_lvs ad ls).filter (fun q => !(q.1 == i) && !(q.1 + 1 == i && q.2.category == 2)))) : z_L ad n nL (ls.set i v) cl' := by
  refine ⟨⟨h'.1, h'.2.1, fun q hq => h'.2.2 q ?_⟩, by rw [List.length_set]; exact h.2.1, fun w hw => ?_⟩
  · obtain ⟨w, e1, e3, e4⟩ := z_lvs_in hq
    by_cases e : q.1 = i
    · have hw : w = v := by
        rw [e, List.getElem?_set_self (by rw [h.2.1]; exact hi)] at e1
        exact (Option.some.inj e1).symm
      subst hw
      obtain ⟨q1, q2⟩ := q
      dsimp only at e e3
      subst e e3
      exact List.mem_cons_self
    · refine List.mem_cons_of_mem _ (List.mem_filter.mpr ⟨?_, ?_⟩)
      · rw [List.getElem?_set_ne (fun c => e c.symm)] at e1
        obtain ⟨q1, q2⟩ := q
        dsimp only at e e1 e3 e4
        subst e3
        rcases e4 with (⟨x, rfl⟩ | ⟨x, rfl⟩) | ⟨x, f, rfl, e2⟩
        · exact z_lvs_i e1
        · exact z_lvs_r e1
        · have hne : ¬ i = q1 + 1 := by
            intro c
            subst c
            rw [List.getElem?_set_self (by rw [h.2.1]; exact hi)] at e2
            rcases hvf with ⟨y, rfl⟩ | ⟨y, rfl⟩ <;> cases e2
          rw [List.getElem?_set_ne hne] at e2
          exact z_lvs_l e1 e2
      · obtain ⟨q1, q2⟩ := q
        dsimp only at e e1 e3 e4
        subst e3
        rcases e4 with (⟨x, rfl⟩ | ⟨x, rfl⟩) | ⟨x, f, rfl, e2⟩
        · simp [e, z_ren, Value.category]
        · simp [e, z_ren, Value.category]
        · have hne : ¬ q1 + 1 = i := by
            intro c
            subst c
            rw [List.getElem?_set_self (by rw [h.2.1]; exact hi)] at e2
            rcases hvf with ⟨y, rfl⟩ | ⟨y, rfl⟩ <;> cases e2
          simp [e, hne]
  · rcases List.mem_or_eq_of_mem_set hw with hw | rfl
    · exact h.2.2 w hw
    · exact hv
theorem z_L.putL {ad : Nat → Nat} {n nL i : Nat} {ls : List Value} {cl cl' : Array Slot} {x : Int64} (h : z_L ad n nL ls cl) (hi : i + 1 < nL)
    (h' : lv_has cl' nL ((i, .long x) :: (z_lvs ad ls).filter (fun q => !(q.1 == i) && (!(q.1 == i + 1) && !(q.1 + 1 == i && q.2.category == 2))))) : z_L ad n nL ((ls.set i (.long x)).set (i + 1) zTop) cl' := by
  have hs0 : ((ls.set i (.long x)).set (i + 1) zTop)[i]? = some (.long x) := by
    rw [List.getElem?_set_ne (by omega), List.getElem?_set_self (by rw [h.2.1]; omega)]
  have hs1 : ((ls.set i (.long x)).set (i + 1) zTop)[i + 1]? = some zTop := by
    rw [List.getElem?_set_self (by rw [List.length_set, h.2.1]; omega)]
  have hs2 : ∀ j, j ≠ i → j ≠ i + 1 → ((ls.set i (.long x)).set (i + 1) zTop)[j]? = ls[j]? := by
    intro j h1 h2
    rw [List.getElem?_set_ne (fun c => h2 c.symm), List.getElem?_set_ne (fun c => h1 c.symm)]
  refine ⟨⟨h'.1, h'.2.1, fun q hq => h'.2.2 q ?_⟩, by rw [List.length_set, List.length_set]; exact h.2.1, fun w hw => ?_⟩
  · obtain ⟨w, e1, e3, e4⟩ := z_lvs_in hq
    obtain ⟨q1, q2⟩ := q
    dsimp only at e1 e3 e4
    subst e3
    by_cases e : q1 = i
    · subst e
      rw [hs0] at e1
      cases e1
      exact List.mem_cons_self
    · by_cases e2 : q1 = i + 1
      · subst e2
        rw [hs1] at e1
        cases e1
        rcases e4 with (⟨x, e4⟩ | ⟨x, e4⟩) | ⟨x, f, e4, -⟩ <;> cases e4
      · rw [hs2 q1 e e2] at e1
        refine List.mem_cons_of_mem _ (List.mem_filter.mpr ?_)
        rcases e4 with (⟨x, rfl⟩ | ⟨x, rfl⟩) | ⟨x, f, rfl, e5⟩
        · refine ⟨z_lvs_i e1, ?_⟩
          simp [e, e2, z_ren, Value.category]
        · refine ⟨z_lvs_r e1, ?_⟩
          simp [e, e2, z_ren, Value.category]
        · have hne : ¬ q1 + 1 = i := by
            intro c
            rw [c, hs0] at e5
            cases e5
          rw [hs2 (q1 + 1) hne (by omega)] at e5
          refine ⟨z_lvs_l e1 e5, ?_⟩
          simp [e, e2, hne]
  · rcases List.mem_or_eq_of_mem_set hw with hw | rfl
    · rcases List.mem_or_eq_of_mem_set hw with hw | rfl
      · exact h.2.2 w hw
      · trivial
    · trivial
theorem z_cl_at : ∀ ci : Nat, ci < 10 → zCl[ci]? = some (zR ci, zTn ci, zN ci) := by
  intro ci h
  rcases (show ci = 0 ∨ ci = 1 ∨ ci = 2 ∨ ci = 3 ∨ ci = 4 ∨ ci = 5 ∨ ci = 6 ∨ ci = 7 ∨ ci = 8 ∨ ci = 9 by omega) with rfl | rfl | rfl | rfl | rfl | rfl | rfl | rfl | rfl | rfl <;> rfl
theorem z_hin (ci : Nat) (h : ci < 10) : ∀ w ∈ u_ws (zR ci) (zTn ci) (zN ci), w ∈ zT := by
  intro w hw
  have h1 := List.all_eq_true.mp zc_l_ok ci (List.mem_range.mpr h)
  unfold zc_l at h1
  simp only [Bool.and_eq_true, decide_eq_true_eq] at h1
  have h2 : some w ∈ (u_ws (zR ci) (zTn ci) (zN ci)).map some := List.mem_map_of_mem hw
  rw [← h1.1.1.1] at h2
  obtain ⟨i, -, hi⟩ := List.mem_map.mp h2
  exact z_in i hi (List.all_eq_true.mp h1.1.1.2 w hw)
theorem z_inst (ci : Nat) (h : ci < 10) : Jvm.Cond.instantiable (zR ci) (zN ci) ∈ zT ∧ Jvm.Cond.initialized (zR ci) ∈ zT := by
  have h1 := List.all_eq_true.mp zc_l_ok ci (List.mem_range.mpr h)
  unfold zc_l at h1
  simp only [Bool.and_eq_true, decide_eq_true_eq] at h1
  exact ⟨z_in _ h1.1.2 rfl, z_in _ h1.2 rfl⟩
theorem z_row (ci : Nat) (h : ci < 10) : (∀ a, a < zN ci → parseFieldDescriptor (zTn ci a).2.2.1 = some (zTy ci a)) ∧ (∀ a, a < zN ci → ∀ b, b < zN ci → a ≠ b → (zTn ci a).2.1 ≠ (zTn ci b).2.1) ∧ ∀ a, a < zN ci → (zTy ci a = .int ∧ z_isR ci a = false ∧ z_isZ ci a = false) ∨ (zTy ci a = .boolean ∧ z_isR ci a = false ∧ z_isZ ci a = true) ∨ (z_isR ci a = true ∧ ((∃ n, zTy ci a = .object n) ∨ ∃ t, zTy ci a = .array t)) := by
  have h1 := List.all_eq_true.mp z_row_ok ci (List.mem_range.mpr h)
  unfold z_rowOk at h1
  refine ⟨fun a ha => ?_, fun a ha b hb hab => ?_, fun a ha => ?_⟩
  · have h2 := List.all_eq_true.mp h1 a (List.mem_range.mpr ha)
    simp only [Bool.and_eq_true, decide_eq_true_eq] at h2
    exact h2.1.1
  · have h2 := List.all_eq_true.mp h1 a (List.mem_range.mpr ha)
    simp only [Bool.and_eq_true, decide_eq_true_eq] at h2
    have h3 := List.all_eq_true.mp h2.1.2 b (List.mem_range.mpr hb)
    simp only [Bool.or_eq_true, decide_eq_true_eq] at h3
    exact h3.resolve_left hab
  · have h2 := List.all_eq_true.mp h1 a (List.mem_range.mpr ha)
    simp only [Bool.and_eq_true] at h2
    have h3 := h2.2
    unfold z_isR z_isZ
    cases e : zTy ci a with
    | int => exact Or.inl ⟨rfl, rfl, rfl⟩
    | boolean => exact Or.inr (Or.inl ⟨rfl, rfl, rfl⟩)
    | object n => exact Or.inr (Or.inr ⟨rfl, Or.inl ⟨n, rfl⟩⟩)
    | array t => exact Or.inr (Or.inr ⟨rfl, Or.inr ⟨t, rfl⟩⟩)
    | _ => rw [e] at h3; cases h3
-- what the Statement's tables say at a state, the words of nest mates among it
def z_isN (w : Jvm.Cond) : Bool := match w with
  | .fieldLinkNest .. => true
  | .methodLinkNest .. => true
  | _ => false
def z_K (D : va_G) (s : State) : Prop := va_K D zCl [] s ∧ (∀ w ∈ lw_tbl, z_isN w = true → va_Nw w s) ∧ va_AO RX2 s ∧ va_AOA .int s
theorem z_AOA_spec {ty : FieldType} {s : State} (h : va_AOA ty s) :
    ∃ comp c k, s.vm.findClass (FieldType.array ty).toString = some comp ∧ (s.vm.classes.findIdx? fun x => match x.kind with | .array component _ => component == comp | _ => false) = some c ∧ s.vm.classes[c]? = some k ∧ k.kind = .array comp (.array ty) ∧
      s.vm.findClass ("[" ++ (FieldType.array ty).toString) = some c := by
  unfold va_AOA Jvm.Cond.before at h
  simp only [Jvm.Cond.holds, Jvm.Cond.value, beq_iff_eq] at h
  cases hc : s.vm.findClass (FieldType.array ty).toString with
  | none => simp [hc] at h
  | some comp =>
    simp only [hc, Option.bind_some, Option.bind_eq_some_iff, Option.map_eq_some_iff] at h
    obtain ⟨c, hi, k, hk, hb⟩ := h
    obtain ⟨hlt, hp, -⟩ := Array.findIdx?_eq_some_iff_getElem.mp hi
    have hkk : s.vm.classes[c] = k := (Array.getElem?_eq_some_iff.mp hk).2
    rw [hkk] at hp
    cases hkind : k.kind with
    | array component ty1 =>
      rw [hkind] at hb hp
      simp at hb hp
      exact ⟨comp, c, k, rfl, hi, hk, by rw [hkind, hp, hb.1], hb.2⟩
    | _ => rw [hkind] at hb; simp at hb
theorem va_AOA.moved {ty : FieldType} {u U : State} (hvm : u.vm.Alike U.vm) (h : va_AOA ty u) : va_AOA ty U := by
  obtain ⟨comp, c, k, h1, h2, h3, h4, h5⟩ := z_AOA_spec h
  obtain ⟨k', hk', he⟩ := hvm.2.2 _ _ h3
  have hi : (U.vm.classes.findIdx? fun (x : Class) => match x.kind with | .array component _ => component == comp | _ => false) = some c := by
    have e1 := va_idx_bare U.vm comp
    have e2 := va_idx_bare u.vm comp
    first | rw [hvm.bare_eq] at e1 | rw [← hvm.bare_eq] at e1
    exact e1.symm.trans (e2.trans h2)
  have hkind : k'.kind = .array comp (.array ty) := by rw [he]; exact h4
  have f1 : U.vm.findClass (FieldType.array ty).toString = some comp := by rw [hvm.findClass]; exact h1
  have f2 : U.vm.findClass ("[" ++ (FieldType.array ty).toString) = some c := by rw [hvm.findClass]; exact h5
  unfold va_AOA Jvm.Cond.before Jvm.Cond.holds
  simp only [Jvm.Cond.value]
  rw [f1, Option.bind_some]
  refine (congrArg (fun o : Option Nat => (o.bind (fun c => (U.vm.classes[c]?).map fun (k : Class) => match k.kind with | .array _ ty1 => decide (ty1 = FieldType.array ty) && decide (U.vm.findClass ("[" ++ (FieldType.array ty).toString) = some c) | _ => false) == some true)) hi).trans ?_
  simp [hk', hkind, f2]
theorem va_AOA.of {ty : FieldType} {A : Array Value} {U : State} (h : (Jvm.Cond.arrayOver (.array ty)).before A U = true) : va_AOA ty U := h
theorem z_K.warm {D : va_G} {s U : State} (hW : s.WarmedH U.vm) (h : z_K D s) : z_K D U := by
  refine ⟨va_K.moved hW.alike h.1, fun w hw hn => ?_, va_AO.moved hW.alike h.2.2.1, ?_⟩
  · have h1 := h.2.1 w hw hn
    cases w <;> first | (cases hn; done) | exact va_Nw.warmF hW h1 | exact va_Nw.warmM hW h1
  · exact va_AOA.moved hW.alike h.2.2.2
theorem z_K.same {D : va_G} {u U : State} (hv : u.vm = U.vm) (h : z_K D u) : z_K D U := by
  refine ⟨va_K.moved (by rw [hv]; exact Vm.Alike.refl _) h.1, fun w hw hn => ?_, va_AO.moved (by rw [hv]; exact Vm.Alike.refl _) h.2.2.1, ?_⟩
  · have h1 := h.2.1 w hw hn
    cases w <;> first | (cases hn; done) | exact va_Nw.same rfl hv h1
  · exact va_AOA.moved (by rw [hv]; exact Vm.Alike.refl _) h.2.2.2
theorem z_arr.moved {cA : Nat → ClassId} {h : zA} {u U : State} (hv : u.vm.Alike U.vm) (q : z_arr cA h u) : z_arr cA h U := fun i h1 h2 h3 => ⟨arrOfT_moved hv (q i h1 h2 h3).1, (q i h1 h2 h3).2.moved hv⟩
theorem z_kty {D : va_G} {s : State} {cA : ClassId} {ty : FieldType} (hK : z_K D s) (h : ArrOfT s cA ty ∧ va_RA s cA ty) : va_K D zCl [(cA, ty)] s := by
  refine ⟨hK.1.1, fun k q hk => ?_⟩
  have h0 : k < 1 := (List.getElem?_eq_some_iff.mp hk).1
  rw [show k = 0 by omega] at hk
  cases hk
  exact h
/-- a frame's fixed part -/
def zX (p : Program) (R : Room) (s : State) (m : MethodId) (args : Array Value) (meth : Method) (c : Code) (D : va_G) (k : Nat) : Prop :=
  p.tables.exec = Jvm.exec ∧ c.code = z_code k ∧ c.maxLocals = z_ml k ∧ s.vm.findClass (zR (z_cls k)) = some m.cls ∧ (∀ w ∈ zT, w.before args s = true) ∧ (z_kd k = 2 → meth.name = "<init>") ∧ z_K D s ∧ z_fr k ≤ R.frames ∧ z_lo k ≤ R.locals
/-- a frame's world -/
def zS (s : State) (D : va_G) (A : Nat → Prop) (H0 : Heap) (cA : Nat → ClassId) (ad : Nat → Nat) (h : zA) (H : Heap) (locs : List Loc) : Prop :=
  va_P D zCl (z_ws cA ad h) H ∧ va_D A (z_ws cA ad h) ∧ va_S A H0 H locs ∧ z_arr cA h s ∧ z_hw h ∧ ∀ q, H0.size ≤ q → A q
/-- the script, for the law's own frame -/
def zXs (sc : Nat × (Nat → Int32)) (k : Nat) (A : Nat → Prop) (s : State) (H0 : Heap) (ad : Nat → Nat) : Prop := k = zLaw → ad 0 < H0.size ∧ ¬ A (ad 0) ∧ va_X (ad 0) sc.1 sc.2 s H0
section ZPURE
variable {p : Program} {l : Launch} {e : Env} {R : Room} {s : State} {m : MethodId} {args : Array Value} {below : List Frame} {meth : Method} {c : Code} {H : Heap} {locs : List Loc} {cells slots : Nat} {Q : State → Prop}
variable {D : va_G} {k pc len n : Nat} {ad : Nat → Nat} {ls ls' st st' : List Value} {cl : Array Slot} {pc' : Nat}
abbrev zKK (p : Program) (l : Launch) (e : Env) (R : Room) (s : State) (m : MethodId) (args : Array Value) (below : List Frame) (meth : Method) (c : Code) (H : Heap) (locs : List Loc) (cells slots : Nat) (Q : State → Prop) (ad : Nat → Nat) (n k : Nat) (q : zF) : Prop :=
  ∀ cl' : Array Slot, z_L ad n (z_ml k) q.2.1 cl' → (∀ v ∈ q.2.2, z_wf n v) → W p l e R s m args below meth c H locs cells slots Q (F0 m q.1 cl' (q.2.2.map (z_ren ad)))
theorem z_W_ldi {i : Nat} {q : zF} (hL : z_L ad n (z_ml k) ls cl) (hst : ∀ v ∈ st, z_wf n v) (h : z_ldi ls st i pc' = some q)
    (kk : zKK p l e R s m args below meth c H locs cells slots Q ad n k q) (go : ∀ x : Int32, cl[i]? = some (.val (.int x)) → W p l e R s m args below meth c H locs cells slots Q (F0 m pc' cl (.int x :: st.map (z_ren ad))) → W p l e R s m args below meth c H locs cells slots Q (F0 m pc cl (st.map (z_ren ad)))) : W p l e R s m args below meth c H locs cells slots Q (F0 m pc cl (st.map (z_ren ad))) := by
  unfold z_ldi at h
  split at h
  next x e1 =>
    cases h
    exact go x (hL.1.2.2 _ (z_lvs_i e1)) (kk cl hL (z_wc trivial hst))
  next => cases h
theorem z_W_lda {i : Nat} {q : zF} (hL : z_L ad n (z_ml k) ls cl) (hst : ∀ v ∈ st, z_wf n v) (h : z_lda ls st i pc' = some q)
    (kk : zKK p l e R s m args below meth c H locs cells slots Q ad n k q) (go : ∀ x : Nat, cl[i]? = some (.val (.ref x)) → W p l e R s m args below meth c H locs cells slots Q (F0 m pc' cl (.ref x :: st.map (z_ren ad))) → W p l e R s m args below meth c H locs cells slots Q (F0 m pc cl (st.map (z_ren ad)))) : W p l e R s m args below meth c H locs cells slots Q (F0 m pc cl (st.map (z_ren ad))) := by
  unfold z_lda at h
  split at h
  next x e1 =>
    cases h
    exact go (ad x) (hL.1.2.2 _ (z_lvs_r e1)) (kk cl hL (z_wc (hL.2.2 _ (List.mem_of_getElem? e1)) hst))
  next => cases h
theorem z_W_ldl {i : Nat} {q : zF} (hL : z_L ad n (z_ml k) ls cl) (hst : ∀ v ∈ st, z_wf n v) (h : z_ldl ls st i pc' = some q)
    (kk : zKK p l e R s m args below meth c H locs cells slots Q ad n k q) (go : ∀ x : Int64, cl[i]? = some (.val (.long x)) → W p l e R s m args below meth c H locs cells slots Q (F0 m pc' cl (.long x :: st.map (z_ren ad))) → W p l e R s m args below meth c H locs cells slots Q (F0 m pc cl (st.map (z_ren ad)))) : W p l e R s m args below meth c H locs cells slots Q (F0 m pc cl (st.map (z_ren ad))) := by
  unfold z_ldl at h
  split at h
  next x e1 =>
    split at h
    next f e2 =>
      cases h
      exact go x (hL.1.2.2 _ (z_lvs_l e1 e2)) (kk cl hL (z_wc trivial hst))
    next => cases h
  next => cases h
theorem z_W_br {r : List Value} {off : Int} {b : Bool} {q : zF} (hL : z_L ad n (z_ml k) ls cl) (hst : ∀ v ∈ r, z_wf n v) (h : z_br ls r pc off b = some q)
    (kk : zKK p l e R s m args below meth c H locs cells slots Q ad n k q) (Z : Prop) (go : ∀ tgt : Nat, (pc : Int) + off = (tgt : Int) → (b = true → W p l e R s m args below meth c H locs cells slots Q (F0 m tgt cl (r.map (z_ren ad)))) → (b = false → W p l e R s m args below meth c H locs cells slots Q (F0 m (pc + 3) cl (r.map (z_ren ad)))) → Z) : Z := by
  unfold z_br at h
  split at h
  next c1 =>
    cases h
    have k2 := kk cl hL hst
    refine go ((pc : Int) + off).toNat (by omega) (fun hb => ?_) (fun hb => ?_)
    · subst hb; exact k2
    · subst hb; exact k2
  next => cases h
theorem z_W_go {r : List Value} {off : Int} {q : zF} (hL : z_L ad n (z_ml k) ls cl) (hst : ∀ v ∈ r, z_wf n v) (h : z_go ls r pc off = some q)
    (kk : zKK p l e R s m args below meth c H locs cells slots Q ad n k q) (Z : Prop) (go : ∀ tgt : Nat, (pc : Int) + off = (tgt : Int) → W p l e R s m args below meth c H locs cells slots Q (F0 m tgt cl (r.map (z_ren ad))) → Z) : Z := by
  unfold z_go at h
  split at h
  next c1 =>
    cases h
    exact go ((pc : Int) + off).toNat (by omega) (kk cl hL hst)
  next => cases h
theorem z_W_kst {i : Nat} {q : zF} (X : zX p R s m args meth c D k) (hL : z_L ad n (z_ml k) ls cl) (hst : ∀ v ∈ st, z_wf n v) (h : z_kst k i pc' ls st = some q)
    (kk : zKK p l e R s m args below meth c H locs cells slots Q ad n k q) (go : ∀ v : Int32, (Jvm.Cond.constant (zR (z_cls k)) i v).before args s = true → W p l e R s m args below meth c H locs cells slots Q (F0 m pc' cl (.int v :: st.map (z_ren ad))) → W p l e R s m args below meth c H locs cells slots Q (F0 m pc cl (st.map (z_ren ad)))) : W p l e R s m args below meth c H locs cells slots Q (F0 m pc cl (st.map (z_ren ad))) := by
  unfold z_kst at h
  split at h
  next r e1 =>
    cases h
    have h1 := List.all_eq_true.mp zc_k_ok _ (z_lkK_in e1)
    unfold zc_k at h1
    simp only [decide_eq_true_eq] at h1
    exact go r.1 (X.2.2.2.2.1 _ (z_in _ h1 rfl)) (kk cl hL (z_wc trivial hst))
  next => cases h
theorem z_pure_W {ins : Instr} {q : zF} (X : zX p R s m args meth c D k) (hdg : decode (z_code k) pc = .ok (ins, len)) (hlen : len = z_len ins len) (hL : z_L ad n (z_ml k) ls cl) (hst : ∀ v ∈ st, z_wf n v) (h : z_pure k ins pc ls st = some q)
    (kk : zKK p l e R s m args below meth c H locs cells slots Q ad n k q) : W p l e R s m args below meth c H locs cells slots Q (F0 m pc cl (st.map (z_ren ad))) := by
  have hx := X.1
  have hb := X.2.1
  have hown := X.2.2.2.1
  cases ins with
  | iconst v => cases h; obtain rfl : len = 1 := hlen; exact lv_iconst hx hb hdg rfl (kk cl hL (z_wc trivial hst))
  | bipush v => cases h; obtain rfl : len = 2 := hlen; exact lv_bipush hx hb hdg rfl (kk cl hL (z_wc trivial hst))
  | sipush v => cases h; obtain rfl : len = 3 := hlen; exact lv_sipush hx hb hdg rfl (kk cl hL (z_wc trivial hst))
  | ldc i => obtain rfl : len = 2 := hlen; exact z_W_kst X hL hst h kk (fun v hv k2 => lv_ldc hx hb hown hv hdg k2)
  | ldc_w i => obtain rfl : len = 3 := hlen; exact z_W_kst X hL hst h kk (fun v hv k2 => lv_ldcw hx hb hown hv hdg k2)
  | iload_n i => obtain rfl : len = 1 := hlen; exact z_W_ldi hL hst h kk (fun x hv k2 => lv_iload_n hx hb hdg rfl hv k2)
  | iload i => obtain rfl : len = 2 := hlen; exact z_W_ldi hL hst h kk (fun x hv k2 => lv_iload hx hb hdg hv k2)
  | aload_n i => obtain rfl : len = 1 := hlen; exact z_W_lda hL hst h kk (fun x hv k2 => lv_aload_n hx hb hdg rfl hv k2)
  | aload i => obtain rfl : len = 2 := hlen; exact z_W_lda hL hst h kk (fun x hv k2 => lv_aload hx hb hdg hv k2)
  | istore_n i =>
    obtain rfl : len = 1 := hlen
    replace h := z_i1_s h; obtain ⟨x, r, rfl, h⟩ := h
    try dsimp only at h
    split at h
    next hi =>
      cases h
      rw [hL.2.1] at hi
      exact lv_istore_n hx hb hdg rfl hL.1 hi rfl (fun ls' h' => kk ls' (hL.put (v := .int x) trivial (Or.inl ⟨_, rfl⟩) hi h') (fun v hv => hst v (List.mem_cons_of_mem _ hv)))
    next => cases h
  | istore i =>
    obtain rfl : len = 2 := hlen
    replace h := z_i1_s h; obtain ⟨x, r, rfl, h⟩ := h
    try dsimp only at h
    split at h
    next hi =>
      cases h
      rw [hL.2.1] at hi
      exact lv_istore hx hb hdg hL.1 hi rfl (fun ls' h' => kk ls' (hL.put (v := .int x) trivial (Or.inl ⟨_, rfl⟩) hi h') (fun v hv => hst v (List.mem_cons_of_mem _ hv)))
    next => cases h
  | astore_n i =>
    obtain rfl : len = 1 := hlen
    replace h := z_r1_s h; obtain ⟨x, r, rfl, h⟩ := h
    try dsimp only at h
    split at h
    next hi =>
      cases h
      rw [hL.2.1] at hi
      exact lv_astore_n hx hb hdg rfl hL.1 hi rfl (fun ls' h' => kk ls' (hL.put (v := .ref x) (hst _ List.mem_cons_self) (Or.inr ⟨_, rfl⟩) hi h') (fun v hv => hst v (List.mem_cons_of_mem _ hv)))
    next => cases h
  | astore i =>
    obtain rfl : len = 2 := hlen
    replace h := z_r1_s h; obtain ⟨x, r, rfl, h⟩ := h
    try dsimp only at h
    split at h
    next hi =>
      cases h
      rw [hL.2.1] at hi
      exact lv_astore hx hb hdg hL.1 hi rfl (fun ls' h' => kk ls' (hL.put (v := .ref x) (hst _ List.mem_cons_self) (Or.inr ⟨_, rfl⟩) hi h') (fun v hv => hst v (List.mem_cons_of_mem _ hv)))
    next => cases h
  | iinc i v =>
    obtain rfl : len = 3 := hlen
    unfold z_pure z_inc at h
    try dsimp only at h
    split at h
    next x e1 =>
      split at h
      next hi =>
        cases h
        rw [hL.2.1] at hi
        obtain ⟨j, hj⟩ := List.getElem?_of_mem (z_lvs_i (ad := ad) e1)
        exact lv_iinc hx hb hdg hL.1 hj rfl hi rfl (fun ls' h' => kk ls' (hL.put (v := .int (x + Int32.ofInt v)) trivial (Or.inl ⟨_, rfl⟩) hi h') hst)
      next => cases h
    next => cases h
  | iadd => obtain rfl : len = 1 := hlen; replace h := z_i2_s h; obtain ⟨x, y, r, rfl, h⟩ := h; cases h; exact lv_iadd hx hb hdg (kk cl hL (z_wc trivial (z_wt (z_wt hst))))
  | isub => obtain rfl : len = 1 := hlen; replace h := z_i2_s h; obtain ⟨x, y, r, rfl, h⟩ := h; cases h; exact lv_isub hx hb hdg (kk cl hL (z_wc trivial (z_wt (z_wt hst))))
  | imul => obtain rfl : len = 1 := hlen; replace h := z_i2_s h; obtain ⟨x, y, r, rfl, h⟩ := h; cases h; exact lv_imul hx hb hdg (kk cl hL (z_wc trivial (z_wt (z_wt hst))))
  | iand => obtain rfl : len = 1 := hlen; replace h := z_i2_s h; obtain ⟨x, y, r, rfl, h⟩ := h; cases h; exact lv_iand hx hb hdg (kk cl hL (z_wc trivial (z_wt (z_wt hst))))
  | idiv =>
    obtain rfl : len = 1 := hlen
    replace h := z_i2_s h; obtain ⟨x, y, r, rfl, h⟩ := h
    try dsimp only at h
    split at h
    next => cases h
    next hy => cases h; exact lv_idiv hx hb hdg hy (kk cl hL (z_wc trivial (z_wt (z_wt hst))))
  | irem =>
    obtain rfl : len = 1 := hlen
    replace h := z_i2_s h; obtain ⟨x, y, r, rfl, h⟩ := h
    try dsimp only at h
    split at h
    next => cases h
    next hy => cases h; exact lv_irem hx hb hdg hy (kk cl hL (z_wc trivial (z_wt (z_wt hst))))
  | ineg => obtain rfl : len = 1 := hlen; replace h := z_i1_s h; obtain ⟨x, r, rfl, h⟩ := h; cases h; exact lv_ineg hx hb hdg (kk cl hL (z_wc trivial (z_wt hst)))
  | i2c => obtain rfl : len = 1 := hlen; replace h := z_i1_s h; obtain ⟨x, r, rfl, h⟩ := h; cases h; exact lv_i2c hx hb hdg rfl (kk cl hL (z_wc trivial (z_wt hst)))
  | dup =>
    obtain rfl : len = 1 := hlen
    replace h := z_v1_s h; obtain ⟨x, r, rfl, h⟩ := h
    try dsimp only at h
    split at h
    next hc =>
      cases h
      have hw := hst x List.mem_cons_self
      exact lv_dup hx hb hdg (z_cat hw hc) (kk cl hL (z_wc hw hst))
    next => cases h
  | ldc2_w i =>
    obtain rfl : len = 3 := hlen
    change z_kstL k i (pc + 3) ls st = some q at h
    unfold z_kstL at h
    split at h
    next r e1 =>
      cases h
      have h1 := List.all_eq_true.mp zc_kl_ok _ (z_lkL_in e1)
      unfold zc_kl at h1
      simp only [decide_eq_true_eq] at h1
      exact lv_ldc2 hx hb hown (X.2.2.2.2.1 _ (z_in _ h1 rfl)) hdg (kk cl hL (z_wc trivial hst))
    next => cases h
  | lload_n i => obtain rfl : len = 1 := hlen; exact z_W_ldl hL hst h kk (fun x hv k2 => lv_lload_n hx hb hdg rfl hv k2)
  | lload i => obtain rfl : len = 2 := hlen; exact z_W_ldl hL hst h kk (fun x hv k2 => lv_lload hx hb hdg hv k2)
  | lstore_n i =>
    obtain rfl : len = 1 := hlen
    replace h := z_l1_s h; obtain ⟨x, r, rfl, h⟩ := h
    try dsimp only at h
    split at h
    next hi =>
      cases h
      rw [hL.2.1] at hi
      exact lv_lstore_n hx hb hdg rfl hL.1 hi rfl (fun ls' h' => kk ls' (hL.putL hi h') (fun v hv => hst v (List.mem_cons_of_mem _ hv)))
    next => cases h
  | lstore i =>
    obtain rfl : len = 2 := hlen
    replace h := z_l1_s h; obtain ⟨x, r, rfl, h⟩ := h
    try dsimp only at h
    split at h
    next hi =>
      cases h
      rw [hL.2.1] at hi
      exact lv_lstore hx hb hdg hL.1 hi rfl (fun ls' h' => kk ls' (hL.putL hi h') (fun v hv => hst v (List.mem_cons_of_mem _ hv)))
    next => cases h
  | ladd => obtain rfl : len = 1 := hlen; replace h := z_l2_s h; obtain ⟨x, y, r, rfl, h⟩ := h; cases h; exact lv_ladd hx hb hdg (kk cl hL (z_wc trivial (z_wt (z_wt hst))))
  | lmul => obtain rfl : len = 1 := hlen; replace h := z_l2_s h; obtain ⟨x, y, r, rfl, h⟩ := h; cases h; exact lv_lmul hx hb hdg (kk cl hL (z_wc trivial (z_wt (z_wt hst))))
  | lcmp => obtain rfl : len = 1 := hlen; replace h := z_l2_s h; obtain ⟨x, y, r, rfl, h⟩ := h; cases h; exact W.lcmp hx hb hdg (kk cl hL (z_wc trivial (z_wt (z_wt hst))))
  | i2l => obtain rfl : len = 1 := hlen; replace h := z_i1_s h; obtain ⟨x, r, rfl, h⟩ := h; cases h; exact lv_i2l hx hb hdg rfl (kk cl hL (z_wc trivial (z_wt hst)))
  | ishr => obtain rfl : len = 1 := hlen; replace h := z_i2_s h; obtain ⟨x, y, r, rfl, h⟩ := h; cases h; exact lv_ishr hx hb hdg (kk cl hL (z_wc trivial (z_wt (z_wt hst))))
  | ifCond cd off =>
    obtain rfl : len = 3 := hlen
    replace h := z_i1_s h; obtain ⟨x, r, rfl, h⟩ := h
    refine z_W_br hL (fun v hv => hst v (List.mem_cons_of_mem _ hv)) h kk _ (fun tgt ht h1 h0 => ?_)
    cases cd with
    | eq => exact lv_if_eq hx hb hdg ht (fun q => h1 (decide_eq_true q)) (fun q => h0 (decide_eq_false q))
    | ne => exact lv_if_ne hx hb hdg ht (fun q => h1 (decide_eq_true q)) (fun q => h0 (decide_eq_false (fun z => z q)))
    | lt => exact lv_if_lt hx hb hdg ht (fun q => h1 (decide_eq_true q)) (fun q => h0 (decide_eq_false q))
    | ge => exact lv_if_ge hx hb hdg ht (fun q => h1 (decide_eq_true q)) (fun q => h0 (decide_eq_false q))
    | gt => exact lv_if_gt hx hb hdg ht (fun q => h1 (decide_eq_true q)) (fun q => h0 (decide_eq_false q))
    | le => exact lv_if_le hx hb hdg ht (fun q => h1 (decide_eq_true q)) (fun q => h0 (decide_eq_false q))
  | if_icmp cd off =>
    obtain rfl : len = 3 := hlen
    replace h := z_i2_s h; obtain ⟨x, y, r, rfl, h⟩ := h
    refine z_W_br hL (fun v hv => hst v (List.mem_cons_of_mem _ (List.mem_cons_of_mem _ hv))) h kk _ (fun tgt ht h1 h0 => ?_)
    cases cd with
    | eq => exact lv_icmp_eq hx hb hdg ht (fun q => h1 (decide_eq_true q)) (fun q => h0 (decide_eq_false q))
    | ne => exact lv_icmp_ne hx hb hdg ht (fun q => h1 (decide_eq_true q)) (fun q => h0 (decide_eq_false (fun z => z q)))
    | lt => exact lv_icmp_lt hx hb hdg ht (fun q => h1 (decide_eq_true q)) (fun q => h0 (decide_eq_false q))
    | ge => exact lv_icmp_ge hx hb hdg ht (fun q => h1 (decide_eq_true q)) (fun q => h0 (decide_eq_false q))
    | gt => exact lv_icmp_gt hx hb hdg ht (fun q => h1 (decide_eq_true q)) (fun q => h0 (decide_eq_false q))
    | le => exact lv_icmp_le hx hb hdg ht (fun q => h1 (decide_eq_true q)) (fun q => h0 (decide_eq_false q))
  | goto off => obtain rfl : len = 3 := hlen; exact z_W_go hL hst h kk _ (fun tgt ht k2 => lv_goto hx hb hdg ht k2)
  | tableswitch d lo hi offs =>
    replace h := z_i1_s h; obtain ⟨x, r, rfl, h⟩ := h
    have hr : ∀ v ∈ r, z_wf n v := fun v hv => hst v (List.mem_cons_of_mem _ hv)
    unfold z_tab at h
    split at h
    next hc => exact z_W_go hL hr h kk _ (fun tgt ht k2 => lv_tableOut hx hb hdg hc ht k2)
    next hc =>
      split at h
      next off ho => exact z_W_go hL hr h kk _ (fun tgt ht k2 => lv_tableIn hx hb hdg (fun z => hc (Or.inl z)) (fun z => hc (Or.inr z)) ho ht k2)
      next => cases h
  | lookupswitch d ps =>
    replace h := z_i1_s h; obtain ⟨x, r, rfl, h⟩ := h
    have hr : ∀ v ∈ r, z_wf n v := fun v hv => hst v (List.mem_cons_of_mem _ hv)
    unfold z_swi at h
    split at h
    next hc => exact z_W_go hL hr h kk _ (fun tgt ht k2 => lv_lookup hx hb hdg hc rfl ht k2)
    next => cases h
  | _ => cases h
end ZPURE
