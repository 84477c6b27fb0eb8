/-! ===== what a run comes to: zEv, and a row an instruction over the heap behind the constructors ===== -/
theorem zex : ∃ c : Nat × (Nat → Nat × Nat) × (Nat → Nat → Option Nat) × (Nat → Nat → Int32), zi_a = some (none, zi_3) ∧ zi_3 = (90, c.1, c.2.1, c.2.2.2, c.2.2.1) ∧ c.1 ≤ 7000000 ∧ (∀ i, i < 91 → c.2.1 i = zi_sh.getD i (0, 0)) ∧ (∀ q ∈ zi_rv, c.2.2.1 q.1 q.2.1 = some q.2.2) ∧ ∀ a, a < 91 → ∀ b, b < 12 → c.2.2.2 a b = zi_at a b := by
  have h := zi_ok
  unfold zi_chk at h
  simp only [Bool.and_eq_true, decide_eq_true_eq] at h
  obtain ⟨⟨⟨⟨⟨h1, h4⟩, h5⟩, h6⟩, h7⟩, h8⟩ := h
  have g1 : zi_a = some (none, zi_3) := by
    unfold zi_3 zi_1
    revert h1
    generalize zi_a = z
    intro h1
    match z, h1 with
    | some (none, _), _ => rfl
  have f6 : ∀ i, i < 91 → zi_3.2.2.1 i = zi_sh.getD i (0, 0) := fun i hi => of_decide_eq_true (List.all_eq_true.mp h6 i (List.mem_range.mpr hi))
  have f7 : ∀ q ∈ zi_rv, zi_3.2.2.2.2 q.1 q.2.1 = some q.2.2 := fun q hq => of_decide_eq_true (List.all_eq_true.mp h7 q hq)
  have f8 : ∀ a, a < 91 → ∀ b, b < 12 → zi_3.2.2.2.1 a b = zi_at a b := fun a ha b hb => of_decide_eq_true (List.all_eq_true.mp (List.all_eq_true.mp h8 a (List.mem_range.mpr ha)) b (List.mem_range.mpr hb))
  clear h1 h6 h7 h8
  generalize zi_3 = z3 at *
  obtain ⟨n3, s3, sh3, iv3, rv3⟩ := z3
  dsimp only at h4 h5 f6 f7 f8
  subst h4
  exact ⟨(s3, sh3, rv3, iv3), g1, rfl, h5, f6, f7, f8⟩
noncomputable def zc : Nat × (Nat → Nat × Nat) × (Nat → Nat → Option Nat) × (Nat → Nat → Int32) := Classical.choose zex
theorem zc_ok : zi_a = some (none, zi_3) ∧ zi_3 = (90, zc.1, zc.2.1, zc.2.2.2, zc.2.2.1) ∧ zc.1 ≤ 7000000 ∧ (∀ i, i < 91 → zc.2.1 i = zi_sh.getD i (0, 0)) ∧ (∀ q ∈ zi_rv, zc.2.2.1 q.1 q.2.1 = some q.2.2) ∧ ∀ a, a < 91 → ∀ b, b < 12 → zc.2.2.2 a b = zi_at a b := Classical.choose_spec zex
/-- the references: those of the history's row are told beside -/
noncomputable def zRV (p : Nat → Option Nat) : Nat → Nat → Option Nat := fun i k => if i = 27 then p k else zc.2.2.1 i k
noncomputable def zst (p : Nat → Option Nat) (iv : Nat → Nat → Int32) : zA := (90, zc.1, zc.2.1, iv, zRV p)
def w2 (iv : Nat → Nat → Int32) (a f : Nat) (x : Int32) : Nat → Nat → Int32 := va_up iv a (upd (iv a) f x)
theorem w2_at {iv : Nat → Nat → Int32} {a f : Nat} {x : Int32} (c g : Nat) : w2 iv a f x c g = if c = a ∧ g = f then x else iv c g := by
  unfold w2 va_up upd
  by_cases h1 : c = a
  · subst h1
    by_cases h2 : g = f
    · simp [h2]
    · simp [h2]
  · simp [h1]
theorem w2_eq {iv : Nat → Nat → Int32} {a f : Nat} {x : Int32} : w2 iv a f x a f = x := by rw [w2_at, if_pos ⟨rfl, rfl⟩]
theorem w2_c {iv : Nat → Nat → Int32} {a f c : Nat} {x : Int32} (h : c ≠ a) : w2 iv a f x c = iv c := funext fun g => by rw [w2_at, if_neg (fun z => h z.1)]
theorem w2_g {iv : Nat → Nat → Int32} {a f c g : Nat} {x : Int32} (h : g ≠ f) : w2 iv a f x c g = iv c g := by rw [w2_at, if_neg (fun z => h z.2)]
/-- a cell's kind, an array's length -/
def zO (a kd : Nat) : Prop := 1 ≤ a ∧ a ≤ 90 ∧ (zc.2.1 a).1 = kd
noncomputable def zLn (a : Nat) : Nat := (zc.2.1 a).2
theorem zO_of {a : Nat} (h1 : 1 ≤ a) (h2 : a < 91) : zO a (zi_sh.getD a (0, 0)).1 := ⟨h1, by omega, by rw [zc_ok.2.2.2.1 a h2]⟩
theorem zLn_of {a : Nat} (h2 : a < 91) : zLn a = (zi_sh.getD a (0, 0)).2 := by unfold zLn; rw [zc_ok.2.2.2.1 a h2]
theorem zRV_of {p : Nat → Option Nat} {a f j : Nat} (h : (a, f, j) ∈ zi_rv) (ha : a ≠ 27) : zRV p a f = some j := by
  unfold zRV
  rw [if_neg ha]
  exact zc_ok.2.2.2.2.1 _ h
theorem zRV_27 {p : Nat → Option Nat} {f : Nat} : zRV p 27 f = p f := if_pos rfl
def zRef (o : Option Nat) (f : Nat → Prop) : Prop := match o with
  | some j => f j
  | none => False
theorem zRef_some {j : Nat} {f : Nat → Prop} : zRef (some j) f = f j := rfl
def zb (b : Bool) : Int32 := match b with
  | true => 1
  | false => 0
theorem zb_t : zb true = 1 := rfl
theorem zb_f : zb false = 0 := rfl
theorem zb_0 {b : Bool} : (zb b = 0) = (b = false) := by cases b <;> simp [zb]
theorem zb_n {b : Bool} : (¬ zb b = 0) = (b = true) := by cases b <;> simp [zb]
theorem zb_01 {b : Bool} : zb b = 0 ∨ zb b = 1 := by cases b <;> simp [zb]
def zEv (sc : Nat × (Nat → Int32)) (k pc : Nat) (ls st : List Value) (h : zA) (Q : Option Value → zA → Prop) : Prop := ∃ (n : Nat) (r : Option Value × zA), z_run sc n k pc ls st h = some r ∧ Q r.1 r.2
section ZEV
variable {sc : Nat × (Nat → Int32)} {k pc len : Nat} {ls ls2 st rest as : List Value} {h : zA} {Q : Option Value → zA → Prop} {p : Nat → Option Nat} {iv : Nat → Nat → Int32} {ins : Instr} {i ci f nt tt a y kd : Nat} {x x1 x2 : Int32}
theorem zEv_step {q : zH} (h1 : z_end k pc st = none) (h2 : z_step sc k pc ls st h = some q) : zEv sc k pc ls st h Q ↔ zEv sc k q.1 q.2.1 q.2.2.1 q.2.2.2 Q := by
  constructor
  · rintro ⟨n, r, hr, hq⟩
    cases n with
    | zero => cases hr
    | succ n =>
      unfold z_run at hr
      rw [h1, h2] at hr
      exact ⟨n, r, hr, hq⟩
  · rintro ⟨n, r, hr, hq⟩
    refine ⟨n + 1, r, ?_, hq⟩
    unfold z_run
    rw [h1, h2]
    exact hr
theorem zEv_ret {r : Option Value} (h1 : z_end k pc st = some r) : zEv sc k pc ls st h Q ↔ Q r h := by
  constructor
  · rintro ⟨n, r2, hr, hq⟩
    cases n with
    | zero => cases hr
    | succ n =>
      unfold z_run at hr
      rw [h1] at hr
      cases hr
      exact hq
  · intro hq
    refine ⟨1, (r, h), ?_, hq⟩
    unfold z_run
    rw [h1]
theorem zEv_call {q : Nat × List Value × List Value} (h1 : z_end k pc st = none) (h2 : z_step sc k pc ls st h = none) (h3 : z_inv k pc st h = some q) : zEv sc k pc ls st h Q ↔ zEv sc q.1 0 (q.2.1 ++ List.replicate (z_ml q.1 - q.2.1.length) .null) [] h (fun r h' => zEv sc k (pc + 3) ls (r.toList ++ q.2.2) h' Q) := by
  constructor
  · rintro ⟨n, r, hr, hq⟩
    cases n with
    | zero => cases hr
    | succ n =>
      unfold z_run at hr
      rw [h1, h2, h3] at hr
      dsimp only at hr
      cases h4 : z_run sc n q.1 0 (q.2.1 ++ List.replicate (z_ml q.1 - q.2.1.length) .null) [] h with
      | none => rw [h4] at hr; cases hr
      | some r4 =>
        rw [h4] at hr
        exact ⟨n, r4, h4, n, r, hr, hq⟩
  · rintro ⟨n, r4, h4, n2, r, hr, hq⟩
    refine ⟨max n n2 + 1, r, ?_, hq⟩
    unfold z_run
    rw [h1, h2, h3]
    dsimp only
    rw [z_mono sc _ _ _ _ _ _ _ h4 _ (Nat.le_max_left n n2)]
    exact z_mono sc _ _ _ _ _ _ _ hr _ (Nat.le_max_right n n2)
theorem zEv_stuck (h1 : z_end k pc st = none) (h2 : z_step sc k pc ls st h = none) (h3 : z_inv k pc st h = none) : ¬ zEv sc k pc ls st h Q := by
  rintro ⟨n, r, hr, hq⟩
  cases n with
  | zero => cases hr
  | succ n =>
    unfold z_run at hr
    rw [h1, h2, h3] at hr
    cases hr
theorem zEv_mono {Q2 : Option Value → zA → Prop} (hQ : ∀ r h, Q r h → Q2 r h) (e : zEv sc k pc ls st h Q) : zEv sc k pc ls st h Q2 := by
  obtain ⟨n, r, hr, hq⟩ := e
  exact ⟨n, r, hr, hQ _ _ hq⟩
theorem zE_e (d : decode (z_code k) pc = .ok (ins, len)) (hr : z_retI k ins st = none) : z_end k pc st = none := by
  unfold z_end
  rw [d]
  dsimp only
  rw [hr]
  split <;> rfl
theorem zE_pure {q : zF} (d : decode (z_code k) pc = .ok (ins, len)) (hl : len = z_len ins len) (hr : z_retI k ins st = none) (hp : z_pure k ins pc ls st = some q) : zEv sc k pc ls st h Q ↔ zEv sc k q.1 q.2.1 q.2.2 h Q := by
  refine zEv_step (q := (q.1, q.2.1, q.2.2, h)) (zE_e d hr) ?_
  unfold z_step
  rw [d]
  dsimp only
  unfold z_stepI
  rw [if_pos hl, hp]
theorem zE_heap {q : zG} (d : decode (z_code k) pc = .ok (ins, len)) (hl : len = z_len ins len) (hr : z_retI k ins st = none) (hp : z_pure k ins pc ls st = none) (hh : z_heap sc k ins st h = some q) : zEv sc k pc ls st h Q ↔ zEv sc k (pc + len) ls q.1 q.2 Q := by
  refine zEv_step (q := (pc + len, ls, q.1, q.2)) (zE_e d hr) ?_
  unfold z_step
  rw [d]
  dsimp only
  unfold z_stepI
  rw [if_pos hl, hp, hh]
theorem zE_none (d : decode (z_code k) pc = .ok (ins, len)) (hr : z_retI k ins st = none) (hp : z_pure k ins pc ls st = none) (hh : z_heap sc k ins st h = none) (hv : z_inv k pc st h = none) : ¬ zEv sc k pc ls st h Q := by
  refine zEv_stuck (zE_e d hr) ?_ hv
  unfold z_step
  rw [d]
  dsimp only
  unfold z_stepI
  rw [hp, hh]
  split <;> rfl
theorem zE_if {c : Jvm.ClassFile.Cond} {off : Int} (tgt : Nat) (d : decode (z_code k) pc = .ok (.ifCond c off, 3)) (ht : (pc : Int) + off = (tgt : Int)) : zEv sc k pc ls (.int x :: st) h Q ↔ zEv sc k (if z_t0 c x then tgt else pc + 3) ls st h Q := by
  refine zE_pure (q := (if z_t0 c x then tgt else pc + 3, ls, st)) d rfl rfl ?_
  show z_br ls st pc off (z_t0 c x) = _
  unfold z_br
  rw [if_pos (by omega), ht]
  rfl
theorem zE_ic {c : Jvm.ClassFile.Cond} {off : Int} (tgt : Nat) (d : decode (z_code k) pc = .ok (.if_icmp c off, 3)) (ht : (pc : Int) + off = (tgt : Int)) : zEv sc k pc ls (.int x2 :: .int x1 :: st) h Q ↔ zEv sc k (if z_t2 c x1 x2 then tgt else pc + 3) ls st h Q := by
  refine zE_pure (q := (if z_t2 c x1 x2 then tgt else pc + 3, ls, st)) d rfl rfl ?_
  show z_br ls st pc off (z_t2 c x1 x2) = _
  unfold z_br
  rw [if_pos (by omega), ht]
  rfl
theorem zE_ite {c : Prop} {b : Bool} {A B : Nat} (hd : Decidable c) (hb : b = decide c) : zEv sc k (if b then A else B) ls st h Q = (if c then zEv sc k A ls st h Q else zEv sc k B ls st h Q) := by
  subst hb
  by_cases hc : c
  · rw [if_pos hc, if_pos (decide_eq_true hc)]
  · rw [if_neg hc, if_neg (by rw [decide_eq_false hc]; decide)]
theorem zE_ifP {c : Jvm.ClassFile.Cond} {off : Int} {P : Prop} (hd : Decidable P) (tgt : Nat) (d : decode (z_code k) pc = .ok (.ifCond c off, 3)) (ht : (pc : Int) + off = (tgt : Int)) (hb : z_t0 c x = decide P) : zEv sc k pc ls (.int x :: st) h Q ↔ (if P then zEv sc k tgt ls st h Q else zEv sc k (pc + 3) ls st h Q) := by
  rw [zE_if tgt d ht, zE_ite hd hb]
theorem zE_icP {c : Jvm.ClassFile.Cond} {off : Int} {P : Prop} (hd : Decidable P) (tgt : Nat) (d : decode (z_code k) pc = .ok (.if_icmp c off, 3)) (ht : (pc : Int) + off = (tgt : Int)) (hb : z_t2 c x1 x2 = decide P) : zEv sc k pc ls (.int x2 :: .int x1 :: st) h Q ↔ (if P then zEv sc k tgt ls st h Q else zEv sc k (pc + 3) ls st h Q) := by
  rw [zE_ic tgt d ht, zE_ite hd hb]
theorem zE_iconst {n : Int} {v : Int32} (d : decode (z_code k) pc = .ok (.iconst n, 1)) (hv : Int32.ofInt n = v) : zEv sc k pc ls st h Q ↔ zEv sc k (pc + 1) ls (.int v :: st) h Q := by
  subst hv
  exact zE_pure (q := (pc + 1, ls, .int (Int32.ofInt n) :: st)) d rfl rfl rfl
theorem zE_bipush {n : Int} {v : Int32} (d : decode (z_code k) pc = .ok (.bipush n, 2)) (hv : (Int8.ofInt n).toInt32 = v) : zEv sc k pc ls st h Q ↔ zEv sc k (pc + 2) ls (.int v :: st) h Q := by
  subst hv
  exact zE_pure (q := (pc + 2, ls, .int (Int8.ofInt n).toInt32 :: st)) d rfl rfl rfl
theorem zE_sipush {n : Int} {v : Int32} (d : decode (z_code k) pc = .ok (.sipush n, 3)) (hv : (Int16.ofInt n).toInt32 = v) : zEv sc k pc ls st h Q ↔ zEv sc k (pc + 3) ls (.int v :: st) h Q := by
  subst hv
  exact zE_pure (q := (pc + 3, ls, .int (Int16.ofInt n).toInt32 :: st)) d rfl rfl rfl
theorem zE_ldc {v : Int32} (hq : z_lkK zKT (z_cls k) i = some (v, tt)) (d : decode (z_code k) pc = .ok (.ldc i, 2)) : zEv sc k pc ls st h Q ↔ zEv sc k (pc + 2) ls (.int v :: st) h Q := by
  refine zE_pure (q := (pc + 2, ls, .int v :: st)) d rfl rfl ?_
  show z_kst k i (pc + 2) ls st = _
  unfold z_kst
  rw [hq]
theorem zE_ldc_w {v : Int32} (hq : z_lkK zKT (z_cls k) i = some (v, tt)) (d : decode (z_code k) pc = .ok (.ldc_w i, 3)) : zEv sc k pc ls st h Q ↔ zEv sc k (pc + 3) ls (.int v :: st) h Q := by
  refine zE_pure (q := (pc + 3, ls, .int v :: st)) d rfl rfl ?_
  show z_kst k i (pc + 3) ls st = _
  unfold z_kst
  rw [hq]
theorem zE_iinc {n : Int} {v : Int32} (d : decode (z_code k) pc = .ok (.iinc i n, 3)) (hv : Int32.ofInt n = v) (hl : ls[i]? = some (.int x)) (hi : i < ls.length) (h2 : ls.set i (.int (x + v)) = ls2) : zEv sc k pc ls st h Q ↔ zEv sc k (pc + 3) ls2 st h Q := by
  subst hv
  subst h2
  refine zE_pure (q := (pc + 3, ls.set i (.int (x + Int32.ofInt n)), st)) d rfl rfl ?_
  show z_inc ls st i n (pc + 3) = _
  unfold z_inc
  rw [hl]
  dsimp only
  rw [if_pos hi]
theorem zE_go {off : Int} (tgt : Nat) (d : decode (z_code k) pc = .ok (.goto off, 3)) (ht : (pc : Int) + off = (tgt : Int)) : zEv sc k pc ls st h Q ↔ zEv sc k tgt ls st h Q := by
  refine zE_pure (q := (tgt, ls, st)) d rfl rfl ?_
  show z_go ls st pc off = _
  unfold z_go
  rw [if_pos (by omega), ht]
  rfl
theorem zE_div (d : decode (z_code k) pc = .ok (.idiv, 1)) : zEv sc k pc ls (.int x2 :: .int x1 :: st) h Q ↔ (¬ x2 = 0 ∧ zEv sc k (pc + 1) ls (.int (x1 / x2) :: st) h Q) := by
  by_cases hx : x2 = 0
  · refine ⟨fun e => absurd e (zE_none d rfl ?_ rfl ?_), fun e => absurd hx e.1⟩
    · show (if x2 = 0 then none else _) = none
      rw [if_pos hx]
    · unfold z_inv; rw [d]; rfl
  · rw [zE_pure (q := (pc + 1, ls, .int (x1 / x2) :: st)) d rfl rfl (by show (if x2 = 0 then none else _) = _; rw [if_neg hx])]
    exact ⟨fun e => ⟨hx, e⟩, fun e => e.2⟩
theorem zE_rem (d : decode (z_code k) pc = .ok (.irem, 1)) : zEv sc k pc ls (.int x2 :: .int x1 :: st) h Q ↔ (¬ x2 = 0 ∧ zEv sc k (pc + 1) ls (.int (x1 - x1 / x2 * x2) :: st) h Q) := by
  by_cases hx : x2 = 0
  · refine ⟨fun e => absurd e (zE_none d rfl ?_ rfl ?_), fun e => absurd hx e.1⟩
    · show (if x2 = 0 then none else _) = none
      rw [if_pos hx]
    · unfold z_inv; rw [d]; rfl
  · rw [zE_pure (q := (pc + 1, ls, .int (x1 - x1 / x2 * x2) :: st)) d rfl rfl (by show (if x2 = 0 then none else _) = _; rw [if_neg hx])]
    exact ⟨fun e => ⟨hx, e⟩, fun e => e.2⟩
theorem zE_tab {dd lo hi : Int} {offs : Array Int} {off v : Int} (tgt : Nat) (d : decode (z_code k) pc = .ok (.tableswitch dd lo hi offs, len)) (hx : x.toInt = v) (h1 : ¬ (v < lo ∨ hi < v)) (h2 : offs[(v - lo).toNat]? = some off) (ht : (pc : Int) + off = (tgt : Int)) : zEv sc k pc ls (.int x :: st) h Q ↔ zEv sc k tgt ls st h Q := by
  refine zE_pure (q := (tgt, ls, st)) d rfl rfl ?_
  show z_tab ls pc dd lo hi offs x st = _
  unfold z_tab
  rw [hx, if_neg h1, h2]
  show z_go ls st pc off = _
  unfold z_go
  rw [if_pos (by omega), ht]
  rfl
theorem zE_tabD {dd lo hi : Int} {offs : Array Int} (tgt : Nat) (d : decode (z_code k) pc = .ok (.tableswitch dd lo hi offs, len)) (h1 : x.toInt < lo ∨ hi < x.toInt) (ht : (pc : Int) + dd = (tgt : Int)) : zEv sc k pc ls (.int x :: st) h Q ↔ zEv sc k tgt ls st h Q := by
  refine zE_pure (q := (tgt, ls, st)) d rfl rfl ?_
  show z_tab ls pc dd lo hi offs x st = _
  unfold z_tab
  rw [if_pos h1]
  unfold z_go
  rw [if_pos (by omega), ht]
  rfl
theorem zE_swi {dd : Int} {ps : Array (Int × Int)} {off : Int} (tgt : Nat) (d : decode (z_code k) pc = .ok (.lookupswitch dd ps, len)) (hs : (ps.toList.zip (ps.toList.drop 1)).all (fun (a, next) => a.1 < next.1) = true) (h2 : Op.lookupswitch.offset ps.toList dd x.toInt = off) (ht : (pc : Int) + off = (tgt : Int)) : zEv sc k pc ls (.int x :: st) h Q ↔ zEv sc k tgt ls st h Q := by
  refine zE_pure (q := (tgt, ls, st)) d rfl rfl ?_
  show z_swi ls pc dd ps x st = _
  unfold z_swi
  rw [if_pos hs, h2]
  unfold z_go
  rw [if_pos (by omega), ht]
  rfl
theorem zE_gfI (d : decode (z_code k) pc = .ok (.getfield i, 3)) (hq : z_lk3 zFT (z_cls k) i = some (ci, f, nt, tt)) (hR : z_isR ci f = false) (ho : zO a ci) : zEv sc k pc ls (.ref a :: st) (zst p iv) Q ↔ zEv sc k (pc + 3) ls (.int (iv a f) :: st) (zst p iv) Q := by
  refine zE_heap (q := (.int (iv a f) :: st, zst p iv)) d rfl rfl rfl ?_
  show z_gf k i (.ref a :: st) (zst p iv) = _
  unfold z_gf z_r1
  dsimp only
  rw [hq]
  dsimp only
  rw [if_pos ⟨ho.1, ho.2.1, ho.2.2⟩, if_neg (by rw [hR]; decide)]
  rfl
theorem zE_gfR (d : decode (z_code k) pc = .ok (.getfield i, 3)) (hq : z_lk3 zFT (z_cls k) i = some (ci, f, nt, tt)) (hR : z_isR ci f = true) (ho : zO a ci) : zEv sc k pc ls (.ref a :: st) (zst p iv) Q ↔ zRef (zRV p a f) (fun j => zEv sc k (pc + 3) ls (.ref j :: st) (zst p iv) Q) := by
  have e1 : z_heap sc k (.getfield i) (.ref a :: st) (zst p iv) = match zRV p a f with
    | some j => some (.ref j :: st, zst p iv)
    | none => none := by
    show z_gf k i (.ref a :: st) (zst p iv) = _
    unfold z_gf z_r1
    dsimp only
    rw [hq]
    dsimp only
    rw [if_pos ⟨ho.1, ho.2.1, ho.2.2⟩, if_pos hR]
    rfl
  cases e : zRV p a f with
  | none =>
    rw [e] at e1
    exact ⟨fun z => absurd z (zE_none d rfl rfl e1 (by unfold z_inv; rw [d]; rfl)), fun z => z.elim⟩
  | some j =>
    rw [e] at e1
    exact zE_heap d rfl rfl rfl e1
theorem zE_pfI (d : decode (z_code k) pc = .ok (.putfield i, 3)) (hq : z_lk3 zFT (z_cls k) i = some (ci, f, nt, tt)) (hR : z_isR ci f = false) (hZ : z_isZ ci f = false) (hF : (zTn ci f).2.2.2 = false) (ho : zO a ci) : zEv sc k pc ls (.int x :: .ref a :: st) (zst p iv) Q ↔ zEv sc k (pc + 3) ls st (zst p (w2 iv a f x)) Q := by
  refine zE_heap (q := (st, zst p (w2 iv a f x))) d rfl rfl rfl ?_
  show z_pf k i (.int x :: .ref a :: st) (zst p iv) = _
  unfold z_pf z_v1 z_r1
  dsimp only
  rw [hq]
  dsimp only
  rw [if_pos ⟨ho.1, ho.2.1, ho.2.2, hR, Or.inl hZ, hF⟩]
  rfl
theorem zE_pfZ (d : decode (z_code k) pc = .ok (.putfield i, 3)) (hq : z_lk3 zFT (z_cls k) i = some (ci, f, nt, tt)) (hR : z_isR ci f = false) (hZ : z_isZ ci f = true) (hF : (zTn ci f).2.2.2 = false) (ho : zO a ci) : zEv sc k pc ls (.int x :: .ref a :: st) (zst p iv) Q ↔ ((x = 0 ∨ x = 1) ∧ zEv sc k (pc + 3) ls st (zst p (w2 iv a f x)) Q) := by
  by_cases hx : x = 0 ∨ x = 1
  · rw [zE_heap (q := (st, zst p (w2 iv a f x))) d rfl rfl rfl (by
      show z_pf k i (.int x :: .ref a :: st) (zst p iv) = _
      unfold z_pf z_v1 z_r1
      dsimp only
      rw [hq]
      dsimp only
      rw [if_pos ⟨ho.1, ho.2.1, ho.2.2, hR, Or.inr hx, hF⟩]
      rfl)]
    exact ⟨fun e => ⟨hx, e⟩, fun e => e.2⟩
  · refine ⟨fun z => absurd z (zE_none d rfl rfl ?_ (by unfold z_inv; rw [d]; rfl)), fun z => absurd z.1 hx⟩
    show z_pf k i (.int x :: .ref a :: st) (zst p iv) = _
    unfold z_pf z_v1 z_r1
    dsimp only
    rw [hq]
    dsimp only
    rw [if_neg]
    rintro ⟨-, -, -, -, z | z, -⟩
    · rw [hZ] at z; cases z
    · exact hx z
theorem zE_ald (ki : (kd = 100 ∧ ins = .iaload) ∨ (kd = 101 ∧ ins = .caload)) (d : decode (z_code k) pc = .ok (ins, 1)) (ho : zO a kd) : zEv sc k pc ls (.int x :: .ref a :: st) (zst p iv) Q ↔ (vp_in x (zLn a) ∧ zEv sc k (pc + 1) ls (.int (iv a x.toNatClampNeg) :: st) (zst p iv) Q) := by
  have e1 : z_heap sc k ins (.int x :: .ref a :: st) (zst p iv) = z_ald sc k kd (.int x :: .ref a :: st) (zst p iv) := by
    rcases ki with ⟨rfl, rfl⟩ | ⟨rfl, rfl⟩ <;> rfl
  have e2 : 1 = z_len ins 1 ∧ z_retI k ins (.int x :: .ref a :: st) = none ∧ z_pure k ins pc ls (.int x :: .ref a :: st) = none := by
    rcases ki with ⟨rfl, rfl⟩ | ⟨rfl, rfl⟩ <;> exact ⟨rfl, rfl, rfl⟩
  have e3 : z_inv k pc (.int x :: .ref a :: st) (zst p iv) = none := by
    unfold z_inv
    rw [d]
    rcases ki with ⟨rfl, rfl⟩ | ⟨rfl, rfl⟩ <;> rfl
  by_cases hx : vp_in x (zLn a)
  · rw [zE_heap (q := (.int (iv a x.toNatClampNeg) :: st, zst p iv)) d e2.1 e2.2.1 e2.2.2 (by
      rw [e1]
      unfold z_ald z_i1 z_r1
      dsimp only
      rw [if_pos ⟨⟨ho.1, ho.2.1, ho.2.2⟩, hx⟩]
      rfl)]
    exact ⟨fun e => ⟨hx, e⟩, fun e => e.2⟩
  · refine ⟨fun z => absurd z (zE_none d e2.2.1 e2.2.2 ?_ e3), fun z => absurd z.1 hx⟩
    rw [e1]
    unfold z_ald z_i1 z_r1
    dsimp only
    rw [if_neg (fun z => hx z.2), if_neg (fun z => by have := ho.1; omega)]
theorem zE_sld (d : decode (z_code zLaw) pc = .ok (.iaload, 1)) (hin : vp_in x sc.1) : zEv sc zLaw pc ls (.int x :: .ref 0 :: st) h Q ↔ zEv sc zLaw (pc + 1) ls (.int (sc.2 x.toNatClampNeg) :: st) h Q := by
  refine zE_heap (q := (.int (sc.2 x.toNatClampNeg) :: st, h)) d rfl rfl rfl ?_
  show z_ald sc zLaw 100 (.int x :: .ref 0 :: st) h = _
  unfold z_ald z_i1 z_r1
  dsimp only
  rw [if_neg (fun z => by have := z.1.1; omega), if_pos ⟨⟨rfl, rfl, rfl⟩, hin⟩]
theorem zE_slen (d : decode (z_code zLaw) pc = .ok (.arraylength, 1)) : zEv sc zLaw pc ls (.ref 0 :: st) h Q ↔ zEv sc zLaw (pc + 1) ls (.int (Int32.ofNat sc.1) :: st) h Q := by
  refine zE_heap (q := (.int (Int32.ofNat sc.1) :: st, h)) d rfl rfl rfl ?_
  show z_len0 sc zLaw (.ref 0 :: st) h = _
  unfold z_len0 z_r1
  dsimp only
  rw [if_pos ⟨rfl, rfl⟩]
theorem zE_ast {nar : Int32 → Int32} (ki : (kd = 100 ∧ ins = .iastore ∧ nar = fun x => x) ∨ (kd = 101 ∧ ins = .castore ∧ nar = fun x => vp_nar .char x)) (d : decode (z_code k) pc = .ok (ins, 1)) (ho : zO a kd) : zEv sc k pc ls (.int x2 :: .int x1 :: .ref a :: st) (zst p iv) Q ↔ (vp_in x1 (zLn a) ∧ zEv sc k (pc + 1) ls st (zst p (w2 iv a x1.toNatClampNeg (nar x2))) Q) := by
  have e1 : z_heap sc k ins (.int x2 :: .int x1 :: .ref a :: st) (zst p iv) = z_ast kd nar (.int x2 :: .int x1 :: .ref a :: st) (zst p iv) := by
    rcases ki with ⟨rfl, rfl, rfl⟩ | ⟨rfl, rfl, rfl⟩ <;> rfl
  have e2 : 1 = z_len ins 1 ∧ z_retI k ins (.int x2 :: .int x1 :: .ref a :: st) = none ∧ z_pure k ins pc ls (.int x2 :: .int x1 :: .ref a :: st) = none := by
    rcases ki with ⟨rfl, rfl, rfl⟩ | ⟨rfl, rfl, rfl⟩ <;> exact ⟨rfl, rfl, rfl⟩
  have e3 : z_inv k pc (.int x2 :: .int x1 :: .ref a :: st) (zst p iv) = none := by
    unfold z_inv
    rw [d]
    rcases ki with ⟨rfl, rfl, rfl⟩ | ⟨rfl, rfl, rfl⟩ <;> rfl
  by_cases hx : vp_in x1 (zLn a)
  · rw [zE_heap (q := (st, zst p (w2 iv a x1.toNatClampNeg (nar x2)))) d e2.1 e2.2.1 e2.2.2 (by
      rw [e1]
      unfold z_ast z_i2 z_r1
      dsimp only
      rw [if_pos ⟨⟨ho.1, ho.2.1, ho.2.2⟩, hx⟩]
      rfl)]
    exact ⟨fun e => ⟨hx, e⟩, fun e => e.2⟩
  · refine ⟨fun z => absurd z (zE_none d e2.2.1 e2.2.2 ?_ e3), fun z => absurd z.1 hx⟩
    rw [e1]
    unfold z_ast z_i2 z_r1
    dsimp only
    rw [if_neg (fun z => hx z.2)]
theorem zE_aald (d : decode (z_code k) pc = .ok (.aaload, 1)) (ho : zO a 102 ∨ zO a 103) : zEv sc k pc ls (.int x :: .ref a :: st) (zst p iv) Q ↔ (vp_in x (zLn a) ∧ zRef (zRV p a x.toNatClampNeg) (fun j => zEv sc k (pc + 1) ls (.ref j :: st) (zst p iv) Q)) := by
  have ho2 : 1 ≤ a ∧ a ≤ 90 ∧ ((zc.2.1 a).1 = 102 ∨ (zc.2.1 a).1 = 103) := by
    rcases ho with ho | ho
    · exact ⟨ho.1, ho.2.1, Or.inl ho.2.2⟩
    · exact ⟨ho.1, ho.2.1, Or.inr ho.2.2⟩
  by_cases hx : vp_in x (zLn a)
  · have e1 : z_heap sc k .aaload (.int x :: .ref a :: st) (zst p iv) = match zRV p a x.toNatClampNeg with
      | some j => some (.ref j :: st, zst p iv)
      | none => none := by
      show z_aald (.int x :: .ref a :: st) (zst p iv) = _
      unfold z_aald z_i1 z_r1
      dsimp only
      rw [if_pos ⟨ho2, hx⟩]
      rfl
    cases e : zRV p a x.toNatClampNeg with
    | none =>
      rw [e] at e1
      exact ⟨fun z => absurd z (zE_none d rfl rfl e1 (by unfold z_inv; rw [d]; rfl)), fun z => z.2.elim⟩
    | some j =>
      rw [e] at e1
      rw [zE_heap d rfl rfl rfl e1]
      exact ⟨fun e => ⟨hx, e⟩, fun e => e.2⟩
  · refine ⟨fun z => absurd z (zE_none d rfl rfl ?_ (by unfold z_inv; rw [d]; rfl)), fun z => absurd z.1 hx⟩
    show z_aald (.int x :: .ref a :: st) (zst p iv) = _
    unfold z_aald z_i1 z_r1
    dsimp only
    rw [if_neg (fun z => hx z.2)]
theorem zE_aast {v : Nat} (d : decode (z_code k) pc = .ok (.aastore, 1)) (ho : zO 27 102) (hv : zO v 2) (hx : vp_in x (zLn 27)) : zEv sc k pc ls (.ref v :: .int x :: .ref 27 :: st) (zst p iv) Q ↔ zEv sc k (pc + 1) ls st (zst (va_up p x.toNatClampNeg (some v)) iv) Q := by
  refine zE_heap (q := (st, zst (va_up p x.toNatClampNeg (some v)) iv)) d rfl rfl rfl ?_
  show z_aast (.ref v :: .int x :: .ref 27 :: st) (zst p iv) = _
  unfold z_aast z_i1 z_r1
  dsimp only
  rw [if_pos ⟨⟨ho.1, ho.2.1, ho.2.2⟩, ⟨hv.1, hv.2.1, hv.2.2⟩, hx⟩]
  refine congrArg some (congrArg (Prod.mk st) ?_)
  unfold z_setR zst
  refine congrArg (fun z => (90, zc.1, zc.2.1, iv, z)) (funext fun c => funext fun g => ?_)
  show va_up (zRV p) 27 (va_up (zRV p 27) x.toNatClampNeg (some v)) c g = _
  by_cases hc : c = 27
  · subst hc
    rw [va_up_self, zRV_27]
    by_cases hg : g = x.toNatClampNeg
    · subst hg; rw [va_up_self, va_up_self]
    · rw [va_up_ne _ _ hg, va_up_ne _ _ hg, zRV_27]
  · rw [va_up_ne _ _ hc]
    unfold zRV
    rw [if_neg hc, if_neg hc]
theorem zE_abs (d : decode (z_code k) pc = .ok (.invokestatic i, 3)) (hq : z_lk1 zXT (z_cls k) i = some (0, tt)) (hv : z_lk0 zVT (z_cls k) i = none) (hr : 1 ≤ z_fr k ∧ 2 * st.length + 13 ≤ z_lo k) : zEv sc k pc ls (.int x :: st) h Q ↔ zEv sc k (pc + 3) ls (.int (if 0 ≤ x then x else 0 - x) :: st) h Q := by
  refine zE_heap (q := (.int (if 0 ≤ x then x else 0 - x) :: st, h)) d rfl rfl rfl ?_
  show z_lot sc k i (.int x :: st) h = _
  unfold z_lot
  rw [hv]
  show z_math k i (.int x :: st) h = _
  unfold z_math z_i1
  rw [hq]
  dsimp only
  rw [if_pos rfl, if_pos hr]
theorem zE_max (d : decode (z_code k) pc = .ok (.invokestatic i, 3)) (hq : z_lk1 zXT (z_cls k) i = some (1, tt)) (hv : z_lk0 zVT (z_cls k) i = none) (hr : 1 ≤ z_fr k ∧ 2 * st.length + 13 ≤ z_lo k) : zEv sc k pc ls (.int x2 :: .int x1 :: st) h Q ↔ zEv sc k (pc + 3) ls (.int (if x1 < x2 then x2 else x1) :: st) h Q := by
  refine zE_heap (q := (.int (if x1 < x2 then x2 else x1) :: st, h)) d rfl rfl rfl ?_
  show z_lot sc k i (.int x2 :: .int x1 :: st) h = _
  unfold z_lot
  rw [hv]
  show z_math k i (.int x2 :: .int x1 :: st) h = _
  unfold z_math z_i2
  rw [hq]
  dsimp only
  rw [if_neg (by decide), if_pos rfl, if_pos hr]
theorem zE_rv (d : decode (z_code k) pc = .ok (.return_, 1)) (hr : z_ret k = none) : zEv sc k pc ls [] h Q ↔ Q none h := by
  refine zEv_ret ?_
  unfold z_end
  rw [d]
  show (if z_ret k = none ∧ ([] : List Value) = [] then some none else none) = _
  rw [if_pos ⟨hr, rfl⟩]
theorem zE_ri (d : decode (z_code k) pc = .ok (.ireturn, 1)) (hr : z_ret k = some .int) : zEv sc k pc ls [.int x] h Q ↔ Q (some (.int x)) h := by
  refine zEv_ret ?_
  unfold z_end
  rw [d]
  show (if ([] : List Value) = [] ∧ (z_ret k = some .int ∨ (z_ret k = some .boolean ∧ (x = 0 ∨ x = 1))) then some (some (Value.int x)) else none) = _
  rw [if_pos ⟨rfl, Or.inl hr⟩]
theorem zE_rz (d : decode (z_code k) pc = .ok (.ireturn, 1)) (hr : z_ret k = some .boolean) : zEv sc k pc ls [.int x] h Q ↔ ((x = 0 ∨ x = 1) ∧ Q (some (.int x)) h) := by
  by_cases hx : x = 0 ∨ x = 1
  · rw [zEv_ret (r := some (.int x)) (by
      unfold z_end
      rw [d]
      show (if ([] : List Value) = [] ∧ (z_ret k = some .int ∨ (z_ret k = some .boolean ∧ (x = 0 ∨ x = 1))) then some (some (Value.int x)) else none) = _
      rw [if_pos ⟨rfl, Or.inr ⟨hr, hx⟩⟩])]
    exact ⟨fun e => ⟨hx, e⟩, fun e => e.2⟩
  · refine ⟨fun z => absurd z (zE_none d ?_ rfl rfl (by unfold z_inv; rw [d]; rfl)), fun z => absurd z.1 hx⟩
    show (if ([] : List Value) = [] ∧ (z_ret k = some .int ∨ (z_ret k = some .boolean ∧ (x = 0 ∨ x = 1))) then some (some (Value.int x)) else none) = _
    rw [if_neg]
    rintro ⟨-, z | z⟩
    · rw [hr] at z; cases z
    · exact hx z.2
theorem zE_ra (d : decode (z_code k) pc = .ok (.areturn, 1)) (hr : z_ret k = some (.object RX0) ∨ z_ret k = some (.object RX6)) : zEv sc k pc ls [.ref a] h Q ↔ Q (some (.ref a)) h := by
  refine zEv_ret ?_
  unfold z_end
  rw [d]
  show (if ([] : List Value) = [] ∧ (z_ret k = some (.object RX0) ∨ z_ret k = some (.object RX6)) then some (some (Value.ref a)) else none) = _
  rw [if_pos ⟨rfl, hr⟩]
theorem zE_call {na nr : Nat} (ki : (kd = 0 ∧ ins = .invokevirtual i) ∨ (kd = 1 ∧ ins = .invokestatic i)) (d : decode (z_code k) pc = .ok (ins, 3)) (hq : z_lk2 zCT (z_cls k) i = some (y, nt, tt)) (hx : kd = 1 → z_lk1 zXT (z_cls k) i = none ∧ z_lk0 zVT (z_cls k) i = none) (hst : st = as.reverse ++ rest) (hla : as.length = na) (hlr : rest.length = nr)
    (hck : z_kd y = kd ∧ na = z_np y + z_ar kd ∧ na ≤ z_ml y ∧ y < zLaw ∧ nr ≤ 4 ∧ z_fr y + 1 ≤ z_fr k ∧ 8 + (z_ml y + 11) + z_lo y ≤ z_lo k) (ha1 : as.all z_c1 = true) (hpad : as ++ List.replicate (z_ml y - na) .null = ls2) (hrc : kd = 1 ∨ z_rc h (z_cls y) as = true) : zEv sc k pc ls st h Q ↔ zEv sc y 0 ls2 [] h (fun r h' => zEv sc k (pc + 3) ls (r.toList ++ rest) h' Q) := by
  subst hst
  subst hla
  subst hlr
  subst hpad
  obtain ⟨c1, c2, c3, c4, c5, c6, c7⟩ := hck
  have hl : z_np y + z_ar kd ≤ (as.reverse ++ rest).length := by rw [List.length_append, List.length_reverse]; omega
  have e5 : (as.reverse ++ rest).take (z_np y + z_ar kd) = as.reverse := by rw [← c2, ← List.length_reverse, List.take_left]
  have e6 : (as.reverse ++ rest).drop (z_np y + z_ar kd) = rest := by rw [← c2, ← List.length_reverse, List.drop_left]
  have hcy : z_callY k i kd (as.reverse ++ rest) h = some (y, as, rest) := by
    unfold z_callY
    rw [hq]
    dsimp only
    rw [e5, e6, List.reverse_reverse, if_pos ⟨c1, hl, by omega, c4, c5, by rw [List.all_reverse]; exact ha1, c6, c7, hrc⟩]
  refine zEv_call (q := (y, as, rest)) (zE_e d (by rcases ki with ⟨-, rfl⟩ | ⟨-, rfl⟩ <;> rfl)) ?_ ?_
  · unfold z_step
    rw [d]
    dsimp only
    unfold z_stepI
    rcases ki with ⟨rfl, rfl⟩ | ⟨rfl, rfl⟩
    · rfl
    · have e7 : z_heap sc k (.invokestatic i) (as.reverse ++ rest) h = none := by
        show z_lot sc k i _ h = none
        unfold z_lot
        rw [(hx rfl).2]
        show z_math k i _ h = none
        unfold z_math
        rw [(hx rfl).1]
      rw [e7]
      rfl
  · unfold z_inv
    rw [d]
    dsimp only
    rw [if_pos rfl]
    rcases ki with ⟨rfl, rfl⟩ | ⟨rfl, rfl⟩
    · exact hcy
    · exact hcy
theorem zE_lot (d : decode (z_code zLaw) pc = .ok (.invokestatic i, 3)) (hq : z_lk0 zVT (z_cls zLaw) i = some tt) (hx : ¬ x < 0 ∧ sc.1 ≤ 2048) (hr : 1 ≤ z_fr zLaw ∧ st.length ≤ 4 ∧ 21 ≤ z_lo zLaw) : zEv sc zLaw pc ls (.int x :: .ref 0 :: st) h Q ↔ zEv sc zLaw (pc + 3) ls (.int (z_lt sc x) :: st) h Q := by
  refine zE_heap (q := (.int (z_lt sc x) :: st, h)) d rfl rfl rfl ?_
  show z_lot sc zLaw i (.int x :: .ref 0 :: st) h = _
  unfold z_lot z_i1 z_r1
  rw [hq]
  dsimp only
  rw [if_pos ⟨⟨rfl, rfl, hx⟩, hr⟩]
theorem zE_ldc2 {v : Int64} (hq : z_lkL zLT (z_cls k) i = some (v, tt)) (d : decode (z_code k) pc = .ok (.ldc2_w i, 3)) : zEv sc k pc ls st h Q ↔ zEv sc k (pc + 3) ls (.long v :: st) h Q := by
  refine zE_pure (q := (pc + 3, ls, .long v :: st)) d rfl rfl ?_
  show z_kstL k i (pc + 3) ls st = _
  unfold z_kstL
  rw [hq]
theorem zE_rl {w : Int64} (d : decode (z_code k) pc = .ok (.lreturn, 1)) (hr : z_ret k = some .long) : zEv sc k pc ls [.long w] h Q ↔ Q (some (.long w)) h := by
  refine zEv_ret ?_
  unfold z_end
  rw [d]
  show (if ([] : List Value) = [] ∧ z_ret k = some .long then some (some (Value.long w)) else none) = _
  rw [if_pos ⟨rfl, hr⟩]
theorem zE_rc {c : Nat} (ho : zO a c) : z_rc (zst p iv) c (.ref a :: as) = true := decide_eq_true ⟨ho.1, ho.2.1, ho.2.2⟩
end ZEV
