/-! ===== the abstract machine: frames of numbered methods over numbered cells; number 0 is the script, the cells are 1 .. nx =====
a heap: how many cells, how many slots were made, kind and length of each (0 .. 10 an object of that class, 100 int[], 101 char[], 102 rows of contests, 103 int[][], 110 the script), whole numbers, references -/
abbrev zA : Type := Nat × Nat × (Nat → Nat × Nat) × (Nat → Nat → Int32) × (Nat → Nat → Option Nat)
def z_lk2 (t : List (Nat × Nat × Nat × Nat × Nat)) (a b : Nat) : Option (Nat × Nat × Nat) := match t with
  | [] => none
  | q :: t => if q.1 = a ∧ q.2.1 = b then some q.2.2 else z_lk2 t a b
def z_lk3 (t : List (Nat × Nat × Nat × Nat × Nat × Nat)) (a b : Nat) : Option (Nat × Nat × Nat × Nat) := match t with
  | [] => none
  | q :: t => if q.1 = a ∧ q.2.1 = b then some q.2.2 else z_lk3 t a b
def z_lk1 (t : List (Nat × Nat × Nat × Nat)) (a b : Nat) : Option (Nat × Nat) := match t with
  | [] => none
  | q :: t => if q.1 = a ∧ q.2.1 = b then some q.2.2 else z_lk1 t a b
def z_lk0 (t : List (Nat × Nat × Nat)) (a b : Nat) : Option Nat := match t with
  | [] => none
  | q :: t => if q.1 = a ∧ q.2.1 = b then some q.2.2 else z_lk0 t a b
def z_lkK (t : List (Nat × Nat × Int32 × Nat)) (a b : Nat) : Option (Int32 × Nat) := match t with
  | [] => none
  | q :: t => if q.1 = a ∧ q.2.1 = b then some q.2.2 else z_lkK t a b
theorem z_lk2_in {t : List (Nat × Nat × Nat × Nat × Nat)} {a b : Nat} {r : Nat × Nat × Nat} (h : z_lk2 t a b = some r) : (a, b, r) ∈ t := by
  induction t with
  | nil => cases h
  | cons q t ih =>
    unfold z_lk2 at h
    split at h
    next c => cases h; obtain ⟨c1, c2⟩ := c; subst c1; subst c2; exact List.mem_cons_self
    next c => exact List.mem_cons_of_mem _ (ih h)
theorem z_lk3_in {t : List (Nat × Nat × Nat × Nat × Nat × Nat)} {a b : Nat} {r : Nat × Nat × Nat × Nat} (h : z_lk3 t a b = some r) : (a, b, r) ∈ t := by
  induction t with
  | nil => cases h
  | cons q t ih =>
    unfold z_lk3 at h
    split at h
    next c => cases h; obtain ⟨c1, c2⟩ := c; subst c1; subst c2; exact List.mem_cons_self
    next c => exact List.mem_cons_of_mem _ (ih h)
theorem z_lk1_in {t : List (Nat × Nat × Nat × Nat)} {a b : Nat} {r : Nat × Nat} (h : z_lk1 t a b = some r) : (a, b, r) ∈ t := by
  induction t with
  | nil => cases h
  | cons q t ih =>
    unfold z_lk1 at h
    split at h
    next c => cases h; obtain ⟨c1, c2⟩ := c; subst c1; subst c2; exact List.mem_cons_self
    next c => exact List.mem_cons_of_mem _ (ih h)
theorem z_lk0_in {t : List (Nat × Nat × Nat)} {a b : Nat} {r : Nat} (h : z_lk0 t a b = some r) : (a, b, r) ∈ t := by
  induction t with
  | nil => cases h
  | cons q t ih =>
    unfold z_lk0 at h
    split at h
    next c => cases h; obtain ⟨c1, c2⟩ := c; subst c1; subst c2; exact List.mem_cons_self
    next c => exact List.mem_cons_of_mem _ (ih h)
theorem z_lkK_in {t : List (Nat × Nat × Int32 × Nat)} {a b : Nat} {r : Int32 × Nat} (h : z_lkK t a b = some r) : (a, b, r) ∈ t := by
  induction t with
  | nil => cases h
  | cons q t ih =>
    unfold z_lkK at h
    split at h
    next c => cases h; obtain ⟨c1, c2⟩ := c; subst c1; subst c2; exact List.mem_cons_self
    next c => exact List.mem_cons_of_mem _ (ih h)
def z_lkL (t : List (Nat × Nat × Int64 × Nat)) (a b : Nat) : Option (Int64 × Nat) := match t with
  | [] => none
  | q :: t => if q.1 = a ∧ q.2.1 = b then some q.2.2 else z_lkL t a b
theorem z_lkL_in {t : List (Nat × Nat × Int64 × Nat)} {a b : Nat} {r : Int64 × Nat} (h : z_lkL t a b = some r) : (a, b, r) ∈ t := by
  induction t with
  | nil => cases h
  | cons q t ih =>
    unfold z_lkL at h
    split at h
    next c => cases h; obtain ⟨c1, c2⟩ := c; subst c1; subst c2; exact List.mem_cons_self
    next c => exact List.mem_cons_of_mem _ (ih h)
/-- not a long -/
def z_c1 (v : Value) : Bool := match v with
  | .long _ => false
  | _ => true
/-- the mark of a long's second half among the locals -/
abbrev zTop : Value := .float 0
/-- how long an instruction is (a switch: as it is) -/
def z_len (ins : Instr) (len : Nat) : Nat := match ins with
  | .iconst _ | .iload_n _ | .aload_n _ | .istore_n _ | .astore_n _ | .iadd | .isub | .imul | .iand | .ineg | .idiv | .irem | .dup | .dup2 | .i2c | .ladd | .lmul | .i2l | .lcmp | .ishr | .lload_n _ | .lstore_n _ | .lreturn | .iaload | .iastore | .caload | .castore | .aaload | .aastore | .arraylength | .ireturn | .areturn | .return_ => 1
  | .lload _ | .lstore _ | .bipush _ | .ldc _ | .iload _ | .aload _ | .istore _ | .astore _ | .newarray _ => 2
  | .sipush _ | .ldc2_w _ | .ldc_w _ | .iinc _ _ | .ifCond _ _ | .if_icmp _ _ | .goto _ | .getfield _ | .putfield _ | .new _ | .anewarray _ | .invokevirtual _ | .invokestatic _ | .invokespecial _ => 3
  | .multianewarray _ _ => 4
  | .tableswitch _ _ _ _ | .lookupswitch _ _ => len
  | _ => 0
def z_i1 {α : Type} (st : List Value) (f : Int32 → List Value → Option α) : Option α := match st with
  | .int x :: r => f x r
  | _ => none
def z_i2 {α : Type} (st : List Value) (f : Int32 → Int32 → List Value → Option α) : Option α := match st with
  | .int y :: .int x :: r => f x y r
  | _ => none
def z_r1 {α : Type} (st : List Value) (f : Nat → List Value → Option α) : Option α := match st with
  | .ref a :: r => f a r
  | _ => none
def z_v1 {α : Type} (st : List Value) (f : Value → List Value → Option α) : Option α := match st with
  | v :: r => f v r
  | _ => none
def z_l1 {α : Type} (st : List Value) (f : Int64 → List Value → Option α) : Option α := match st with
  | .long x :: r => f x r
  | _ => none
def z_l2 {α : Type} (st : List Value) (f : Int64 → Int64 → List Value → Option α) : Option α := match st with
  | .long y :: .long x :: r => f x y r
  | _ => none
theorem z_l1_s {α : Type} {st : List Value} {f : Int64 → List Value → Option α} {y : α} (h : z_l1 st f = some y) : ∃ x r, st = .long x :: r ∧ f x r = some y := by
  unfold z_l1 at h
  split at h
  next x r => exact ⟨x, r, rfl, h⟩
  next => cases h
theorem z_l2_s {α : Type} {st : List Value} {f : Int64 → Int64 → List Value → Option α} {z : α} (h : z_l2 st f = some z) : ∃ x y r, st = .long y :: .long x :: r ∧ f x y r = some z := by
  unfold z_l2 at h
  split at h
  next y x r => exact ⟨x, y, r, rfl, h⟩
  next => cases h
theorem z_i1_s {α : Type} {st : List Value} {f : Int32 → List Value → Option α} {y : α} (h : z_i1 st f = some y) : ∃ x r, st = .int x :: r ∧ f x r = some y := by
  unfold z_i1 at h
  split at h
  next x r => exact ⟨x, r, rfl, h⟩
  next => cases h
theorem z_i2_s {α : Type} {st : List Value} {f : Int32 → Int32 → List Value → Option α} {z : α} (h : z_i2 st f = some z) : ∃ x y r, st = .int y :: .int x :: r ∧ f x y r = some z := by
  unfold z_i2 at h
  split at h
  next y x r => exact ⟨x, y, r, rfl, h⟩
  next => cases h
theorem z_r1_s {α : Type} {st : List Value} {f : Nat → List Value → Option α} {y : α} (h : z_r1 st f = some y) : ∃ x r, st = .ref x :: r ∧ f x r = some y := by
  unfold z_r1 at h
  split at h
  next x r => exact ⟨x, r, rfl, h⟩
  next => cases h
theorem z_v1_s {α : Type} {st : List Value} {f : Value → List Value → Option α} {y : α} (h : z_v1 st f = some y) : ∃ x r, st = x :: r ∧ f x r = some y := by
  unfold z_v1 at h
  split at h
  next x r => exact ⟨x, r, rfl, h⟩
  next => cases h
abbrev zF : Type := Nat × List Value × List Value
def z_ldi (ls st : List Value) (i pc : Nat) : Option zF := match ls[i]? with
  | some (.int x) => some (pc, ls, .int x :: st)
  | _ => none
def z_lda (ls st : List Value) (i pc : Nat) : Option zF := match ls[i]? with
  | some (.ref x) => some (pc, ls, .ref x :: st)
  | _ => none
def z_sti (ls st : List Value) (i pc : Nat) : Option zF := z_i1 st fun x r => if i < ls.length then some (pc, ls.set i (.int x), r) else none
def z_sta (ls st : List Value) (i pc : Nat) : Option zF := z_r1 st fun x r => if i < ls.length then some (pc, ls.set i (.ref x), r) else none
def z_ldl (ls st : List Value) (i pc : Nat) : Option zF := match ls[i]? with
  | some (.long x) => (match ls[i + 1]? with
    | some (.float _) => some (pc, ls, .long x :: st)
    | _ => none)
  | _ => none
def z_stl (ls st : List Value) (i pc : Nat) : Option zF := z_l1 st fun x r => if i + 1 < ls.length then some (pc, (ls.set i (.long x)).set (i + 1) zTop, r) else none
def z_kstL (k i pc : Nat) (ls st : List Value) : Option zF := match z_lkL zLT (z_cls k) i with
  | some q => some (pc, ls, .long q.1 :: st)
  | none => none
def z_inc (ls st : List Value) (i : Nat) (n : Int) (pc : Nat) : Option zF := match ls[i]? with
  | some (.int x) => if i < ls.length then some (pc, ls.set i (.int (x + Int32.ofInt n)), st) else none
  | _ => none
def z_kst (k i pc : Nat) (ls st : List Value) : Option zF := match z_lkK zKT (z_cls k) i with
  | some q => some (pc, ls, .int q.1 :: st)
  | none => none
def z_t0 (c : Jvm.ClassFile.Cond) (x : Int32) : Bool := match c with
  | .eq => decide (x = 0)
  | .ne => decide (¬ x = 0)
  | .lt => decide (x < 0)
  | .ge => decide (0 ≤ x)
  | .gt => decide (0 < x)
  | .le => decide (x ≤ 0)
def z_t2 (c : Jvm.ClassFile.Cond) (x y : Int32) : Bool := match c with
  | .eq => decide (x = y)
  | .ne => decide (¬ x = y)
  | .lt => decide (x < y)
  | .ge => decide (y ≤ x)
  | .gt => decide (y < x)
  | .le => decide (x ≤ y)
def z_br (ls r : List Value) (pc : Nat) (off : Int) (b : Bool) : Option zF := if 0 ≤ (pc : Int) + off then some (if b then ((pc : Int) + off).toNat else pc + 3, ls, r) else none
def z_go (ls r : List Value) (pc : Nat) (off : Int) : Option zF := if 0 ≤ (pc : Int) + off then some (((pc : Int) + off).toNat, ls, r) else none
def z_tab (ls : List Value) (pc : Nat) (d lo hi : Int) (offs : Array Int) (x : Int32) (r : List Value) : Option zF :=
  if x.toInt < lo ∨ hi < x.toInt then z_go ls r pc d else match offs[(x.toInt - lo).toNat]? with
    | some off => z_go ls r pc off
    | none => none
def z_swi (ls : List Value) (pc : Nat) (d : Int) (ps : Array (Int × Int)) (x : Int32) (r : List Value) : Option zF :=
  if (ps.toList.zip (ps.toList.drop 1)).all (fun (a, next) => a.1 < next.1) = true then z_go ls r pc (Op.lookupswitch.offset ps.toList d x.toInt) else none
/-- what touches no cell -/
def z_pure (k : Nat) (ins : Instr) (pc : Nat) (ls st : List Value) : Option zF := match ins with
  | .iconst n => some (pc + 1, ls, .int (Int32.ofInt n) :: st)
  | .bipush n => some (pc + 2, ls, .int (Int8.ofInt n).toInt32 :: st)
  | .sipush n => some (pc + 3, ls, .int (Int16.ofInt n).toInt32 :: st)
  | .ldc i => z_kst k i (pc + 2) ls st
  | .ldc_w i => z_kst k i (pc + 3) ls st
  | .iload_n i => z_ldi ls st i.val (pc + 1)
  | .iload i => z_ldi ls st i (pc + 2)
  | .aload_n i => z_lda ls st i.val (pc + 1)
  | .aload i => z_lda ls st i (pc + 2)
  | .istore_n i => z_sti ls st i.val (pc + 1)
  | .istore i => z_sti ls st i (pc + 2)
  | .astore_n i => z_sta ls st i.val (pc + 1)
  | .astore i => z_sta ls st i (pc + 2)
  | .iinc i n => z_inc ls st i n (pc + 3)
  | .iadd => z_i2 st fun x y r => some (pc + 1, ls, .int (x + y) :: r)
  | .isub => z_i2 st fun x y r => some (pc + 1, ls, .int (x - y) :: r)
  | .imul => z_i2 st fun x y r => some (pc + 1, ls, .int (x * y) :: r)
  | .iand => z_i2 st fun x y r => some (pc + 1, ls, .int (x &&& y) :: r)
  | .idiv => z_i2 st fun x y r => if y = 0 then none else some (pc + 1, ls, .int (x / y) :: r)
  | .irem => z_i2 st fun x y r => if y = 0 then none else some (pc + 1, ls, .int (x - x / y * y) :: r)
  | .ineg => z_i1 st fun x r => some (pc + 1, ls, .int (-x) :: r)
  | .i2c => z_i1 st fun x r => some (pc + 1, ls, .int (x.toUInt32 % 65536).toInt32 :: r)
  | .ldc2_w i => z_kstL k i (pc + 3) ls st
  | .lload_n i => z_ldl ls st i.val (pc + 1)
  | .lload i => z_ldl ls st i (pc + 2)
  | .lstore_n i => z_stl ls st i.val (pc + 1)
  | .lstore i => z_stl ls st i (pc + 2)
  | .ladd => z_l2 st fun x y r => some (pc + 1, ls, .long (x + y) :: r)
  | .lmul => z_l2 st fun x y r => some (pc + 1, ls, .long (x * y) :: r)
  | .lcmp => z_l2 st fun x y r => some (pc + 1, ls, .int (lg_cmp x y) :: r)
  | .i2l => z_i1 st fun x r => some (pc + 1, ls, .long x.toInt64 :: r)
  | .ishr => z_i2 st fun x y r => some (pc + 1, ls, .int (x >>> (y &&& 31)) :: r)
  | .dup => z_v1 st fun v r => if z_c1 v = true then some (pc + 1, ls, v :: v :: r) else none
  | .ifCond c off => z_i1 st fun x r => z_br ls r pc off (z_t0 c x)
  | .if_icmp c off => z_i2 st fun x y r => z_br ls r pc off (z_t2 c x y)
  | .goto off => z_go ls st pc off
  | .tableswitch d lo hi offs => z_i1 st fun x r => z_tab ls pc d lo hi offs x r
  | .lookupswitch d ps => z_i1 st fun x r => z_swi ls pc d ps x r
  | _ => none
def z_isR (ci f : Nat) : Bool := match zTy ci f with
  | .int | .boolean => false
  | _ => true
def z_isZ (ci f : Nat) : Bool := match zTy ci f with
  | .boolean => true
  | _ => false
def z_setI (h : zA) (a f : Nat) (x : Int32) : zA := (h.1, h.2.1, h.2.2.1, va_up h.2.2.2.1 a (upd (h.2.2.2.1 a) f x), h.2.2.2.2)
def z_setR (h : zA) (a f : Nat) (x : Nat) : zA := (h.1, h.2.1, h.2.2.1, h.2.2.2.1, va_up h.2.2.2.2 a (va_up (h.2.2.2.2 a) f (some x)))
def z_mk (h : zA) (kd len n : Nat) : zA := (h.1 + 1, h.2.1 + n, va_up h.2.2.1 (h.1 + 1) (kd, len), va_up h.2.2.2.1 (h.1 + 1) (fun _ => 0), va_up h.2.2.2.2 (h.1 + 1) (fun _ => none))
/-- an outer array and its rows -/
def z_mk2 (h : zA) (n k : Nat) : zA := (h.1 + 1 + n, h.2.1 + n + n * k, fun j => if j = h.1 + 1 then (103, n) else if h.1 + 1 < j then (100, k) else h.2.2.1 j, fun j => if h.1 < j then (fun _ => 0) else h.2.2.2.1 j, fun j => if j = h.1 + 1 then (fun i => if i < n then some (h.1 + 2 + i) else none) else if h.1 < j then (fun _ => none) else h.2.2.2.2 j)
abbrev zG : Type := List Value × zA
def z_lv (h : zA) (a kd : Nat) : Prop := 1 ≤ a ∧ a ≤ h.1 ∧ (h.2.2.1 a).1 = kd
def z_ix (h : zA) (a : Nat) (i : Int32) : Prop := ¬ (i < 0 ∨ (h.2.2.1 a).2 ≤ i.toNatClampNeg)
def z_gf (k i : Nat) (st : List Value) (h : zA) : Option zG := z_r1 st fun a r => match z_lk3 zFT (z_cls k) i with
  | some q => if 1 ≤ a ∧ a ≤ h.1 ∧ (h.2.2.1 a).1 = q.1 then (if z_isR q.1 q.2.1 then (match h.2.2.2.2 a q.2.1 with
      | some j => some (.ref j :: r, h)
      | none => none) else some (.int (h.2.2.2.1 a q.2.1) :: r, h)) else none
  | none => none
def z_pfI (k : Nat) (q : Nat × Nat × Nat × Nat) (x : Int32) (a : Nat) (h : zA) : Prop := 1 ≤ a ∧ a ≤ h.1 ∧ (h.2.2.1 a).1 = q.1 ∧ z_isR q.1 q.2.1 = false ∧ (z_isZ q.1 q.2.1 = false ∨ x = 0 ∨ x = 1) ∧ (zTn q.1 q.2.1).2.2.2 = false
def z_pfR (k : Nat) (q : Nat × Nat × Nat × Nat) (a : Nat) (h : zA) : Prop := 1 ≤ a ∧ a ≤ h.1 ∧ (h.2.2.1 a).1 = q.1 ∧ z_isR q.1 q.2.1 = true ∧ (zTn q.1 q.2.1).2.2.2 = true ∧ z_kd k = 2 ∧ q.2.2.1 = 0
def z_pf (k i : Nat) (st : List Value) (h : zA) : Option zG := z_v1 st fun v r => z_r1 r fun a r => match z_lk3 zFT (z_cls k) i with
  | some q => (match v with
    | .int x => if 1 ≤ a ∧ a ≤ h.1 ∧ (h.2.2.1 a).1 = q.1 ∧ z_isR q.1 q.2.1 = false ∧ (z_isZ q.1 q.2.1 = false ∨ x = 0 ∨ x = 1) ∧ (zTn q.1 q.2.1).2.2.2 = false then some (r, z_setI h a q.2.1 x) else none
    | .ref x => if 1 ≤ a ∧ a ≤ h.1 ∧ (h.2.2.1 a).1 = q.1 ∧ z_isR q.1 q.2.1 = true ∧ (zTn q.1 q.2.1).2.2.2 = true ∧ z_kd k = 2 ∧ q.2.2.1 = 0 then some (r, z_setR h a q.2.1 x) else none
    | _ => none)
  | none => none
def z_ald (sc : Nat × (Nat → Int32)) (k kd : Nat) (st : List Value) (h : zA) : Option zG := z_i1 st fun i r => z_r1 r fun a r =>
  if (1 ≤ a ∧ a ≤ h.1 ∧ (h.2.2.1 a).1 = kd) ∧ ¬ (i < 0 ∨ (h.2.2.1 a).2 ≤ i.toNatClampNeg) then some (.int (h.2.2.2.1 a i.toNatClampNeg) :: r, h)
  else if (a = 0 ∧ k = zLaw ∧ kd = 100) ∧ ¬ (i < 0 ∨ sc.1 ≤ i.toNatClampNeg) then some (.int (sc.2 i.toNatClampNeg) :: r, h) else none
def z_ast (kd : Nat) (nar : Int32 → Int32) (st : List Value) (h : zA) : Option zG := z_i2 st fun i x r => z_r1 r fun a r =>
  if (1 ≤ a ∧ a ≤ h.1 ∧ (h.2.2.1 a).1 = kd) ∧ ¬ (i < 0 ∨ (h.2.2.1 a).2 ≤ i.toNatClampNeg) then some (r, z_setI h a i.toNatClampNeg (nar x)) else none
def z_aald (st : List Value) (h : zA) : Option zG := z_i1 st fun i r => z_r1 r fun a r =>
  if (1 ≤ a ∧ a ≤ h.1 ∧ ((h.2.2.1 a).1 = 102 ∨ (h.2.2.1 a).1 = 103)) ∧ ¬ (i < 0 ∨ (h.2.2.1 a).2 ≤ i.toNatClampNeg) then (match h.2.2.2.2 a i.toNatClampNeg with
    | some j => some (.ref j :: r, h)
    | none => none) else none
def z_aast (st : List Value) (h : zA) : Option zG := z_r1 st fun v r => z_i1 r fun i r => z_r1 r fun a r =>
  if (1 ≤ a ∧ a ≤ h.1 ∧ (h.2.2.1 a).1 = 102) ∧ (1 ≤ v ∧ v ≤ h.1 ∧ (h.2.2.1 v).1 = 2) ∧ ¬ (i < 0 ∨ (h.2.2.1 a).2 ≤ i.toNatClampNeg) then some (r, z_setR h a i.toNatClampNeg v) else none
def z_new (k i : Nat) (st : List Value) (h : zA) : Option zG := match z_lk1 zNT (z_cls k) i with
  | some q => if q.1 < 10 then some (.ref (h.1 + 1) :: st, z_mk h q.1 0 (zN q.1)) else none
  | none => none
def z_newa (kd : Nat) (st : List Value) (h : zA) : Option zG := z_i1 st fun n r => if ¬ n < 0 ∧ n.toNatClampNeg ≤ 100000 then some (.ref (h.1 + 1) :: r, z_mk h kd n.toNatClampNeg n.toNatClampNeg) else none
def z_newq (k i : Nat) (st : List Value) (h : zA) : Option zG := match z_lk0 zQT (z_cls k) i with
  | some _ => z_newa 102 st h
  | none => none
def z_newm (k i : Nat) (st : List Value) (h : zA) : Option zG := match z_lk0 zMT (z_cls k) i with
  | some _ => z_i2 st fun n m r => if ¬ n < 0 ∧ n.toNatClampNeg ≤ 100000 ∧ ¬ m < 0 ∧ m.toNatClampNeg ≤ 100000 then some (.ref (h.1 + 1) :: r, z_mk2 h n.toNatClampNeg m.toNatClampNeg) else none
  | none => none
def z_len0 (sc : Nat × (Nat → Int32)) (k : Nat) (st : List Value) (h : zA) : Option zG := z_r1 st fun a r => if a = 0 ∧ k = zLaw then some (.int (Int32.ofNat sc.1) :: r, h) else none
def z_obj (k i : Nat) (st : List Value) (h : zA) : Option zG := match z_lk0 zOT (z_cls k) i with
  | some _ => z_r1 st fun _ r => if 1 ≤ z_fr k ∧ 2 * r.length + 12 ≤ z_lo k then some (r, h) else none
  | none => none
def z_math (k i : Nat) (st : List Value) (h : zA) : Option zG := match z_lk1 zXT (z_cls k) i with
  | some q => if q.1 = 0 then (z_i1 st fun x r => if 1 ≤ z_fr k ∧ 2 * r.length + 13 ≤ z_lo k then some (.int (if 0 ≤ x then x else 0 - x) :: r, h) else none)
      else if q.1 = 1 then (z_i2 st fun x y r => if 1 ≤ z_fr k ∧ 2 * r.length + 13 ≤ z_lo k then some (.int (if x < y then y else x) :: r, h) else none) else none
  | none => none
/-- what the law's own method lot answers -/
def z_lt (sc : Nat × (Nat → Int32)) (x : Int32) : Int32 := if x < Int32.ofNat sc.1 then sc.2 x.toNatClampNeg else -1076894359 * (x + 2887) + 2683
def z_lot (sc : Nat × (Nat → Int32)) (k i : Nat) (st : List Value) (h : zA) : Option zG := match z_lk0 zVT (z_cls k) i with
  | some _ => z_i1 st fun x r => z_r1 r fun a r => if (a = 0 ∧ k = zLaw ∧ ¬ x < 0 ∧ sc.1 ≤ 2048) ∧ 1 ≤ z_fr k ∧ r.length ≤ 4 ∧ 21 ≤ z_lo k then some (.int (z_lt sc x) :: r, h) else none
  | none => z_math k i st h
/-- what touches cells (calls of own methods aside) -/
def z_heap (sc : Nat × (Nat → Int32)) (k : Nat) (ins : Instr) (st : List Value) (h : zA) : Option zG := match ins with
  | .getfield i => z_gf k i st h
  | .putfield i => z_pf k i st h
  | .iaload => z_ald sc k 100 st h
  | .caload => z_ald sc k 101 st h
  | .aaload => z_aald st h
  | .iastore => z_ast 100 (fun x => x) st h
  | .castore => z_ast 101 (fun x => vp_nar .char x) st h
  | .aastore => z_aast st h
  | .arraylength => z_len0 sc k st h
  | .new i => z_new k i st h
  | .newarray t => (match t with
    | .int => z_newa 100 st h
    | .char => z_newa 101 st h
    | _ => none)
  | .anewarray i => z_newq k i st h
  | .multianewarray i d => if d = 2 then z_newm k i st h else none
  | .invokespecial i => z_obj k i st h
  | .invokestatic i => z_lot sc k i st h
  | _ => none
abbrev zH : Type := Nat × List Value × List Value × zA
def z_stepI (sc : Nat × (Nat → Int32)) (k : Nat) (ins : Instr) (len pc : Nat) (ls st : List Value) (h : zA) : Option zH := if len = z_len ins len then (match z_pure k ins pc ls st with
    | some q => some (q.1, q.2.1, q.2.2, h)
    | none => match z_heap sc k ins st h with
      | some q => some (pc + len, ls, q.1, q.2)
      | none => none) else none
def z_step (sc : Nat × (Nat → Int32)) (k pc : Nat) (ls st : List Value) (h : zA) : Option zH := match decode (z_code k) pc with
  | .ok q => z_stepI sc k q.1 q.2 pc ls st h
  | .error _ => none
/-- a method's end: what it answers -/
def z_retI (k : Nat) (ins : Instr) (st : List Value) : Option (Option Value) := match ins with
  | .return_ => if z_ret k = none ∧ st = [] then some none else none
  | .ireturn => z_i1 st fun x r => if r = [] ∧ (z_ret k = some .int ∨ (z_ret k = some .boolean ∧ (x = 0 ∨ x = 1))) then some (some (.int x)) else none
  | .lreturn => z_l1 st fun x r => if r = [] ∧ z_ret k = some .long then some (some (.long x)) else none
  | .areturn => z_r1 st fun x r => if r = [] ∧ (z_ret k = some (.object RX0) ∨ z_ret k = some (.object RX6)) then some (some (.ref x)) else none
  | _ => none
def z_end (k pc : Nat) (st : List Value) : Option (Option Value) := match decode (z_code k) pc with
  | .ok q => if q.2 = 1 then z_retI k q.1 st else none
  | .error _ => none
def z_rc (h : zA) (c : Nat) (as : List Value) : Bool := match as with
  | .ref a :: _ => decide (1 ≤ a ∧ a ≤ h.1 ∧ (h.2.2.1 a).1 = c)
  | _ => false
/-- a call of an own method: the method, its arguments, the rest of the stack -/
def z_ar (kd : Nat) : Nat := match kd with
  | 1 => 0
  | _ => 1
def z_callY (k i kd : Nat) (st : List Value) (h : zA) : Option (Nat × List Value × List Value) := match z_lk2 zCT (z_cls k) i with
  | some q => if z_kd q.1 = kd ∧ z_np q.1 + z_ar kd ≤ st.length ∧ z_np q.1 + z_ar kd ≤ z_ml q.1 ∧ q.1 < zLaw ∧ (st.drop (z_np q.1 + z_ar kd)).length ≤ 4 ∧ (st.take (z_np q.1 + z_ar kd)).all z_c1 = true ∧ z_fr q.1 + 1 ≤ z_fr k ∧ 8 + (z_ml q.1 + 11) + z_lo q.1 ≤ z_lo k ∧ (kd = 1 ∨ z_rc h (z_cls q.1) (st.take (z_np q.1 + z_ar kd)).reverse = true) then some (q.1, (st.take (z_np q.1 + z_ar kd)).reverse, st.drop (z_np q.1 + z_ar kd)) else none
  | none => none
def z_inv (k pc : Nat) (st : List Value) (h : zA) : Option (Nat × List Value × List Value) := match decode (z_code k) pc with
  | .ok q => if q.2 = 3 then (match q.1 with
      | .invokevirtual i => z_callY k i 0 st h
      | .invokestatic i => z_callY k i 1 st h
      | .invokespecial i => z_callY k i 2 st h
      | _ => none) else none
  | .error _ => none
def z_run (sc : Nat × (Nat → Int32)) : Nat → Nat → Nat → List Value → List Value → zA → Option (Option Value × zA)
  | 0, _, _, _, _, _ => none
  | n + 1, k, pc, ls, st, h => match z_end k pc st with
    | some r => some (r, h)
    | none => match z_step sc k pc ls st h with
      | some q => z_run sc n k q.1 q.2.1 q.2.2.1 q.2.2.2
      | none => match z_inv k pc st h with
        | some q => (match z_run sc n q.1 0 (q.2.1 ++ List.replicate (z_ml q.1 - q.2.1.length) .null) [] h with
          | some r => z_run sc n k (pc + 3) ls (r.1.toList ++ q.2.2) r.2
          | none => none)
        | none => none
theorem z_mono (sc : Nat × (Nat → Int32)) : ∀ (n k pc : Nat) (ls st : List Value) (h : zA) (r : Option Value × zA), z_run sc n k pc ls st h = some r → ∀ m, n ≤ m → z_run sc m k pc ls st h = some r := by
  intro n
  induction n with
  | zero => intro k pc ls st h r e; cases e
  | succ n ih =>
    intro k pc ls st h r e m hm
    obtain ⟨m, rfl⟩ : ∃ m', m = m' + 1 := ⟨m - 1, by omega⟩
    have hm : n ≤ m := by omega
    unfold z_run at e ⊢
    cases h1 : z_end k pc st with
    | some x => rw [h1] at e; exact e
    | none =>
      rw [h1] at e
      dsimp only at e ⊢
      cases h2 : z_step sc k pc ls st h with
      | some q => rw [h2] at e; exact ih _ _ _ _ _ _ e m hm
      | none =>
        rw [h2] at e
        dsimp only at e ⊢
        cases h3 : z_inv k pc st h with
        | none => rw [h3] at e; cases e
        | some q =>
          rw [h3] at e
          dsimp only at e ⊢
          cases h4 : z_run sc n q.1 0 (q.2.1 ++ List.replicate (z_ml q.1 - q.2.1.length) .null) [] h with
          | none => rw [h4] at e; cases e
          | some r4 =>
            rw [h4] at e
            rw [ih _ _ _ _ _ _ h4 m hm]
            exact ih _ _ _ _ _ _ e m hm
