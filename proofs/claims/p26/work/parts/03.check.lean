/-! ===== the tables say what the words of the Statement say: by places among lw_tbl (printed by wip/whole/gen1.py, its end by hand: wip/whole/check.tail.txt) ===== -/
def zT : List Jvm.Cond := lw_tbl.filter goodWord
theorem z_in {w : Jvm.Cond} (i : Nat) (h : lw_tbl[i]? = some w) (g : goodWord w = true) : w ∈ zT := List.mem_filter.mpr ⟨List.mem_of_getElem? h, g⟩
abbrev zkP (q : MethodName × ByteArray × Nat × Option FieldType × Nat × Nat × Nat × Nat × Nat) : Prop := Jvm.Cond.code q.1 q.2.1 q.2.2.1 q.2.2.2.1 ∈ zT
set_option maxRecDepth 20000 in
theorem zk_0 : ∀ q ∈ zML_0, zkP q := List.forall_mem_cons.mpr ⟨z_in 173 rfl rfl, List.forall_mem_cons.mpr ⟨z_in 415 rfl rfl, List.forall_mem_cons.mpr ⟨z_in 411 rfl rfl, List.forall_mem_cons.mpr ⟨z_in 209 rfl rfl, List.forall_mem_cons.mpr ⟨z_in 383 rfl rfl, List.forall_mem_cons.mpr ⟨z_in 526 rfl rfl, List.forall_mem_cons.mpr ⟨z_in 83 rfl rfl, List.forall_mem_cons.mpr ⟨z_in 77 rfl rfl, List.forall_mem_cons.mpr ⟨z_in 129 rfl rfl, List.forall_mem_cons.mpr ⟨z_in 125 rfl rfl, List.forall_mem_cons.mpr ⟨z_in 71 rfl rfl, List.forall_mem_cons.mpr ⟨z_in 340 rfl rfl, List.forall_mem_cons.mpr ⟨z_in 336 rfl rfl, List.forall_mem_cons.mpr ⟨z_in 332 rfl rfl, List.forall_mem_cons.mpr ⟨z_in 310 rfl rfl, List.forall_mem_cons.mpr ⟨z_in 306 rfl rfl, List.forall_mem_cons.mpr ⟨z_in 424 rfl rfl, List.forall_mem_cons.mpr ⟨z_in 442 rfl rfl, List.forall_mem_cons.mpr ⟨z_in 457 rfl rfl, fun _ h => absurd h List.not_mem_nil⟩⟩⟩⟩⟩⟩⟩⟩⟩⟩⟩⟩⟩⟩⟩⟩⟩⟩⟩
set_option maxRecDepth 20000 in
theorem zk_1 : ∀ q ∈ zML_1, zkP q := List.forall_mem_cons.mpr ⟨z_in 541 rfl rfl, List.forall_mem_cons.mpr ⟨z_in 314 rfl rfl, List.forall_mem_cons.mpr ⟨z_in 375 rfl rfl, List.forall_mem_cons.mpr ⟨z_in 379 rfl rfl, List.forall_mem_cons.mpr ⟨z_in 448 rfl rfl, List.forall_mem_cons.mpr ⟨z_in 156 rfl rfl, List.forall_mem_cons.mpr ⟨z_in 495 rfl rfl, List.forall_mem_cons.mpr ⟨z_in 491 rfl rfl, List.forall_mem_cons.mpr ⟨z_in 328 rfl rfl, List.forall_mem_cons.mpr ⟨z_in 481 rfl rfl, List.forall_mem_cons.mpr ⟨z_in 485 rfl rfl, List.forall_mem_cons.mpr ⟨z_in 477 rfl rfl, List.forall_mem_cons.mpr ⟨z_in 473 rfl rfl, List.forall_mem_cons.mpr ⟨z_in 503 rfl rfl, List.forall_mem_cons.mpr ⟨z_in 499 rfl rfl, List.forall_mem_cons.mpr ⟨z_in 513 rfl rfl, List.forall_mem_cons.mpr ⟨z_in 531 rfl rfl, List.forall_mem_cons.mpr ⟨z_in 318 rfl rfl, List.forall_mem_cons.mpr ⟨z_in 190 rfl rfl, fun _ h => absurd h List.not_mem_nil⟩⟩⟩⟩⟩⟩⟩⟩⟩⟩⟩⟩⟩⟩⟩⟩⟩⟩⟩
set_option maxRecDepth 20000 in
theorem zk_2 : ∀ q ∈ zML_2, zkP q := List.forall_mem_cons.mpr ⟨z_in 371 rfl rfl, List.forall_mem_cons.mpr ⟨z_in 366 rfl rfl, List.forall_mem_cons.mpr ⟨z_in 461 rfl rfl, List.forall_mem_cons.mpr ⟨z_in 553 rfl rfl, List.forall_mem_cons.mpr ⟨z_in 226 rfl rfl, List.forall_mem_cons.mpr ⟨z_in 587 rfl rfl, List.forall_mem_cons.mpr ⟨z_in 579 rfl rfl, List.forall_mem_cons.mpr ⟨z_in 610 rfl rfl, List.forall_mem_cons.mpr ⟨z_in 242 rfl rfl, List.forall_mem_cons.mpr ⟨z_in 361 rfl rfl, List.forall_mem_cons.mpr ⟨z_in 615 rfl rfl, List.forall_mem_cons.mpr ⟨z_in 623 rfl rfl, List.forall_mem_cons.mpr ⟨z_in 628 rfl rfl, List.forall_mem_cons.mpr ⟨z_in 619 rfl rfl, List.forall_mem_cons.mpr ⟨z_in 632 rfl rfl, List.forall_mem_cons.mpr ⟨z_in 606 rfl rfl, List.forall_mem_cons.mpr ⟨z_in 602 rfl rfl, List.forall_mem_cons.mpr ⟨z_in 598 rfl rfl, List.forall_mem_cons.mpr ⟨z_in 63 rfl rfl, fun _ h => absurd h List.not_mem_nil⟩⟩⟩⟩⟩⟩⟩⟩⟩⟩⟩⟩⟩⟩⟩⟩⟩⟩⟩
set_option maxRecDepth 20000 in
theorem zk_3 : ∀ q ∈ zML_3, zkP q := List.forall_mem_cons.mpr ⟨z_in 567 rfl rfl, List.forall_mem_cons.mpr ⟨z_in 545 rfl rfl, List.forall_mem_cons.mpr ⟨z_in 549 rfl rfl, List.forall_mem_cons.mpr ⟨z_in 559 rfl rfl, List.forall_mem_cons.mpr ⟨z_in 563 rfl rfl, List.forall_mem_cons.mpr ⟨z_in 407 rfl rfl, List.forall_mem_cons.mpr ⟨z_in 403 rfl rfl, List.forall_mem_cons.mpr ⟨z_in 438 rfl rfl, List.forall_mem_cons.mpr ⟨z_in 438 rfl rfl, List.forall_mem_cons.mpr ⟨z_in 438 rfl rfl, List.forall_mem_cons.mpr ⟨z_in 469 rfl rfl, List.forall_mem_cons.mpr ⟨z_in 509 rfl rfl, List.forall_mem_cons.mpr ⟨z_in 522 rfl rfl, List.forall_mem_cons.mpr ⟨z_in 537 rfl rfl, List.forall_mem_cons.mpr ⟨z_in 517 rfl rfl, List.forall_mem_cons.mpr ⟨z_in 392 rfl rfl, List.forall_mem_cons.mpr ⟨z_in 386 rfl rfl, List.forall_mem_cons.mpr ⟨z_in 358 rfl rfl, List.forall_mem_cons.mpr ⟨z_in 434 rfl rfl, fun _ h => absurd h List.not_mem_nil⟩⟩⟩⟩⟩⟩⟩⟩⟩⟩⟩⟩⟩⟩⟩⟩⟩⟩⟩
set_option maxRecDepth 20000 in
theorem zk_4 : ∀ q ∈ zML_4, zkP q := List.forall_mem_cons.mpr ⟨z_in 428 rfl rfl, List.forall_mem_cons.mpr ⟨z_in 420 rfl rfl, List.forall_mem_cons.mpr ⟨z_in 453 rfl rfl, List.forall_mem_cons.mpr ⟨z_in 438 rfl rfl, List.forall_mem_cons.mpr ⟨z_in 438 rfl rfl, List.forall_mem_cons.mpr ⟨z_in 303 rfl rfl, List.forall_mem_cons.mpr ⟨z_in 323 rfl rfl, List.forall_mem_cons.mpr ⟨z_in 583 rfl rfl, List.forall_mem_cons.mpr ⟨z_in 575 rfl rfl, List.forall_mem_cons.mpr ⟨z_in 594 rfl rfl, List.forall_mem_cons.mpr ⟨z_in 640 rfl rfl, List.forall_mem_cons.mpr ⟨z_in 347 rfl rfl, List.forall_mem_cons.mpr ⟨z_in 351 rfl rfl, List.forall_mem_cons.mpr ⟨z_in 399 rfl rfl, List.forall_mem_cons.mpr ⟨z_in 571 rfl rfl, List.forall_mem_cons.mpr ⟨z_in 590 rfl rfl, List.forall_mem_cons.mpr ⟨z_in 465 rfl rfl, fun _ h => absurd h List.not_mem_nil⟩⟩⟩⟩⟩⟩⟩⟩⟩⟩⟩⟩⟩⟩⟩⟩⟩
def zc_m (j : Nat) : Bool :=
  let q := zMW.getD j (0, 0, 0, 0)
  decide (lw_tbl[q.2.1]? = some (.initialized (z_y j).cls)) &&
  (match z_kd j with
    | 0 => decide (lw_tbl[q.2.2.1]? = some (.instanceMethod (z_y j))) && decide (lw_tbl[q.2.2.2]? = some (.selects (z_y j).cls (z_y j) (z_y j)))
    | 1 => decide (lw_tbl[q.2.2.1]? = some (.static (z_y j)))
    | _ => decide (lw_tbl[q.2.2.1]? = some (.instanceMethod (z_y j))) && decide ((z_y j).name = "<init>") && decide (z_ret j = none)) &&
  plainName (z_y j).cls && decide ((z_y j).cls ≠ "java/lang/invoke/MethodHandle") && decide ((z_y j).cls ≠ "java/lang/invoke/VarHandle") && decide ((parseMethodDescriptor (z_y j).desc).map (fun d => d.parameters.length) = some (z_np j)) && decide ((z_y j).cls = zR (z_cls j)) && decide (z_cls j < 10 ∨ z_kd j = 1)
theorem zc_m_0 : (List.range' 0 19).all zc_m = true := by decide +kernel
theorem zc_m_19 : (List.range' 19 19).all zc_m = true := by decide +kernel
theorem zc_m_38 : (List.range' 38 19).all zc_m = true := by decide +kernel
theorem zc_m_57 : (List.range' 57 19).all zc_m = true := by decide +kernel
theorem zc_m_76 : (List.range' 76 17).all zc_m = true := by decide +kernel
def zc_c (q : Nat × Nat × Nat × Nat × Nat) : Bool := decide (lw_tbl[q.2.2.2.2]? = some (if q.2.2.2.1 = 0 then .methodLink (zR q.1) q.2.1 (z_y q.2.2.1) else .methodLinkNest (zR q.1) q.2.1 (z_y q.2.2.1) zHost)) && decide (q.2.2.2.1 = 1 ∨ z_kd q.2.2.1 ≠ 1 ∨ (z_y q.2.2.1).cls = zR q.1)
set_option maxRecDepth 100000 in
theorem zc_c_ok : zCT.all zc_c = true := by decide +kernel
def zc_f (q : Nat × Nat × Nat × Nat × Nat × Nat) : Bool := decide (lw_tbl[q.2.2.2.2.2]? = some (if q.2.2.2.2.1 = 0 then .fieldLink (zR q.1) q.2.1 (zTn q.2.2.1 q.2.2.2.1).1 (zTn q.2.2.1 q.2.2.2.1).2.1 (zTn q.2.2.1 q.2.2.2.1).2.2.1 else .fieldLinkNest (zR q.1) q.2.1 (zTn q.2.2.1 q.2.2.2.1).1 (zTn q.2.2.1 q.2.2.2.1).2.1 (zTn q.2.2.1 q.2.2.2.1).2.2.1 zHost)) && decide (q.2.2.2.1 < zN q.2.2.1) && decide (q.2.2.1 < 10) && decide (q.2.2.2.2.1 = 1 ∨ q.2.2.2.2.1 = 0) && decide ((zTn q.2.2.1 q.2.2.2.1).2.2.2 = false ∨ (q.1 = q.2.2.1 ∧ (zTn q.2.2.1 q.2.2.2.1).1 = zR q.1) ∨ q.2.2.2.2.1 = 1)
set_option maxRecDepth 100000 in
theorem zc_f_ok : zFT.all zc_f = true := by decide +kernel
def zc_n (q : Nat × Nat × Nat × Nat) : Bool := decide (lw_tbl[q.2.2.2]? = some (.classLink (zR q.1) q.2.1 (zR q.2.2.1)))
theorem zc_n_ok : zNT.all zc_n = true := by decide +kernel
def zc_q (q : Nat × Nat × Nat) : Bool := decide (lw_tbl[q.2.2]? = some (.classLink (zR q.1) q.2.1 RX2))
theorem zc_q_ok : zQT.all zc_q = true := by decide +kernel
def zc_g (q : Nat × Nat × Nat) : Bool := decide (lw_tbl[q.2.2]? = some (.classLink (zR q.1) q.2.1 "[[I"))
theorem zc_g_ok : zMT.all zc_g = true := by decide +kernel
def zc_k (q : Nat × Nat × Int32 × Nat) : Bool := decide (lw_tbl[q.2.2.2]? = some (.constant (zR q.1) q.2.1 q.2.2.1))
theorem zc_k_ok : zKT.all zc_k = true := by decide +kernel
def zc_kl (q : Nat × Nat × Int64 × Nat) : Bool := decide (lw_tbl[q.2.2.2]? = some (.constantLong (zR q.1) q.2.1 q.2.2.1))
theorem zc_kl_ok : zLT.all zc_kl = true := by decide +kernel
def zc_v (q : Nat × Nat × Nat) : Bool := decide (lw_tbl[q.2.2]? = some (.methodLink (zR q.1) q.2.1 yL_lot)) && decide (zR q.1 = RL)
theorem zc_v_ok : zVT.all zc_v = true := by decide +kernel
theorem zc_vw : lw_tbl[zJV.1]? = some (.static yL_lot) ∧ lw_tbl[zJV.2.1]? = some (.code yL_lot cL_lot 2 (some .int)) ∧ lw_tbl[zJV.2.2.1]? = some (.initialized RL) ∧ lw_tbl[zJV.2.2.2]? = some (.constant RL 7 (-1076894359)) := ⟨by decide +kernel, by decide +kernel, by decide +kernel, by decide +kernel⟩
def zc_o (q : Nat × Nat × Nat) : Bool := decide (lw_tbl[q.2.2]? = some (.methodLink (zR q.1) q.2.1 objectInit))
theorem zc_o_ok : zOT.all zc_o = true := by decide +kernel
def zc_x (q : Nat × Nat × Nat × Nat) : Bool := decide (lw_tbl[q.2.2.2]? = some (.methodLink (zR q.1) q.2.1 (if q.2.2.1 = 0 then Lib.Math.abs.name else Lib.Math.max.name)))
theorem zc_x_ok : zXT.all zc_x = true := by decide +kernel
def zc_l (ci : Nat) : Bool := decide ((zLW.getD ci []).map (fun i => lw_tbl[i]?) = (u_ws (zR ci) (zTn ci) (zN ci)).map some) && (u_ws (zR ci) (zTn ci) (zN ci)).all goodWord && decide (lw_tbl[(zCW.getD ci (0, 0)).1]? = some (.instantiable (zR ci) (zN ci))) && decide (lw_tbl[(zCW.getD ci (0, 0)).2]? = some (.initialized (zR ci)))
set_option maxRecDepth 100000 in
theorem zc_l_ok : (List.range 10).all zc_l = true := by decide +kernel
theorem zc_j : lw_tbl[zJW.1]? = some (.instanceMethod objectInit) ∧ lw_tbl[zJW.2.1]? = some (.code objectInit ⟨#[0xb1]⟩ 1 none) ∧ lw_tbl[zJW.2.2.1]? = some (.arrayClass .int) ∧ lw_tbl[zJW.2.2.2.1]? = some (.arrayClass .char) ∧ lw_tbl[zJW.2.2.2.2]? = some (.arrayOver (.object RX2)) := ⟨by decide +kernel, by decide +kernel, by decide +kernel, by decide +kernel, by decide +kernel⟩
theorem zc_w : lw_tbl[zJX.1]? = some (.arrayOver (.array .int)) ∧ lw_tbl[zJX.2.1]? = some (.initialized "java/lang/Math") ∧ lw_tbl[zJX.2.2.1]? = some (.static Lib.Math.abs.name) ∧ lw_tbl[zJX.2.2.2.1]? = some (.code Lib.Math.abs.name Lib.Math.abs.code 1 (some .int)) ∧ lw_tbl[zJX.2.2.2.2.1]? = some (.static Lib.Math.max.name) ∧ lw_tbl[zJX.2.2.2.2.2]? = some (.code Lib.Math.max.name Lib.Math.max.code 2 (some .int)) := ⟨by decide +kernel, by decide +kernel, by decide +kernel, by decide +kernel, by decide +kernel, by decide +kernel⟩
def z_rowOk (ci : Nat) : Bool := (List.range (zN ci)).all (fun a => decide (parseFieldDescriptor (zTn ci a).2.2.1 = some (zTy ci a)) && (List.range (zN ci)).all (fun b => decide (a = b) || decide ((zTn ci a).2.1 ≠ (zTn ci b).2.1)) && (match zTy ci a with
  | .int | .boolean | .object _ | .array _ => true
  | _ => false))
theorem z_row_ok : (List.range 10).all z_rowOk = true := by decide +kernel

