section JR
variable {μ : JMd} {d pc : Nat} {lv lv' : List (Option Value)} {st : List Value} {M : JMem} {Q : JMem → Option Value → Prop}
/-! one instruction, one row: the goal at pc out of the goal behind it -/
theorem g_iconst {n : Int} (v : Int32) (hd : decode μ.2.1 pc = .ok (.iconst n, 1)) (hv : Int32.ofInt n = v) (k : jGG μ d (pc + 1) lv (.int v :: st) M Q) : jGG μ d pc lv st M Q := by
  intro w p l e s m args below meth c H locs ls F hP hS hl
  exact lv_iconst F.1 F.2.1 hd hv (k w p l e s m args below meth c H locs ls F hP hS hl)
theorem g_bipush {n : Int} (v : Int32) (hd : decode μ.2.1 pc = .ok (.bipush n, 2)) (hv : (Int8.ofInt n).toInt32 = v) (k : jGG μ d (pc + 2) lv (.int v :: st) M Q) : jGG μ d pc lv st M Q := by
  intro w p l e s m args below meth c H locs ls F hP hS hl
  exact lv_bipush F.1 F.2.1 hd hv (k w p l e s m args below meth c H locs ls F hP hS hl)
theorem g_sipush {n : Int} (v : Int32) (hd : decode μ.2.1 pc = .ok (.sipush n, 3)) (hv : (Int16.ofInt n).toInt32 = v) (k : jGG μ d (pc + 3) lv (.int v :: st) M Q) : jGG μ d pc lv st M Q := by
  intro w p l e s m args below meth c H locs ls F hP hS hl
  exact lv_sipush F.1 F.2.1 hd hv (k w p l e s m args below meth c H locs ls F hP hS hl)
theorem g_ldc {n : Nat} (v : Int32) (hd : decode μ.2.1 pc = .ok (.ldc n, 2)) (hw : Cond.constant μ.1 n v ∈ jtb) (k : jGG μ d (pc + 2) lv (.int v :: st) M Q) : jGG μ d pc lv st M Q := by
  intro w p l e s m args below meth c H locs ls F hP hS hl
  exact lv_ldc F.1 F.2.1 F.2.2.2.1 (F.2.2.2.2.1 _ hw) hd (k w p l e s m args below meth c H locs ls F hP hS hl)
theorem g_ldcw {n : Nat} (v : Int32) (hd : decode μ.2.1 pc = .ok (.ldc_w n, 3)) (hw : Cond.constant μ.1 n v ∈ jtb) (k : jGG μ d (pc + 3) lv (.int v :: st) M Q) : jGG μ d pc lv st M Q := by
  intro w p l e s m args below meth c H locs ls F hP hS hl
  exact lv_ldcw F.1 F.2.1 F.2.2.2.1 (F.2.2.2.2.1 _ hw) hd (k w p l e s m args below meth c H locs ls F hP hS hl)
theorem g_lconst {n : Fin 2} (v : Int64) (hd : decode μ.2.1 pc = .ok (.lconst n, 1)) (hv : Int64.ofNat (n : Nat) = v) (k : jGG μ d (pc + 1) lv (.long v :: st) M Q) : jGG μ d pc lv st M Q := by
  intro w p l e s m args below meth c H locs ls F hP hS hl
  exact lv_lconst F.1 F.2.1 hd hv (k w p l e s m args below meth c H locs ls F hP hS hl)
theorem g_ldc2 {n : Nat} (v : Int64) (hd : decode μ.2.1 pc = .ok (.ldc2_w n, 3)) (hw : Cond.constantLong μ.1 n v ∈ jtb) (k : jGG μ d (pc + 3) lv (.long v :: st) M Q) : jGG μ d pc lv st M Q := by
  intro w p l e s m args below meth c H locs ls F hP hS hl
  exact lv_ldc2 F.1 F.2.1 F.2.2.2.1 (F.2.2.2.2.1 _ hw) hd (k w p l e s m args below meth c H locs ls F hP hS hl)
theorem g_iload_n {k0 : Fin 4} {i : Nat} {x : Int32} (hd : decode μ.2.1 pc = .ok (.iload_n k0, 1)) (hi : (k0 : Nat) = i) (hx : lv[i]? = some (some (.int x))) (k : jGG μ d (pc + 1) lv (.int x :: st) M Q) : jGG μ d pc lv st M Q := by
  intro w p l e s m args below meth c H locs ls F hP hS hl
  exact lv_iload_n F.1 F.2.1 hd hi (hl.2.2 _ _ hx).2 (k w p l e s m args below meth c H locs ls F hP hS hl)
theorem g_iload {i : Nat} {x : Int32} (hd : decode μ.2.1 pc = .ok (.iload i, 2)) (hx : lv[i]? = some (some (.int x))) (k : jGG μ d (pc + 2) lv (.int x :: st) M Q) : jGG μ d pc lv st M Q := by
  intro w p l e s m args below meth c H locs ls F hP hS hl
  exact lv_iload F.1 F.2.1 hd (hl.2.2 _ _ hx).2 (k w p l e s m args below meth c H locs ls F hP hS hl)
theorem g_aload_n {k0 : Fin 4} {i o : Nat} (hd : decode μ.2.1 pc = .ok (.aload_n k0, 1)) (hi : (k0 : Nat) = i) (hx : lv[i]? = some (some (.ref o))) (k : jGG μ d (pc + 1) lv (.ref o :: st) M Q) : jGG μ d pc lv st M Q := by
  intro w p l e s m args below meth c H locs ls F hP hS hl
  exact lv_aload_n F.1 F.2.1 hd hi (hl.2.2 _ _ hx).2 (k w p l e s m args below meth c H locs ls F hP hS hl)
theorem g_aload {i o : Nat} (hd : decode μ.2.1 pc = .ok (.aload i, 2)) (hx : lv[i]? = some (some (.ref o))) (k : jGG μ d (pc + 2) lv (.ref o :: st) M Q) : jGG μ d pc lv st M Q := by
  intro w p l e s m args below meth c H locs ls F hP hS hl
  exact lv_aload F.1 F.2.1 hd (hl.2.2 _ _ hx).2 (k w p l e s m args below meth c H locs ls F hP hS hl)
theorem g_istore_n {k0 : Fin 4} {i : Nat} {x : Int32} (hd : decode μ.2.1 pc = .ok (.istore_n k0, 1)) (hi : (k0 : Nat) = i) (hn : i < μ.2.2.1) (hs : lv.set i (some (.int x)) = lv') (k : jGG μ d (pc + 1) lv' st M Q) : jGG μ d pc lv (.int x :: st) M Q := by
  intro w p l e s m args below meth c H locs ls F hP hS hl
  subst hs
  exact lv_istore_n F.1 F.2.1 hd hi (jlv_has hl) hn rfl (fun ls' h => k w p l e s m args below meth c H locs ls' F hP hS (jlv_of hl rfl h))
theorem g_istore {i : Nat} {x : Int32} (hd : decode μ.2.1 pc = .ok (.istore i, 2)) (hn : i < μ.2.2.1) (hs : lv.set i (some (.int x)) = lv') (k : jGG μ d (pc + 2) lv' st M Q) : jGG μ d pc lv (.int x :: st) M Q := by
  intro w p l e s m args below meth c H locs ls F hP hS hl
  subst hs
  exact lv_istore F.1 F.2.1 hd (jlv_has hl) hn rfl (fun ls' h => k w p l e s m args below meth c H locs ls' F hP hS (jlv_of hl rfl h))
theorem g_astore_n {k0 : Fin 4} {i o : Nat} (hd : decode μ.2.1 pc = .ok (.astore_n k0, 1)) (hi : (k0 : Nat) = i) (hn : i < μ.2.2.1) (hs : lv.set i (some (.ref o)) = lv') (k : jGG μ d (pc + 1) lv' st M Q) : jGG μ d pc lv (.ref o :: st) M Q := by
  intro w p l e s m args below meth c H locs ls F hP hS hl
  subst hs
  exact lv_astore_n F.1 F.2.1 hd hi (jlv_has hl) hn rfl (fun ls' h => k w p l e s m args below meth c H locs ls' F hP hS (jlv_of hl rfl h))
theorem g_iinc {i : Nat} {n : Int} {x : Int32} (v : Int32) (hd : decode μ.2.1 pc = .ok (.iinc i n, 3)) (hx : lv[i]? = some (some (.int x))) (hv : x + Int32.ofInt n = v) (hn : i < μ.2.2.1) (hs : lv.set i (some (.int v)) = lv') (k : jGG μ d (pc + 3) lv' st M Q) : jGG μ d pc lv st M Q := by
  intro w p l e s m args below meth c H locs ls F hP hS hl
  subst hs
  obtain ⟨j, hj⟩ := List.getElem?_of_mem (jll_in (φ := w.1) hx)
  exact lv_iinc F.1 F.2.1 hd (jlv_has hl) hj hv hn rfl (fun ls' h => k w p l e s m args below meth c H locs ls' F hP hS (jlv_of hl rfl h))
theorem g_iadd {x y : Int32} (hd : decode μ.2.1 pc = .ok (.iadd, 1)) (k : jGG μ d (pc + 1) lv (.int (x + y) :: st) M Q) : jGG μ d pc lv (.int y :: .int x :: st) M Q := by
  intro w p l e s m args below meth c H locs ls F hP hS hl
  exact lv_iadd F.1 F.2.1 hd (k w p l e s m args below meth c H locs ls F hP hS hl)
theorem g_isub {x y : Int32} (hd : decode μ.2.1 pc = .ok (.isub, 1)) (k : jGG μ d (pc + 1) lv (.int (x - y) :: st) M Q) : jGG μ d pc lv (.int y :: .int x :: st) M Q := by
  intro w p l e s m args below meth c H locs ls F hP hS hl
  exact lv_isub F.1 F.2.1 hd (k w p l e s m args below meth c H locs ls F hP hS hl)
theorem g_imul {x y : Int32} (hd : decode μ.2.1 pc = .ok (.imul, 1)) (k : jGG μ d (pc + 1) lv (.int (x * y) :: st) M Q) : jGG μ d pc lv (.int y :: .int x :: st) M Q := by
  intro w p l e s m args below meth c H locs ls F hP hS hl
  exact lv_imul F.1 F.2.1 hd (k w p l e s m args below meth c H locs ls F hP hS hl)
theorem g_iand {x y : Int32} (hd : decode μ.2.1 pc = .ok (.iand, 1)) (k : jGG μ d (pc + 1) lv (.int (x &&& y) :: st) M Q) : jGG μ d pc lv (.int y :: .int x :: st) M Q := by
  intro w p l e s m args below meth c H locs ls F hP hS hl
  exact lv_iand F.1 F.2.1 hd (k w p l e s m args below meth c H locs ls F hP hS hl)
theorem g_ior {x y : Int32} (hd : decode μ.2.1 pc = .ok (.ior, 1)) (k : jGG μ d (pc + 1) lv (.int (x ||| y) :: st) M Q) : jGG μ d pc lv (.int y :: .int x :: st) M Q := by
  intro w p l e s m args below meth c H locs ls F hP hS hl
  exact lv_ior F.1 F.2.1 hd (k w p l e s m args below meth c H locs ls F hP hS hl)
theorem g_ixor {x y : Int32} (hd : decode μ.2.1 pc = .ok (.ixor, 1)) (k : jGG μ d (pc + 1) lv (.int (x ^^^ y) :: st) M Q) : jGG μ d pc lv (.int y :: .int x :: st) M Q := by
  intro w p l e s m args below meth c H locs ls F hP hS hl
  exact lv_ixor F.1 F.2.1 hd (k w p l e s m args below meth c H locs ls F hP hS hl)
/-- Java's << on int, as the machine has it -/
abbrev jshl (x y : Int32) : Int32 := x <<< (y &&& 31)
/-- Java's >>> on int -/
abbrev jushr (x y : Int32) : Int32 := (x.toUInt32 >>> (y.toUInt32 &&& Int32.toUInt32 31)).toInt32
theorem g_ishl {x y : Int32} (hd : decode μ.2.1 pc = .ok (.ishl, 1)) (k : jGG μ d (pc + 1) lv (.int (jshl x y) :: st) M Q) : jGG μ d pc lv (.int y :: .int x :: st) M Q := by
  intro w p l e s m args below meth c H locs ls F hP hS hl
  exact lv_ishl F.1 F.2.1 hd (k w p l e s m args below meth c H locs ls F hP hS hl)
theorem g_iushr {x y : Int32} (hd : decode μ.2.1 pc = .ok (.iushr, 1)) (k : jGG μ d (pc + 1) lv (.int (jushr x y) :: st) M Q) : jGG μ d pc lv (.int y :: .int x :: st) M Q := by
  intro w p l e s m args below meth c H locs ls F hP hS hl
  exact lv_iushr F.1 F.2.1 hd rfl (k w p l e s m args below meth c H locs ls F hP hS hl)
theorem g_idiv {x y : Int32} (hd : decode μ.2.1 pc = .ok (.idiv, 1)) (hne : ¬ y = 0) (k : jGG μ d (pc + 1) lv (.int (x / y) :: st) M Q) : jGG μ d pc lv (.int y :: .int x :: st) M Q := by
  intro w p l e s m args below meth c H locs ls F hP hS hl
  exact lv_idiv F.1 F.2.1 hd hne (k w p l e s m args below meth c H locs ls F hP hS hl)
theorem g_irem {x y : Int32} (hd : decode μ.2.1 pc = .ok (.irem, 1)) (hne : ¬ y = 0) (k : jGG μ d (pc + 1) lv (.int (x - x / y * y) :: st) M Q) : jGG μ d pc lv (.int y :: .int x :: st) M Q := by
  intro w p l e s m args below meth c H locs ls F hP hS hl
  exact lv_irem F.1 F.2.1 hd hne (k w p l e s m args below meth c H locs ls F hP hS hl)
theorem g_ineg {x : Int32} (hd : decode μ.2.1 pc = .ok (.ineg, 1)) (k : jGG μ d (pc + 1) lv (.int (-x) :: st) M Q) : jGG μ d pc lv (.int x :: st) M Q := by
  intro w p l e s m args below meth c H locs ls F hP hS hl
  exact lv_ineg F.1 F.2.1 hd (k w p l e s m args below meth c H locs ls F hP hS hl)
theorem g_i2b {x : Int32} (hd : decode μ.2.1 pc = .ok (.i2b, 1)) (k : jGG μ d (pc + 1) lv (.int x.toInt8.toInt32 :: st) M Q) : jGG μ d pc lv (.int x :: st) M Q := by
  intro w p l e s m args below meth c H locs ls F hP hS hl
  exact lv_i2b F.1 F.2.1 hd rfl (k w p l e s m args below meth c H locs ls F hP hS hl)
theorem g_i2s {x : Int32} (hd : decode μ.2.1 pc = .ok (.i2s, 1)) (k : jGG μ d (pc + 1) lv (.int x.toInt16.toInt32 :: st) M Q) : jGG μ d pc lv (.int x :: st) M Q := by
  intro w p l e s m args below meth c H locs ls F hP hS hl
  exact lv_i2s F.1 F.2.1 hd rfl (k w p l e s m args below meth c H locs ls F hP hS hl)
theorem g_i2l {x : Int32} (hd : decode μ.2.1 pc = .ok (.i2l, 1)) (k : jGG μ d (pc + 1) lv (.long x.toInt64 :: st) M Q) : jGG μ d pc lv (.int x :: st) M Q := by
  intro w p l e s m args below meth c H locs ls F hP hS hl
  exact lv_i2l F.1 F.2.1 hd rfl (k w p l e s m args below meth c H locs ls F hP hS hl)
theorem g_ladd {x y : Int64} (hd : decode μ.2.1 pc = .ok (.ladd, 1)) (k : jGG μ d (pc + 1) lv (.long (x + y) :: st) M Q) : jGG μ d pc lv (.long y :: .long x :: st) M Q := by
  intro w p l e s m args below meth c H locs ls F hP hS hl
  exact lv_ladd F.1 F.2.1 hd (k w p l e s m args below meth c H locs ls F hP hS hl)
theorem g_dup {v : Value} (hd : decode μ.2.1 pc = .ok (.dup, 1)) (hc : v.category = 1) (k : jGG μ d (pc + 1) lv (v :: v :: st) M Q) : jGG μ d pc lv (v :: st) M Q := by
  intro w p l e s m args below meth c H locs ls F hP hS hl
  exact lv_dup F.1 F.2.1 hd (by rw [jtr_cat]; exact hc) (k w p l e s m args below meth c H locs ls F hP hS hl)
theorem g_pop {v : Value} (hd : decode μ.2.1 pc = .ok (.pop, 1)) (hc : v.category = 1) (k : jGG μ d (pc + 1) lv st M Q) : jGG μ d pc lv (v :: st) M Q := by
  intro w p l e s m args below meth c H locs ls F hP hS hl
  exact lv_pop F.1 F.2.1 hd (by rw [jtr_cat]; exact hc) (k w p l e s m args below meth c H locs ls F hP hS hl)
theorem g_dup2 {u v : Value} (hd : decode μ.2.1 pc = .ok (.dup2, 1)) (hc : u.category = 1) (hc2 : v.category = 1) (k : jGG μ d (pc + 1) lv (u :: v :: u :: v :: st) M Q) : jGG μ d pc lv (u :: v :: st) M Q := by
  intro w p l e s m args below meth c H locs ls F hP hS hl
  exact lv_dup2_11 F.1 F.2.1 hd (by rw [jtr_cat]; exact hc) (by rw [jtr_cat]; exact hc2) (k w p l e s m args below meth c H locs ls F hP hS hl)
theorem g_goto {off : Int} (tgt : Nat) (hd : decode μ.2.1 pc = .ok (.goto off, 3)) (ht : (pc : Int) + off = (tgt : Int)) (k : jGG μ d tgt lv st M Q) : jGG μ d pc lv st M Q := by
  intro w p l e s m args below meth c H locs ls F hP hS hl
  exact lv_goto F.1 F.2.1 hd ht (k w p l e s m args below meth c H locs ls F hP hS hl)
end JR
section JB
variable {μ : JMd} {d pc : Nat} {lv : List (Option Value)} {st : List Value} {M : JMem} {Q : JMem → Option Value → Prop}
theorem g_if_eq {x : Int32} {off : Int} (tgt : Nat) (hd : decode μ.2.1 pc = .ok (.ifCond .eq off, 3)) (ht : (pc : Int) + off = (tgt : Int)) (kt : x = 0 → jGG μ d tgt lv st M Q) (kf : ¬ x = 0 → jGG μ d (pc + 3) lv st M Q) : jGG μ d pc lv (.int x :: st) M Q := by
  intro w p l e s m args below meth c H locs ls F hP hS hl
  exact lv_if_eq F.1 F.2.1 hd ht (fun h => kt h w p l e s m args below meth c H locs ls F hP hS hl) (fun h => kf h w p l e s m args below meth c H locs ls F hP hS hl)
theorem g_icmp_eq {x y : Int32} {off : Int} (tgt : Nat) (hd : decode μ.2.1 pc = .ok (.if_icmp .eq off, 3)) (ht : (pc : Int) + off = (tgt : Int)) (kt : x = y → jGG μ d tgt lv st M Q) (kf : ¬ x = y → jGG μ d (pc + 3) lv st M Q) : jGG μ d pc lv (.int y :: .int x :: st) M Q := by
  intro w p l e s m args below meth c H locs ls F hP hS hl
  exact lv_icmp_eq F.1 F.2.1 hd ht (fun h => kt h w p l e s m args below meth c H locs ls F hP hS hl) (fun h => kf h w p l e s m args below meth c H locs ls F hP hS hl)
theorem g_if_ne {x : Int32} {off : Int} (tgt : Nat) (hd : decode μ.2.1 pc = .ok (.ifCond .ne off, 3)) (ht : (pc : Int) + off = (tgt : Int)) (kt : ¬ x = 0 → jGG μ d tgt lv st M Q) (kf : x = 0 → jGG μ d (pc + 3) lv st M Q) : jGG μ d pc lv (.int x :: st) M Q := by
  intro w p l e s m args below meth c H locs ls F hP hS hl
  exact lv_if_ne F.1 F.2.1 hd ht (fun h => kt h w p l e s m args below meth c H locs ls F hP hS hl) (fun h => kf h w p l e s m args below meth c H locs ls F hP hS hl)
theorem g_icmp_ne {x y : Int32} {off : Int} (tgt : Nat) (hd : decode μ.2.1 pc = .ok (.if_icmp .ne off, 3)) (ht : (pc : Int) + off = (tgt : Int)) (kt : ¬ x = y → jGG μ d tgt lv st M Q) (kf : x = y → jGG μ d (pc + 3) lv st M Q) : jGG μ d pc lv (.int y :: .int x :: st) M Q := by
  intro w p l e s m args below meth c H locs ls F hP hS hl
  exact lv_icmp_ne F.1 F.2.1 hd ht (fun h => kt h w p l e s m args below meth c H locs ls F hP hS hl) (fun h => kf h w p l e s m args below meth c H locs ls F hP hS hl)
theorem g_if_lt {x : Int32} {off : Int} (tgt : Nat) (hd : decode μ.2.1 pc = .ok (.ifCond .lt off, 3)) (ht : (pc : Int) + off = (tgt : Int)) (kt : x < 0 → jGG μ d tgt lv st M Q) (kf : ¬ x < 0 → jGG μ d (pc + 3) lv st M Q) : jGG μ d pc lv (.int x :: st) M Q := by
  intro w p l e s m args below meth c H locs ls F hP hS hl
  exact lv_if_lt F.1 F.2.1 hd ht (fun h => kt h w p l e s m args below meth c H locs ls F hP hS hl) (fun h => kf h w p l e s m args below meth c H locs ls F hP hS hl)
theorem g_icmp_lt {x y : Int32} {off : Int} (tgt : Nat) (hd : decode μ.2.1 pc = .ok (.if_icmp .lt off, 3)) (ht : (pc : Int) + off = (tgt : Int)) (kt : x < y → jGG μ d tgt lv st M Q) (kf : ¬ x < y → jGG μ d (pc + 3) lv st M Q) : jGG μ d pc lv (.int y :: .int x :: st) M Q := by
  intro w p l e s m args below meth c H locs ls F hP hS hl
  exact lv_icmp_lt F.1 F.2.1 hd ht (fun h => kt h w p l e s m args below meth c H locs ls F hP hS hl) (fun h => kf h w p l e s m args below meth c H locs ls F hP hS hl)
theorem g_if_ge {x : Int32} {off : Int} (tgt : Nat) (hd : decode μ.2.1 pc = .ok (.ifCond .ge off, 3)) (ht : (pc : Int) + off = (tgt : Int)) (kt : 0 ≤ x → jGG μ d tgt lv st M Q) (kf : ¬ 0 ≤ x → jGG μ d (pc + 3) lv st M Q) : jGG μ d pc lv (.int x :: st) M Q := by
  intro w p l e s m args below meth c H locs ls F hP hS hl
  exact lv_if_ge F.1 F.2.1 hd ht (fun h => kt h w p l e s m args below meth c H locs ls F hP hS hl) (fun h => kf h w p l e s m args below meth c H locs ls F hP hS hl)
theorem g_icmp_ge {x y : Int32} {off : Int} (tgt : Nat) (hd : decode μ.2.1 pc = .ok (.if_icmp .ge off, 3)) (ht : (pc : Int) + off = (tgt : Int)) (kt : y ≤ x → jGG μ d tgt lv st M Q) (kf : ¬ y ≤ x → jGG μ d (pc + 3) lv st M Q) : jGG μ d pc lv (.int y :: .int x :: st) M Q := by
  intro w p l e s m args below meth c H locs ls F hP hS hl
  exact lv_icmp_ge F.1 F.2.1 hd ht (fun h => kt h w p l e s m args below meth c H locs ls F hP hS hl) (fun h => kf h w p l e s m args below meth c H locs ls F hP hS hl)
theorem g_if_gt {x : Int32} {off : Int} (tgt : Nat) (hd : decode μ.2.1 pc = .ok (.ifCond .gt off, 3)) (ht : (pc : Int) + off = (tgt : Int)) (kt : 0 < x → jGG μ d tgt lv st M Q) (kf : ¬ 0 < x → jGG μ d (pc + 3) lv st M Q) : jGG μ d pc lv (.int x :: st) M Q := by
  intro w p l e s m args below meth c H locs ls F hP hS hl
  exact lv_if_gt F.1 F.2.1 hd ht (fun h => kt h w p l e s m args below meth c H locs ls F hP hS hl) (fun h => kf h w p l e s m args below meth c H locs ls F hP hS hl)
theorem g_icmp_gt {x y : Int32} {off : Int} (tgt : Nat) (hd : decode μ.2.1 pc = .ok (.if_icmp .gt off, 3)) (ht : (pc : Int) + off = (tgt : Int)) (kt : y < x → jGG μ d tgt lv st M Q) (kf : ¬ y < x → jGG μ d (pc + 3) lv st M Q) : jGG μ d pc lv (.int y :: .int x :: st) M Q := by
  intro w p l e s m args below meth c H locs ls F hP hS hl
  exact lv_icmp_gt F.1 F.2.1 hd ht (fun h => kt h w p l e s m args below meth c H locs ls F hP hS hl) (fun h => kf h w p l e s m args below meth c H locs ls F hP hS hl)
theorem g_if_le {x : Int32} {off : Int} (tgt : Nat) (hd : decode μ.2.1 pc = .ok (.ifCond .le off, 3)) (ht : (pc : Int) + off = (tgt : Int)) (kt : x ≤ 0 → jGG μ d tgt lv st M Q) (kf : ¬ x ≤ 0 → jGG μ d (pc + 3) lv st M Q) : jGG μ d pc lv (.int x :: st) M Q := by
  intro w p l e s m args below meth c H locs ls F hP hS hl
  exact lv_if_le F.1 F.2.1 hd ht (fun h => kt h w p l e s m args below meth c H locs ls F hP hS hl) (fun h => kf h w p l e s m args below meth c H locs ls F hP hS hl)
theorem g_icmp_le {x y : Int32} {off : Int} (tgt : Nat) (hd : decode μ.2.1 pc = .ok (.if_icmp .le off, 3)) (ht : (pc : Int) + off = (tgt : Int)) (kt : x ≤ y → jGG μ d tgt lv st M Q) (kf : ¬ x ≤ y → jGG μ d (pc + 3) lv st M Q) : jGG μ d pc lv (.int y :: .int x :: st) M Q := by
  intro w p l e s m args below meth c H locs ls F hP hS hl
  exact lv_icmp_le F.1 F.2.1 hd ht (fun h => kt h w p l e s m args below meth c H locs ls F hP hS hl) (fun h => kf h w p l e s m args below meth c H locs ls F hP hS hl)
end JB
/-! fields, rows of numbers, calls, returns -/
def jFL (own : String) (idx ci k : Nat) : Prop := ∃ (C : String) (T : u_T) (N : Nat), vwCl[ci]? = some (C, T, N) ∧ k < N ∧ (∀ x ∈ u_ws C T N, x ∈ jtb) ∧ Cond.fieldLink own idx (T k).1 (T k).2.1 (T k).2.2.1 ∈ jtb
def jFP (own : String) (idx ci k : Nat) (ty : FieldType) : Prop := ∃ (C : String) (T : u_T) (N : Nat) (ty0 : Nat → FieldType), vwCl[ci]? = some (C, T, N) ∧ k < N ∧ (∀ x ∈ u_ws C T N, x ∈ jtb) ∧ Cond.fieldLink own idx (T k).1 (T k).2.1 (T k).2.2.1 ∈ jtb ∧
  (∀ k, k < N → parseFieldDescriptor (T k).2.2.1 = some (ty0 k)) ∧ (∀ a, a < N → ∀ b, b < N → a ≠ b → (T a).2.1 ≠ (T b).2.1) ∧ (T k).2.2.2 = false ∧ parseFieldDescriptor (T k).2.2.1 = some ty
def jinb (i : Int32) (n : Nat) : Bool := !(decide (i < 0) || decide (n ≤ i.toNatClampNeg))
theorem jinb_in {i : Int32} {n : Nat} (h : jinb i n = true) : vp_in i n := by
  unfold jinb at h
  unfold vp_in
  simpa using h
def jrd (M : JMem) (a n : Nat) (i : Int32) : Option Int32 := if jinb i n then some (M a i.toNatClampNeg) else none
def jwr (M : JMem) (a n : Nat) (i v : Int32) : Option JMem := if jinb i n then some (jup M a i.toNatClampNeg v) else none
def jrw (a n : Nat) (i : Int32) : Option Nat := if jinb i n then some (a + 1 + i.toNatClampNeg) else none
theorem jrd_spec {M : JMem} {a n : Nat} {i x : Int32} (h : jrd M a n i = some x) : vp_in i n ∧ x = M a i.toNatClampNeg := by
  unfold jrd at h
  by_cases hb : jinb i n = true
  · rw [if_pos hb] at h
    exact ⟨jinb_in hb, (Option.some.inj h).symm⟩
  · rw [if_neg hb] at h
    cases h
theorem jwr_spec {M M' : JMem} {a n : Nat} {i v : Int32} (h : jwr M a n i v = some M') : vp_in i n ∧ M' = jup M a i.toNatClampNeg v := by
  unfold jwr at h
  by_cases hb : jinb i n = true
  · rw [if_pos hb] at h
    exact ⟨jinb_in hb, (Option.some.inj h).symm⟩
  · rw [if_neg hb] at h
    cases h
theorem jrw_spec {a n r : Nat} {i : Int32} (h : jrw a n i = some r) : vp_in i n ∧ r = a + 1 + i.toNatClampNeg ∧ i.toNatClampNeg < n := by
  unfold jrw at h
  by_cases hb : jinb i n = true
  · rw [if_pos hb] at h
    have h1 := jinb_in hb
    exact ⟨h1, (Option.some.inj h).symm, Nat.not_le.mp fun q => h1 (Or.inr q)⟩
  · rw [if_neg hb] at h
    cases h
/-- the rows of a grid -/
theorem jrw_sh {a n r : Nat} {i : Int32} {s : JShp} (hr : ∀ j, j < n → jSh (a + 1 + j) s) (h : jrw a n i = some r) : jSh r s := by
  obtain ⟨-, e, hl⟩ := jrw_spec h
  rw [e]
  exact hr _ hl
theorem jset_obj (w : JWp) (M : JMem) {o ci k : Nat} {fs : List (Option Nat)} (hs : jSh o (0, ci, fs)) (hf : fs[k]? = some none) (v : Int32) : (jws w M).set o (w.1 o, .inr (ci, (jfld w.1 (M o) fs).set k (.int v))) = jws w (jup M o k v) := by
  rw [jfld_set _ _ hf, ← jcel_obj w _ hs, jws_set w M (jSh_lt hs), jrow_up]
theorem jget_obj (w : JWp) (M : JMem) {o ci : Nat} {fs : List (Option Nat)} (hs : jSh o (0, ci, fs)) : (jws w M)[o]? = some (w.1 o, .inr (ci, jfld w.1 (M o) fs)) := by
  rw [jws_get w M (jSh_lt hs), jcel_obj w _ hs]
theorem jget_int (w : JWp) (M : JMem) {a n : Nat} {fs : List (Option Nat)} (hs : jSh a (1, n, fs)) : (jws w M)[a]? = some (w.1 a, .inl (w.2.2.1, n, .inl (M a))) := by
  rw [jws_get w M (jSh_lt hs), jcel_int w _ hs]
theorem jget_bool (w : JWp) (M : JMem) {a n : Nat} {fs : List (Option Nat)} (hs : jSh a (2, n, fs)) : (jws w M)[a]? = some (w.1 a, .inl (w.2.2.2.1, n, .inl (M a))) := by
  rw [jws_get w M (jSh_lt hs), jcel_bool w _ hs]
theorem jget_rows (w : JWp) (M : JMem) {a n : Nat} {fs : List (Option Nat)} (hs : jSh a (3, n, fs)) : (jws w M)[a]? = some (w.1 a, .inl (w.2.2.2.2, n, .inr (.inr (.inr (.inr (fun i => if i < n then some (w.1 (a + 1 + i)) else none)))))) := by
  rw [jws_get w M (jSh_lt hs), jcel_rows w _ hs]
theorem jset_int (w : JWp) (M : JMem) {a n : Nat} {fs : List (Option Nat)} (hs : jSh a (1, n, fs)) (f : Nat → Int32) : (jws w M).set a (w.1 a, .inl (w.2.2.1, n, .inl f)) = jws w (jrow M a f) := by
  rw [← jcel_int w f hs, jws_set w M (jSh_lt hs)]
theorem jset_bool (w : JWp) (M : JMem) {a n : Nat} {fs : List (Option Nat)} (hs : jSh a (2, n, fs)) (f : Nat → Int32) : (jws w M).set a (w.1 a, .inl (w.2.2.2.1, n, .inl f)) = jws w (jrow M a f) := by
  rw [← jcel_bool w f hs, jws_set w M (jSh_lt hs)]
theorem jbool_nar {v : Int32} (h : v = 0 ∨ v = 1) : narrow .boolean (.int v) = .int v ∧ fits .boolean (.int v) = true ∧ vp_nar .boolean v = v := by
  rcases h with rfl | rfl <;> exact ⟨by decide, by decide, by decide⟩
section JR2
variable {μ : JMd} {d pc : Nat} {lv lv' : List (Option Value)} {st : List Value} {M M' : JMem} {Q : JMem → Option Value → Prop}
theorem g_getI {idx ci k0 o : Nat} {fs : List (Option Nat)} (hd : decode μ.2.1 pc = .ok (.getfield idx, 3)) (hF : jFL μ.1 idx ci k0) (hs : jSh o (0, ci, fs)) (hf : fs[k0]? = some none) (k : jGG μ d (pc + 3) lv (.int (M o k0) :: st) M Q) : jGG μ d pc lv (.ref o :: st) M Q := by
  intro w p l e s m args below meth c H locs ls F hP hS hl
  obtain ⟨C, T, N, h1, h2, h3, h4⟩ := hF
  exact va_get (v := .int (M o k0)) F.1 F.2.1 F.2.2.2.2.1 h3 F.2.2.2.1 F.2.2.2.2.2.2.2.1 hP o (jget_obj w M hs) h1 k0 h2 (F.2.2.2.2.1 _ h4) (fun _ h => h) (jfld_getI _ _ hf) hd (k w p l e s m args below meth c H locs ls F hP hS hl)
theorem g_getR {idx ci k0 o r : Nat} {fs : List (Option Nat)} (hd : decode μ.2.1 pc = .ok (.getfield idx, 3)) (hF : jFL μ.1 idx ci k0) (hs : jSh o (0, ci, fs)) (hf : fs[k0]? = some (some r)) (k : jGG μ d (pc + 3) lv (.ref r :: st) M Q) : jGG μ d pc lv (.ref o :: st) M Q := by
  intro w p l e s m args below meth c H locs ls F hP hS hl
  obtain ⟨C, T, N, h1, h2, h3, h4⟩ := hF
  exact va_get (v := .ref (w.1 r)) F.1 F.2.1 F.2.2.2.2.1 h3 F.2.2.2.1 F.2.2.2.2.2.2.2.1 hP o (jget_obj w M hs) h1 k0 h2 (F.2.2.2.2.1 _ h4) (fun _ h => h) (jfld_getR _ _ hf) hd (k w p l e s m args below meth c H locs ls F hP hS hl)
theorem g_putT {idx ci k0 o : Nat} {fs : List (Option Nat)} {ty : FieldType} {v : Int32} (hd : decode μ.2.1 pc = .ok (.putfield idx, 3)) (hF : jFP μ.1 idx ci k0 ty) (hn : narrow ty (.int v) = .int v ∧ fits ty (.int v) = true) (hs : jSh o (0, ci, fs)) (hf : fs[k0]? = some none) (k : jGG μ d (pc + 3) lv st (jup M o k0 v) Q) : jGG μ d pc lv (.int v :: .ref o :: st) M Q := by
  intro w p l e s m args below meth c H locs ls F hP hS hl
  obtain ⟨C, T, N, ty0, h1, h2, h3, h4, h5, h6, h7, h8⟩ := hF
  refine va_put (ty := ty) (v := .int v) F.1 F.2.1 F.2.2.2.2.1 h3 ty0 h5 h6 F.2.2.2.1 F.2.2.2.2.2.2.2.1 hP (F.2.2.2.2.2.2.2.2 M) hS o (jget_obj w M hs) h1 k0 h2 (F.2.2.2.2.1 _ h4) (fun _ h => h) h7 h8 hn.1 hn.2 (by rw [jfld_len]; exact (List.getElem?_eq_some_iff.mp hf).1) hd (fun H1 locs1 hP1 _ hS1 => ?_)
  rw [jset_obj w M hs hf v] at hP1
  exact k w p l e s m args below meth c H1 locs1 ls F hP1 hS1 hl
theorem g_putI {idx ci k0 o : Nat} {fs : List (Option Nat)} {v : Int32} (hd : decode μ.2.1 pc = .ok (.putfield idx, 3)) (hF : jFP μ.1 idx ci k0 .int) (hs : jSh o (0, ci, fs)) (hf : fs[k0]? = some none) (k : jGG μ d (pc + 3) lv st (jup M o k0 v) Q) : jGG μ d pc lv (.int v :: .ref o :: st) M Q := g_putT hd hF ⟨rfl, rfl⟩ hs hf k
theorem g_putZ {idx ci k0 o : Nat} {fs : List (Option Nat)} {v : Int32} (hd : decode μ.2.1 pc = .ok (.putfield idx, 3)) (hF : jFP μ.1 idx ci k0 .boolean) (hv : v = 0 ∨ v = 1) (hs : jSh o (0, ci, fs)) (hf : fs[k0]? = some none) (k : jGG μ d (pc + 3) lv st (jup M o k0 v) Q) : jGG μ d pc lv (.int v :: .ref o :: st) M Q := g_putT hd hF ⟨(jbool_nar hv).1, (jbool_nar hv).2.1⟩ hs hf k
theorem g_iald {a n : Nat} {fs : List (Option Nat)} {i x : Int32} (hd : decode μ.2.1 pc = .ok (.iaload, 1)) (hs : jSh a (1, n, fs)) (h : jrd M a n i = some x) (k : jGG μ d (pc + 1) lv (.int x :: st) M Q) : jGG μ d pc lv (.int i :: .ref a :: st) M Q := by
  intro w p l e s m args below meth c H locs ls F hP hS hl
  obtain ⟨hi, rfl⟩ := jrd_spec h
  exact va_iald F.1 F.2.1 F.2.2.2.2.2.2.2.1 hP a 0 (jget_int w M hs) rfl hi hd (k w p l e s m args below meth c H locs ls F hP hS hl)
theorem g_bald {a n : Nat} {fs : List (Option Nat)} {i x : Int32} (hd : decode μ.2.1 pc = .ok (.baload, 1)) (hs : jSh a (2, n, fs)) (h : jrd M a n i = some x) (k : jGG μ d (pc + 1) lv (.int x :: st) M Q) : jGG μ d pc lv (.int i :: .ref a :: st) M Q := by
  intro w p l e s m args below meth c H locs ls F hP hS hl
  obtain ⟨hi, rfl⟩ := jrd_spec h
  exact va_zald F.1 F.2.1 F.2.2.2.2.2.2.2.1 hP a 1 (jget_bool w M hs) rfl hi hd (k w p l e s m args below meth c H locs ls F hP hS hl)
theorem g_iast {a n : Nat} {fs : List (Option Nat)} {i v : Int32} (hd : decode μ.2.1 pc = .ok (.iastore, 1)) (hs : jSh a (1, n, fs)) (h : jwr M a n i v = some M') (k : jGG μ d (pc + 1) lv st M' Q) : jGG μ d pc lv (.int v :: .int i :: .ref a :: st) M Q := by
  intro w p l e s m args below meth c H locs ls F hP hS hl
  obtain ⟨hi, rfl⟩ := jwr_spec h
  refine va_iast F.1 F.2.1 F.2.2.2.2.2.2.2.1 hP (F.2.2.2.2.2.2.2.2 M) hS a 0 (jget_int w M hs) rfl hi hd (fun H1 locs1 hP1 _ hS1 => ?_)
  rw [jset_int w M hs, jrow_up] at hP1
  exact k w p l e s m args below meth c H1 locs1 ls F hP1 hS1 hl
theorem g_bast {a n : Nat} {fs : List (Option Nat)} {i v : Int32} (hd : decode μ.2.1 pc = .ok (.bastore, 1)) (hs : jSh a (2, n, fs)) (hv : v = 0 ∨ v = 1) (h : jwr M a n i v = some M') (k : jGG μ d (pc + 1) lv st M' Q) : jGG μ d pc lv (.int v :: .int i :: .ref a :: st) M Q := by
  intro w p l e s m args below meth c H locs ls F hP hS hl
  obtain ⟨hi, rfl⟩ := jwr_spec h
  refine va_zast F.1 F.2.1 F.2.2.2.2.2.2.2.1 hP (F.2.2.2.2.2.2.2.2 M) hS a 1 (jget_bool w M hs) rfl hi hd (fun H1 locs1 hP1 _ hS1 => ?_)
  rw [(jbool_nar hv).2.2, jset_bool w M hs, jrow_up] at hP1
  exact k w p l e s m args below meth c H1 locs1 ls F hP1 hS1 hl
theorem g_aald {a n r : Nat} {fs : List (Option Nat)} {i : Int32} (hd : decode μ.2.1 pc = .ok (.aaload, 1)) (hs : jSh a (3, n, fs)) (h : jrw a n i = some r) (k : jGG μ d (pc + 1) lv (.ref r :: st) M Q) : jGG μ d pc lv (.int i :: .ref a :: st) M Q := by
  intro w p l e s m args below meth c H locs ls F hP hS hl
  obtain ⟨hi, rfl, hlt⟩ := jrw_spec h
  refine W.aald (v := .ref (w.1 (a + 1 + i.toNatClampNeg))) (ty := .array .int) F.1 F.2.1 (hP a _ (jget_rows w M hs)) ((F.2.2.2.2.2.2.2.1.2 2 _ rfl).1 n _) rfl (fun q => by cases q) (by show ¬ (i < 0 ∨ (arrV _ _ _).slots.size ≤ _); rw [arrV_size]; exact hi) (by show (arrV _ _ _).slots[_]? = _; rw [arrV_read _ _ hlt]; simp [hlt, va_rf]) rfl rfl hd ?_
  exact k w p l e s m args below meth c H locs ls F hP hS hl
theorem g_alenI {a n : Nat} {fs : List (Option Nat)} (v : Int32) (hd : decode μ.2.1 pc = .ok (.arraylength, 1)) (hs : jSh a (1, n, fs)) (hv : Int32.ofNat n = v) (k : jGG μ d (pc + 1) lv (.int v :: st) M Q) : jGG μ d pc lv (.ref a :: st) M Q := by
  intro w p l e s m args below meth c H locs ls F hP hS hl
  exact va_alen F.1 F.2.1 F.2.2.2.2.2.2.2.1 hP a 0 (jget_int w M hs) (ty := .int) rfl hv hd (k w p l e s m args below meth c H locs ls F hP hS hl)
theorem g_alenR {a n : Nat} {fs : List (Option Nat)} (v : Int32) (hd : decode μ.2.1 pc = .ok (.arraylength, 1)) (hs : jSh a (3, n, fs)) (hv : Int32.ofNat n = v) (k : jGG μ d (pc + 1) lv (.int v :: st) M Q) : jGG μ d pc lv (.ref a :: st) M Q := by
  intro w p l e s m args below meth c H locs ls F hP hS hl
  exact va_alen F.1 F.2.1 F.2.2.2.2.2.2.2.1 hP a 2 (jget_rows w M hs) (ty := .array .int) rfl hv hd (k w p l e s m args below meth c H locs ls F hP hS hl)
theorem g_iret {v : Int32} (hd : decode μ.2.1 pc = .ok (.ireturn, 1)) (hr : μ.2.2.2 = some .int) (hq : Q M (some (.int v))) : jGG μ d pc lv [.int v] M Q := by
  intro w p l e s m args below meth c H locs ls F hP hS hl
  exact W.iret F.1 F.2.1 (F.2.2.2.2.2.1.trans hr) (fun t ht _ => ⟨⟨M, some (.int v), rfl, hq, by rw [ht]; exact hP⟩, hS.F ht⟩) hS.2.2 hd (hlocks := F.2.2.2.2.2.2.1)
theorem g_zret {v : Int32} (hd : decode μ.2.1 pc = .ok (.ireturn, 1)) (hr : μ.2.2.2 = some .boolean) (hv : v = 0 ∨ v = 1) (hq : Q M (some (.int v))) : jGG μ d pc lv [.int v] M Q := by
  intro w p l e s m args below meth c H locs ls F hP hS hl
  exact W.zret (ty := .boolean) F.1 F.2.1 (F.2.2.2.2.2.1.trans hr) (jbool_nar hv).1 (fun t ht _ => ⟨⟨M, some (.int v), rfl, hq, by rw [ht]; exact hP⟩, hS.F ht⟩) hS.2.2 hd (hlocks := F.2.2.2.2.2.2.1)
theorem g_vret (hd : decode μ.2.1 pc = .ok (.return_, 1)) (hr : μ.2.2.2 = none) (hq : Q M none) : jGG μ d pc lv [] M Q := by
  intro w p l e s m args below meth c H locs ls F hP hS hl
  exact W.vret F.1 F.2.1 (F.2.2.2.2.2.1.trans hr) (fun t ht _ => ⟨⟨M, none, rfl, hq, by rw [ht]; exact hP⟩, hS.F ht⟩) hS.2.2 hd (hlocks := F.2.2.2.2.2.2.1)
theorem g_lcmp {x y : Int64} (hd : decode μ.2.1 pc = .ok (.lcmp, 1)) (k : jGG μ d (pc + 1) lv (.int (lg_cmp x y) :: st) M Q) : jGG μ d pc lv (.long y :: .long x :: st) M Q := by
  intro w p l e s m args below meth c H locs ls F hP hS hl
  exact W.lcmp F.1 F.2.1 hd (k w p l e s m args below meth c H locs ls F hP hS hl)
theorem g_tswOut {dflt lo hi : Int} {offs : Array Int} {len : Nat} {x : Int32} (tgt : Nat) (hd : decode μ.2.1 pc = .ok (.tableswitch dflt lo hi offs, len)) (h : x.toInt < lo ∨ hi < x.toInt) (ht : (pc : Int) + dflt = (tgt : Int)) (k : jGG μ d tgt lv st M Q) : jGG μ d pc lv (.int x :: st) M Q := by
  intro w p l e s m args below meth c H locs ls F hP hS hl
  exact lv_tableOut F.1 F.2.1 hd h ht (k w p l e s m args below meth c H locs ls F hP hS hl)
theorem g_tswIn {dflt lo hi off : Int} {offs : Array Int} {len : Nat} {x : Int32} (tgt : Nat) (hd : decode μ.2.1 pc = .ok (.tableswitch dflt lo hi offs, len)) (h1 : ¬ x.toInt < lo) (h2 : ¬ hi < x.toInt) (ho : offs[(x.toInt - lo).toNat]? = some off) (ht : (pc : Int) + off = (tgt : Int)) (k : jGG μ d tgt lv st M Q) : jGG μ d pc lv (.int x :: st) M Q := by
  intro w p l e s m args below meth c H locs ls F hP hS hl
  exact lv_tableIn F.1 F.2.1 hd h1 h2 ho ht (k w p l e s m args below meth c H locs ls F hP hS hl)
end JR2
/-! calls -/
def jCK (y : MethodName) (μ' : JMd) (n : Nat) : Prop := Cond.code y μ'.2.1 μ'.2.2.1 μ'.2.2.2 ∈ jtb ∧ Cond.initialized y.cls ∈ jtb ∧ (y.cls ≠ "java/lang/invoke/MethodHandle" ∧ y.cls ≠ "java/lang/invoke/VarHandle" ∧ (parseMethodDescriptor y.desc).map (fun d => d.parameters.length) = some n)
def jCV (y : MethodName) (ci : Nat) : Prop := Cond.instanceMethod y ∈ jtb ∧ Cond.selects y.cls y y ∈ jtb ∧ ∃ (T : u_T) (N : Nat), vwCl[ci]? = some (y.cls, T, N)
theorem jgood : jtb.all goodWord = true := List.all_eq_true.mpr (fun x hx => (List.mem_filter.mp hx).2)
theorem jgood_in {y : MethodName} {μ' : JMd} {n : Nat} (h : jCK y μ' n) : GoodIn jtb (Cond.code y μ'.2.1 μ'.2.2.1 μ'.2.2.2 :: jtb) := by
  intro x hx
  rcases List.mem_cons.mp hx with rfl | hx
  · exact ⟨h.1, good_of_word (List.all_eq_true.mp jgood _ h.1)⟩
  · exact ⟨hx, good_of_word (List.all_eq_true.mp jgood _ hx)⟩
section JR3
variable {p : Program} {l : Launch} {e : Env} {s : State} {m : MethodId} {args : Array Value} {below : List Frame} {meth : Method} {c : Code} {H : Heap} {locs : List Loc}
theorem jcall {R : Room} {w : JWp} {Q : State → Prop} {Q' : JMem → Option Value → Prop} {a : Array Value} {pc : Nat} {ls : Array Slot} {st0 rest : List Value} (hr : va_Run p l e R s m args below meth c H locs 0 0 0 0 (F0 m pc ls st0) rest (jQ w Q' a) (jin w)) (hS : va_S (jin w) s.heap H locs)
    (kk : ∀ (M' : JMem) (r : Option Value) (H1 : Heap) (locs1 : List Loc), Q' M' r → va_P w.2.1 vwCl (jws w M') H1 → va_S (jin w) s.heap H1 locs1 → W p l e R s m args below meth c H1 locs1 0 0 Q (F0 m (pc + 3) ls ((r.map (jtr w.1)).toList ++ rest))) : W p l e R s m args below meth c H locs 0 0 Q (F0 m pc ls st0) := by
  intro T hT X
  obtain ⟨v, st₀, t, T', L, h0, X', hL, e1, e2, ⟨⟨M', r, hv, hq, hp⟩, hz, hk⟩, st⟩ := hr T hT X
  cases hv
  rw [h0] at hz hk
  obtain ⟨t2, a1, b1⟩ := kk M' r T'.heap (locs ++ L) hq (by rw [e1]; exact hp)
    ⟨Nat.le_trans hS.1 (by rw [e1]; exact hz), fun q h1 h2 => by rw [e1, hk q (Nat.lt_of_lt_of_le h1 hS.1) h2]; exact hS.2.1 q h1 h2, fun q hq => by
      rcases List.mem_append.mp hq with h | h
      · exact hS.2.2 q h
      · exact hL q h⟩ T' rfl X'
  exact ⟨t2, st t2 a1, b1⟩
theorem jblind (w : JWp) (M : JMem) (as : List Value) : FrameBlind (va_Pc (as.map (jtr w.1)) (fun U => va_P w.2.1 vwCl (jws w M) U.heap ∧ va_K w.2.1 vwCl (jtys w) U ∧ ∀ M, va_D (jin w) (jws w M))) := fun a U g mk q => by
  obtain ⟨q0, qP, qK, qD⟩ := q
  exact ⟨q0, qP, va_K.moved (u := U) (U := U.calling g mk a) (Vm.Alike.refl U.vm) qK, qD⟩
end JR3
theorem jcat_map (φ : Nat → Nat) (st : List Value) : ((st.map (jtr φ)).map fun v => v.category) = st.map fun v => v.category := by
  rw [List.map_map]
  exact List.map_congr_left (fun v _ => jtr_cat φ v)
theorem jtl_map (φ : Nat → Nat) (r : Option Value) (st : List Value) : (r.map (jtr φ)).toList ++ st.map (jtr φ) = (r.toList ++ st).map (jtr φ) := by cases r <;> rfl
section JR4
variable {μ : JMd} {d pc : Nat} {lv lv' : List (Option Value)} {M M1 : JMem} {Q : JMem → Option Value → Prop}
theorem g_callV {y : MethodName} {μ' : JMd} {n d' idx ci o : Nat} {fs : List (Option Nat)} (as st : List Value) {r : Option Value} (hd : decode μ.2.1 pc = .ok (.invokevirtual idx, 3)) (hl : Cond.methodLink μ.1 idx y ∈ jtb) (hck : jCK y μ' n) (hcv : jCV y ci) (hs : jSh o (0, ci, fs)) (hn : as.length = n) (hr : d' + 1 ≤ d ∧ 8 + (μ'.2.2.1 + 11) + 40 * d' ≤ 40 * d) (hst : (st.map fun v => v.category).sum ≤ 8)
    (hct : jCo y μ' d' M (.ref o :: as) M1 r) (k : jGG μ d (pc + 3) lv (r.toList ++ st) M1 Q) : jGG μ d pc lv (as.reverse ++ .ref o :: st) M Q := by
  intro w p l e s m args below meth c H locs ls F hP hS hlv
  obtain ⟨hin, hse, T, N, hcl⟩ := hcv
  have hts := F.2.2.2.2.1
  have hK := F.2.2.2.2.2.2.2.1
  have hB : CallB (jrm d) s args μ.1 idx y μ'.2.1 μ'.2.2.1 μ'.2.2.2 (Cond.code y μ'.2.1 μ'.2.2.1 μ'.2.2.2 :: jtb) (jrm d') 0 0 n := callB_of n hts (jgood_in hck) rfl rfl rfl (hts _ hck.2.1) (hts _ hl) hck.2.2 hr
  have hrun := va_runV (locs := locs) (e := e) (below := below) (meth := meth) (cells := 0) (slots := 0) (As := as.map (jtr w.1)) (rest := st.map (jtr w.1)) (b := w.1 o) (g := F0 m pc ls ((as.reverse ++ .ref o :: st).map (jtr w.1))) ⟨F.1, F.2.1, F.2.2.1, F.2.2.2.1, hts⟩ (hct w l) ⟨hB, hts _ hin, hts _ hse⟩
    ⟨jblind w M _, va_recv hK hP hcl (jget_obj w M hs), fun U hU hW => ⟨rfl, by rw [hU]; exact hP, va_K.moved hW.alike hK, F.2.2.2.2.2.2.2.2⟩⟩ rfl (by rw [List.length_map]; exact hn) hlv.1 (by simp [jtr]) (by rw [jcat_map]; exact lv_room (rest := ((as.reverse ++ .ref o :: st).map (jtr w.1))) hst) hd ⟨Nat.le_refl _, Nat.le_refl _⟩
  refine jcall hrun hS (fun M' r' H1 locs1 hq hP1 hS1 => ?_)
  obtain ⟨rfl, rfl⟩ := hq
  rw [jtl_map]
  exact k w p l e s m args below meth c H1 locs1 ls F hP1 hS1 hlv
theorem g_callS {y : MethodName} {μ' : JMd} {n d' idx : Nat} (as st : List Value) {r : Option Value} (hd : decode μ.2.1 pc = .ok (.invokestatic idx, 3)) (hl : Cond.methodLink μ.1 idx y ∈ jtb) (hck : jCK y μ' n) (hcs : Cond.static y ∈ jtb) (hn : as.length = n) (hr : d' + 1 ≤ d ∧ 8 + (μ'.2.2.1 + 11) + 40 * d' ≤ 40 * d) (hst : (st.map fun v => v.category).sum ≤ 8)
    (hct : jCo y μ' d' M as M1 r) (k : jGG μ d (pc + 3) lv (r.toList ++ st) M1 Q) : jGG μ d pc lv (as.reverse ++ st) M Q := by
  intro w p l e s m args below meth c H locs ls F hP hS hlv
  have hts := F.2.2.2.2.1
  have hK := F.2.2.2.2.2.2.2.1
  have hB : CallB (jrm d) s args μ.1 idx y μ'.2.1 μ'.2.2.1 μ'.2.2.2 (Cond.code y μ'.2.1 μ'.2.2.1 μ'.2.2.2 :: jtb) (jrm d') 0 0 n := callB_of n hts (jgood_in hck) rfl rfl rfl (hts _ hck.2.1) (hts _ hl) hck.2.2 hr
  have hrun := va_runS (locs := locs) (e := e) (below := below) (meth := meth) (cells := 0) (slots := 0) (As := as.map (jtr w.1)) (rest := st.map (jtr w.1)) (g := F0 m pc ls ((as.reverse ++ st).map (jtr w.1))) ⟨F.1, F.2.1, F.2.2.1, F.2.2.2.1, hts⟩ (hct w l) ⟨hB, hts _ hcs⟩
    ⟨jblind w M _, fun U hU hW => ⟨rfl, by rw [hU]; exact hP, va_K.moved hW.alike hK, F.2.2.2.2.2.2.2.2⟩⟩ rfl (by rw [List.length_map]; exact hn) hlv.1 (by simp) (by rw [jcat_map]; exact lv_room (rest := ((as.reverse ++ st).map (jtr w.1))) hst) hd ⟨Nat.le_refl _, Nat.le_refl _⟩
  refine jcall hrun hS (fun M' r' H1 locs1 hq hP1 hS1 => ?_)
  obtain ⟨rfl, rfl⟩ := hq
  rw [jtl_map]
  exact k w p l e s m args below meth c H1 locs1 ls F hP1 hS1 hlv
def jmax (x y : Int32) : Int32 := if x < y then y else x
def jmin (x y : Int32) : Int32 := if y < x then y else x
end JR4
