/-! the constructors: a world that grows; the cells lie one behind another from z on -/
abbrev ACel : Type := Nat × Nat × List Value × (Nat → Int32)
abbrev AC3 : Type := ClassId × ClassId × ClassId
def acel (z : Nat) (C : AC3) (k : Nat) (x : ACel) : va_E :=
  if x.1 = 0 then .inr (x.2.1, x.2.2.1.map (jtr (fun j => z + j)))
  else if x.1 = 1 then .inl (C.1, x.2.1, .inl x.2.2.2)
  else if x.1 = 2 then .inl (C.2.1, x.2.1, .inl x.2.2.2)
  else .inl (C.2.2, x.2.1, .inr (.inr (.inr (.inr (fun i => if i < x.2.1 then some (z + (k + 1 + i)) else none)))))
def adf : ACel := (9, 0, [], fun _ => 0)
def aws (z : Nat) (C : AC3) (E : List ACel) : va_W := (List.range E.length).map (fun k => (z + k, acel z C k (E.getD k adf)))
def atys (C : AC3) : List (ClassId × FieldType) := [(C.1, .int), (C.2.1, .boolean), (C.2.2, .array .int)]
theorem aws_len (z : Nat) (C : AC3) (E : List ACel) : (aws z C E).length = E.length := by simp [aws]
theorem aws_get (z : Nat) (C : AC3) {E : List ACel} {k : Nat} {x : ACel} (h : E[k]? = some x) : (aws z C E)[k]? = some (z + k, acel z C k x) := by
  have hl := (List.getElem?_eq_some_iff.mp h).1
  unfold aws
  rw [List.getElem?_map, List.getElem?_range hl]
  simp [List.getD_eq_getElem?_getD, h]
theorem aws_set (z : Nat) (C : AC3) {E : List ACel} {k : Nat} {x : ACel} (h : E[k]? = some x) (y : ACel) : (aws z C E).set k (z + k, acel z C k y) = aws z C (E.set k y) := by
  have hl := (List.getElem?_eq_some_iff.mp h).1
  apply List.ext_getElem?
  intro j
  by_cases hj : j < E.length
  · by_cases e : k = j
    · subst e
      rw [List.getElem?_set_self (by rw [aws_len]; exact hl), aws_get z C (x := y) (by rw [List.getElem?_set_self hl])]
    · have hx : E[j]? = some E[j] := List.getElem?_eq_getElem hj
      rw [List.getElem?_set_ne e, aws_get z C hx, aws_get z C (x := E[j]) (by rw [List.getElem?_set_ne e]; exact hx)]
  · rw [List.getElem?_eq_none (by rw [List.length_set, aws_len]; omega), List.getElem?_eq_none (by rw [aws_len, List.length_set]; omega)]
theorem aws_at {z : Nat} {C : AC3} {E : List ACel} {k : Nat} {q : Nat × va_E} (h : (aws z C E)[k]? = some q) : k < E.length ∧ q = (z + k, acel z C k (E.getD k adf)) := by
  have hl : k < E.length := by
    have := (List.getElem?_eq_some_iff.mp h).1
    rwa [aws_len] at this
  refine ⟨hl, ?_⟩
  unfold aws at h
  rw [List.getElem?_map, List.getElem?_range hl] at h
  exact (Option.some.inj h).symm
theorem aws_D (z : Nat) (C : AC3) (E : List ACel) : va_D (fun q => z ≤ q) (aws z C E) := by
  refine ⟨fun i j x y hi hj hxy => ?_, fun k q hk => ?_⟩
  · obtain ⟨-, rfl⟩ := aws_at hi
    obtain ⟨-, rfl⟩ := aws_at hj
    have : z + i = z + j := hxy
    omega
  · obtain ⟨-, rfl⟩ := aws_at hk
    exact Nat.le_add_right z k
/-- a world of E ++ L: what held of E holds, and the new cells -/
theorem aws_app {D : va_G} {z : Nat} {C : AC3} {E L : List ACel} {H H1 : Heap} (hP : va_P D vwCl (aws z C E) H) (hsz : H.size = z + E.length) (ho : ∀ q : Nat, q < H.size → H1[q]? = H[q]?) (hn : ∀ (k : Nat) (x : ACel), L[k]? = some x → va_at D vwCl (z + (E.length + k), acel z C (E.length + k) x) H1) : va_P D vwCl (aws z C (E ++ L)) H1 := by
  intro k q hk
  obtain ⟨hl, rfl⟩ := aws_at hk
  by_cases hE : k < E.length
  · have hx : E[k]? = some E[k] := List.getElem?_eq_getElem hE
    have h1 := hP k _ (aws_get z C hx)
    have e1 : (E ++ L).getD k adf = E[k] := by rw [List.getD_eq_getElem?_getD, List.getElem?_append_left hE, hx]; rfl
    rw [e1]
    exact h1.kept (ho _ (by show z + k < H.size; omega))
  · rw [List.length_append] at hl
    have hx : L[k - E.length]? = some L[k - E.length] := List.getElem?_eq_getElem (by omega)
    have e1 : (E ++ L).getD k adf = L[k - E.length] := by rw [List.getD_eq_getElem?_getD, List.getElem?_append_right (by omega), hx]; rfl
    rw [e1]
    have h2 := hn (k - E.length) _ hx
    rw [show E.length + (k - E.length) = k by omega] at h2
    exact h2
def aNest : List Cond := lw_tbl.filter (fun x => match x with
  | .methodLinkNest .. => true
  | _ => false)
def aX (i : Bool) (z : Nat) (D : va_G) (C : AC3) (μ : JMd) (p : Program) (s : State) (m : MethodId) (args : Array Value) (meth : Method) (c : Code) : Prop :=
  p.tables.exec = Jvm.exec ∧ c.code = μ.2.1 ∧ c.maxLocals = μ.2.2.1 ∧ s.vm.findClass μ.1 = some m.cls ∧ (∀ x ∈ jtb, x.before args s = true) ∧ meth.sig.returnType = μ.2.2.2 ∧ meth.locks = false ∧ va_K D vwCl (atys C) s ∧ va_AOA .int s ∧ (∀ x ∈ aNest, va_Nw x s) ∧ z ≤ s.heap.size ∧ (i = true → meth.name = "<init>")
def aR (d mc ms : Nat) : Room := { frames := d, cells := mc, slots := ms, locals := 40 * d }
def aQ (z : Nat) (D : va_G) (C : AC3) (E : List ACel) : Array Value → State → Outcome → State → Prop := fun _ st oc t => oc = .returned none ∧ t.heap.size = z + E.length ∧ va_P D vwCl (aws z C E) t.heap ∧ va_F (fun q => z ≤ q) st t
def aGG (i : Bool) (μ : JMd) (d mc ms pc : Nat) (lv : List (Option Value)) (st : List Value) (E : List ACel) (cells slots : Nat) (E' : List ACel) : Prop :=
  ∀ (z : Nat) (D : va_G) (C : AC3) (p : Program) (l : Launch) (e : Env) (s : State) (m : MethodId) (args : Array Value) (below : List Frame) (meth : Method) (c : Code) (H : Heap) (locs : List Loc) (ls : Array Slot),
    aX i z D C μ p s m args meth c → H.size = z + E.length → va_P D vwCl (aws z C E) H → va_S (fun q => z ≤ q) s.heap H locs → jlv (fun j => z + j) ls μ.2.2.1 lv →
    W p l e (aR d mc ms) s m args below meth c H locs cells slots (MQ below (aQ z D C E') args s mc ms (fun q => z ≤ q)) (F0 m pc ls (st.map (jtr (fun j => z + j))))
def aCt (y : MethodName) (μ : JMd) (d mc ms : Nat) (E : List ACel) (as : List Value) (E' : List ACel) : Prop :=
  ∀ (z : Nat) (D : va_G) (C : AC3) (l : Launch), Met l y (.code y μ.2.1 μ.2.2.1 μ.2.2.2 :: jtb) (aR d mc ms) (va_Pc (as.map (jtr (fun j => z + j))) (fun U => U.heap.size = z + E.length ∧ va_P D vwCl (aws z C E) U.heap ∧ va_K D vwCl (atys C) U ∧ va_AOA .int U ∧ ∀ x ∈ aNest, va_Nw x U)) (aQ z D C E') mc ms (fun q => z ≤ q)
theorem aCt_of {i : Bool} {y : MethodName} {μ : JMd} {d mc ms : Nat} {E : List ACel} {as : List Value} {E' : List ACel} (hi : i = true → y.name = "<init>") (hy : plainName y.cls = true) (ho : μ.1 = y.cls) (hc : ∀ v ∈ as, v.category = 1) (hn : as.length ≤ μ.2.2.1)
    (k : aGG i μ d mc ms 0 (as.map some ++ List.replicate (μ.2.2.1 - as.length) none) [] E 0 0 E') : aCt y μ d mc ms E as E' := by
  intro z D C l
  refine Met.ofW (cc := μ.2.1) (maxL := μ.2.2.1) (ret := μ.2.2.2) hy rfl ?_
  intro p e s m args below meth c s₁ B hml hv
  obtain ⟨rfl, hsz, hP, hK, hO, hN⟩ := hv
  have hts := atoms_spec (ws := .code y μ.2.1 μ.2.2.1 μ.2.2.2 :: jtb) B.pre
  have hown : s.vm.findClass μ.1 = some m.cls := by rw [ho]; exact findClass_of_methodNamed B.named
  have hin : i = true → meth.name = "<init>" := fun h => ((name_of_methodNamed B.named B.method).1).trans (hi h)
  rw [lg_entry_eq]
  exact k z D C p l e s m _ below meth c s.heap [] _ ⟨B.exec, B.bytes, hml, hown, fun x hx => hts x (List.mem_cons_of_mem _ hx), B.returns, B.notSynchronized, hK, hO, hN, by omega, hin⟩ hsz hP va_S.rf (jentry hc hn)
section JA
variable {i : Bool} {μ : JMd} {d mc ms pc cells slots : Nat} {lv lv' : List (Option Value)} {st : List Value} {E E1 E' : List ACel}
theorem a_iconst {n : Int} (v : Int32) (hd : decode μ.2.1 pc = .ok (.iconst n, 1)) (hv : Int32.ofInt n = v) (k : aGG i μ d mc ms (pc + 1) lv (.int v :: st) E cells slots E') : aGG i μ d mc ms pc lv st E cells slots E' := by
  intro z D C p l e s m args below meth c H locs ls F hz hP hS hl
  exact lv_iconst F.1 F.2.1 hd hv (k z D C p l e s m args below meth c H locs ls F hz hP hS hl)
theorem a_bipush {n : Int} (v : Int32) (hd : decode μ.2.1 pc = .ok (.bipush n, 2)) (hv : (Int8.ofInt n).toInt32 = v) (k : aGG i μ d mc ms (pc + 2) lv (.int v :: st) E cells slots E') : aGG i μ d mc ms pc lv st E cells slots E' := by
  intro z D C p l e s m args below meth c H locs ls F hz hP hS hl
  exact lv_bipush F.1 F.2.1 hd hv (k z D C p l e s m args below meth c H locs ls F hz hP hS hl)
theorem a_sipush {n : Int} (v : Int32) (hd : decode μ.2.1 pc = .ok (.sipush n, 3)) (hv : (Int16.ofInt n).toInt32 = v) (k : aGG i μ d mc ms (pc + 3) lv (.int v :: st) E cells slots E') : aGG i μ d mc ms pc lv st E cells slots E' := by
  intro z D C p l e s m args below meth c H locs ls F hz hP hS hl
  exact lv_sipush F.1 F.2.1 hd hv (k z D C p l e s m args below meth c H locs ls F hz hP hS hl)
theorem a_aload {k0 : Fin 4} {j o : Nat} (hd : decode μ.2.1 pc = .ok (.aload_n k0, 1)) (hi : (k0 : Nat) = j) (hx : lv[j]? = some (some (.ref o))) (k : aGG i μ d mc ms (pc + 1) lv (.ref o :: st) E cells slots E') : aGG i μ d mc ms pc lv st E cells slots E' := by
  intro z D C p l e s m args below meth c H locs ls F hz hP hS hl
  exact lv_aload_n F.1 F.2.1 hd hi (hl.2.2 _ _ hx).2 (k z D C p l e s m args below meth c H locs ls F hz hP hS hl)
theorem a_iload {k0 : Fin 4} {j : Nat} {x : Int32} (hd : decode μ.2.1 pc = .ok (.iload_n k0, 1)) (hi : (k0 : Nat) = j) (hx : lv[j]? = some (some (.int x))) (k : aGG i μ d mc ms (pc + 1) lv (.int x :: st) E cells slots E') : aGG i μ d mc ms pc lv st E cells slots E' := by
  intro z D C p l e s m args below meth c H locs ls F hz hP hS hl
  exact lv_iload_n F.1 F.2.1 hd hi (hl.2.2 _ _ hx).2 (k z D C p l e s m args below meth c H locs ls F hz hP hS hl)
theorem a_istore {k0 : Fin 4} {j : Nat} {x : Int32} (hd : decode μ.2.1 pc = .ok (.istore_n k0, 1)) (hi : (k0 : Nat) = j) (hn : j < μ.2.2.1) (hs : lv.set j (some (.int x)) = lv') (k : aGG i μ d mc ms (pc + 1) lv' st E cells slots E') : aGG i μ d mc ms pc lv (.int x :: st) E cells slots E' := by
  intro z D C p l e s m args below meth c H locs ls F hz hP hS hl
  subst hs
  exact lv_istore_n F.1 F.2.1 hd hi (jlv_has hl) hn rfl (fun ls' h => k z D C p l e s m args below meth c H locs ls' F hz hP hS (jlv_of hl rfl h))
theorem a_iinc {j : Nat} {n : Int} {x : Int32} (v : Int32) (hd : decode μ.2.1 pc = .ok (.iinc j n, 3)) (hx : lv[j]? = some (some (.int x))) (hv : x + Int32.ofInt n = v) (hn : j < μ.2.2.1) (hs : lv.set j (some (.int v)) = lv') (k : aGG i μ d mc ms (pc + 3) lv' st E cells slots E') : aGG i μ d mc ms pc lv st E cells slots E' := by
  intro z D C p l e s m args below meth c H locs ls F hz hP hS hl
  subst hs
  obtain ⟨q, hq⟩ := List.getElem?_of_mem (jll_in (φ := fun j => z + j) hx)
  exact lv_iinc F.1 F.2.1 hd (jlv_has hl) hq hv hn rfl (fun ls' h => k z D C p l e s m args below meth c H locs ls' F hz hP hS (jlv_of hl rfl h))
theorem a_dup {v : Value} (hd : decode μ.2.1 pc = .ok (.dup, 1)) (hc : v.category = 1) (k : aGG i μ d mc ms (pc + 1) lv (v :: v :: st) E cells slots E') : aGG i μ d mc ms pc lv (v :: st) E cells slots E' := by
  intro z D C p l e s m args below meth c H locs ls F hz hP hS hl
  exact lv_dup F.1 F.2.1 hd (by rw [jtr_cat]; exact hc) (k z D C p l e s m args below meth c H locs ls F hz hP hS hl)
theorem a_goto {off : Int} (tgt : Nat) (hd : decode μ.2.1 pc = .ok (.goto off, 3)) (ht : (pc : Int) + off = (tgt : Int)) (k : aGG i μ d mc ms tgt lv st E cells slots E') : aGG i μ d mc ms pc lv st E cells slots E' := by
  intro z D C p l e s m args below meth c H locs ls F hz hP hS hl
  exact lv_goto F.1 F.2.1 hd ht (k z D C p l e s m args below meth c H locs ls F hz hP hS hl)
theorem a_icmp_ge {x y : Int32} {off : Int} (tgt : Nat) (hd : decode μ.2.1 pc = .ok (.if_icmp .ge off, 3)) (ht : (pc : Int) + off = (tgt : Int)) (kt : y ≤ x → aGG i μ d mc ms tgt lv st E cells slots E') (kf : ¬ y ≤ x → aGG i μ d mc ms (pc + 3) lv st E cells slots E') : aGG i μ d mc ms pc lv (.int y :: .int x :: st) E cells slots E' := by
  intro z D C p l e s m args below meth c H locs ls F hz hP hS hl
  exact lv_icmp_ge F.1 F.2.1 hd ht (fun h => kt h z D C p l e s m args below meth c H locs ls F hz hP hS hl) (fun h => kf h z D C p l e s m args below meth c H locs ls F hz hP hS hl)
theorem a_ret (hd : decode μ.2.1 pc = .ok (.return_, 1)) (hr : μ.2.2.2 = none) : aGG i μ d mc ms pc lv [] E mc ms E := by
  intro z D C p l e s m args below meth c H locs ls F hz hP hS hl
  exact W.vret F.1 F.2.1 (F.2.2.2.2.2.1.trans hr) (fun t ht _ => ⟨rfl, by rw [ht]; exact hz, by rw [ht]; exact hP, hS.F ht⟩) hS.2.2 hd (hlocks := F.2.2.2.2.2.2.1)
theorem acel_obj (z : Nat) (C : AC3) (k ci : Nat) (fs : List Value) (f : Nat → Int32) : acel z C k (0, ci, fs, f) = .inr (ci, fs.map (jtr (fun j => z + j))) := rfl
theorem acel_int (z : Nat) (C : AC3) (k n : Nat) (fs : List Value) (f : Nat → Int32) : acel z C k (1, n, fs, f) = .inl (C.1, n, .inl f) := rfl
theorem acel_bool (z : Nat) (C : AC3) (k n : Nat) (fs : List Value) (f : Nat → Int32) : acel z C k (2, n, fs, f) = .inl (C.2.1, n, .inl f) := rfl
theorem a_newI {n : Int32} (N : Nat) (hd : decode μ.2.1 pc = .ok (.newarray .int, 2)) (hw : Cond.arrayClass .int ∈ jtb) (hn : ¬ n < 0) (hN : n.toNatClampNeg = N) (hb : N ≤ 100000) (hc : cells + 1 ≤ mc) (hs : slots + N ≤ ms) {r : Nat} (hr : E.length = r) (hE : E ++ [(1, N, [], fun _ => 0)] = E1) (k : aGG i μ d mc ms (pc + 2) lv (.ref r :: st) E1 (cells + 1) (slots + N) E') : aGG i μ d mc ms pc lv (.int n :: st) E cells slots E' := by
  intro z D C p l e s m args below meth c H locs ls F hz hP hS hl
  subst hr
  subst hE
  refine va_newaK (atype := .int) (N := N) F.1 F.2.1 (F.2.2.2.2.1 _ hw) rfl hd rfl hn hN (by show N * 4 ≤ 536870912; omega) hc hs hz fun H1 cA e1 z1 o1 hAr hNm => ?_
  have hcA : cA = C.1 := by
    have h1 : s.vm.findClass ("[" ++ FieldType.int.toString) = some C.1 := (F.2.2.2.2.2.2.2.1.2 0 _ rfl).2
    exact Option.some.inj (hNm.symm.trans h1)
  subst hcA
  refine k z D C p l e s m args below meth c H1 locs ls F (by rw [z1, List.length_append]; rfl) (aws_app hP hz (fun q hq => o1 q (by omega)) (fun k x hx => ?_)) ⟨Nat.le_trans hS.1 (by omega), fun q h1 h2 => (o1 q (by have := hS.1; omega)).trans (hS.2.1 q h1 h2), hS.2.2⟩ hl
  have hk : k < 1 := (List.getElem?_eq_some_iff.mp hx).1
  rw [show k = 0 by omega] at hx ⊢
  cases hx
  exact e1
theorem a_newZ {n : Int32} (N : Nat) (hd : decode μ.2.1 pc = .ok (.newarray .boolean, 2)) (hw : Cond.arrayClass .boolean ∈ jtb) (hn : ¬ n < 0) (hN : n.toNatClampNeg = N) (hb : N ≤ 100000) (hc : cells + 1 ≤ mc) (hs : slots + N ≤ ms) {r : Nat} (hr : E.length = r) (hE : E ++ [(2, N, [], fun _ => 0)] = E1) (k : aGG i μ d mc ms (pc + 2) lv (.ref r :: st) E1 (cells + 1) (slots + N) E') : aGG i μ d mc ms pc lv (.int n :: st) E cells slots E' := by
  intro z D C p l e s m args below meth c H locs ls F hz hP hS hl
  subst hr
  subst hE
  refine va_newaK (atype := .boolean) (N := N) F.1 F.2.1 (F.2.2.2.2.1 _ hw) rfl hd rfl hn hN (by show N * 1 ≤ 536870912; omega) hc hs hz fun H1 cA e1 z1 o1 hAr hNm => ?_
  have hcA : cA = C.2.1 := by
    have h1 : s.vm.findClass ("[" ++ FieldType.boolean.toString) = some C.2.1 := (F.2.2.2.2.2.2.2.1.2 1 _ rfl).2
    exact Option.some.inj (hNm.symm.trans h1)
  subst hcA
  refine k z D C p l e s m args below meth c H1 locs ls F (by rw [z1, List.length_append]; rfl) (aws_app hP hz (fun q hq => o1 q (by omega)) (fun k x hx => ?_)) ⟨Nat.le_trans hS.1 (by omega), fun q h1 h2 => (o1 q (by have := hS.1; omega)).trans (hS.2.1 q h1 h2), hS.2.2⟩ hl
  have hk : k < 1 := (List.getElem?_eq_some_iff.mp hx).1
  rw [show k = 0 by omega] at hx ⊢
  cases hx
  exact e1
theorem a_new {index ci N : Nat} {cn : String} {T : u_T} {fs : List Value} (hd : decode μ.2.1 pc = .ok (.new index, 3)) (hc : vwCl[ci]? = some (cn, T, N)) (hin : ∀ x ∈ u_ws cn T N, x ∈ jtb) (ty : Nat → FieldType) (hty : ∀ k, k < N → parseFieldDescriptor (T k).2.2.1 = some (ty k)) (hcl : Cond.classLink μ.1 index cn ∈ jtb) (hinst : Cond.instantiable cn N ∈ jtb) (hini : Cond.initialized cn ∈ jtb) (hfs : ∀ z j, j < N → defaultValue (ty j) = vp_V (fs.map (jtr (fun j => z + j))) j) (hce : cells + 1 ≤ mc) (hs : slots + N ≤ ms)
    (k : aGG i μ d mc ms (pc + 3) lv (.ref E.length :: st) (E ++ [(0, ci, fs, fun _ => 0)]) (cells + 1) (slots + N) E') : aGG i μ d mc ms pc lv st E cells slots E' := by
  intro z D C p l e s m args below meth c H locs ls F hz hP hS hl
  have hts := F.2.2.2.2.1
  have hKn := F.2.2.2.2.2.2.2.1.1 ci _ hc
  refine W.newcK F.1 F.2.1 F.2.2.2.1 (hts _ hcl) (hts _ hinst) (hts _ hini) rfl hd hce hs hKn.2.1 hz fun H1 kC hkC e1 z1 o1 => ?_
  refine k z D C p l e s m args below meth c H1 locs ls F (by rw [z1, List.length_append]; rfl) (aws_app hP hz (fun q hq => o1 q (by omega)) (fun k x hx => ?_)) ⟨Nat.le_trans hS.1 (by omega), fun q h1 h2 => (o1 q (by have := hS.1; omega)).trans (hS.2.1 q h1 h2), hS.2.2⟩ hl
  have hk : k < 1 := (List.getElem?_eq_some_iff.mp hx).1
  rw [show k = 0 by omega] at hx ⊢
  cases hx
  exact ⟨_, hc, (u_born ty hts hin hKn hkC e1 hty).to (hfs z)⟩
theorem a_putX {idx ci k0 o : Nat} {cn : String} {T : u_T} {N : Nat} {fs : List Value} {f : Nat → Int32} {v : Value} {ty : FieldType} (hd : decode μ.2.1 pc = .ok (.putfield idx, 3)) (hc : vwCl[ci]? = some (cn, T, N)) (hin : ∀ x ∈ u_ws cn T N, x ∈ jtb) (ty0 : Nat → FieldType) (hty : ∀ k, k < N → parseFieldDescriptor (T k).2.2.1 = some (ty0 k)) (hnm : ∀ a, a < N → ∀ b, b < N → a ≠ b → (T a).2.1 ≠ (T b).2.1) (hk : k0 < N) (hl0 : Cond.fieldLink μ.1 idx (T k0).1 (T k0).2.1 (T k0).2.2.1 ∈ jtb) (hfin : (T k0).2.2.2 = false ∨ (i = true ∧ (T k0).2.2.2 = true ∧ (T k0).1 = μ.1)) (hdty : parseFieldDescriptor (T k0).2.2.1 = some ty) (hnar : ∀ φ, narrow ty (jtr φ v) = jtr φ v) (hfit : ∀ φ, fits ty (jtr φ v) = true)
    (he : E[o]? = some (0, ci, fs, f)) (hk2 : k0 < fs.length) (hE : E.set o (0, ci, fs.set k0 v, f) = E1) (k : aGG i μ d mc ms (pc + 3) lv st E1 cells slots E') : aGG i μ d mc ms pc lv (v :: .ref o :: st) E cells slots E' := by
  intro z D C p l e s m args below meth c H locs ls F hz hP hS hl
  have hts := F.2.2.2.2.1
  have hK := F.2.2.2.2.2.2.2.1
  have hap := va_apart (own := μ.1) hts hin ty0 hty hnm hK hc
  have he2 := aws_get z C he
  obtain ⟨r, h1, cell, q1, q2, q3, q4⟩ := hP o _ he2
  have hr : r = (cn, T, N) := Option.some.inj (h1.symm.trans hc)
  subst hr
  obtain ⟨hS1, hfc, kC, hkC, hkind⟩ := hK.1 ci _ hc
  obtain ⟨cf, kf, fi, fd, hif, hsl⟩ := hS1 k0 hk
  have hst := (u_facts hfc hkC (u_lays hts hin hk) hif).1
  have hlay := hts _ (hin _ (u_in_lay hk))
  unfold u_lay at hlay
  have e1 : (fs.map (jtr (fun j => z + j))).set k0 (jtr (fun j => z + j) v) = (fs.set k0 v).map (jtr (fun j => z + j)) := by rw [List.map_set]
  have fin : ∀ H' : Heap, H'[z + o]? = some (cell.setSlot (D.2 ci k0) (jtr (fun j => z + j) v)) → H'.size = H.size → (∀ q, q ≠ z + o → H'[q]? = H[q]?) → W p l e (aR d mc ms) s m args below meth c H' (locs ++ [⟨z + o, D.2 ci k0⟩]) cells slots (MQ below (aQ z D C E') args s mc ms (fun q => z ≤ q)) (F0 m (pc + 3) ls (st.map (jtr (fun j => z + j)))) := by
    intro H' g1 g2 g3
    have hP1 := hP.set (aws_D z C E) he2 (e := .inr (ci, (fs.map (jtr (fun j => z + j))).set k0 (jtr (fun j => z + j) v))) ⟨_, hc, t_OB.to (V := updV (vp_V (fs.map (jtr (fun j => z + j)))) k0 (jtr (fun j => z + j) v)) ⟨_, g1, q2, q3, t_set q4 hap hk _⟩ (fun j _ => vp_updV_set (by rw [List.length_map]; exact hk2) _ j)⟩ g3
    rw [e1, ← acel_obj z C o ci (fs.set k0 v) f, aws_set z C he, hE] at hP1
    exact k z D C p l e s m args below meth c H' _ ls F (by rw [g2, hz, ← hE, List.length_set]) hP1 (hS.put g2 g3 (Nat.le_add_right z o)) hl
  rcases hfin with hfin | ⟨hi, hfin, hdecl⟩
  · rw [if_neg (by rw [hfin]; decide)] at hlay
    have h6 := u_store hfc hkC hkind hlay hif hdty (hnar (fun j => z + j)) (hfit _)
    refine W.putK F.1 F.2.1 (f := fd) ⟨F.2.2.2.1, hts _ hl0, ⟨_, _, _, hif⟩, hst⟩ (by rw [q2]; exact h6) q1 q3 (by rw [hsl]; exact k2_hasslot (q4 k0 hk)) rfl rfl hd fun H' g1 g2 g3 => ?_
    rw [hsl] at g1 ⊢
    exact fin H' g1 g2 g3
  · rw [if_pos hfin] at hlay
    have hcf : m.cls = cf := by
      obtain ⟨_, _, c', _, _, _, -, -, hf', -, -, -, hown2, -⟩ := Cond.laysFinal_spec hlay
      have e2 : c' = cf := by have := hif.symm.trans hf'; simp at this; exact this.1.symm
      rw [hdecl] at hown2
      rw [← e2]
      exact Option.some.inj (F.2.2.2.1.symm.trans hown2)
    have h6 := u_fits hfc hkC hkind (Or.inr hlay) hif hdty (hnar (fun j => z + j)) (hfit _)
    refine W.putFinK F.1 F.2.1 F.2.2.2.1 (hts _ hl0) hif hst hcf (F.2.2.2.2.2.2.2.2.2.2.2 hi) (by rw [q2]; exact h6) q1 q3 (by rw [hsl]; exact k2_hasslot (q4 k0 hk)) rfl rfl hd fun H' g1 g2 g3 => ?_
    rw [hsl] at g1 ⊢
    exact fin H' g1 g2 g3
theorem a_get {idx ci k0 o : Nat} {cn : String} {T : u_T} {N : Nat} {fs : List Value} {f : Nat → Int32} {v : Value} (hd : decode μ.2.1 pc = .ok (.getfield idx, 3)) (hc : vwCl[ci]? = some (cn, T, N)) (hin : ∀ x ∈ u_ws cn T N, x ∈ jtb) (hk : k0 < N) (hl0 : Cond.fieldLink μ.1 idx (T k0).1 (T k0).2.1 (T k0).2.2.1 ∈ jtb) (he : E[o]? = some (0, ci, fs, f)) (hv : fs[k0]? = some v) (k : aGG i μ d mc ms (pc + 3) lv (v :: st) E cells slots E') : aGG i μ d mc ms pc lv (.ref o :: st) E cells slots E' := by
  intro z D C p l e s m args below meth c H locs ls F hz hP hS hl
  exact va_get (v := jtr (fun j => z + j) v) F.1 F.2.1 F.2.2.2.2.1 hin F.2.2.2.1 F.2.2.2.2.2.2.2.1 hP o (aws_get z C he) hc k0 hk (F.2.2.2.2.1 _ hl0) (fun _ h => h) (by rw [List.getElem?_map, hv]; rfl) hd (k z D C p l e s m args below meth c H locs ls F hz hP hS hl)
theorem a_alen {o n : Nat} {fs : List Value} {f : Nat → Int32} (v : Int32) (hd : decode μ.2.1 pc = .ok (.arraylength, 1)) (he : E[o]? = some (1, n, fs, f)) (hv : Int32.ofNat n = v) (k : aGG i μ d mc ms (pc + 1) lv (.int v :: st) E cells slots E') : aGG i μ d mc ms pc lv (.ref o :: st) E cells slots E' := by
  intro z D C p l e s m args below meth c H locs ls F hz hP hS hl
  exact va_alen F.1 F.2.1 F.2.2.2.2.2.2.2.1 hP o 0 (aws_get z C he) (ty := .int) rfl hv hd (k z D C p l e s m args below meth c H locs ls F hz hP hS hl)
theorem a_iast {o n : Nat} {fs : List Value} {f : Nat → Int32} {j x : Int32} (hd : decode μ.2.1 pc = .ok (.iastore, 1)) (he : E[o]? = some (1, n, fs, f)) (hj : vp_in j n) (hE : E.set o (1, n, fs, upd f j.toNatClampNeg x) = E1) (k : aGG i μ d mc ms (pc + 1) lv st E1 cells slots E') : aGG i μ d mc ms pc lv (.int x :: .int j :: .ref o :: st) E cells slots E' := by
  intro z D C p l e s m args below meth c H locs ls F hz hP hS hl
  have he2 := aws_get z C he
  refine W.iast F.1 F.2.1 (hP o _ he2) ((F.2.2.2.2.2.2.2.1.2 0 _ rfl).1 n (fun j => .int (f j))) (fun q => by cases q) (by show ¬ (j < 0 ∨ (arrV _ _ _).slots.size ≤ _); rw [arrV_size]; exact hj) rfl rfl hd fun H' g1 g2 g3 => ?_
  have hP1 := hP.set (aws_D z C E) he2 (e := .inl (C.1, n, .inl (upd f j.toNatClampNeg x))) (by
    show H'[z + o]? = some (vp_cell _ _)
    rw [g1]
    show some ((vp_cell C.1 (n, .inl f)).setSlot _ _) = some (vp_cell C.1 (n, .inl (upd f j.toNatClampNeg x)))
    rw [vp_cell_i, vp_cell_i, arrV_store]
    congr 2
    funext q
    by_cases hq : q = j.toNatClampNeg
    · subst hq
      simp [updV, upd]
    · simp [updV, upd, hq]) g3
  rw [← acel_int z C o n fs (upd f j.toNatClampNeg x), aws_set z C he, hE] at hP1
  exact k z D C p l e s m args below meth c H' _ ls F (by rw [g2, hz, ← hE, List.length_set]) hP1 (hS.put g2 g3 (Nat.le_add_right z o)) hl
theorem a_obj {idx o : Nat} (hd : decode μ.2.1 pc = .ok (.invokespecial idx, 3)) (hl0 : Cond.methodLink μ.1 idx objectInit ∈ jtb) (h1 : Cond.instanceMethod objectInit ∈ jtb) (h2 : Cond.code objectInit ⟨#[0xb1]⟩ 1 none ∈ jtb) (hdd : 1 ≤ d) (hst : (st.map fun v => v.category).sum + 12 ≤ 40) (k : aGG i μ d mc ms (pc + 3) lv st E cells slots E') : aGG i μ d mc ms pc lv (.ref o :: st) E cells slots E' := by
  intro z D C p l e s m args below meth c H locs ls F hz hP hS hl
  have hts := F.2.2.2.2.1
  refine W.objInit F.1 F.2.1 F.2.2.2.1 (hts _ hl0) (hts _ h1) (hts _ h2) rfl (by rw [F.2.2.1]; exact hl.1) rfl hd hdd ?_ (k z D C p l e s m args below meth c H locs ls F hz hP hS hl)
  rw [jcat_map]
  show 2 * 0 + _ + 12 ≤ 40 * d
  omega
end JA
/-! calls in a world that grows -/
theorem va_AOA.moved {ty : FieldType} {u U : State} (hvm : u.vm.Alike U.vm) (h : va_AOA ty u) : va_AOA ty U := by
  have h0 : (Cond.arrayOver (.array ty)).holds #[] u none u [] = true := h
  simp only [Cond.holds, Cond.value, beq_iff_eq] at h0
  cases hc : u.vm.findClass (FieldType.array ty).toString with
  | none => simp [hc] at h0
  | some comp =>
    simp only [hc, Option.bind_some, Option.bind_eq_some_iff, Option.map_eq_some_iff] at h0
    obtain ⟨c, hi, k, hk, hb⟩ := h0
    obtain ⟨k', hk', he⟩ := hvm.2.2 _ _ hk
    have hi2 : (U.vm.classes.findIdx? fun (x : Class) => match x.kind with | .array component _ => component == comp | _ => false) = some c := by
      have hbare : U.vm.bare = u.vm.bare := by first | exact hvm.bare_eq | exact hvm.bare_eq.symm
      refine (va_idx_bare U.vm comp).symm.trans ?_
      rw [hbare]
      exact (va_idx_bare u.vm comp).trans hi
    have f1 : U.vm.findClass (FieldType.array ty).toString = some comp := by rw [hvm.findClass]; exact hc
    have hkk : k'.kind = k.kind := by rw [he]
    show (Cond.arrayOver (.array ty)).holds #[] U none U [] = true
    simp only [Cond.holds, Cond.value, beq_iff_eq]
    rw [f1, Option.bind_some]
    refine Option.bind_eq_some_iff.mpr ⟨c, hi2, ?_⟩
    rw [hk', Option.map_some]
    rw [hkk, hvm.findClass]
    exact congrArg some hb
theorem aNest_moved {s U : State} (hW : s.WarmedH U.vm) (h : ∀ x ∈ aNest, va_Nw x s) : ∀ x ∈ aNest, va_Nw x U := by
  intro x hx
  have h1 := h x hx
  have h2 := (List.mem_filter.mp hx).2
  cases x with
  | methodLinkNest a i y h0 => exact va_Nw.warmM hW h1
  | _ => simp at h2
theorem aNest_same {s U : State} (hv : s.vm = U.vm) (h : ∀ x ∈ aNest, va_Nw x s) : ∀ x ∈ aNest, va_Nw x U := by
  intro x hx
  have h1 := h x hx
  have h2 := (List.mem_filter.mp hx).2
  cases x with
  | methodLinkNest a i y h0 => exact va_Nw.same rfl hv h1
  | _ => simp at h2
theorem ablind (z : Nat) (D : va_G) (C : AC3) (E : List ACel) (as : List Value) : FrameBlind (va_Pc (as.map (jtr (fun j => z + j))) (fun U => U.heap.size = z + E.length ∧ va_P D vwCl (aws z C E) U.heap ∧ va_K D vwCl (atys C) U ∧ va_AOA .int U ∧ ∀ x ∈ aNest, va_Nw x U)) := fun a U g mk q => by
  obtain ⟨q0, qz, qP, qK, qO, qN⟩ := q
  exact ⟨q0, qz, qP, va_K.moved (u := U) (U := U.calling g mk a) (Vm.Alike.refl U.vm) qK, va_AOA.moved (u := U) (U := U.calling g mk a) (Vm.Alike.refl U.vm) qO, aNest_same (s := U) (U := U.calling g mk a) rfl qN⟩
section JA2
variable {p : Program} {l : Launch} {e : Env} {s : State} {m : MethodId} {args : Array Value} {below : List Frame} {meth : Method} {c : Code} {H : Heap} {locs : List Loc}
theorem acall {R : Room} {z : Nat} {D : va_G} {C : AC3} {E1 : List ACel} {Q : State → Prop} {a : Array Value} {pc cells slots mc ms : Nat} {ls : Array Slot} {st0 rest : List Value} (hr : va_Run p l e R s m args below meth c H locs cells slots mc ms (F0 m pc ls st0) rest (aQ z D C E1 a) (fun q => z ≤ q)) (hS : va_S (fun q => z ≤ q) s.heap H locs)
    (kk : ∀ (H1 : Heap) (locs1 : List Loc), H1.size = z + E1.length → va_P D vwCl (aws z C E1) H1 → va_S (fun q => z ≤ q) s.heap H1 locs1 → W p l e R s m args below meth c H1 locs1 (cells + mc) (slots + ms) Q (F0 m (pc + 3) ls rest)) : W p l e R s m args below meth c H locs cells slots Q (F0 m pc ls st0) := by
  intro T hT X
  obtain ⟨v, st₀, t, T', L, h0, X', hL, e1, e2, ⟨hv, hq, hp, hz, hk⟩, st⟩ := hr T hT X
  cases hv
  rw [h0] at hz hk
  obtain ⟨t2, a1, b1⟩ := kk T'.heap (locs ++ L) (by rw [e1]; exact hq) (by rw [e1]; exact hp)
    ⟨Nat.le_trans hS.1 (by rw [e1]; exact hz), fun q h1 h2 => by rw [e1, hk q (Nat.lt_of_lt_of_le h1 hS.1) h2]; exact hS.2.1 q h1 h2, fun q hq => by
      rcases List.mem_append.mp hq with h | h
      · exact hS.2.2 q h
      · exact hL q h⟩ T' rfl X'
  exact ⟨t2, st t2 a1, b1⟩
end JA2
section JA3
variable {i : Bool} {μ : JMd} {d mc ms pc cells slots : Nat} {lv lv' : List (Option Value)} {E E1 E' : List ACel}
/-- what a constructor's callers take of it -/
def aCK (y : MethodName) (μ' : JMd) : Prop := jCK y μ' 0 ∧ y.name = "<init>" ∧ Cond.instanceMethod y ∈ jtb
theorem a_callI {y : MethodName} {μ' : JMd} {d' mc' ms' idx o : Nat} (st : List Value) (hd : decode μ.2.1 pc = .ok (.invokespecial idx, 3)) (hl : Cond.methodLink μ.1 idx y ∈ jtb) (hck : aCK y μ') (hret : μ'.2.2.2 = none) (hr : d' + 1 ≤ d ∧ 8 + (μ'.2.2.1 + 11) + 40 * d' ≤ 40 * d) (hst : (st.map fun v => v.category).sum ≤ 8) (hcm : cells + mc' ≤ mc ∧ slots + ms' ≤ ms)
    (hct : aCt y μ' d' mc' ms' E [.ref o] E1) (k : aGG i μ d mc ms (pc + 3) lv st E1 (cells + mc') (slots + ms') E') : aGG i μ d mc ms pc lv (.ref o :: st) E cells slots E' := by
  intro z D C p l e s m args below meth c H locs ls F hz hP hS hlv
  have hts := F.2.2.2.2.1
  have hK := F.2.2.2.2.2.2.2.1
  have hB : CallB (aR d mc ms) s args μ.1 idx y μ'.2.1 μ'.2.2.1 none (Cond.code y μ'.2.1 μ'.2.2.1 μ'.2.2.2 :: jtb) (aR d' mc' ms') mc' ms' 0 := by
    rw [← hret]
    exact callB_of 0 hts (jgood_in hck.1) rfl rfl rfl (hts _ hck.1.2.1) (hts _ hl) hck.1.2.2 hr
  have hrun := va_runI (locs := locs) (e := e) (below := below) (meth := meth) (cells := cells) (slots := slots) (As := []) (rest := st.map (jtr (fun j => z + j))) (b := z + o) (g := F0 m pc ls ((.ref o :: st).map (jtr (fun j => z + j)))) ⟨F.1, F.2.1, F.2.2.1, F.2.2.2.1, hts⟩ (hct z D C l) ⟨hB, hck.2.1, hts _ hck.2.2⟩
    ⟨ablind z D C E _, fun U hU hW => ⟨rfl, by rw [hU]; exact hz, by rw [hU]; exact hP, va_K.moved hW.alike hK, va_AOA.moved hW.alike F.2.2.2.2.2.2.2.2.1, aNest_moved hW F.2.2.2.2.2.2.2.2.2.1⟩⟩ rfl rfl hlv.1 rfl (by rw [jcat_map]; exact lv_room (rest := ((.ref o :: st).map (jtr (fun j => z + j)))) hst) hd hcm
  exact acall hrun hS (fun H1 locs1 hz1 hP1 hS1 => k z D C p l e s m args below meth c H1 locs1 ls F hz1 hP1 hS1 hlv)
theorem a_callIN {y : MethodName} {μ' : JMd} {d' mc' ms' idx o : Nat} {host : String} (st : List Value) (hd : decode μ.2.1 pc = .ok (.invokespecial idx, 3)) (hl : Cond.methodLinkNest μ.1 idx y host ∈ aNest) (hck : aCK y μ') (hret : μ'.2.2.2 = none) (hr : d' + 1 ≤ d ∧ 8 + (μ'.2.2.1 + 11) + 40 * d' ≤ 40 * d) (hst : (st.map fun v => v.category).sum ≤ 8) (hcm : cells + mc' ≤ mc ∧ slots + ms' ≤ ms)
    (hct : aCt y μ' d' mc' ms' E [.ref o] E1) (k : aGG i μ d mc ms (pc + 3) lv st E1 (cells + mc') (slots + ms') E') : aGG i μ d mc ms pc lv (.ref o :: st) E cells slots E' := by
  intro z D C p l e s m args below meth c H locs ls F hz hP hS hlv
  have hts := F.2.2.2.2.1
  have hK := F.2.2.2.2.2.2.2.1
  have hB : va_CN (aR d mc ms) s args μ.1 idx y host μ'.2.1 μ'.2.2.1 none (Cond.code y μ'.2.1 μ'.2.2.1 μ'.2.2.2 :: jtb) (aR d' mc' ms') mc' ms' 0 := by
    rw [← hret]
    exact va_cnB 0 hts (jgood_in hck.1) rfl rfl rfl (F.2.2.2.2.2.2.2.2.2.1 _ hl) (hts _ hck.1.2.1) hck.1.2.2 hr
  have hrun := va_runIN (locs := locs) (e := e) (below := below) (meth := meth) (cells := cells) (slots := slots) (As := []) (rest := st.map (jtr (fun j => z + j))) (b := z + o) (g := F0 m pc ls ((.ref o :: st).map (jtr (fun j => z + j)))) ⟨F.1, F.2.1, F.2.2.1, F.2.2.2.1, hts⟩ (hct z D C l) ⟨hB, hck.2.1, hts _ hck.2.2⟩
    ⟨ablind z D C E _, fun U hU hW => ⟨rfl, by rw [hU]; exact hz, by rw [hU]; exact hP, va_K.moved hW.alike hK, va_AOA.moved hW.alike F.2.2.2.2.2.2.2.2.1, aNest_moved hW F.2.2.2.2.2.2.2.2.2.1⟩⟩ rfl rfl hlv.1 rfl (by rw [jcat_map]; exact lv_room (rest := ((.ref o :: st).map (jtr (fun j => z + j)))) hst) hd hcm
  exact acall hrun hS (fun H1 locs1 hz1 hP1 hS1 => k z D C p l e s m args below meth c H1 locs1 ls F hz1 hP1 hS1 hlv)
theorem a_callS {y : MethodName} {μ' : JMd} {n d' idx : Nat} (as st : List Value) (hd : decode μ.2.1 pc = .ok (.invokestatic idx, 3)) (hl : Cond.methodLink μ.1 idx y ∈ jtb) (hck : jCK y μ' n) (hcs : Cond.static y ∈ jtb) (hn : as.length = n) (hr : d' + 1 ≤ d ∧ 8 + (μ'.2.2.1 + 11) + 40 * d' ≤ 40 * d) (hst : (st.map fun v => v.category).sum ≤ 8) (hcm : cells ≤ mc ∧ slots ≤ ms)
    (hct : aCt y μ' d' 0 0 E as E1) (k : aGG i μ d mc ms (pc + 3) lv st E1 cells slots E') : aGG i μ d mc ms pc lv (as.reverse ++ st) E cells slots E' := by
  intro z D C p l e s m args below meth c H locs ls F hz hP hS hlv
  have hts := F.2.2.2.2.1
  have hK := F.2.2.2.2.2.2.2.1
  have hB : CallB (aR d mc ms) s args μ.1 idx y μ'.2.1 μ'.2.2.1 μ'.2.2.2 (Cond.code y μ'.2.1 μ'.2.2.1 μ'.2.2.2 :: jtb) (aR d' 0 0) 0 0 n := callB_of n hts (jgood_in hck) rfl rfl rfl (hts _ hck.2.1) (hts _ hl) hck.2.2 hr
  have hrun := va_runS (locs := locs) (e := e) (below := below) (meth := meth) (cells := cells) (slots := slots) (As := as.map (jtr (fun j => z + j))) (rest := st.map (jtr (fun j => z + j))) (g := F0 m pc ls ((as.reverse ++ st).map (jtr (fun j => z + j)))) ⟨F.1, F.2.1, F.2.2.1, F.2.2.2.1, hts⟩ (hct z D C l) ⟨hB, hts _ hcs⟩
    ⟨ablind z D C E _, fun U hU hW => ⟨rfl, by rw [hU]; exact hz, by rw [hU]; exact hP, va_K.moved hW.alike hK, va_AOA.moved hW.alike F.2.2.2.2.2.2.2.2.1, aNest_moved hW F.2.2.2.2.2.2.2.2.2.1⟩⟩ rfl (by rw [List.length_map]; exact hn) hlv.1 (by simp) (by rw [jcat_map]; exact lv_room (rest := ((as.reverse ++ st).map (jtr (fun j => z + j)))) hst) hd hcm
  exact acall hrun hS (fun H1 locs1 hz1 hP1 hS1 => k z D C p l e s m args below meth c H1 locs1 ls F hz1 hP1 hS1 hlv)
/-- new int[N][K]: the outer row, then its rows -/
theorem a_multi {index : Nat} {n k0 : Int32} {st : List Value} (N K : Nat) (hd : decode μ.2.1 pc = .ok (.multianewarray index 2, 4)) (hcl : Cond.classLink μ.1 index "[[I" ∈ jtb) (hw : Cond.arrayClass .int ∈ jtb) (hn : ¬ n < 0) (hk : ¬ k0 < 0) (hN : n.toNatClampNeg = N) (hK0 : k0.toNatClampNeg = K) (hb1 : N ≤ 1000) (hb2 : K ≤ 1000) (hc : cells + (1 + N) ≤ mc) (hs : slots + (N + N * K) ≤ ms)
    {r : Nat} (hr : E.length = r) (hE : E ++ ((3, N, [], fun _ => 0) :: List.replicate N (1, K, [], fun _ => 0)) = E1) (k : aGG i μ d mc ms (pc + 4) lv (.ref r :: st) E1 (cells + 1 + N) (slots + N + N * K) E') : aGG i μ d mc ms pc lv (.int k0 :: .int n :: st) E cells slots E' := by
  intro z D C p l e s m args below meth c H locs ls F hz hP hS hl
  have hts := F.2.2.2.2.1
  have hKa := F.2.2.2.2.2.2.2.1
  subst hN
  subst hK0
  subst hr
  subst hE
  intro T hT Xs
  obtain ⟨vm₁, cA, comp, -, fA, fC, hO, -, X', step⟩ := Xs.multianewarray2F (ty := .int) F.1 F.2.2.2.1 (hts _ hcl) (va_AOA.use F.2.2.2.2.2.2.2.2.1) (hts _ hw) (g := F0 m pc ls ((.int k0 :: .int n :: st).map (jtr (fun j => z + j)))) rfl (by rw [F.2.1]; exact hd) rfl hn hk (by omega) (by show k0.toNatClampNeg * 4 ≤ 536870912; omega) (by omega) rfl rfl hc hs
  have e1 : cA = C.2.2 := Option.some.inj (fA.symm.trans (hKa.2 2 _ rfl).2)
  have e2 : comp = C.1 := Option.some.inj (fC.symm.trans (hKa.2 0 _ rfl).2)
  subst e1
  subst e2
  generalize hF : Jvm.Free.Multi.fill (T.setVm vm₁) C.2.2 C.1 n.toNatClampNeg k0.toNatClampNeg (defaultValue .int) n.toNatClampNeg = G at X' step
  have hTh : (T.setVm vm₁).heap = H := hT
  obtain ⟨f1, f2, -, -⟩ := Jvm.Free.Multi.fill_facts (T.setVm vm₁) C.2.2 C.1 n.toNatClampNeg k0.toNatClampNeg (defaultValue .int) n.toNatClampNeg
  rw [hF, hTh] at f1 f2
  have hold : ∀ x : Nat, x < H.size → G.heap[x]? = H[x]? := fun x hx => by
    have := Jvm.Free.Multi.fill_old (T.setVm vm₁) C.2.2 C.1 n.toNatClampNeg k0.toNatClampNeg (defaultValue .int) (a := x) (by rw [hTh]; exact hx) n.toNatClampNeg
    rw [hF, hTh] at this
    exact this
  have hrow : ∀ j : Nat, j < n.toNatClampNeg → G.heap[H.size + 1 + j]? = some (vp_cell C.1 (k0.toNatClampNeg, .inl (fun _ => 0))) := fun j hj => by
    have := Jvm.Free.Multi.fill_inner (T.setVm vm₁) C.2.2 C.1 n.toNatClampNeg k0.toNatClampNeg (defaultValue .int) n.toNatClampNeg j hj
    rw [hF, hTh] at this
    rw [this]
    show some ({ cls := C.1, slots := Array.replicate k0.toNatClampNeg (defaultValue .int), vm := .none } : Cell) = _
    rw [arrV_new]
    rfl
  rw [vr_outer] at f2
  obtain ⟨t, a1, b1⟩ := k z D C p l e s m args below meth c G.heap locs ls F (by rw [f1, hz, List.length_append, List.length_cons, List.length_replicate]; omega) (aws_app hP hz hold (fun q x hx => by
    cases q with
    | zero =>
      cases hx
      show G.heap[z + (E.length + 0)]? = some (vp_cell _ _)
      rw [show z + (E.length + 0) = H.size by omega, f2]
      refine congrArg some ?_
      refine Eq.trans ?_ (vp_cell_q C.2.2 n.toNatClampNeg (fun j => if j < n.toNatClampNeg then some (z + (E.length + 0 + 1 + j)) else none)).symm
      refine congrArg (arrV C.2.2 n.toNatClampNeg) (funext fun j => ?_)
      rw [show z + (E.length + 0 + 1 + j) = H.size + 1 + j by omega]
    | succ q =>
      have hx2 : (List.replicate n.toNatClampNeg ((1, k0.toNatClampNeg, [], fun _ => 0) : ACel))[q]? = some x := hx
      have hq : q < n.toNatClampNeg := by
        have := (List.getElem?_eq_some_iff.mp hx2).1
        rwa [List.length_replicate] at this
      have e9 : x = (1, k0.toNatClampNeg, [], fun _ => 0) := by
        have := List.mem_of_getElem? hx2
        exact (List.mem_replicate.mp this).2
      subst e9
      show G.heap[z + (E.length + (q + 1))]? = some (vp_cell _ _)
      rw [show z + (E.length + (q + 1)) = H.size + 1 + q by omega]
      exact hrow q hq)) ⟨by rw [f1]; have := hS.1; omega, fun x h1 h2 => (hold x (Nat.lt_of_lt_of_le h1 hS.1)).trans (hS.2.1 x h1 h2), hS.2.2⟩ hl G rfl X'
  refine ⟨t, step t ?_, b1⟩
  have e5 : T.heap.size = z + E.length := by rw [hT]; exact hz
  rw [e5]
  exact a1
end JA3
theorem aget (E0 L : List ACel) {j : Nat} {x : ACel} (h : L[j]? = some x) : (E0 ++ L)[E0.length + j]? = some x := by
  rw [List.getElem?_append_right (Nat.le_add_right _ _), Nat.add_sub_cancel_left]
  exact h
theorem aget0 (E0 L : List ACel) {x : ACel} : (E0 ++ (x :: L))[E0.length]? = some x := aget E0 (x :: L) (j := 0) rfl
theorem aset (E0 : List ACel) : ∀ (L : List ACel) (j : Nat) (y : ACel), (E0 ++ L).set (E0.length + j) y = E0 ++ L.set j y := by
  intro L j y
  rw [List.set_append_right _ _ (Nat.le_add_right _ _), Nat.add_sub_cancel_left]
theorem aset0 (E0 L : List ACel) (x y : ACel) : (E0 ++ (x :: L)).set E0.length y = E0 ++ (y :: L) := aset E0 (x :: L) 0 y
theorem alen (E0 L : List ACel) {j : Nat} (h : L.length = j) : (E0 ++ L).length = E0.length + j := by rw [List.length_append, h]
theorem aapp (E0 L R : List ACel) (x : ACel) : (E0 ++ (x :: L)) ++ R = E0 ++ (x :: (L ++ R)) := by rw [List.append_assoc]; rfl
