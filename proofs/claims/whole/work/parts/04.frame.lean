abbrev JMem : Type := Nat → Nat → Int32
abbrev JShp : Type := Nat × Nat × List (Option Nat)
/-- what the two constructors make, in the order of making: an object (0, its kind, its references), an int row (1, length), a boolean row (2), rows of rows (3: they follow it) -/
def jtopo : List JShp := [
(0, 7, [some 1, some 33, some 44, some 54, some 64, some 74, some 78, some 83, some 211, none]), (0, 2, [none, none, none, some 2, some 3, some 4, some 5, some 18, some 19, some 20, some 21, some 22, some 23, some 32]), (1, 8, []), (1, 8, []), (1, 12, []), (3, 12, []), (1, 8, []), (1, 8, []),
  (1, 8, []), (1, 8, []), (1, 8, []), (1, 8, []), (1, 8, []), (1, 8, []), (1, 8, []), (1, 8, []),
  (1, 8, []), (1, 8, []), (1, 12, []), (1, 32, []), (1, 32, []), (1, 32, []), (1, 32, []), (3, 8, []),
  (1, 32, []), (1, 32, []), (1, 32, []), (1, 32, []), (1, 32, []), (1, 32, []), (1, 32, []), (1, 32, []),
  (1, 8, []), (0, 3, [some 34, some 43]), (3, 8, []), (1, 32, []), (1, 32, []), (1, 32, []), (1, 32, []), (1, 32, []),
  (1, 32, []), (1, 32, []), (1, 32, []), (1, 8, []), (0, 5, [some 45, some 46, some 47, none]), (1, 6, []), (1, 6, []), (3, 6, []),
  (1, 40, []), (1, 40, []), (1, 40, []), (1, 40, []), (1, 40, []), (1, 40, []), (0, 1, [some 55, some 56, some 57, some 58, none, some 59, none, some 60, some 61, some 62, some 63]), (1, 32, []),
  (1, 32, []), (1, 32, []), (1, 8, []), (1, 32, []), (1, 32, []), (1, 12, []), (1, 8, []), (1, 4, []),
  (0, 1, [some 65, some 66, some 67, some 68, none, some 69, none, some 70, some 71, some 72, some 73]), (1, 32, []), (1, 32, []), (1, 32, []), (1, 8, []), (1, 32, []), (1, 32, []), (1, 12, []),
  (1, 8, []), (1, 4, []), (0, 6, [some 75, some 76, some 77, none, none, none]), (1, 32, []), (1, 32, []), (1, 32, []), (0, 0, [some 79, some 80, some 81, some 82, none]), (1, 32, []),
  (1, 32, []), (1, 32, []), (1, 32, []), (0, 4, [none, none, none, none, some 84, some 186, some 190, some 201]), (3, 101, []), (1, 32, []), (1, 32, []), (1, 32, []),
  (1, 32, []), (1, 32, []), (1, 32, []), (1, 32, []), (1, 32, []), (1, 32, []), (1, 32, []), (1, 32, []),
  (1, 32, []), (1, 32, []), (1, 32, []), (1, 32, []), (1, 32, []), (1, 32, []), (1, 32, []), (1, 32, []),
  (1, 32, []), (1, 32, []), (1, 32, []), (1, 32, []), (1, 32, []), (1, 32, []), (1, 32, []), (1, 32, []),
  (1, 32, []), (1, 32, []), (1, 32, []), (1, 32, []), (1, 32, []), (1, 32, []), (1, 32, []), (1, 32, []),
  (1, 32, []), (1, 32, []), (1, 32, []), (1, 32, []), (1, 32, []), (1, 32, []), (1, 32, []), (1, 32, []),
  (1, 32, []), (1, 32, []), (1, 32, []), (1, 32, []), (1, 32, []), (1, 32, []), (1, 32, []), (1, 32, []),
  (1, 32, []), (1, 32, []), (1, 32, []), (1, 32, []), (1, 32, []), (1, 32, []), (1, 32, []), (1, 32, []),
  (1, 32, []), (1, 32, []), (1, 32, []), (1, 32, []), (1, 32, []), (1, 32, []), (1, 32, []), (1, 32, []),
  (1, 32, []), (1, 32, []), (1, 32, []), (1, 32, []), (1, 32, []), (1, 32, []), (1, 32, []), (1, 32, []),
  (1, 32, []), (1, 32, []), (1, 32, []), (1, 32, []), (1, 32, []), (1, 32, []), (1, 32, []), (1, 32, []),
  (1, 32, []), (1, 32, []), (1, 32, []), (1, 32, []), (1, 32, []), (1, 32, []), (1, 32, []), (1, 32, []),
  (1, 32, []), (1, 32, []), (1, 32, []), (1, 32, []), (1, 32, []), (1, 32, []), (1, 32, []), (1, 32, []),
  (1, 32, []), (1, 32, []), (0, 6, [some 187, some 188, some 189, none, none, none]), (1, 32, []), (1, 32, []), (1, 32, []), (0, 3, [some 191, some 200]), (3, 8, []),
  (1, 32, []), (1, 32, []), (1, 32, []), (1, 32, []), (1, 32, []), (1, 32, []), (1, 32, []), (1, 32, []),
  (1, 8, []), (0, 1, [some 202, some 203, some 204, some 205, none, some 206, none, some 207, some 208, some 209, some 210]), (1, 32, []), (1, 32, []), (1, 32, []), (1, 8, []), (1, 32, []), (1, 32, []),
  (1, 12, []), (1, 8, []), (1, 4, []), (0, 1, [some 212, some 213, some 214, some 215, none, some 216, none, some 217, some 218, some 219, some 220]), (1, 32, []), (1, 32, []), (1, 32, []), (1, 8, []),
  (1, 32, []), (1, 32, []), (1, 12, []), (1, 8, []), (1, 4, []), (0, 8, [some 222, some 223, none, some 224, some 225, some 226, none, some 227, some 228, some 229, some 230, none, some 231, some 232, none, some 233, some 234, some 235, some 236, some 237, some 238, none, some 239, some 240, some 241, some 242, some 243, some 244, none, none, none, none, some 245, some 246, some 247, some 248, none, some 249, some 250, some 251, some 252, some 253, some 254, some 255, none, none, none, none, some 256, none, none, some 257, some 258]), (1, 8, []), (1, 8, []),
  (1, 12, []), (1, 12, []), (1, 96, []), (1, 32, []), (1, 32, []), (1, 32, []), (1, 32, []), (1, 256, []),
  (1, 8, []), (1, 6, []), (1, 6, []), (1, 240, []), (1, 40, []), (1, 32, []), (2, 32, []), (1, 32, []),
  (1, 32, []), (2, 256, []), (1, 32, []), (1, 32, []), (1, 32, []), (1, 32, []), (1, 32, []), (1, 32, []),
  (1, 32, []), (1, 32, []), (1, 32, []), (1, 32, []), (1, 9, []), (1, 9, []), (1, 9, []), (1, 6720, []),
  (1, 256, []), (1, 32, []), (2, 32, [])]

/-- the tables' words that a callee may take over -/
def jtb : List Cond := lw_tbl.filter goodWord
theorem jtb_in {x : Cond} (h : x ∈ lw_tbl) (hg : goodWord x = true) : x ∈ jtb := List.mem_filter.mpr ⟨h, hg⟩
theorem jtb_sub {x : Cond} (h : x ∈ jtb) : x ∈ lw_tbl := (List.mem_filter.mp h).1
def jshp (k : Nat) : JShp := jtopo.getD k (9, 0, [])
def jSh (o : Nat) (s : JShp) : Prop := jtopo[o]? = some s
def jup (M : JMem) (a i : Nat) (v : Int32) : JMem := fun b => if b = a then upd (M b) i v else M b
/-- a row set whole -/
def jrow (M : JMem) (a : Nat) (f : Nat → Int32) : JMem := fun b => if b = a then f else M b
/-- the world's parameters: where the abstract cells lie, the classes and slots, the array classes int[], boolean[], int[][] -/
abbrev JWp : Type := (Nat → Nat) × va_G × ClassId × ClassId × ClassId
def jtr (φ : Nat → Nat) (v : Value) : Value := match v with
  | .ref k => .ref (φ k)
  | x => x
theorem jtr_cat (φ : Nat → Nat) (v : Value) : (jtr φ v).category = v.category := by cases v <;> rfl
def jfld (φ : Nat → Nat) (f : Nat → Int32) (fs : List (Option Nat)) : List Value := (List.range fs.length).map (fun j => match fs.getD j none with
  | some r => .ref (φ r)
  | none => .int (f j))
def jcel (w : JWp) (f : Nat → Int32) (k : Nat) : va_E :=
  if (jshp k).1 = 0 then .inr ((jshp k).2.1, jfld w.1 f (jshp k).2.2)
  else if (jshp k).1 = 1 then .inl (w.2.2.1, (jshp k).2.1, .inl f)
  else if (jshp k).1 = 2 then .inl (w.2.2.2.1, (jshp k).2.1, .inl f)
  else .inl (w.2.2.2.2, (jshp k).2.1, .inr (.inr (.inr (.inr (fun i => if i < (jshp k).2.1 then some (w.1 (k + 1 + i)) else none)))))
def jws (w : JWp) (M : JMem) : va_W := (List.range jtopo.length).map (fun k => (w.1 k, jcel w (M k) k))
def jtys (w : JWp) : List (ClassId × FieldType) := [(w.2.2.1, .int), (w.2.2.2.1, .boolean), (w.2.2.2.2, .array .int)]
def jin (w : JWp) : Nat → Prop := fun q => ∃ k, k < jtopo.length ∧ q = w.1 k
theorem jSh_lt {o : Nat} {s : JShp} (h : jSh o s) : o < jtopo.length := (List.getElem?_eq_some_iff.mp h).1
theorem jshp_of {o : Nat} {s : JShp} (h : jSh o s) : jshp o = s := by
  unfold jshp
  rw [List.getD_eq_getElem?_getD, h]
  rfl
theorem jws_len (w : JWp) (M : JMem) : (jws w M).length = jtopo.length := by simp [jws]
theorem jws_get (w : JWp) (M : JMem) {o : Nat} (h : o < jtopo.length) : (jws w M)[o]? = some (w.1 o, jcel w (M o) o) := by
  unfold jws
  rw [List.getElem?_map, List.getElem?_range h]
  rfl
theorem jcel_obj (w : JWp) (f : Nat → Int32) {o ci : Nat} {fs : List (Option Nat)} (h : jSh o (0, ci, fs)) : jcel w f o = .inr (ci, jfld w.1 f fs) := by
  unfold jcel
  rw [jshp_of h]
  rfl
theorem jcel_int (w : JWp) (f : Nat → Int32) {o n : Nat} {fs : List (Option Nat)} (h : jSh o (1, n, fs)) : jcel w f o = .inl (w.2.2.1, n, .inl f) := by
  unfold jcel
  rw [jshp_of h]
  rfl
theorem jcel_bool (w : JWp) (f : Nat → Int32) {o n : Nat} {fs : List (Option Nat)} (h : jSh o (2, n, fs)) : jcel w f o = .inl (w.2.2.2.1, n, .inl f) := by
  unfold jcel
  rw [jshp_of h]
  rfl
theorem jcel_rows (w : JWp) (f : Nat → Int32) {o n : Nat} {fs : List (Option Nat)} (h : jSh o (3, n, fs)) : jcel w f o = .inl (w.2.2.2.2, n, .inr (.inr (.inr (.inr (fun i => if i < n then some (w.1 (o + 1 + i)) else none))))) := by
  unfold jcel
  rw [jshp_of h]
  rfl
theorem jws_set (w : JWp) (M : JMem) {o : Nat} (h : o < jtopo.length) (f : Nat → Int32) : (jws w M).set o (w.1 o, jcel w f o) = jws w (jrow M o f) := by
  apply List.ext_getElem?
  intro k
  by_cases hk : k < jtopo.length
  · rw [jws_get w _ hk]
    by_cases e : o = k
    · subst e
      rw [List.getElem?_set_self (by rw [jws_len]; exact h)]
      simp [jrow]
    · rw [List.getElem?_set_ne e, jws_get w M hk]
      simp [jrow, Ne.symm e]
  · rw [List.getElem?_eq_none (by rw [List.length_set, jws_len]; omega), List.getElem?_eq_none (by rw [jws_len]; omega)]
theorem jrow_up (M : JMem) (a i : Nat) (v : Int32) : jrow M a (upd (M a) i v) = jup M a i v := by
  funext b
  by_cases h : b = a
  · subst h
    simp [jrow, jup]
  · simp [jrow, jup, h]
theorem jfld_len (φ : Nat → Nat) (f : Nat → Int32) (fs : List (Option Nat)) : (jfld φ f fs).length = fs.length := by simp [jfld]
theorem jfld_getI (φ : Nat → Nat) (f : Nat → Int32) {fs : List (Option Nat)} {k : Nat} (h : fs[k]? = some none) : (jfld φ f fs)[k]? = some (.int (f k)) := by
  have hl := (List.getElem?_eq_some_iff.mp h).1
  unfold jfld
  rw [List.getElem?_map, List.getElem?_range hl]
  simp [List.getD_eq_getElem?_getD, h]
theorem jfld_getR (φ : Nat → Nat) (f : Nat → Int32) {fs : List (Option Nat)} {k r : Nat} (h : fs[k]? = some (some r)) : (jfld φ f fs)[k]? = some (.ref (φ r)) := by
  have hl := (List.getElem?_eq_some_iff.mp h).1
  unfold jfld
  rw [List.getElem?_map, List.getElem?_range hl]
  simp [List.getD_eq_getElem?_getD, h]
theorem jfld_set (φ : Nat → Nat) (f : Nat → Int32) {fs : List (Option Nat)} {k : Nat} (h : fs[k]? = some none) (v : Int32) : (jfld φ f fs).set k (.int v) = jfld φ (upd f k v) fs := by
  have hl := (List.getElem?_eq_some_iff.mp h).1
  apply List.ext_getElem?
  intro j
  by_cases hj : j < fs.length
  · have e2 : (jfld φ (upd f k v) fs)[j]? = some (match fs.getD j none with | some r => .ref (φ r) | none => .int (upd f k v j)) := by
      unfold jfld
      rw [List.getElem?_map, List.getElem?_range hj]
      rfl
    have e1 : (jfld φ f fs)[j]? = some (match fs.getD j none with | some r => .ref (φ r) | none => .int (f j)) := by
      unfold jfld
      rw [List.getElem?_map, List.getElem?_range hj]
      rfl
    by_cases e : k = j
    · subst e
      rw [List.getElem?_set_self (by rw [jfld_len]; exact hl), e2]
      simp [List.getD_eq_getElem?_getD, h, upd]
    · rw [List.getElem?_set_ne e, e1, e2]
      simp [upd, Ne.symm e]
  · rw [List.getElem?_eq_none (by rw [List.length_set, jfld_len]; omega), List.getElem?_eq_none (by rw [jfld_len]; omega)]
/-- the locals: of each that is known its value -/
def jlv (φ : Nat → Nat) (ls : Array Slot) (nL : Nat) (lv : List (Option Value)) : Prop := ls.size = nL ∧ lv_wf ls ∧ ∀ (i : Nat) (v : Value), lv[i]? = some (some v) → v.category = 1 ∧ ls[i]? = some (.val (jtr φ v))
def jll (φ : Nat → Nat) (lv : List (Option Value)) : List (Nat × Value) := (List.range lv.length).filterMap (fun j => (lv.getD j none).map (fun v => (j, jtr φ v)))
theorem jll_mem {φ : Nat → Nat} {lv : List (Option Value)} {q : Nat × Value} (h : q ∈ jll φ lv) : ∃ v, lv[q.1]? = some (some v) ∧ q.2 = jtr φ v := by
  obtain ⟨j, hj, e⟩ := List.mem_filterMap.mp h
  have hl : j < lv.length := List.mem_range.mp hj
  cases hv : lv.getD j none with
  | none => rw [hv] at e; cases e
  | some v =>
    rw [hv] at e
    cases e
    refine ⟨v, ?_, rfl⟩
    rw [List.getD_eq_getElem?_getD] at hv
    cases hx : lv[j]? with
    | none => rw [hx] at hv; cases hv
    | some y => rw [hx] at hv; exact congrArg some hv
theorem jll_in {φ : Nat → Nat} {lv : List (Option Value)} {i : Nat} {v : Value} (h : lv[i]? = some (some v)) : (i, jtr φ v) ∈ jll φ lv := by
  refine List.mem_filterMap.mpr ⟨i, List.mem_range.mpr (List.getElem?_eq_some_iff.mp h).1, ?_⟩
  rw [List.getD_eq_getElem?_getD, h]
  rfl
theorem jlv_has {φ : Nat → Nat} {ls : Array Slot} {nL : Nat} {lv : List (Option Value)} (h : jlv φ ls nL lv) : lv_has ls nL (jll φ lv) := by
  refine ⟨h.1, h.2.1, fun q hq => ?_⟩
  obtain ⟨v, h1, h2⟩ := jll_mem hq
  rw [h2]
  exact (h.2.2 _ _ h1).2
theorem jlv_of {φ : Nat → Nat} {ls ls' : Array Slot} {nL i : Nat} {lv : List (Option Value)} {v : Value} (h0 : jlv φ ls nL lv) (hc : v.category = 1)
    (h : lv_has ls' nL ((i, jtr φ v) :: (jll φ lv).filter (fun q => !(q.1 == i) && !(q.1 + 1 == i && q.2.category == 2)))) : jlv φ ls' nL (lv.set i (some v)) := by
  refine ⟨h.1, h.2.1, fun j u hu => ?_⟩
  by_cases e : i = j
  · subst e
    by_cases hl : i < lv.length
    · rw [List.getElem?_set_self hl] at hu
      cases hu
      exact ⟨hc, h.2.2 _ List.mem_cons_self⟩
    · rw [List.getElem?_eq_none (by rw [List.length_set]; omega)] at hu
      cases hu
  · rw [List.getElem?_set_ne e] at hu
    have hcat := (h0.2.2 _ _ hu).1
    refine ⟨hcat, h.2.2 (j, jtr φ u) (List.mem_cons_of_mem _ (List.mem_filter.mpr ⟨jll_in hu, ?_⟩))⟩
    have e2 : ¬ j = i := fun q => e q.symm
    simp [e2, jtr_cat, hcat]
/-! a method: the class that owns it, its code, its locals, what it returns -/
abbrev JMd : Type := String × ByteArray × Nat × Option FieldType
def jFx (w : JWp) (μ : JMd) (p : Program) (s : State) (m : MethodId) (args : Array Value) (meth : Method) (c : Code) : Prop :=
  p.tables.exec = Jvm.exec ∧ c.code = μ.2.1 ∧ c.maxLocals = μ.2.2.1 ∧ s.vm.findClass μ.1 = some m.cls ∧ (∀ x ∈ jtb, x.before args s = true) ∧ meth.sig.returnType = μ.2.2.2 ∧ meth.locks = false ∧ va_K w.2.1 vwCl (jtys w) s ∧ (∀ M, va_D (jin w) (jws w M))
def jrm (d : Nat) : Room := { frames := d, cells := 0, slots := 0, locals := 40 * d }
def jQ (w : JWp) (Q : JMem → Option Value → Prop) : Array Value → State → Outcome → State → Prop := fun _ st oc t =>
  (∃ (M : JMem) (r : Option Value), oc = .returned (r.map (jtr w.1)) ∧ Q M r ∧ va_P w.2.1 vwCl (jws w M) t.heap) ∧ va_F (jin w) st t
/-- the machine, at pc of the method μ, with these locals, this stack, this memory, comes to the method's end with Q -/
def jGG (μ : JMd) (d pc : Nat) (lv : List (Option Value)) (st : List Value) (M : JMem) (Q : JMem → Option Value → Prop) : Prop :=
  ∀ (w : JWp) (p : Program) (l : Launch) (e : Env) (s : State) (m : MethodId) (args : Array Value) (below : List Frame) (meth : Method) (c : Code) (H : Heap) (locs : List Loc) (ls : Array Slot),
    jFx w μ p s m args meth c → va_P w.2.1 vwCl (jws w M) H → va_S (jin w) s.heap H locs → jlv w.1 ls μ.2.2.1 lv →
    W p l e (jrm d) s m args below meth c H locs 0 0 (MQ below (jQ w Q) args s 0 0 (jin w)) (F0 m pc ls (st.map (jtr w.1)))
/-- a method's contract -/
def jCt (y : MethodName) (μ : JMd) (d : Nat) (M : JMem) (as : List Value) (Q : JMem → Option Value → Prop) : Prop :=
  ∀ (w : JWp) (l : Launch), Met l y (.code y μ.2.1 μ.2.2.1 μ.2.2.2 :: jtb) (jrm d) (va_Pc (as.map (jtr w.1)) (fun U => va_P w.2.1 vwCl (jws w M) U.heap ∧ va_K w.2.1 vwCl (jtys w) U ∧ ∀ M, va_D (jin w) (jws w M))) (jQ w Q) 0 0 (jin w)
/-- the contract of one run: it comes to the memory M1 and answers r -/
abbrev jCo (y : MethodName) (μ : JMd) (d : Nat) (M : JMem) (as : List Value) (M1 : JMem) (r : Option Value) : Prop := jCt y μ d M as (fun M' r' => M' = M1 ∧ r' = r)
theorem jlg_sl : ∀ (vs : List Value), (∀ v ∈ vs, v.category = 1) → lg_sl vs = vs.map Slot.val
  | [], _ => rfl
  | v :: vs, h => by
    have h1 := h v List.mem_cons_self
    have ih := jlg_sl vs (fun x hx => h x (List.mem_cons_of_mem _ hx))
    have e : lg_sl (v :: vs) = (if v.category = 2 then [.val v, .second] else [.val v]) ++ lg_sl vs := rfl
    rw [e, ih, h1]
    rfl
theorem jentry {φ : Nat → Nat} {as : List Value} {n : Nat} (hc : ∀ v ∈ as, v.category = 1) (hn : as.length ≤ n) : jlv φ ((lg_sl (as.map (jtr φ)) ++ List.replicate (n - (lg_sl (as.map (jtr φ))).length) Slot.unset).toArray) n (as.map some ++ List.replicate (n - as.length) none) := by
  have hc2 : ∀ v ∈ as.map (jtr φ), v.category = 1 := fun v hv => by
    obtain ⟨x, hx, rfl⟩ := List.mem_map.mp hv
    rw [jtr_cat]
    exact hc x hx
  have hl := lv_entry (as.map (jtr φ)) (n := n) (by rw [jlg_sl _ hc2]; simpa using hn)
  refine ⟨hl.1, hl.2.1, fun i v hv => ?_⟩
  by_cases hi : i < as.length
  · rw [List.getElem?_append_left (by simpa using hi), List.getElem?_map] at hv
    cases hx : as[i]? with
    | none => rw [hx] at hv; cases hv
    | some y =>
      rw [hx] at hv
      cases hv
      refine ⟨hc v (List.mem_of_getElem? hx), ?_⟩
      rw [jlg_sl _ hc2]
      rw [List.getElem?_toArray, List.getElem?_append_left (by simpa using hi)]
      simp [hx]
  · rw [List.getElem?_append_right (by simp; omega)] at hv
    have := List.mem_of_getElem? hv
    rw [List.mem_replicate] at this
    cases this.2
/-- a contract out of a walk -/
theorem jCt_of {y : MethodName} {μ : JMd} {d : Nat} {M : JMem} {as : List Value} {Q : JMem → Option Value → Prop} (hy : plainName y.cls = true) (ho : μ.1 = y.cls) (hc : ∀ v ∈ as, v.category = 1) (hn : as.length ≤ μ.2.2.1)
    (k : jGG μ d 0 (as.map some ++ List.replicate (μ.2.2.1 - as.length) none) [] M Q) : jCt y μ d M as Q := by
  intro w l
  refine Met.ofW (cc := μ.2.1) (maxL := μ.2.2.1) (ret := μ.2.2.2) hy rfl ?_
  intro p e s m args below meth c s₁ B hml hv
  obtain ⟨rfl, hP, hK, hD⟩ := hv
  have hts := atoms_spec (ws := .code y μ.2.1 μ.2.2.1 μ.2.2.2 :: jtb) B.pre
  have hown : s.vm.findClass μ.1 = some m.cls := by rw [ho]; exact findClass_of_methodNamed B.named
  rw [lg_entry_eq]
  exact k w p l e s m _ below meth c s.heap [] _ ⟨B.exec, B.bytes, hml, hown, fun x hx => hts x (List.mem_cons_of_mem _ hx), B.returns, B.notSynchronized, hK, hD⟩ hP va_S.rf (jentry hc hn)
