/-! THE CLAIM OUT OF ONE WALK OF THE LAW'S BODY. Your part is whole_start (and what it stands on); all else here is the same for every law, but numbers. -/
def R_law : String := "JoineryFloorLaw"
def lw_P (b : Addr) (xs : List Int32) (args : Array Value) (s : State) : Prop := args = #[.ref b] ∧ s.IntsAt b xs ∧ xs.length ≤ 3072 ∧ (Jvm.Cond.and given_1 narrow_1).before args s = true
def lw_Q (_ : Array Value) (s : State) (o : Outcome) (t : State) : Prop := o = .returned (some (.int 1)) ∧ Framed s o t [] 600000 7302250
def lw_Z (below : List Frame) (a : Array Value) (s : State) : State → Prop := fun t => ∃ o, t.status = .running ∧ Ended t below o ∧ lw_Q a s o t
/-- the law's own end, with 1 on the stack, nothing written that was there before, its room as the claim has it -/
theorem lw_ret {p : Program} {l : Launch} {e : Env} {s : State} {m : MethodId} {below : List Frame} {meth : Method} {c : Code} {b : Nat} (hx : p.tables.exec = Jvm.exec) (hb : c.code = code) (hr : meth.sig.returnType = ret) (hlocks : meth.locks = false) {pc : Nat} {H : Heap} {ls : Array Slot} (hdg : decode code pc = .ok (.ireturn, 1)) : W p l e room_1 s m #[Value.ref b] below meth c H [] 600000 7302250 (lw_Z below #[Value.ref b] s) (F0 m pc ls [.int 1]) := by
  intro T hT X
  obtain ⟨fs, hret, hrun, hended, hW, hframe⟩ := X.leave (v := some (.int 1)) (hlocks := hlocks) (fun h => by rw [hr] at h; cases h)
  have hmeth' : T.vm.method? m = some meth := X.method'
  refine ⟨T.setFrames fs, ?_, .returned (some (.int 1)), hrun, hended, rfl, ⟨_, rfl⟩, hW, hframe⟩
  jvm_step X.here [X.here.top, hx, hb, hdg, hmeth', hr, ret, narrow_b1]
  (try refine ⟨rfl, ?_⟩); (try refine ⟨rfl, ?_⟩)
  first | (intro acts; rw [hret _ acts rfl rfl rfl]) | rw [hret _ _ rfl rfl rfl]
  exact Steps.refl _
/-- what holds at the law's entry: the machine, the code, the tables' words (any of lw_tbl by 'hts w (by decide +kernel)'), the script of L ints xs at the cell b, what the Statement gives of the start (any of its parts by flat_of_before) -/
def lw_At (p : Program) (s : State) (m : MethodId) (meth : Method) (c : Code) (b L : Nat) (xs : Nat → Int32) : Prop :=
  p.tables.exec = Jvm.exec ∧ c.code = code ∧ meth.sig.returnType = ret ∧ c.maxLocals = 4 ∧ s.vm.findClass R_law = some m.cls ∧ (∀ w ∈ lw_tbl, w.before #[Value.ref b] s = true) ∧ va_X b L xs s s.heap ∧ b < s.heap.size ∧ meth.locks = false ∧ (Jvm.Cond.and given_1 narrow_1).before #[Value.ref b] s = true
section JL
variable {p : Program} {l : Launch} {e : Env} {s : State} {m : MethodId} {below : List Frame} {meth : Method} {c : Code} {b L : Nat} {xs : Nat → Int32} {w : JWp}
/-- what holds throughout the law's loop -/
def jLc (p : Program) (s : State) (m : MethodId) (meth : Method) (c : Code) (b L : Nat) (xs : Nat → Int32) (w : JWp) : Prop := lw_At p s m meth c b L xs ∧ va_K w.2.1 vwCl (jtys w) s ∧ (∀ M, va_D (jin w) (jws w M)) ∧ ∀ q, jin w q → s.heap.size ≤ q
/-- the machine at pc of the law, its counter i, this stack, this memory, comes to the law's end with true -/
def jLW (p : Program) (l : Launch) (e : Env) (s : State) (m : MethodId) (below : List Frame) (meth : Method) (c : Code) (b : Nat) (w : JWp) (pc : Nat) (i : Int32) (st : List Value) (M : JMem) : Prop :=
  ∀ (H : Heap) (locs : List Loc) (ls : Array Slot), va_P w.2.1 vwCl (jws w M) H → va_S (fun q => s.heap.size ≤ q) s.heap H locs → lv_has ls 4 [(0, .ref b), (1, .ref (w.1 0)), (2, .ref (w.1 221)), (3, .int i)] →
    W p l e room_1 s m #[Value.ref b] below meth c H locs 600000 7302250 (lw_Z below #[Value.ref b] s) (F0 m pc ls st)
variable (hC : jLc p s m meth c b L xs w) {pc : Nat} {i : Int32} {st : List Value} {M M1 : JMem}
theorem l_s {k0 : Fin 4} (hC : jLc p s m meth c b L xs w) (hd : decode code pc = .ok (.aload_n k0, 1)) (hk : (k0 : Nat) = 0) (k : jLW p l e s m below meth c b w (pc + 1) i (.ref b :: st) M) : jLW p l e s m below meth c b w pc i st M := by
  intro H locs ls hP hS hl
  exact lv_aload_n hC.1.1 hC.1.2.1 hd hk (lv_at hl 0 rfl) (k H locs ls hP hS hl)
theorem l_x {k0 : Fin 4} (hC : jLc p s m meth c b L xs w) (hd : decode code pc = .ok (.aload_n k0, 1)) (hk : (k0 : Nat) = 1) (k : jLW p l e s m below meth c b w (pc + 1) i (.ref (w.1 0) :: st) M) : jLW p l e s m below meth c b w pc i st M := by
  intro H locs ls hP hS hl
  exact lv_aload_n hC.1.1 hC.1.2.1 hd hk (lv_at hl 1 rfl) (k H locs ls hP hS hl)
theorem l_m {k0 : Fin 4} (hC : jLc p s m meth c b L xs w) (hd : decode code pc = .ok (.aload_n k0, 1)) (hk : (k0 : Nat) = 2) (k : jLW p l e s m below meth c b w (pc + 1) i (.ref (w.1 221) :: st) M) : jLW p l e s m below meth c b w pc i st M := by
  intro H locs ls hP hS hl
  exact lv_aload_n hC.1.1 hC.1.2.1 hd hk (lv_at hl 2 rfl) (k H locs ls hP hS hl)
theorem l_i {k0 : Fin 4} (hC : jLc p s m meth c b L xs w) (hd : decode code pc = .ok (.iload_n k0, 1)) (hk : (k0 : Nat) = 3) (k : jLW p l e s m below meth c b w (pc + 1) i (.int i :: st) M) : jLW p l e s m below meth c b w pc i st M := by
  intro H locs ls hP hS hl
  exact lv_iload_n hC.1.1 hC.1.2.1 hd hk (lv_at hl 3 rfl) (k H locs ls hP hS hl)
theorem l_ic {n : Int} (v : Int32) (hC : jLc p s m meth c b L xs w) (hd : decode code pc = .ok (.iconst n, 1)) (hv : Int32.ofInt n = v) (k : jLW p l e s m below meth c b w (pc + 1) i (.int v :: st) M) : jLW p l e s m below meth c b w pc i st M := by
  intro H locs ls hP hS hl
  exact lv_iconst hC.1.1 hC.1.2.1 hd hv (k H locs ls hP hS hl)
theorem l_bp {n : Int} (v : Int32) (hC : jLc p s m meth c b L xs w) (hd : decode code pc = .ok (.bipush n, 2)) (hv : (Int8.ofInt n).toInt32 = v) (k : jLW p l e s m below meth c b w (pc + 2) i (.int v :: st) M) : jLW p l e s m below meth c b w pc i st M := by
  intro H locs ls hP hS hl
  exact lv_bipush hC.1.1 hC.1.2.1 hd hv (k H locs ls hP hS hl)
theorem l_add {x y : Int32} (hC : jLc p s m meth c b L xs w) (hd : decode code pc = .ok (.iadd, 1)) (k : jLW p l e s m below meth c b w (pc + 1) i (.int (x + y) :: st) M) : jLW p l e s m below meth c b w pc i (.int y :: .int x :: st) M := by
  intro H locs ls hP hS hl
  exact lv_iadd hC.1.1 hC.1.2.1 hd (k H locs ls hP hS hl)
theorem l_sub {x y : Int32} (hC : jLc p s m meth c b L xs w) (hd : decode code pc = .ok (.isub, 1)) (k : jLW p l e s m below meth c b w (pc + 1) i (.int (x - y) :: st) M) : jLW p l e s m below meth c b w pc i (.int y :: .int x :: st) M := by
  intro H locs ls hP hS hl
  exact lv_isub hC.1.1 hC.1.2.1 hd (k H locs ls hP hS hl)
theorem l_and {x y : Int32} (hC : jLc p s m meth c b L xs w) (hd : decode code pc = .ok (.iand, 1)) (k : jLW p l e s m below meth c b w (pc + 1) i (.int (x &&& y) :: st) M) : jLW p l e s m below meth c b w pc i (.int y :: .int x :: st) M := by
  intro H locs ls hP hS hl
  exact lv_iand hC.1.1 hC.1.2.1 hd (k H locs ls hP hS hl)
theorem l_ld {j : Int32} (hC : jLc p s m meth c b L xs w) (hd : decode code pc = .ok (.iaload, 1)) (hj : vp_in j L) (k : jLW p l e s m below meth c b w (pc + 1) i (.int (xs j.toNatClampNeg) :: st) M) : jLW p l e s m below meth c b w pc i (.int j :: .ref b :: st) M := by
  intro H locs ls hP hS hl
  exact va_sld hC.1.1 hC.1.2.1 hC.1.2.2.2.2.2.2.1 hC.1.2.2.2.2.2.2.2.1 (Nat.not_le.mpr hC.1.2.2.2.2.2.2.2.1) hS hj hd (k H locs ls hP hS hl)
theorem l_len (hC : jLc p s m meth c b L xs w) (hd : decode code pc = .ok (.arraylength, 1)) (k : jLW p l e s m below meth c b w (pc + 1) i (.int (nI L) :: st) M) : jLW p l e s m below meth c b w pc i (.ref b :: st) M := by
  intro H locs ls hP hS hl
  exact va_slen hC.1.1 hC.1.2.1 hC.1.2.2.2.2.2.2.1 hC.1.2.2.2.2.2.2.2.1 (Nat.not_le.mpr hC.1.2.2.2.2.2.2.2.1) hS hd (k H locs ls hP hS hl)
theorem l_eq {x y : Int32} {off : Int} (tgt : Nat) (hC : jLc p s m meth c b L xs w) (hd : decode code pc = .ok (.if_icmp .eq off, 3)) (ht : (pc : Int) + off = (tgt : Int)) (hxy : x = y) (k : jLW p l e s m below meth c b w tgt i st M) : jLW p l e s m below meth c b w pc i (.int y :: .int x :: st) M := by
  intro H locs ls hP hS hl
  exact lv_icmp_eq hC.1.1 hC.1.2.1 hd ht (fun _ => k H locs ls hP hS hl) (fun h => absurd hxy h)
theorem l_gt {x y : Int32} {off : Int} (tgt : Nat) (hC : jLc p s m meth c b L xs w) (hd : decode code pc = .ok (.if_icmp .gt off, 3)) (ht : (pc : Int) + off = (tgt : Int)) (kt : y < x → jLW p l e s m below meth c b w tgt i st M) (kf : ¬ y < x → jLW p l e s m below meth c b w (pc + 3) i st M) : jLW p l e s m below meth c b w pc i (.int y :: .int x :: st) M := by
  intro H locs ls hP hS hl
  exact lv_icmp_gt hC.1.1 hC.1.2.1 hd ht (fun h => kt h H locs ls hP hS hl) (fun h => kf h H locs ls hP hS hl)
theorem l_inc {n : Int} {v : Int32} (hC : jLc p s m meth c b L xs w) (hd : decode code pc = .ok (.iinc 3 n, 3)) (hv : i + Int32.ofInt n = v) (k : jLW p l e s m below meth c b w (pc + 3) v st M) : jLW p l e s m below meth c b w pc i st M := by
  intro H locs ls hP hS hl
  exact lv_iinc (lv' := [(3, .int v), (0, .ref b), (1, .ref (w.1 0)), (2, .ref (w.1 221))]) hC.1.1 hC.1.2.1 hd hl (k := 3) rfl hv (by decide) rfl (fun ls h => k H locs ls hP hS (lv_sub h [1, 2, 3, 0] rfl))
theorem l_go {off : Int} (tgt : Nat) (hC : jLc p s m meth c b L xs w) (hd : decode code pc = .ok (.goto off, 3)) (ht : (pc : Int) + off = (tgt : Int)) (k : jLW p l e s m below meth c b w tgt i st M) : jLW p l e s m below meth c b w pc i st M := by
  intro H locs ls hP hS hl
  exact lv_goto hC.1.1 hC.1.2.1 hd ht (k H locs ls hP hS hl)
theorem l_tsI {dflt lo hi off : Int} {offs : Array Int} {len : Nat} {x : Int32} (v : Int32) (tgt : Nat) (hC : jLc p s m meth c b L xs w) (hd : decode code pc = .ok (.tableswitch dflt lo hi offs, len)) (hx : x = v) (h1 : ¬ v.toInt < lo) (h2 : ¬ hi < v.toInt) (ho : offs[(v.toInt - lo).toNat]? = some off) (ht : (pc : Int) + off = (tgt : Int)) (k : jLW p l e s m below meth c b w tgt i st M) : jLW p l e s m below meth c b w pc i (.int x :: st) M := by
  subst hx
  intro H locs ls hP hS hl
  exact lv_tableIn hC.1.1 hC.1.2.1 hd h1 h2 ho ht (k H locs ls hP hS hl)
theorem l_tsO {dflt lo hi : Int} {offs : Array Int} {len : Nat} {x : Int32} (tgt : Nat) (hC : jLc p s m meth c b L xs w) (hd : decode code pc = .ok (.tableswitch dflt lo hi offs, len)) (h : x.toInt < lo ∨ hi < x.toInt) (ht : (pc : Int) + dflt = (tgt : Int)) (k : jLW p l e s m below meth c b w tgt i st M) : jLW p l e s m below meth c b w pc i (.int x :: st) M := by
  intro H locs ls hP hS hl
  exact lv_tableOut hC.1.1 hC.1.2.1 hd h ht (k H locs ls hP hS hl)
theorem l_run {Q : State → Prop} {H : Heap} {locs : List Loc} {Q' : JMem → Option Value → Prop} {a : Array Value} {ls : Array Slot} {st0 rest : List Value} {cells slots : Nat} (hin : ∀ q, jin w q → s.heap.size ≤ q) (hr : va_Run p l e room_1 s m #[Value.ref b] below meth c H locs cells slots 0 0 (F0 m pc ls st0) rest (jQ w Q' a) (jin w)) (hS : va_S (fun q => s.heap.size ≤ q) s.heap H locs)
    (kk : ∀ (M' : JMem) (r : Option Value) (H1 : Heap) (locs1 : List Loc), Q' M' r → va_P w.2.1 vwCl (jws w M') H1 → va_S (fun q => s.heap.size ≤ q) s.heap H1 locs1 → W p l e room_1 s m #[Value.ref b] below meth c H1 locs1 cells slots Q (F0 m (pc + 3) ls ((r.map (jtr w.1)).toList ++ rest))) : W p l e room_1 s m #[Value.ref b] below meth c H locs cells slots Q (F0 m pc ls st0) := by
  intro T hT X
  obtain ⟨v, st₀, t, T', LL, h0, X', hL, e1, e2, ⟨⟨M', r, hv, hq, hp⟩, hz, hk⟩, st⟩ := hr T hT X
  cases hv
  rw [h0] at hz hk
  obtain ⟨t2, a1, b1⟩ := kk M' r T'.heap (locs ++ LL) hq (by rw [e1]; exact hp)
    ⟨Nat.le_trans hS.1 (by rw [e1]; exact hz), fun q h1 h2 => by rw [e1, hk q (Nat.lt_of_lt_of_le h1 hS.1) (fun z => h2 (hin q z))]; exact hS.2.1 q h1 h2, fun q hq => by
      rcases List.mem_append.mp hq with h | h
      · exact hS.2.2 q h
      · exact hin _ (hL q h)⟩ T' rfl X'
  exact ⟨t2, st t2 a1, b1⟩
theorem l_call {y : MethodName} {μ' : JMd} {n d' idx ci o : Nat} {fs : List (Option Nat)} (as st : List Value) {r : Int32} (hC : jLc p s m meth c b L xs w) (hd : decode code pc = .ok (.invokevirtual idx, 3)) (hl : Cond.methodLink R_law idx y ∈ lw_tbl) (hck : jCK y μ' n) (hcv : jCV y ci) (hs : jSh o (0, ci, fs)) (hn : as.length = n) (has : ∀ φ, as.map (jtr φ) = as) (hr : d' ≤ 60 ∧ μ'.2.2.1 ≤ 60) (hst : (st.map fun v => v.category).sum ≤ 8)
    (hct : jCo y μ' d' M (.ref o :: as) M1 (some (.int r))) (k : jLW p l e s m below meth c b w (pc + 3) i (.int r :: st) M1) : jLW p l e s m below meth c b w pc i (as.reverse ++ .ref (w.1 o) :: st) M := by
  intro H locs ls hP hS hlv
  obtain ⟨hA, hK, hD, hin⟩ := hC
  obtain ⟨hx, hb, -, hml, hown, hts, -⟩ := hA
  have hts2 : ∀ z ∈ jtb, z.before #[Value.ref b] s = true := fun z hz => hts z (jtb_sub hz)
  obtain ⟨hinst, hse, T, N, hcl⟩ := hcv
  have hG : GoodIn lw_tbl (Cond.code y μ'.2.1 μ'.2.2.1 μ'.2.2.2 :: jtb) := fun z hz => by
    have := jgood_in hck z hz
    exact ⟨jtb_sub this.1, this.2⟩
  have hB : CallB room_1 s #[Value.ref b] R_law idx y μ'.2.1 μ'.2.2.1 μ'.2.2.2 (Cond.code y μ'.2.1 μ'.2.2.1 μ'.2.2.2 :: jtb) (jrm d') 0 0 n := callB_of n hts hG rfl rfl rfl (hts2 _ hck.2.1) (hts _ hl) hck.2.2 ⟨by show d' + 1 ≤ 2048; omega, by show 8 + (μ'.2.2.1 + 11) + 40 * d' ≤ 84000; omega⟩
  have hrun := va_runV (locs := locs) (e := e) (below := below) (meth := meth) (cells := 600000) (slots := 7302250) (As := as.map (jtr w.1)) (rest := st) (b := w.1 o) (g := F0 m pc ls (as.reverse ++ .ref (w.1 o) :: st)) ⟨hx, hb, hml, hown, hts⟩ (hct w l) ⟨hB, hts2 _ hinst, hts2 _ hse⟩
    ⟨jblind w M _, va_recv hK hP hcl (jget_obj w M hs), fun U hU hW => ⟨rfl, by rw [hU]; exact hP, va_K.moved hW.alike hK, hD⟩⟩ rfl (by rw [List.length_map]; exact hn) hlv.1 (by rw [has]) (lv_room (rest := as.reverse ++ .ref (w.1 o) :: st) hst) hd ⟨Nat.le_refl _, Nat.le_refl _⟩
  refine l_run hin hrun hS (fun M' r' H1 locs1 hq hP1 hS1 => ?_)
  obtain ⟨rfl, rfl⟩ := hq
  exact k H1 locs1 ls hP1 hS1 hlv
end JL
theorem jsx {n L : Nat} (h : n + 6 ≤ L) (hL : L ≤ 3072) (k : Nat) (hk : k < 6) : vp_in (nI n + nI k) L := by
  rw [nI_add]
  exact vp_in_nI (by omega) (by omega)
