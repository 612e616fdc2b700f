theorem aw_over : Cond.arrayOver (.array .int) ∈ lw_tbl := List.mem_of_getElem? (i := 108) (by decide +kernel)
theorem aw_l7 : Cond.classLink R_law 7 RX7 ∈ jtb := jmem 93 (by decide +kernel) rfl
theorem aw_l8 : Cond.classLink R_law 10 RX8 ∈ jtb := jmem 881 (by decide +kernel) rfl
theorem aw_m7 : Cond.methodLink R_law 9 yX7_init ∈ jtb := jmem 95 (by decide +kernel) rfl
theorem aw_m8 : Cond.methodLink R_law 12 yX8_init ∈ jtb := jmem 883 (by decide +kernel) rfl
theorem jarrI {ty : FieldType} {args : Array Value} {s : State} (h : (Cond.arrayClass ty).before args s = true) : ∃ (cA : ClassId) (kA : Class) (comp : ClassId), s.vm.findClass ("[" ++ ty.toString) = some cA ∧ s.vm.classes[cA]? = some kA ∧ kA.kind = .array comp ty := by
  have := Cond.arrayClass_spec h
  obtain ⟨c, k, comp, h1, h2, h3⟩ := this
  exact ⟨c, k, comp, h1, h2, h3⟩
def jdfB : Bool := (List.range 53).all (fun j => decide (defaultValue (tyX8 j) = vp_V (dfX8.2.2.1) j))
theorem jdf8 (z j : Nat) (hj : j < 53) : defaultValue (tyX8 j) = vp_V (dfX8.2.2.1.map (jtr (fun j => z + j))) j := by
  have e : dfX8.2.2.1.map (jtr (fun j => z + j)) = dfX8.2.2.1 := rfl
  rw [e]
  have h : jdfB = true := by decide +kernel
  exact of_decide_eq_true (List.all_eq_true.mp h j (List.mem_range.mpr hj))
/-! the law's start: the two constructors, then the loop -/
def jEF : List ACel := cX7 0 ++ cX8 221
def aM (x : ACel) (i : Nat) : Int32 := if x.1 = 0 then (match x.2.2.1.getD i .null with
  | .int v => v
  | _ => 0) else x.2.2.2 i
/-- the memory behind the constructors -/
def jM0 : JMem := fun k => aM (jEF.getD k adf)
def aOpt (v : Value) : Option Nat := match v with
  | .ref r => some r
  | _ => none
def aOk (v : Value) : Bool := match v with
  | .ref _ => true
  | .int _ => true
  | _ => false
def aSh (x : ACel) : JShp := if x.1 = 0 then (0, x.2.1, x.2.2.1.map aOpt) else (x.1, x.2.1, [])
def aOkC (x : ACel) : Bool := if x.1 = 0 then x.2.2.1.all aOk else (x.1 == 1 || x.1 == 2 || x.1 == 3)
set_option maxRecDepth 100000 in
theorem jEF_sh : jEF.map aSh = jtopo := rfl
set_option maxRecDepth 100000 in
theorem jEF_ok : jEF.all aOkC = true := rfl
theorem jEF_len : jEF.length = jtopo.length := by
  rw [← jEF_sh, List.length_map]
theorem aw_fields (z : Nat) (D : va_G) (C : AC3) (x : ACel) (h0 : x.1 = 0) (hok : x.2.2.1.all aOk = true) : x.2.2.1.map (jtr (fun j => z + j)) = jfld (fun j => z + j) (aM x) (x.2.2.1.map aOpt) := by
  apply List.ext_getElem?
  intro j
  by_cases hj : j < x.2.2.1.length
  · have hx : x.2.2.1[j]? = some x.2.2.1[j] := List.getElem?_eq_getElem hj
    have hk : aOk x.2.2.1[j] = true := List.all_eq_true.mp hok _ (List.getElem_mem hj)
    rw [List.getElem?_map, hx]
    cases hv : x.2.2.1[j] with
    | ref r =>
      rw [jfld_getR (r := r) _ _ (by rw [List.getElem?_map, hx, hv]; rfl)]
      rfl
    | int v =>
      rw [jfld_getI _ _ (by rw [List.getElem?_map, hx, hv]; rfl)]
      have : aM x j = v := by
        unfold aM
        rw [if_pos h0, List.getD_eq_getElem?_getD, hx, hv]
        rfl
      rw [this]
      rfl
    | _ => rw [hv] at hk; cases hk
  · rw [List.getElem?_eq_none (by rw [List.length_map]; omega), List.getElem?_eq_none (by rw [jfld_len, List.length_map]; omega)]
theorem aw_cel (z : Nat) (D : va_G) (C : AC3) (k : Nat) (x : ACel) (hs : jshp k = aSh x) (hok : aOkC x = true) : acel z C k x = jcel ((fun j => z + j), D, C) (aM x) k := by
  unfold jcel
  rw [hs]
  unfold aOkC at hok
  by_cases h0 : x.1 = 0
  · rw [if_pos h0] at hok
    have e : aSh x = (0, x.2.1, x.2.2.1.map aOpt) := by unfold aSh; rw [if_pos h0]
    rw [e]
    unfold acel
    rw [if_pos h0, aw_fields z D C x h0 hok]
    rfl
  · rw [if_neg h0] at hok
    have e : aSh x = (x.1, x.2.1, []) := by unfold aSh; rw [if_neg h0]
    have em : aM x = x.2.2.2 := by
      funext i
      unfold aM
      rw [if_neg h0]
    rw [e, em]
    unfold acel
    rw [if_neg h0]
    show _ = if x.1 = 0 then _ else _
    rw [if_neg h0]
theorem aw_world (z : Nat) (D : va_G) (C : AC3) : aws z C jEF = jws ((fun j => z + j), D, C) jM0 := by
  apply List.ext_getElem?
  intro k
  by_cases hk : k < jEF.length
  · have hx : jEF[k]? = some jEF[k] := List.getElem?_eq_getElem hk
    rw [aws_get z C hx, jws_get _ _ (by rw [← jEF_len]; exact hk)]
    have e1 : jM0 k = aM jEF[k] := by
      unfold jM0
      rw [List.getD_eq_getElem?_getD, hx]
      rfl
    have e2 : jshp k = aSh jEF[k] := by
      unfold jshp
      rw [List.getD_eq_getElem?_getD, ← jEF_sh, List.getElem?_map, hx]
      rfl
    rw [e1, ← aw_cel z D C k jEF[k] e2 (List.all_eq_true.mp jEF_ok _ (List.getElem_mem hk))]
  · rw [List.getElem?_eq_none (by rw [aws_len]; omega), List.getElem?_eq_none (by rw [jws_len, ← jEF_len]; omega)]
theorem jD_all (z : Nat) (D : va_G) (C : AC3) (M : JMem) : va_D (jin ((fun j => z + j), D, C)) (jws ((fun j => z + j), D, C) M) := by
  have key : ∀ (k : Nat) (q : Nat × va_E), (jws ((fun j => z + j), D, C) M)[k]? = some q → k < jtopo.length ∧ q.1 = z + k := by
    intro k q h
    have hl : k < jtopo.length := by
      have := (List.getElem?_eq_some_iff.mp h).1
      rwa [jws_len] at this
    rw [jws_get _ _ hl] at h
    exact ⟨hl, by cases h; rfl⟩
  refine ⟨fun i j x y hi hj hxy => ?_, fun k q hk => ?_⟩
  · have h1 := (key i x hi).2
    have h2 := (key j y hj).2
    omega
  · exact ⟨k, (key k q hk).1, (key k q hk).2⟩
theorem jL_inX0 : ∀ x ∈ u_ws RX0 TX0 5, x ∈ lw_tbl := fun x h => jtb_sub (jin_X0 x h)
set_option maxHeartbeats 4000000 in
set_option maxRecDepth 20000 in
/-- THE LAW, from its entry, over an invariant that every call keeps -/
theorem whole_start_open (Inv : JMem → Prop) (h0 : Inv jM0) (hst : jSteps Inv) {p : Program} {e : Env} {s : State} {m : MethodId} {below : List Frame} {meth : Method} {c : Code} (l : Launch) {b L : Nat} {xs : Nat → Int32} (hL : L ≤ 3072) (C0 : lw_At p s m meth c b L xs) : W p l e room_1 s m #[Value.ref b] below meth c s.heap [] 0 0 (lw_Z below #[Value.ref b] s) (entryFrame m ([Value.ref b] : List Value).toArray 4) := by
  obtain ⟨hx, hb, hr, hml, hown, hts, hX, hbl, hlocks, hgv⟩ := id C0
  have hts2 : ∀ x ∈ jtb, x.before #[Value.ref b] s = true := fun x h => hts x (jtb_sub h)
  obtain ⟨c0, i0, k0⟩ := u_known (C := RX0) (T := TX0) (N := 5) (n := 5) hts2 jin_X0 (hts2 _ ai_X0)
  obtain ⟨c1, i1, k1⟩ := u_known (C := RX1) (T := TX1) (N := 11) (n := 11) hts2 jin_X1 (hts2 _ ai_X1)
  obtain ⟨c2, i2, k2⟩ := u_known (C := RX2) (T := TX2) (N := 14) (n := 14) hts2 jin_X2 (hts2 _ ai_X2)
  obtain ⟨c3, i3, k3⟩ := u_known (C := RX3) (T := TX3) (N := 2) (n := 2) hts2 jin_X3 (hts2 _ ai_X3)
  obtain ⟨c4, i4, k4⟩ := u_known (C := RX4) (T := TX4) (N := 8) (n := 8) hts2 jin_X4 (hts2 _ ai_X4)
  obtain ⟨c5, i5, k5⟩ := u_known (C := RX5) (T := TX5) (N := 4) (n := 4) hts2 jin_X5 (hts2 _ ai_X5)
  obtain ⟨c6, i6, k6⟩ := u_known (C := RX6) (T := TX6) (N := 6) (n := 6) hts2 jin_X6 (hts2 _ ai_X6)
  obtain ⟨c7, i7, k7⟩ := u_known (C := RX7) (T := TX7) (N := 10) (n := 10) hts2 jin_X7 (hts2 _ ai_X7)
  obtain ⟨c8, i8, k8⟩ := u_known (C := RX8) (T := TX8) (N := 53) (n := 53) hts2 jin_X8 (hts2 _ ai_X8)
  obtain ⟨D, hKc⟩ : ∃ D : va_G, ∀ (k : Nat) (q : vw_C), vwCl[k]? = some q → u_Kn s q.1 q.2.1 q.2.2 (D.1 k) (D.2 k) := by
    refine ⟨(fun k => [c0, c1, c2, c3, c4, c5, c6, c7, c8].getD k 0, fun k => [i0, i1, i2, i3, i4, i5, i6, i7, i8].getD k i0), ?_⟩
    intro k q hq
    match k, hq with
    | 0, hq => cases hq; exact k0
    | 1, hq => cases hq; exact k1
    | 2, hq => cases hq; exact k2
    | 3, hq => cases hq; exact k3
    | 4, hq => cases hq; exact k4
    | 5, hq => cases hq; exact k5
    | 6, hq => cases hq; exact k6
    | 7, hq => cases hq; exact k7
    | 8, hq => cases hq; exact k8
    | k + 9, hq => simp [vwCl] at hq
  obtain ⟨C, hKa⟩ : ∃ C : AC3, ∀ (k : Nat) (q : ClassId × FieldType), (atys C)[k]? = some q → ArrOfT s q.1 q.2 ∧ va_RA s q.1 q.2 := by
    obtain ⟨cI, kI, mI, a1, a2, a3⟩ := jarrI (hts2 _ aw_int)
    obtain ⟨cZ, kZ, mZ, b1, b2, b3⟩ := jarrI (hts2 _ aw_bool)
    obtain ⟨comp, cA, kA, -, g2, g3, g4⟩ := Cond.arrayOver_specA (hts _ aw_over)
    refine ⟨(cI, cZ, cA), ?_⟩
    intro k q hq
    match k, hq with
    | 0, hq => cases hq; exact ⟨fun n z => ⟨fun q h => (by cases h), kI, a2, mI, a3⟩, a1⟩
    | 1, hq => cases hq; exact ⟨fun n z => ⟨fun q h => (by cases h), kZ, b2, mZ, b3⟩, b1⟩
    | 2, hq => cases hq; exact ⟨fun n z => ⟨fun q h => (by cases h), kA, g2, comp, g3⟩, g4⟩
    | k + 3, hq => simp [atys] at hq
  have hK : va_K D vwCl (atys C) s := ⟨hKc, hKa⟩
  have hO : va_AOA .int s := va_AOA.of (hts _ aw_over)
  have hN : ∀ x ∈ aNest, va_Nw x s := by
    intro x hx2
    have h1 := hts x (List.mem_filter.mp hx2).1
    have h2 := (List.mem_filter.mp hx2).2
    cases x with
    | methodLinkNest a i y h0 => exact va_Nw.of rfl h1
    | _ => simp at h2
  generalize hz0 : s.heap.size = z
  have hzz : z = s.heap.size := hz0.symm
  have hl := lv_entry ([.ref b]) (n := 4) (Nat.le_of_ble_eq_true rfl)
  rw [lg_entry_eq]
  generalize (lg_sl ([.ref b]) ++ List.replicate (4 - (lg_sl ([.ref b])).length) Slot.unset).toArray = ls at hl ⊢
  have hl : lv_has ls 4 [(0, .ref b)] := hl
  -- new JoineryFloor
  refine W.newcK (C := RX7) (n := 10) hx hb hown (hts2 _ aw_l7) (hts2 _ ai_X7) (hts2 _ an_X7) rfl dL_law_0 (by decide) (by decide) (hKc 7 _ rfl).2.1 hz0 fun H1 kC hkC e1 z1 o1 => ?_
  have hP1 : va_P D vwCl (aws z C ([] ++ [dfX7])) H1 := aws_app (H := s.heap) (fun k q h => by simp [aws] at h) hz0 (fun q hq => o1 q (by omega)) (fun k x hx1 => by
    have hk : k < 1 := (List.getElem?_eq_some_iff.mp hx1).1
    rw [show k = 0 by omega] at hx1 ⊢
    cases hx1
    exact ⟨_, rfl, (u_born tyX7 hts2 jin_X7 (hKc 7 _ rfl) hkC e1 tyX7_ok).to (fun j hj => by rcases jlt10 hj with rfl | rfl | rfl | rfl | rfl | rfl | rfl | rfl | rfl | rfl <;> rfl)⟩)
  have hS1 : va_S (fun q => z ≤ q) s.heap H1 [] := ⟨by omega, fun q h1 _ => o1 q (by omega), fun _ h => by cases h⟩
  refine lv_dup hx hb dL_law_3 rfl ?_
  have hB7 : CallB room_1 s #[Value.ref b] R_law 9 yX7_init μ_X7_init.2.1 μ_X7_init.2.2.1 none (Cond.code yX7_init μ_X7_init.2.1 μ_X7_init.2.2.1 μ_X7_init.2.2.2 :: jtb) (aR 4 220 5862) 220 5862 0 := callB_of 0 hts (fun x h => ⟨jtb_sub (jgood_in ak_X7_init.1 x h).1, (jgood_in ak_X7_init.1 x h).2⟩) rfl rfl rfl (hts2 _ ak_X7_init.1.2.1) (hts2 _ aw_m7) ak_X7_init.1.2.2 ⟨by decide, by decide⟩
  have hrun7 := va_runI (p := p) (l := l) (H := H1) (locs := []) (e := e) (below := below) (meth := meth) (c := c) (cells := 0 + 1) (slots := 0 + 10) (As := []) (rest := [.ref z]) (b := z + 0) (g := F0 m 4 ls [.ref z, .ref z]) ⟨hx, hb, hml, hown, hts⟩ (at_X7 [] z D C l) ⟨hB7, ak_X7_init.2.1, hts2 _ ak_X7_init.2.2⟩
    ⟨ablind z D C _ _, fun U hU hW => ⟨rfl, by rw [hU, z1]; rfl, by rw [hU]; exact hP1, va_K.moved hW.alike hK, va_AOA.moved hW.alike hO, aNest_moved hW hN⟩⟩ rfl rfl hl.1 rfl (lv_room (rest := [.ref z, .ref z]) (Nat.le_of_ble_eq_true rfl)) dL_law_4 ⟨by decide, by decide⟩
  refine acall hrun7 hS1 (fun H2 locs2 hz2 hP2 hS2 => ?_)
  rw [List.nil_append] at hz2 hP2
  rw [cX7_len] at hz2
  refine lv_astore_n (lv' := [(1, .ref z), (0, .ref b)]) hx hb dL_law_7 rfl hl (by decide) rfl (fun ls hl => ?_)
  -- new JoineryFloorModel
  refine W.newcK (C := RX8) (n := 53) hx hb hown (hts2 _ aw_l8) (hts2 _ ai_X8) (hts2 _ an_X8) rfl dL_law_8 (by decide) (by decide) (hKc 8 _ rfl).2.1 hz2 fun H3 kC3 hkC3 e3 z3 o3 => ?_
  have hP3 : va_P D vwCl (aws z C (cX7 ([] : List ACel).length ++ [dfX8])) H3 := aws_app hP2 (by rw [cX7_len]; exact hz2) (fun q hq => o3 q (by omega)) (fun k x hx1 => by
    have hk : k < 1 := (List.getElem?_eq_some_iff.mp hx1).1
    rw [show k = 0 by omega] at hx1 ⊢
    cases hx1
    refine ⟨_, rfl, ?_⟩
    rw [cX7_len]
    exact (u_born tyX8 hts2 jin_X8 (hKc 8 _ rfl) hkC3 e3 tyX8_ok).to (fun j hj => jdf8 z j hj))
  have hS3 : va_S (fun q => z ≤ q) s.heap H3 locs2 := ⟨by have := hS2.1; omega, fun q h1 h2 => (o3 q (by have := hS2.1; omega)).trans (hS2.2.1 q h1 h2), hS2.2.2⟩
  refine lv_dup hx hb dL_law_11 rfl ?_
  have hB8 : CallB room_1 s #[Value.ref b] R_law 12 yX8_init μ_X8_init.2.1 μ_X8_init.2.2.1 none (Cond.code yX8_init μ_X8_init.2.1 μ_X8_init.2.2.1 μ_X8_init.2.2.2 :: jtb) (aR 1 37 8591) 37 8591 0 := callB_of 0 hts (fun x h => ⟨jtb_sub (jgood_in ak_X8_init.1 x h).1, (jgood_in ak_X8_init.1 x h).2⟩) rfl rfl rfl (hts2 _ ak_X8_init.1.2.1) (hts2 _ aw_m8) ak_X8_init.1.2.2 ⟨by decide, by decide⟩
  have hat := at_X8 (cX7 ([] : List ACel).length) z D C l
  rw [cX7_len] at hat
  have hrun8 := va_runI (p := p) (l := l) (H := H3) (locs := locs2) (e := e) (below := below) (meth := meth) (c := c) (cells := 0 + 1 + 220 + 1) (slots := 0 + 10 + 5862 + 53) (As := []) (rest := [.ref (z + 221)]) (b := z + 221) (g := F0 m 12 ls [.ref (z + 221), .ref (z + 221)]) ⟨hx, hb, hml, hown, hts⟩ hat ⟨hB8, ak_X8_init.2.1, hts2 _ ak_X8_init.2.2⟩
    ⟨ablind z D C _ _, fun U hU hW => ⟨rfl, by rw [hU, z3, List.length_append, cX7_len]; rfl, by rw [hU]; exact hP3, va_K.moved hW.alike hK, va_AOA.moved hW.alike hO, aNest_moved hW hN⟩⟩ rfl rfl hl.1 rfl (lv_room (rest := [.ref (z + 221), .ref (z + 221)]) (Nat.le_of_ble_eq_true rfl)) dL_law_12 ⟨by decide, by decide⟩
  refine acall hrun8 hS3 (fun H4 locs4 hz4 hP4 hS4 => ?_)
  refine lv_astore_n (lv' := [(2, .ref (z + 221)), (1, .ref z), (0, .ref b)]) hx hb dL_law_15 rfl hl (by decide) rfl (fun ls hl => ?_)
  refine lv_iconst (v := 0) hx hb dL_law_16 (by decide) ?_
  refine lv_istore_n (lv' := [(3, .int 0), (2, .ref (z + 221)), (1, .ref z), (0, .ref b)]) hx hb dL_law_17 rfl hl (by decide) rfl (fun ls hl => ?_)
  refine W.widen (k := 600000) (n := 7302250) (by decide) (by decide) ?_
  have hP5 : va_P D vwCl (jws ((fun j => z + j), D, C) jM0) H4 := by
    rw [← aw_world]
    exact hP4
  have hin : ∀ q, jin ((fun j => z + j), D, C) q → s.heap.size ≤ q := by
    rintro q ⟨k, -, rfl⟩
    show s.heap.size ≤ z + k
    omega
  have hC : jLc p s m meth c b L xs ((fun j => z + j), D, C) := ⟨C0, hK, jD_all z D C, hin⟩
  rw [hzz] at hS4
  have hloop := law_loop (l := l) (e := e) (below := below) hst hC hL (L + 6) 0 jM0 (by omega) (by omega) h0
  exact hloop H4 locs4 ls hP5 hS4 (lv_sub hl [3, 2, 1, 0] rfl)
