/-- the tables' word of an array of arrays (the printed row va_mna names it; it stands nowhere in the kit) -/
def va_AOA (ty : FieldType) (U : State) : Prop := (Cond.arrayOver (.array ty)).before #[] U = true
theorem va_AOA.use {ty : FieldType} {A : Array Value} {U : State} (h : va_AOA ty U) : (Cond.arrayOver (.array ty)).before A U = true := h
theorem va_AOA.of {ty : FieldType} {A : Array Value} {U : State} (h : (Cond.arrayOver (.array ty)).before A U = true) : va_AOA ty U := h
/-! ===== BEGIN words of one list among another's, by their places ===== -/
theorem goodIn_r {big : List Cond} (ws : List Cond) (ps : List Nat) (hp : ws = ps.filterMap (fun i => big[i]?)) (h : ws.all goodWord = true) : GoodIn big ws := by
  intro w hw
  have h1 := List.all_eq_true.mp h w hw
  rw [hp] at hw
  obtain ⟨i, -, hi⟩ := List.mem_filterMap.mp hw
  have hm : w ∈ big := by first | exact List.mem_of_getElem? hi | exact List.getElem?_mem hi
  exact ⟨hm, good_of_word h1⟩
theorem goodIn_app {big a b : List Cond} (ha : GoodIn big a) (hb : GoodIn big b) : GoodIn big (a ++ b) := fun w h => (List.mem_append.mp h).elim (ha w) (hb w)
theorem goodIn_ca {big a b : List Cond} {c : Cond} (ha : GoodIn big (c :: a)) (hb : GoodIn big b) : GoodIn big (c :: (a ++ b)) := fun w h => (List.mem_cons.mp h).elim (fun e => ha w (List.mem_cons.mpr (Or.inl e))) (fun h => (List.mem_append.mp h).elim (fun h => ha w (List.mem_cons.mpr (Or.inr h))) (hb w))
theorem goodIn_sub {big ws : List Cond} (hm : ∀ w ∈ ws, w ∈ big) (h : ws.all goodWord = true) : GoodIn big ws := fun w hw => ⟨hm w hw, good_of_word (List.all_eq_true.mp h w hw)⟩
/-! ===== END ===== -/

/-! ===== BEGIN new T[n][m]: the outer array a place, the inner ones among the pooled ===== -/
/-- f, but v at every address of l -/
def vr_up {α : Type} (f : Nat → α) (l : List Nat) (v : α) : Nat → α := fun a => if a ∈ l then v else f a
theorem vr_up_in {α : Type} {f : Nat → α} {l : List Nat} {v : α} {a : Nat} (h : a ∈ l) : vr_up f l v a = v := if_pos h
theorem vr_up_ne {α : Type} {f : Nat → α} {l : List Nat} {v : α} {a : Nat} (h : a ∉ l) : vr_up f l v a = f a := if_neg h
theorem vr_rows {L l : List Nat} {f : Nat → va_E} {e : va_E} (h : ∀ a, a ∈ l → a ∉ L) : va_pl L f ++ l.map (fun a => (a, e)) = va_pl (L ++ l) (vr_up f l e) := by
  unfold va_pl
  rw [List.map_append]
  congr 1
  · apply List.map_congr_left
    intro a ha
    rw [vr_up_ne (fun q => h a q ha)]
  · apply List.map_congr_left
    intro a ha
    rw [vr_up_in ha]
theorem vr_lay {X rows : va_W} {x : Nat × va_E} {pl : va_W} {D : va_G} {cl : List vw_C} {H : Heap} (hP : va_P D cl (((X ++ pl) ++ [x]) ++ rows) H) : va_P D cl ((X ++ [x]) ++ (pl ++ rows)) H := by
  rw [List.append_assoc (X ++ pl)] at hP
  have h := va_P.swap hP
  rw [← List.append_assoc X] at h
  have h2 := va_P.swap h
  rw [List.append_assoc (X ++ [x])] at h2
  exact h2
theorem vr_layD {X rows : va_W} {x : Nat × va_E} {pl : va_W} {A : Nat → Prop} (hD : va_D A (((X ++ pl) ++ [x]) ++ rows)) : va_D A ((X ++ [x]) ++ (pl ++ rows)) := by
  rw [List.append_assoc (X ++ pl)] at hD
  have h := va_D.swap hD
  rw [← List.append_assoc X] at h
  have h2 := va_D.swap h
  rw [List.append_assoc (X ++ [x])] at h2
  exact h2
theorem vr_outer (c : ClassId) (N h0 : Nat) : ∀ i : Nat, Jvm.Free.Multi.outerC c N h0 i = arrV c N (fun j => va_rf (if j < i then some (h0 + 1 + j) else none))
  | 0 => by
    show ({ cls := c, slots := Array.replicate N .null, vm := .none } : Cell) = _
    rw [arrV_new]
    refine congrArg (arrV c N) (funext fun j => ?_)
    simp [va_rf]
  | i + 1 => by
    show (Jvm.Free.Multi.outerC c N h0 i).setSlot i (.ref (h0 + 1 + i)) = _
    rw [vr_outer c N h0 i, arrV_store]
    refine congrArg (arrV c N) (funext fun j => ?_)
    by_cases e : j = i
    · subst e
      simp [updV, va_rf]
    · by_cases h : j < i
      · simp [updV, e, h, Nat.lt_succ_of_lt h]
      · simp [updV, e, h, show ¬ j < i + 1 by omega]
section VGM
variable {p : Program} {l : Launch} {e : Env} {R : Room} {s : State} {m : MethodId} {args : Array Value} {below : List Frame} {meth : Method} {c : Code} {H : Heap} {locs : List Loc} {cells slots : Nat} {Q : State → Prop}
variable {cc : ByteArray} {pc : Nat} {ls : Array Slot} {rest : List Value} {D : va_G} {cl : List vw_C} {A : Nat → Prop} {a : Nat} {tys : List (ClassId × FieldType)} {ws : va_W} {H0 : Heap}
theorem va_mna {X : va_W} {L : List Nat} {f : Nat → va_E} {cc : ByteArray} (hexec : p.tables.exec = Jvm.exec) (hb : c.code = cc) {own : String} {index : Nat} {ty : FieldType} {cy : ClassId} (hown : s.vm.findClass own = some m.cls) (hclink : (Cond.classLink own index ("[" ++ (FieldType.array ty).toString)).before args s = true) (hover : va_AOA ty s) (harr : (Cond.arrayClass ty).before args s = true) (hcy : s.vm.findClass (FieldType.array ty).toString = some cy)
    (hK : va_K D cl tys s) (hP : va_P D cl (X ++ va_pl L f) H) (hD : va_D A (X ++ va_pl L f)) (hS : va_S A H0 H locs) (hA : ∀ q, H0.size ≤ q → A q) {n k : Int32} {N' K' : Nat} {z : vp_A} (hn : ¬ n < 0) (hk : ¬ k < 0) (hN : n.toNatClampNeg = N') (hM : k.toNatClampNeg = K')
    (hb1 : N' * 4 ≤ 536870912) (hb2 : K' * componentBytes ty ≤ 536870912) (hb3 : K' ≤ 536870912) (hdf : fits ty (defaultValue ty) = true) (hdd : (defaultValue ty).isDefault = true) (hcells : cells + (1 + N') ≤ R.cells) (hslots : slots + (N' + N' * K') ≤ R.slots) (hz : ∀ c : ClassId, Jvm.Free.Multi.innerC c K' (defaultValue ty) = vp_cell c z) (hdg : decode cc pc = .ok (.multianewarray index 2, 4))
    (kk : ∀ (q : Nat) (r : Nat → Nat) (cA : ClassId) (H1 : Heap), (∀ i j : Nat, i < N' → j < N' → r i = r j → i = j) → (∀ i : Nat, i < N' → r i ∉ L) → va_K D cl (tys ++ [(cA, .array ty)]) s →
      va_P D cl ((X ++ [(q, .inl (cA, N', .inr (.inr (.inr (.inr (fun i => if i < N' then some (r i) else none))))))]) ++ va_pl (L ++ (List.range N').map r) (vr_up f ((List.range N').map r) (.inl (cy, z)))) H1 → va_D A ((X ++ [(q, .inl (cA, N', .inr (.inr (.inr (.inr (fun i => if i < N' then some (r i) else none))))))]) ++ va_pl (L ++ (List.range N').map r) (vr_up f ((List.range N').map r) (.inl (cy, z)))) → va_S A H0 H1 locs →
      W p l e R s m args below meth c H1 locs (cells + 1 + N') (slots + N' + N' * K') Q (F0 m (pc + 4) ls (.ref q :: rest))) : W p l e R s m args below meth c H locs cells slots Q (F0 m pc ls (.int k :: .int n :: rest)) := by
  subst hN
  subst hM
  intro T hT Xs
  obtain ⟨vm₁, cA, comp, -, fA, fC, hO, -, X', step⟩ := Xs.multianewarray2F hexec hown hclink (va_AOA.use hover) harr (g := F0 m pc ls (.int k :: .int n :: rest)) rfl (by rw [hb]; exact hdg) rfl hn hk hb1 hb2 hb3 hdf hdd hcells hslots
  have ec : some cy = some comp := hcy.symm.trans fC
  cases ec
  generalize hF : Jvm.Free.Multi.fill (T.setVm vm₁) cA cy n.toNatClampNeg k.toNatClampNeg (defaultValue ty) n.toNatClampNeg = F at X' step
  have hTh : (T.setVm vm₁).heap = H := hT
  obtain ⟨f1, f2, -, -⟩ := Jvm.Free.Multi.fill_facts (T.setVm vm₁) cA cy n.toNatClampNeg k.toNatClampNeg (defaultValue ty) n.toNatClampNeg
  rw [hF, hTh] at f1 f2
  have hold : ∀ x : Nat, x < H.size → F.heap[x]? = H[x]? := fun x hx => by
    have := Jvm.Free.Multi.fill_old (T.setVm vm₁) cA cy n.toNatClampNeg k.toNatClampNeg (defaultValue ty) (a := x) (by rw [hTh]; exact hx) n.toNatClampNeg
    rw [hF, hTh] at this
    exact this
  have hrow : ∀ j : Nat, j < n.toNatClampNeg → F.heap[H.size + 1 + j]? = some (vp_cell cy z) := fun j hj => by
    have := Jvm.Free.Multi.fill_inner (T.setVm vm₁) cA cy n.toNatClampNeg k.toNatClampNeg (defaultValue ty) n.toNatClampNeg j hj
    rw [hF, hTh, hz] at this
    exact this
  have hout : Jvm.Free.Multi.outerC cA n.toNatClampNeg H.size n.toNatClampNeg = vp_cell cA (n.toNatClampNeg, .inr (.inr (.inr (.inr (fun i => if i < n.toNatClampNeg then some (H.size + 1 + i) else none))))) := by
    rw [vp_cell_q]
    exact vr_outer cA n.toNatClampNeg H.size n.toNatClampNeg
  rw [hout] at f2
  have hlt : ∀ a, a ∈ L → a < H.size := fun a ha => by
    obtain ⟨k9, hk9⟩ := va_pl_get (X := X) (f := f) ha
    exact (hP k9 _ hk9).lt
  have hnl : ∀ i : Nat, i < n.toNatClampNeg → H.size + 1 + i ∉ L := fun i _ h => by
    have := hlt _ h
    omega
  have hnm : ∀ a, a ∈ (List.range n.toNatClampNeg).map (fun i => H.size + 1 + i) → a ∉ L := fun a ha h => by
    obtain ⟨i, -, rfl⟩ := List.mem_map.mp ha
    have := hlt _ h
    omega
  have hP0 : va_P D cl (X ++ va_pl L f) F.heap := hP.kept (fun k9 x hx => hold x.1 ((hP k9 x hx).lt))
  have hP1 : va_P D cl ((X ++ va_pl L f) ++ [(H.size, .inl (cA, n.toNatClampNeg, .inr (.inr (.inr (.inr (fun i => if i < n.toNatClampNeg then some (H.size + 1 + i) else none))))))]) F.heap := hP0.app (fun k9 x hx => by
    have h0 : k9 < 1 := (List.getElem?_eq_some_iff.mp hx).1
    rw [show k9 = 0 by omega] at hx
    cases hx
    exact f2)
  have hP2 : va_P D cl (((X ++ va_pl L f) ++ [(H.size, .inl (cA, n.toNatClampNeg, .inr (.inr (.inr (.inr (fun i => if i < n.toNatClampNeg then some (H.size + 1 + i) else none))))))]) ++ ((List.range n.toNatClampNeg).map (fun i => H.size + 1 + i)).map (fun a => (a, .inl (cy, z)))) F.heap := hP1.app (fun k9 x hx => by
    obtain ⟨a, ha, rfl⟩ := List.mem_map.mp (List.mem_of_getElem? hx)
    obtain ⟨i, hi, rfl⟩ := List.mem_map.mp ha
    exact hrow i (List.mem_range.mp hi))
  have hD2 : va_D A (((X ++ va_pl L f) ++ [(H.size, .inl (cA, n.toNatClampNeg, .inr (.inr (.inr (.inr (fun i => if i < n.toNatClampNeg then some (H.size + 1 + i) else none))))))]) ++ ((List.range n.toNatClampNeg).map (fun i => H.size + 1 + i)).map (fun a => (a, .inl (cy, z)))) := by
    have hD1 := hD.push (e := .inl (cA, n.toNatClampNeg, .inr (.inr (.inr (.inr (fun i => if i < n.toNatClampNeg then some (H.size + 1 + i) else none)))))) hP rfl (hA _ hS.1)
    generalize hW1 : (X ++ va_pl L f) ++ [(H.size, .inl (cA, n.toNatClampNeg, .inr (.inr (.inr (.inr (fun i => if i < n.toNatClampNeg then some (H.size + 1 + i) else none))))))] = W1 at hD1 hP1 ⊢
    have hle : ∀ (k9 : Nat) (x : Nat × va_E), W1[k9]? = some x → x.1 ≤ H.size := fun k9 x hx => by
      rw [← hW1] at hx
      by_cases hl : k9 < (X ++ va_pl L f).length
      · rw [List.getElem?_append_left hl] at hx
        exact Nat.le_of_lt ((hP k9 x hx).lt)
      · rw [List.getElem?_append_right (by omega)] at hx
        have h0 : k9 - (X ++ va_pl L f).length < 1 := (List.getElem?_eq_some_iff.mp hx).1
        rw [show k9 - (X ++ va_pl L f).length = 0 by omega] at hx
        cases hx
        exact Nat.le_refl _
    have hr : ∀ (k9 : Nat) (x : Nat × va_E), (((List.range n.toNatClampNeg).map (fun i => H.size + 1 + i)).map (fun a => ((a, .inl (cy, z)) : Nat × va_E)))[k9]? = some x → x.1 = H.size + 1 + k9 := fun k9 x hx => by
      rw [List.getElem?_map, List.getElem?_map] at hx
      by_cases h9 : k9 < n.toNatClampNeg
      · rw [List.getElem?_range h9] at hx
        cases hx
        rfl
      · have hn0 : (List.range n.toNatClampNeg)[k9]? = none := List.getElem?_eq_none (by rw [List.length_range]; omega)
        rw [hn0] at hx
        cases hx
    refine ⟨fun i j x y hi hj hxy => ?_, fun k9 x hx => ?_⟩
    · by_cases h1 : i < W1.length <;> by_cases h2 : j < W1.length
      · rw [List.getElem?_append_left h1] at hi
        rw [List.getElem?_append_left h2] at hj
        exact hD1.1 i j x y hi hj hxy
      · rw [List.getElem?_append_left h1] at hi
        rw [List.getElem?_append_right (by omega)] at hj
        have := hle _ _ hi
        have := hr _ _ hj
        omega
      · rw [List.getElem?_append_right (by omega)] at hi
        rw [List.getElem?_append_left h2] at hj
        have := hle _ _ hj
        have := hr _ _ hi
        omega
      · rw [List.getElem?_append_right (by omega)] at hi hj
        have := hr _ _ hi
        have := hr _ _ hj
        omega
    · by_cases h1 : k9 < W1.length
      · rw [List.getElem?_append_left h1] at hx
        exact hD1.2 k9 x hx
      · rw [List.getElem?_append_right (by omega)] at hx
        have := hr _ _ hx
        exact hA _ (by have := hS.1; omega)
  have hAr : ArrOfT s cA (.array ty) := fun N9 z9 => by
    obtain ⟨-, k9, hk9, cm9, hkk9⟩ := (hO 0 0 0).1
    exact ⟨(fun q hq => by cases hq), k9, hk9, cm9, hkk9⟩
  have hK2 : va_K D cl (tys ++ [(cA, .array ty)]) s := ⟨hK.1, fun k9 x hx => by
    by_cases hl : k9 < tys.length
    · rw [List.getElem?_append_left hl] at hx
      exact hK.2 k9 x hx
    · rw [List.getElem?_append_right (by omega)] at hx
      have h0 : k9 - tys.length < 1 := (List.getElem?_eq_some_iff.mp hx).1
      rw [show k9 - tys.length = 0 by omega] at hx
      cases hx
      exact ⟨hAr, fA⟩⟩
  obtain ⟨t, a1, b1⟩ := kk H.size (fun i => H.size + 1 + i) cA F.heap (fun i j _ _ h => by have h9 : H.size + 1 + i = H.size + 1 + j := h; omega) hnl hK2 (by rw [← vr_rows hnm]; exact vr_lay hP2) (by rw [← vr_rows hnm]; exact vr_layD hD2) ⟨by rw [f1]; have := hS.1; omega, fun x h1 h2 => (hold x (Nat.lt_of_lt_of_le h1 hS.1)).trans (hS.2.1 x h1 h2), hS.2.2⟩ F rfl X'
  refine ⟨t, step t ?_, b1⟩
  have e : T.heap.size = H.size := by rw [hT]
  rw [e]
  exact a1
end VGM
/-! ===== END ===== -/

/-! ===== BEGIN printed: names, fields, word lists, decode rows ===== -/
def RX0 : String := "JoineryFloor$Bounds"
def TX0 : u_T := fun k => match k with
  | 0 => ("JoineryFloor$Bounds", "first", "[I", true)
  | 1 => ("JoineryFloor$Bounds", "last", "[I", true)
  | 2 => ("JoineryFloor$Bounds", "span", "[I", true)
  | 3 => ("JoineryFloor$Bounds", "left", "[I", true)
  | _ => ("JoineryFloor$Bounds", "jobs", "I", false)
def tyX0 : Nat → FieldType := fun k => match k with
  | 0 => .array .int
  | 1 => .array .int
  | 2 => .array .int
  | 3 => .array .int
  | _ => .int
theorem nmX0 : ∀ a, a < 5 → ∀ b, b < 5 → a ≠ b → (TX0 a).2.1 ≠ (TX0 b).2.1 := by decide +kernel
theorem tyX0_ok : ∀ k, k < 5 → parseFieldDescriptor (TX0 k).2.2.1 = some (tyX0 k) := by decide +kernel
abbrev cX0_init : ByteArray := prog_2_method_1_code
def yX0_init : MethodName := ⟨RX0, "<init>", "()V"⟩
abbrev cX0_takeJobs : ByteArray := prog_2_method_2_code
def yX0_takeJobs : MethodName := ⟨RX0, "takeJobs", "(LJoineryFloor$Floor;I)V"⟩
abbrev cX0_cutBound : ByteArray := prog_2_method_3_code
def yX0_cutBound : MethodName := ⟨RX0, "cutBound", "()I"⟩
abbrev cX0_mostPressing : ByteArray := prog_2_method_4_code
def yX0_mostPressing : MethodName := ⟨RX0, "mostPressing", "(I)I"⟩
abbrev cX0_nextFirst : ByteArray := prog_2_method_5_code
def yX0_nextFirst : MethodName := ⟨RX0, "nextFirst", "(I)I"⟩
abbrev cX0_wholeBound : ByteArray := prog_2_method_6_code
def yX0_wholeBound : MethodName := ⟨RX0, "wholeBound", "(I)I"⟩
abbrev cX0_tryRest : ByteArray := prog_2_method_7_code
def yX0_tryRest : MethodName := ⟨RX0, "tryRest", "(IIIIII)I"⟩
def RX1 : String := "JoineryFloor$Day"
def TX1 : u_T := fun k => match k with
  | 0 => ("JoineryFloor$Day", "begins", "[I", true)
  | 1 => ("JoineryFloor$Day", "tails", "[I", true)
  | 2 => ("JoineryFloor$Day", "fixed", "[I", true)
  | 3 => ("JoineryFloor$Day", "notBelow", "[I", true)
  | 4 => ("JoineryFloor$Day", "end", "I", false)
  | 5 => ("JoineryFloor$Day", "laidSteps", "[I", true)
  | 6 => ("JoineryFloor$Day", "laid", "I", false)
  | 7 => ("JoineryFloor$Day", "behindOnPlain", "[I", true)
  | 8 => ("JoineryFloor$Day", "laidOfPiece", "[I", true)
  | 9 => ("JoineryFloor$Day", "laidOnMachine", "[I", true)
  | _ => ("JoineryFloor$Day", "latestEnds", "[I", true)
def tyX1 : Nat → FieldType := fun k => match k with
  | 0 => .array .int
  | 1 => .array .int
  | 2 => .array .int
  | 3 => .array .int
  | 4 => .int
  | 5 => .array .int
  | 6 => .int
  | 7 => .array .int
  | 8 => .array .int
  | 9 => .array .int
  | _ => .array .int
theorem nmX1 : ∀ a, a < 11 → ∀ b, b < 11 → a ≠ b → (TX1 a).2.1 ≠ (TX1 b).2.1 := by decide +kernel
theorem tyX1_ok : ∀ k, k < 11 → parseFieldDescriptor (TX1 k).2.2.1 = some (tyX1 k) := by decide +kernel
abbrev cX1_init : ByteArray := prog_3_method_1_code
def yX1_init : MethodName := ⟨RX1, "<init>", "()V"⟩
abbrev cX1_clear : ByteArray := prog_3_method_2_code
def yX1_clear : MethodName := ⟨RX1, "clear", "()V"⟩
abbrev cX1_work : ByteArray := prog_3_method_3_code
def yX1_work : MethodName := ⟨RX1, "work", "(LJoineryFloor$Floor;LJoineryFloor$Orders;)Z"⟩
abbrev cX1_nextOfPiece : ByteArray := prog_3_method_4_code
def yX1_nextOfPiece : MethodName := ⟨RX1, "nextOfPiece", "(LJoineryFloor$Floor;I)I"⟩
abbrev cX1_isNextOnMachine : ByteArray := prog_3_method_5_code
def yX1_isNextOnMachine : MethodName := ⟨RX1, "isNextOnMachine", "(LJoineryFloor$Floor;LJoineryFloor$Orders;I)Z"⟩
abbrev cX1_earliest : ByteArray := prog_3_method_6_code
def yX1_earliest : MethodName := ⟨RX1, "earliest", "(LJoineryFloor$Floor;LJoineryFloor$Orders;I)I"⟩
abbrev cX1_endAheadInPiece : ByteArray := prog_3_method_7_code
def yX1_endAheadInPiece : MethodName := ⟨RX1, "endAheadInPiece", "(LJoineryFloor$Floor;I)I"⟩
abbrev cX1_pauseBetween : ByteArray := prog_3_method_8_code
def yX1_pauseBetween : MethodName := ⟨RX1, "pauseBetween", "(LJoineryFloor$Floor;II)I"⟩
abbrev cX1_freeHand : ByteArray := prog_3_method_9_code
def yX1_freeHand : MethodName := ⟨RX1, "freeHand", "(LJoineryFloor$Floor;LJoineryFloor$Orders;I)I"⟩
abbrev cX1_keepLatest : ByteArray := prog_3_method_10_code
def yX1_keepLatest : MethodName := ⟨RX1, "keepLatest", "(I)V"⟩
abbrev cX1_set : ByteArray := prog_3_method_11_code
def yX1_set : MethodName := ⟨RX1, "set", "(LJoineryFloor$Floor;LJoineryFloor$Orders;II)V"⟩
abbrev cX1_endOf : ByteArray := prog_3_method_12_code
def yX1_endOf : MethodName := ⟨RX1, "endOf", "(LJoineryFloor$Floor;I)I"⟩
abbrev cX1_findTails : ByteArray := prog_3_method_13_code
def yX1_findTails : MethodName := ⟨RX1, "findTails", "(LJoineryFloor$Floor;)V"⟩
abbrev cX1_lengthFrom : ByteArray := prog_3_method_14_code
def yX1_lengthFrom : MethodName := ⟨RX1, "lengthFrom", "(LJoineryFloor$Floor;I)I"⟩
abbrev cX1_slack : ByteArray := prog_3_method_15_code
def yX1_slack : MethodName := ⟨RX1, "slack", "(LJoineryFloor$Floor;I)I"⟩
abbrev cX1_firstOfRow : ByteArray := prog_3_method_16_code
def yX1_firstOfRow : MethodName := ⟨RX1, "firstOfRow", "(LJoineryFloor$Floor;)I"⟩
abbrev cX1_nextOfRow : ByteArray := prog_3_method_17_code
def yX1_nextOfRow : MethodName := ⟨RX1, "nextOfRow", "(LJoineryFloor$Floor;I)I"⟩
abbrev cX1_followsInRow : ByteArray := prog_3_method_18_code
def yX1_followsInRow : MethodName := ⟨RX1, "followsInRow", "(LJoineryFloor$Floor;II)Z"⟩
def RX2 : String := "JoineryFloor$Floor"
def TX2 : u_T := fun k => match k with
  | 0 => ("JoineryFloor$Floor", "machines", "I", false)
  | 1 => ("JoineryFloor$Floor", "pieces", "I", false)
  | 2 => ("JoineryFloor$Floor", "steps", "I", false)
  | 3 => ("JoineryFloor$Floor", "kind", "[I", true)
  | 4 => ("JoineryFloor$Floor", "with", "[I", true)
  | 5 => ("JoineryFloor$Floor", "sort", "[I", true)
  | 6 => ("JoineryFloor$Floor", "line", "[[I", true)
  | 7 => ("JoineryFloor$Floor", "lineSize", "[I", true)
  | 8 => ("JoineryFloor$Floor", "pieceOf", "[I", true)
  | 9 => ("JoineryFloor$Floor", "machineOf", "[I", true)
  | 10 => ("JoineryFloor$Floor", "span", "[I", true)
  | 11 => ("JoineryFloor$Floor", "rank", "[I", true)
  | 12 => ("JoineryFloor$Floor", "on", "[[I", true)
  | _ => ("JoineryFloor$Floor", "onSize", "[I", true)
def tyX2 : Nat → FieldType := fun k => match k with
  | 0 => .int
  | 1 => .int
  | 2 => .int
  | 3 => .array .int
  | 4 => .array .int
  | 5 => .array .int
  | 6 => .array (.array .int)
  | 7 => .array .int
  | 8 => .array .int
  | 9 => .array .int
  | 10 => .array .int
  | 11 => .array .int
  | 12 => .array (.array .int)
  | _ => .array .int
theorem nmX2 : ∀ a, a < 14 → ∀ b, b < 14 → a ≠ b → (TX2 a).2.1 ≠ (TX2 b).2.1 := by decide +kernel
theorem tyX2_ok : ∀ k, k < 14 → parseFieldDescriptor (TX2 k).2.2.1 = some (tyX2 k) := by decide +kernel
abbrev cX2_init : ByteArray := prog_4_method_1_code
def yX2_init : MethodName := ⟨RX2, "<init>", "()V"⟩
abbrev cX2_addMachine : ByteArray := prog_4_method_2_code
def yX2_addMachine : MethodName := ⟨RX2, "addMachine", "(II)I"⟩
abbrev cX2_addPiece : ByteArray := prog_4_method_3_code
def yX2_addPiece : MethodName := ⟨RX2, "addPiece", "(I)I"⟩
abbrev cX2_addStep : ByteArray := prog_4_method_4_code
def yX2_addStep : MethodName := ⟨RX2, "addStep", "(III)I"⟩
abbrev cX2_isSimple : ByteArray := prog_4_method_5_code
def yX2_isSimple : MethodName := ⟨RX2, "isSimple", "()Z"⟩
abbrev cX2_allSpans : ByteArray := prog_4_method_6_code
def yX2_allSpans : MethodName := ⟨RX2, "allSpans", "()I"⟩
abbrev cX2_behindInPiece : ByteArray := prog_4_method_7_code
def yX2_behindInPiece : MethodName := ⟨RX2, "behindInPiece", "(I)I"⟩
abbrev cX2_spansAhead : ByteArray := prog_4_method_8_code
def yX2_spansAhead : MethodName := ⟨RX2, "spansAhead", "(I)I"⟩
abbrev cX2_spansBehind : ByteArray := prog_4_method_9_code
def yX2_spansBehind : MethodName := ⟨RX2, "spansBehind", "(I)I"⟩
def RX3 : String := "JoineryFloor$Orders"
def TX3 : u_T := fun k => match k with
  | 0 => ("JoineryFloor$Orders", "rows", "[[I", true)
  | _ => ("JoineryFloor$Orders", "size", "[I", true)
def tyX3 : Nat → FieldType := fun k => match k with
  | 0 => .array (.array .int)
  | _ => .array .int
theorem nmX3 : ∀ a, a < 2 → ∀ b, b < 2 → a ≠ b → (TX3 a).2.1 ≠ (TX3 b).2.1 := by decide +kernel
theorem tyX3_ok : ∀ k, k < 2 → parseFieldDescriptor (TX3 k).2.2.1 = some (tyX3 k) := by decide +kernel
abbrev cX3_init : ByteArray := prog_5_method_1_code
def yX3_init : MethodName := ⟨RX3, "<init>", "()V"⟩
abbrev cX3_clear : ByteArray := prog_5_method_2_code
def yX3_clear : MethodName := ⟨RX3, "clear", "()V"⟩
abbrev cX3_append : ByteArray := prog_5_method_3_code
def yX3_append : MethodName := ⟨RX3, "append", "(II)V"⟩
abbrev cX3_exchange : ByteArray := prog_5_method_4_code
def yX3_exchange : MethodName := ⟨RX3, "exchange", "(II)V"⟩
abbrev cX3_move : ByteArray := prog_5_method_5_code
def yX3_move : MethodName := ⟨RX3, "move", "(III)V"⟩
abbrev cX3_placeOf : ByteArray := prog_5_method_6_code
def yX3_placeOf : MethodName := ⟨RX3, "placeOf", "(II)I"⟩
abbrev cX3_takeFrom : ByteArray := prog_5_method_7_code
def yX3_takeFrom : MethodName := ⟨RX3, "takeFrom", "(LJoineryFloor$Orders;)V"⟩
def RX4 : String := "JoineryFloor$Search"
def TX4 : u_T := fun k => match k with
  | 0 => ("JoineryFloor$Search", "best", "I", false)
  | 1 => ("JoineryFloor$Search", "cases", "I", false)
  | 2 => ("JoineryFloor$Search", "finds", "I", false)
  | 3 => ("JoineryFloor$Search", "waits", "I", false)
  | 4 => ("JoineryFloor$Search", "waiting", "[[I", true)
  | 5 => ("JoineryFloor$Search", "windows", "LJoineryFloor$Windows;", true)
  | 6 => ("JoineryFloor$Search", "tried", "LJoineryFloor$Orders;", true)
  | _ => ("JoineryFloor$Search", "day", "LJoineryFloor$Day;", true)
def tyX4 : Nat → FieldType := fun k => match k with
  | 0 => .int
  | 1 => .int
  | 2 => .int
  | 3 => .int
  | 4 => .array (.array .int)
  | 5 => .object "JoineryFloor$Windows"
  | 6 => .object "JoineryFloor$Orders"
  | _ => .object "JoineryFloor$Day"
theorem nmX4 : ∀ a, a < 8 → ∀ b, b < 8 → a ≠ b → (TX4 a).2.1 ≠ (TX4 b).2.1 := by decide +kernel
theorem tyX4_ok : ∀ k, k < 8 → parseFieldDescriptor (TX4 k).2.2.1 = some (tyX4 k) := by decide +kernel
abbrev cX4_init : ByteArray := prog_6_method_1_code
def yX4_init : MethodName := ⟨RX4, "<init>", "()V"⟩
abbrev cX4_seek : ByteArray := prog_6_method_2_code
def yX4_seek : MethodName := ⟨RX4, "seek", "(LJoineryFloor$Floor;LJoineryFloor$Orders;I)Z"⟩
abbrev cX4_splitCase : ByteArray := prog_6_method_3_code
def yX4_splitCase : MethodName := ⟨RX4, "splitCase", "(LJoineryFloor$Floor;)Z"⟩
abbrev cX4_addCase : ByteArray := prog_6_method_4_code
def yX4_addCase : MethodName := ⟨RX4, "addCase", "(II)V"⟩
abbrev cX4_tryOrders : ByteArray := prog_6_method_5_code
def yX4_tryOrders : MethodName := ⟨RX4, "tryOrders", "(LJoineryFloor$Floor;LJoineryFloor$Orders;)V"⟩
abbrev cX4_orderMachine : ByteArray := prog_6_method_6_code
def yX4_orderMachine : MethodName := ⟨RX4, "orderMachine", "(LJoineryFloor$Floor;I)V"⟩
abbrev cX4_aheadOf : ByteArray := prog_6_method_7_code
def yX4_aheadOf : MethodName := ⟨RX4, "aheadOf", "(LJoineryFloor$Floor;I)I"⟩
def RX5 : String := "JoineryFloor$Sheets"
def TX5 : u_T := fun k => match k with
  | 0 => ("JoineryFloor$Sheets", "form", "[I", true)
  | 1 => ("JoineryFloor$Sheets", "size", "[I", true)
  | 2 => ("JoineryFloor$Sheets", "places", "[[I", true)
  | _ => ("JoineryFloor$Sheets", "code", "I", false)
def tyX5 : Nat → FieldType := fun k => match k with
  | 0 => .array .int
  | 1 => .array .int
  | 2 => .array (.array .int)
  | _ => .int
theorem nmX5 : ∀ a, a < 4 → ∀ b, b < 4 → a ≠ b → (TX5 a).2.1 ≠ (TX5 b).2.1 := by decide +kernel
theorem tyX5_ok : ∀ k, k < 4 → parseFieldDescriptor (TX5 k).2.2.1 = some (tyX5 k) := by decide +kernel
abbrev cX5_init : ByteArray := prog_7_method_1_code
def yX5_init : MethodName := ⟨RX5, "<init>", "()V"⟩
abbrev cX5_cutTo : ByteArray := prog_7_method_2_code
def yX5_cutTo : MethodName := ⟨RX5, "cutTo", "(II)I"⟩
abbrev cX5_make : ByteArray := prog_7_method_3_code
def yX5_make : MethodName := ⟨RX5, "make", "(III)V"⟩
abbrev cX5_remove : ByteArray := prog_7_method_4_code
def yX5_remove : MethodName := ⟨RX5, "remove", "(I)V"⟩
abbrev cX5_isThere : ByteArray := prog_7_method_5_code
def yX5_isThere : MethodName := ⟨RX5, "isThere", "(I)Z"⟩
abbrev cX5_codeOfPlace : ByteArray := prog_7_method_6_code
def yX5_codeOfPlace : MethodName := ⟨RX5, "codeOfPlace", "(II)I"⟩
abbrev cX5_codeOfPut : ByteArray := prog_7_method_7_code
def yX5_codeOfPut : MethodName := ⟨RX5, "codeOfPut", "(III)I"⟩
abbrev cX5_codeOfCopy : ByteArray := prog_7_method_8_code
def yX5_codeOfCopy : MethodName := ⟨RX5, "codeOfCopy", "(IIIII)I"⟩
abbrev cX5_hasPlaces : ByteArray := prog_7_method_9_code
def yX5_hasPlaces : MethodName := ⟨RX5, "hasPlaces", "(III)Z"⟩
abbrev cX5_codeOfRead : ByteArray := prog_7_method_10_code
def yX5_codeOfRead : MethodName := ⟨RX5, "codeOfRead", "(I)I"⟩
def RX6 : String := "JoineryFloor$Windows"
def TX6 : u_T := fun k => match k with
  | 0 => ("JoineryFloor$Windows", "head", "[I", true)
  | 1 => ("JoineryFloor$Windows", "dead", "[I", true)
  | 2 => ("JoineryFloor$Windows", "ahead", "[I", true)
  | 3 => ("JoineryFloor$Windows", "steps", "I", false)
  | 4 => ("JoineryFloor$Windows", "changed", "Z", false)
  | _ => ("JoineryFloor$Windows", "burst", "Z", false)
def tyX6 : Nat → FieldType := fun k => match k with
  | 0 => .array .int
  | 1 => .array .int
  | 2 => .array .int
  | 3 => .int
  | 4 => .boolean
  | _ => .boolean
theorem nmX6 : ∀ a, a < 6 → ∀ b, b < 6 → a ≠ b → (TX6 a).2.1 ≠ (TX6 b).2.1 := by decide +kernel
theorem tyX6_ok : ∀ k, k < 6 → parseFieldDescriptor (TX6 k).2.2.1 = some (tyX6 k) := by decide +kernel
abbrev cX6_init : ByteArray := prog_8_method_1_code
def yX6_init : MethodName := ⟨RX6, "<init>", "()V"⟩
abbrev cX6_narrow : ByteArray := prog_8_method_2_code
def yX6_narrow : MethodName := ⟨RX6, "narrow", "(LJoineryFloor$Floor;I)Z"⟩
abbrev cX6_isAhead : ByteArray := prog_8_method_3_code
def yX6_isAhead : MethodName := ⟨RX6, "isAhead", "(II)Z"⟩
abbrev cX6_isOpen : ByteArray := prog_8_method_4_code
def yX6_isOpen : MethodName := ⟨RX6, "isOpen", "(II)Z"⟩
abbrev cX6_lookForBurst : ByteArray := prog_8_method_5_code
def yX6_lookForBurst : MethodName := ⟨RX6, "lookForBurst", "(LJoineryFloor$Floor;)V"⟩
abbrev cX6_raise : ByteArray := prog_8_method_6_code
def yX6_raise : MethodName := ⟨RX6, "raise", "(II)V"⟩
abbrev cX6_lower : ByteArray := prog_8_method_7_code
def yX6_lower : MethodName := ⟨RX6, "lower", "(II)V"⟩
abbrev cX6_alongPieces : ByteArray := prog_8_method_8_code
def yX6_alongPieces : MethodName := ⟨RX6, "alongPieces", "(LJoineryFloor$Floor;)V"⟩
abbrev cX6_alongPairs : ByteArray := prog_8_method_9_code
def yX6_alongPairs : MethodName := ⟨RX6, "alongPairs", "(LJoineryFloor$Floor;)V"⟩
abbrev cX6_tellPairs : ByteArray := prog_8_method_10_code
def yX6_tellPairs : MethodName := ⟨RX6, "tellPairs", "(LJoineryFloor$Floor;)V"⟩
abbrev cX6_tellPair : ByteArray := prog_8_method_11_code
def yX6_tellPair : MethodName := ⟨RX6, "tellPair", "(LJoineryFloor$Floor;II)V"⟩
abbrev cX6_tellAhead : ByteArray := prog_8_method_12_code
def yX6_tellAhead : MethodName := ⟨RX6, "tellAhead", "(II)V"⟩
abbrev cX6_closeSets : ByteArray := prog_8_method_13_code
def yX6_closeSets : MethodName := ⟨RX6, "closeSets", "(LJoineryFloor$Floor;)V"⟩
abbrev cX6_closeSet : ByteArray := prog_8_method_14_code
def yX6_closeSet : MethodName := ⟨RX6, "closeSet", "(LJoineryFloor$Floor;III)V"⟩
abbrev cX6_keepOff : ByteArray := prog_8_method_15_code
def yX6_keepOff : MethodName := ⟨RX6, "keepOff", "(IIIII)V"⟩
def RX7 : String := "JoineryFloor"
def TX7 : u_T := fun k => match k with
  | 0 => ("JoineryFloor", "floor", "LJoineryFloor$Floor;", true)
  | 1 => ("JoineryFloor", "orders", "LJoineryFloor$Orders;", true)
  | 2 => ("JoineryFloor", "sheets", "LJoineryFloor$Sheets;", true)
  | 3 => ("JoineryFloor", "day", "LJoineryFloor$Day;", true)
  | 4 => ("JoineryFloor", "trial", "LJoineryFloor$Day;", true)
  | 5 => ("JoineryFloor", "asked", "LJoineryFloor$Windows;", true)
  | 6 => ("JoineryFloor", "bounds", "LJoineryFloor$Bounds;", true)
  | 7 => ("JoineryFloor", "search", "LJoineryFloor$Search;", true)
  | 8 => ("JoineryFloor", "repaired", "LJoineryFloor$Day;", true)
  | _ => ("JoineryFloor", "repairedSteps", "I", false)
def tyX7 : Nat → FieldType := fun k => match k with
  | 0 => .object "JoineryFloor$Floor"
  | 1 => .object "JoineryFloor$Orders"
  | 2 => .object "JoineryFloor$Sheets"
  | 3 => .object "JoineryFloor$Day"
  | 4 => .object "JoineryFloor$Day"
  | 5 => .object "JoineryFloor$Windows"
  | 6 => .object "JoineryFloor$Bounds"
  | 7 => .object "JoineryFloor$Search"
  | 8 => .object "JoineryFloor$Day"
  | _ => .int
theorem nmX7 : ∀ a, a < 10 → ∀ b, b < 10 → a ≠ b → (TX7 a).2.1 ≠ (TX7 b).2.1 := by decide +kernel
theorem tyX7_ok : ∀ k, k < 10 → parseFieldDescriptor (TX7 k).2.2.1 = some (tyX7 k) := by decide +kernel
abbrev cX7_init : ByteArray := prog_1_method_1_code
def yX7_init : MethodName := ⟨RX7, "<init>", "()V"⟩
abbrev cX7_machine : ByteArray := prog_1_method_2_code
def yX7_machine : MethodName := ⟨RX7, "machine", "(II)I"⟩
abbrev cX7_piece : ByteArray := prog_1_method_3_code
def yX7_piece : MethodName := ⟨RX7, "piece", "(I)I"⟩
abbrev cX7_step : ByteArray := prog_1_method_4_code
def yX7_step : MethodName := ⟨RX7, "step", "(III)I"⟩
abbrev cX7_told : ByteArray := prog_1_method_5_code
def yX7_told : MethodName := ⟨RX7, "told", "(II)I"⟩
abbrev cX7_count : ByteArray := prog_1_method_6_code
def yX7_count : MethodName := ⟨RX7, "count", "(I)I"⟩
abbrev cX7_sheet : ByteArray := prog_1_method_7_code
def yX7_sheet : MethodName := ⟨RX7, "sheet", "(III)I"⟩
abbrev cX7_tear : ByteArray := prog_1_method_8_code
def yX7_tear : MethodName := ⟨RX7, "tear", "(I)I"⟩
abbrev cX7_put : ByteArray := prog_1_method_9_code
def yX7_put : MethodName := ⟨RX7, "put", "(IIII)I"⟩
abbrev cX7_at : ByteArray := prog_1_method_10_code
def yX7_at : MethodName := ⟨RX7, "at", "(II)I"⟩
abbrev cX7_copy : ByteArray := prog_1_method_11_code
def yX7_copy : MethodName := ⟨RX7, "copy", "(IIIII)I"⟩
abbrev cX7_read : ByteArray := prog_1_method_12_code
def yX7_read : MethodName := ⟨RX7, "read", "(II)I"⟩
abbrev cX7_code : ByteArray := prog_1_method_13_code
def yX7_code : MethodName := ⟨RX7, "code", "()I"⟩
abbrev cX7_swap : ByteArray := prog_1_method_14_code
def yX7_swap : MethodName := ⟨RX7, "swap", "(II)I"⟩
abbrev cX7_lay : ByteArray := prog_1_method_15_code
def yX7_lay : MethodName := ⟨RX7, "lay", "(II)I"⟩
abbrev cX7_end : ByteArray := prog_1_method_16_code
def yX7_end : MethodName := ⟨RX7, "end", "()I"⟩
abbrev cX7_begin : ByteArray := prog_1_method_17_code
def yX7_begin : MethodName := ⟨RX7, "begin", "(I)I"⟩
abbrev cX7_tail : ByteArray := prog_1_method_18_code
def yX7_tail : MethodName := ⟨RX7, "tail", "(II)I"⟩
abbrev cX7_row : ByteArray := prog_1_method_19_code
def yX7_row : MethodName := ⟨RX7, "row", "(I)I"⟩
abbrev cX7_rule : ByteArray := prog_1_method_20_code
def yX7_rule : MethodName := ⟨RX7, "rule", "(I)I"⟩
abbrev cX7_better : ByteArray := prog_1_method_21_code
def yX7_better : MethodName := ⟨RX7, "better", "(I)I"⟩
abbrev cX7_windows : ByteArray := prog_1_method_22_code
def yX7_windows : MethodName := ⟨RX7, "windows", "(I)I"⟩
abbrev cX7_window : ByteArray := prog_1_method_23_code
def yX7_window : MethodName := ⟨RX7, "window", "(II)I"⟩
abbrev cX7_must : ByteArray := prog_1_method_24_code
def yX7_must : MethodName := ⟨RX7, "must", "(II)I"⟩
abbrev cX7_bound : ByteArray := prog_1_method_25_code
def yX7_bound : MethodName := ⟨RX7, "bound", "(II)I"⟩
abbrev cX7_least : ByteArray := prog_1_method_26_code
def yX7_least : MethodName := ⟨RX7, "least", "(I)I"⟩
abbrev cX7_found : ByteArray := prog_1_method_27_code
def yX7_found : MethodName := ⟨RX7, "found", "(I)I"⟩
abbrev cX7_fail : ByteArray := prog_1_method_28_code
def yX7_fail : MethodName := ⟨RX7, "fail", "(III)I"⟩
abbrev cX7_mended : ByteArray := prog_1_method_29_code
def yX7_mended : MethodName := ⟨RX7, "mended", "(II)I"⟩
abbrev cX7_isOut : ByteArray := prog_1_method_30_code
def yX7_isOut : MethodName := ⟨RX7, "isOut", "(III)Z"⟩
abbrev cX7_isMachine : ByteArray := prog_1_method_31_code
def yX7_isMachine : MethodName := ⟨RX7, "isMachine", "(I)Z"⟩
abbrev cX7_isStep : ByteArray := prog_1_method_32_code
def yX7_isStep : MethodName := ⟨RX7, "isStep", "(I)Z"⟩
abbrev cX7_isSheet : ByteArray := prog_1_method_33_code
def yX7_isSheet : MethodName := ⟨RX7, "isSheet", "(I)Z"⟩
abbrev cX7_addStep : ByteArray := prog_1_method_34_code
def yX7_addStep : MethodName := ⟨RX7, "addStep", "(III)I"⟩
abbrev cX7_holdsSteps : ByteArray := prog_1_method_35_code
def yX7_holdsSteps : MethodName := ⟨RX7, "holdsSteps", "([II)Z"⟩
abbrev cX7_addPieceBy : ByteArray := prog_1_method_36_code
def yX7_addPieceBy : MethodName := ⟨RX7, "addPieceBy", "(I[II)I"⟩
abbrev cX7_hasTails : ByteArray := prog_1_method_37_code
def yX7_hasTails : MethodName := ⟨RX7, "hasTails", "()Z"⟩
abbrev cX7_pickBy : ByteArray := prog_1_method_38_code
def yX7_pickBy : MethodName := ⟨RX7, "pickBy", "(I)I"⟩
abbrev cX7_rankBy : ByteArray := prog_1_method_39_code
def yX7_rankBy : MethodName := ⟨RX7, "rankBy", "(II)I"⟩
abbrev cX7_shorten : ByteArray := prog_1_method_40_code
def yX7_shorten : MethodName := ⟨RX7, "shorten", "()Z"⟩
abbrev cX7_isTight : ByteArray := prog_1_method_41_code
def yX7_isTight : MethodName := ⟨RX7, "isTight", "(II)Z"⟩
abbrev cX7_endBySwap : ByteArray := prog_1_method_42_code
def yX7_endBySwap : MethodName := ⟨RX7, "endBySwap", "(II)I"⟩
abbrev cX7_stays : ByteArray := prog_1_method_43_code
def yX7_stays : MethodName := ⟨RX7, "stays", "(III)Z"⟩
def RX8 : String := "JoineryFloorModel"
def TX8 : u_T := fun k => match k with
  | 0 => ("JoineryFloorModel", "kinds", "[I", true)
  | 1 => ("JoineryFloorModel", "withs", "[I", true)
  | 2 => ("JoineryFloorModel", "machines", "I", false)
  | 3 => ("JoineryFloorModel", "sorts", "[I", true)
  | 4 => ("JoineryFloorModel", "stepMany", "[I", true)
  | 5 => ("JoineryFloorModel", "stepRow", "[I", true)
  | 6 => ("JoineryFloorModel", "pieces", "I", false)
  | 7 => ("JoineryFloorModel", "pieceOf", "[I", true)
  | 8 => ("JoineryFloorModel", "machineOf", "[I", true)
  | 9 => ("JoineryFloorModel", "spans", "[I", true)
  | 10 => ("JoineryFloorModel", "which", "[I", true)
  | 11 => ("JoineryFloorModel", "steps", "I", false)
  | 12 => ("JoineryFloorModel", "order", "[I", true)
  | 13 => ("JoineryFloorModel", "orderMany", "[I", true)
  | 14 => ("JoineryFloorModel", "code", "I", false)
  | 15 => ("JoineryFloorModel", "sheetSize", "[I", true)
  | 16 => ("JoineryFloorModel", "sheetForm", "[I", true)
  | 17 => ("JoineryFloorModel", "sheets", "[I", true)
  | 18 => ("JoineryFloorModel", "held", "[I", true)
  | 19 => ("JoineryFloorModel", "begins", "[I", true)
  | 20 => ("JoineryFloorModel", "isSet", "[Z", true)
  | 21 => ("JoineryFloorModel", "end", "I", false)
  | 22 => ("JoineryFloorModel", "ends", "[I", true)
  | 23 => ("JoineryFloorModel", "tails", "[I", true)
  | 24 => ("JoineryFloorModel", "may", "[Z", true)
  | 25 => ("JoineryFloorModel", "heads", "[I", true)
  | 26 => ("JoineryFloorModel", "deads", "[I", true)
  | 27 => ("JoineryFloorModel", "aheads", "[I", true)
  | 28 => ("JoineryFloorModel", "hasChanged", "Z", false)
  | 29 => ("JoineryFloorModel", "hasBurst", "Z", false)
  | 30 => ("JoineryFloorModel", "isAsked", "Z", false)
  | 31 => ("JoineryFloorModel", "askedSteps", "I", false)
  | 32 => ("JoineryFloorModel", "toldHeads", "[I", true)
  | 33 => ("JoineryFloorModel", "toldDeads", "[I", true)
  | 34 => ("JoineryFloorModel", "toldAheads", "[I", true)
  | 35 => ("JoineryFloorModel", "mine", "[I", true)
  | 36 => ("JoineryFloorModel", "mineMany", "I", false)
  | 37 => ("JoineryFloorModel", "firsts", "[I", true)
  | 38 => ("JoineryFloorModel", "lasts", "[I", true)
  | 39 => ("JoineryFloorModel", "left", "[I", true)
  | 40 => ("JoineryFloorModel", "tried", "[I", true)
  | 41 => ("JoineryFloorModel", "ended", "[I", true)
  | 42 => ("JoineryFloorModel", "tops", "[I", true)
  | 43 => ("JoineryFloorModel", "pile", "[I", true)
  | 44 => ("JoineryFloorModel", "piled", "I", false)
  | 45 => ("JoineryFloorModel", "best", "I", false)
  | 46 => ("JoineryFloorModel", "cases", "I", false)
  | 47 => ("JoineryFloorModel", "found", "I", false)
  | 48 => ("JoineryFloorModel", "kept", "[I", true)
  | 49 => ("JoineryFloorModel", "isMended", "Z", false)
  | 50 => ("JoineryFloorModel", "mendedSteps", "I", false)
  | 51 => ("JoineryFloorModel", "mends", "[I", true)
  | _ => ("JoineryFloorModel", "stays", "[Z", true)
def tyX8 : Nat → FieldType := fun k => match k with
  | 0 => .array .int
  | 1 => .array .int
  | 2 => .int
  | 3 => .array .int
  | 4 => .array .int
  | 5 => .array .int
  | 6 => .int
  | 7 => .array .int
  | 8 => .array .int
  | 9 => .array .int
  | 10 => .array .int
  | 11 => .int
  | 12 => .array .int
  | 13 => .array .int
  | 14 => .int
  | 15 => .array .int
  | 16 => .array .int
  | 17 => .array .int
  | 18 => .array .int
  | 19 => .array .int
  | 20 => .array .boolean
  | 21 => .int
  | 22 => .array .int
  | 23 => .array .int
  | 24 => .array .boolean
  | 25 => .array .int
  | 26 => .array .int
  | 27 => .array .int
  | 28 => .boolean
  | 29 => .boolean
  | 30 => .boolean
  | 31 => .int
  | 32 => .array .int
  | 33 => .array .int
  | 34 => .array .int
  | 35 => .array .int
  | 36 => .int
  | 37 => .array .int
  | 38 => .array .int
  | 39 => .array .int
  | 40 => .array .int
  | 41 => .array .int
  | 42 => .array .int
  | 43 => .array .int
  | 44 => .int
  | 45 => .int
  | 46 => .int
  | 47 => .int
  | 48 => .array .int
  | 49 => .boolean
  | 50 => .int
  | 51 => .array .int
  | _ => .array .boolean
theorem nmX8 : ∀ a, a < 53 → ∀ b, b < 53 → a ≠ b → (TX8 a).2.1 ≠ (TX8 b).2.1 := by decide +kernel
theorem tyX8_ok : ∀ k, k < 53 → parseFieldDescriptor (TX8 k).2.2.1 = some (tyX8 k) := by decide +kernel
abbrev cX8_init : ByteArray := prog_10_method_1_code
def yX8_init : MethodName := ⟨RX8, "<init>", "()V"⟩
abbrev cX8_in : ByteArray := prog_10_method_3_code
def yX8_in : MethodName := ⟨RX8, "in", "(JJJ)Z"⟩
abbrev cX8_machine : ByteArray := prog_10_method_4_code
def yX8_machine : MethodName := ⟨RX8, "machine", "(II)I"⟩
abbrev cX8_piece : ByteArray := prog_10_method_5_code
def yX8_piece : MethodName := ⟨RX8, "piece", "(I)I"⟩
abbrev cX8_more : ByteArray := prog_10_method_6_code
def yX8_more : MethodName := ⟨RX8, "more", "(III)I"⟩
abbrev cX8_step : ByteArray := prog_10_method_7_code
def yX8_step : MethodName := ⟨RX8, "step", "(III)I"⟩
abbrev cX8_isStep : ByteArray := prog_10_method_8_code
def yX8_isStep : MethodName := ⟨RX8, "isStep", "(I)Z"⟩
abbrev cX8_placeOf : ByteArray := prog_10_method_9_code
def yX8_placeOf : MethodName := ⟨RX8, "placeOf", "(I)I"⟩
abbrev cX8_told : ByteArray := prog_10_method_10_code
def yX8_told : MethodName := ⟨RX8, "told", "(II)I"⟩
abbrev cX8_isSimple : ByteArray := prog_10_method_11_code
def yX8_isSimple : MethodName := ⟨RX8, "isSimple", "()Z"⟩
abbrev cX8_sumOfSpans : ByteArray := prog_10_method_12_code
def yX8_sumOfSpans : MethodName := ⟨RX8, "sumOfSpans", "()I"⟩
abbrev cX8_count : ByteArray := prog_10_method_13_code
def yX8_count : MethodName := ⟨RX8, "count", "(I)I"⟩
abbrev cX8_isSheet : ByteArray := prog_10_method_14_code
def yX8_isSheet : MethodName := ⟨RX8, "isSheet", "(I)Z"⟩
abbrev cX8_sheet : ByteArray := prog_10_method_15_code
def yX8_sheet : MethodName := ⟨RX8, "sheet", "(III)I"⟩
abbrev cX8_tear : ByteArray := prog_10_method_16_code
def yX8_tear : MethodName := ⟨RX8, "tear", "(I)I"⟩
abbrev cX8_put : ByteArray := prog_10_method_17_code
def yX8_put : MethodName := ⟨RX8, "put", "(IIII)I"⟩
abbrev cX8_at : ByteArray := prog_10_method_18_code
def yX8_at : MethodName := ⟨RX8, "at", "(II)I"⟩
abbrev cX8_copy : ByteArray := prog_10_method_19_code
def yX8_copy : MethodName := ⟨RX8, "copy", "(IIIII)I"⟩
abbrev cX8_read : ByteArray := prog_10_method_20_code
def yX8_read : MethodName := ⟨RX8, "read", "(II)I"⟩
abbrev cX8_code : ByteArray := prog_10_method_21_code
def yX8_code : MethodName := ⟨RX8, "code", "()I"⟩
abbrev cX8_ahead : ByteArray := prog_10_method_22_code
def yX8_ahead : MethodName := ⟨RX8, "ahead", "(I)I"⟩
abbrev cX8_behind : ByteArray := prog_10_method_23_code
def yX8_behind : MethodName := ⟨RX8, "behind", "(I)I"⟩
abbrev cX8_fromOrder : ByteArray := prog_10_method_24_code
def yX8_fromOrder : MethodName := ⟨RX8, "fromOrder", "(III)I"⟩
abbrev cX8_isReady : ByteArray := prog_10_method_25_code
def yX8_isReady : MethodName := ⟨RX8, "isReady", "(I)Z"⟩
abbrev cX8_work : ByteArray := prog_10_method_26_code
def yX8_work : MethodName := ⟨RX8, "work", "()Z"⟩
abbrev cX8_exchange : ByteArray := prog_10_method_27_code
def yX8_exchange : MethodName := ⟨RX8, "exchange", "(II)V"⟩
abbrev cX8_swap : ByteArray := prog_10_method_28_code
def yX8_swap : MethodName := ⟨RX8, "swap", "(II)I"⟩
abbrev cX8_lay : ByteArray := prog_10_method_29_code
def yX8_lay : MethodName := ⟨RX8, "lay", "(II)I"⟩
abbrev cX8_end : ByteArray := prog_10_method_30_code
def yX8_end : MethodName := ⟨RX8, "end", "()I"⟩
abbrev cX8_begin : ByteArray := prog_10_method_31_code
def yX8_begin : MethodName := ⟨RX8, "begin", "(I)I"⟩
abbrev cX8_next : ByteArray := prog_10_method_32_code
def yX8_next : MethodName := ⟨RX8, "next", "(I)I"⟩
abbrev cX8_workTails : ByteArray := prog_10_method_33_code
def yX8_workTails : MethodName := ⟨RX8, "workTails", "()V"⟩
abbrev cX8_hasTails : ByteArray := prog_10_method_34_code
def yX8_hasTails : MethodName := ⟨RX8, "hasTails", "()Z"⟩
abbrev cX8_slack : ByteArray := prog_10_method_35_code
def yX8_slack : MethodName := ⟨RX8, "slack", "(I)I"⟩
abbrev cX8_tail : ByteArray := prog_10_method_36_code
def yX8_tail : MethodName := ⟨RX8, "tail", "(II)I"⟩
abbrev cX8_isNext : ByteArray := prog_10_method_37_code
def yX8_isNext : MethodName := ⟨RX8, "isNext", "(II)Z"⟩
abbrev cX8_row : ByteArray := prog_10_method_38_code
def yX8_row : MethodName := ⟨RX8, "row", "(I)I"⟩
abbrev cX8_rule : ByteArray := prog_10_method_39_code
def yX8_rule : MethodName := ⟨RX8, "rule", "(I)I"⟩
abbrev cX8_first : ByteArray := prog_10_method_40_code
def yX8_first : MethodName := ⟨RX8, "first", "(I)I"⟩
abbrev cX8_early : ByteArray := prog_10_method_41_code
def yX8_early : MethodName := ⟨RX8, "early", "(I)I"⟩
abbrev cX8_rest : ByteArray := prog_10_method_42_code
def yX8_rest : MethodName := ⟨RX8, "rest", "(I)I"⟩
abbrev cX8_better : ByteArray := prog_10_method_43_code
def yX8_better : MethodName := ⟨RX8, "better", "(I)I"⟩
abbrev cX8_swapBest : ByteArray := prog_10_method_44_code
def yX8_swapBest : MethodName := ⟨RX8, "swapBest", "()Z"⟩
abbrev cX8_isAhead : ByteArray := prog_10_method_45_code
def yX8_isAhead : MethodName := ⟨RX8, "isAhead", "(II)Z"⟩
abbrev cX8_tell : ByteArray := prog_10_method_46_code
def yX8_tell : MethodName := ⟨RX8, "tell", "(II)V"⟩
abbrev cX8_head : ByteArray := prog_10_method_47_code
def yX8_head : MethodName := ⟨RX8, "head", "(II)V"⟩
abbrev cX8_dead : ByteArray := prog_10_method_48_code
def yX8_dead : MethodName := ⟨RX8, "dead", "(II)V"⟩
abbrev cX8_ask : ByteArray := prog_10_method_49_code
def yX8_ask : MethodName := ⟨RX8, "ask", "()V"⟩
abbrev cX8_byPieces : ByteArray := prog_10_method_50_code
def yX8_byPieces : MethodName := ⟨RX8, "byPieces", "()V"⟩
abbrev cX8_byAhead : ByteArray := prog_10_method_51_code
def yX8_byAhead : MethodName := ⟨RX8, "byAhead", "()V"⟩
abbrev cX8_isOn : ByteArray := prog_10_method_52_code
def yX8_isOn : MethodName := ⟨RX8, "isOn", "(II)Z"⟩
abbrev cX8_byPairs : ByteArray := prog_10_method_53_code
def yX8_byPairs : MethodName := ⟨RX8, "byPairs", "(I)V"⟩
abbrev cX8_bySets : ByteArray := prog_10_method_54_code
def yX8_bySets : MethodName := ⟨RX8, "bySets", "(I)V"⟩
abbrev cX8_bySet : ByteArray := prog_10_method_55_code
def yX8_bySet : MethodName := ⟨RX8, "bySet", "(III)V"⟩
abbrev cX8_asks : ByteArray := prog_10_method_56_code
def yX8_asks : MethodName := ⟨RX8, "asks", "(I)Z"⟩
abbrev cX8_windows : ByteArray := prog_10_method_57_code
def yX8_windows : MethodName := ⟨RX8, "windows", "(I)I"⟩
abbrev cX8_window : ByteArray := prog_10_method_58_code
def yX8_window : MethodName := ⟨RX8, "window", "(II)I"⟩
abbrev cX8_must : ByteArray := prog_10_method_59_code
def yX8_must : MethodName := ⟨RX8, "must", "(II)I"⟩
abbrev cX8_gather : ByteArray := prog_10_method_60_code
def yX8_gather : MethodName := ⟨RX8, "gather", "(I)V"⟩
abbrev cX8_cutBound : ByteArray := prog_10_method_61_code
def yX8_cutBound : MethodName := ⟨RX8, "cutBound", "()I"⟩
abbrev cX8_wholeBound : ByteArray := prog_10_method_62_code
def yX8_wholeBound : MethodName := ⟨RX8, "wholeBound", "()I"⟩
abbrev cX8_bound : ByteArray := prog_10_method_63_code
def yX8_bound : MethodName := ⟨RX8, "bound", "(II)I"⟩
abbrev cX8_pushCase : ByteArray := prog_10_method_64_code
def yX8_pushCase : MethodName := ⟨RX8, "pushCase", "()V"⟩
abbrev cX8_popCase : ByteArray := prog_10_method_65_code
def yX8_popCase : MethodName := ⟨RX8, "popCase", "()V"⟩
abbrev cX8_complete : ByteArray := prog_10_method_66_code
def yX8_complete : MethodName := ⟨RX8, "complete", "()V"⟩
abbrev cX8_aheadOf : ByteArray := prog_10_method_67_code
def yX8_aheadOf : MethodName := ⟨RX8, "aheadOf", "(I)I"⟩
abbrev cX8_arrange : ByteArray := prog_10_method_68_code
def yX8_arrange : MethodName := ⟨RX8, "arrange", "(I)V"⟩
abbrev cX8_parts : ByteArray := prog_10_method_69_code
def yX8_parts : MethodName := ⟨RX8, "parts", "()Z"⟩
abbrev cX8_least : ByteArray := prog_10_method_70_code
def yX8_least : MethodName := ⟨RX8, "least", "(I)I"⟩
abbrev cX8_found : ByteArray := prog_10_method_71_code
def yX8_found : MethodName := ⟨RX8, "found", "(I)I"⟩
abbrev cX8_fail : ByteArray := prog_10_method_72_code
def yX8_fail : MethodName := ⟨RX8, "fail", "(III)I"⟩
abbrev cX8_mended : ByteArray := prog_10_method_73_code
def yX8_mended : MethodName := ⟨RX8, "mended", "(II)I"⟩
def RJ6 : String := "java/lang/Integer"
def TJ6 : u_T := fun k => match k with
  | _ => ("", "", "", false)
def tyJ6 : Nat → FieldType := fun k => match k with
  | _ => .int
theorem nmJ6 : ∀ a, a < 0 → ∀ b, b < 0 → a ≠ b → (TJ6 a).2.1 ≠ (TJ6 b).2.1 := by decide +kernel
theorem tyJ6_ok : ∀ k, k < 0 → parseFieldDescriptor (TJ6 k).2.2.1 = some (tyJ6 k) := by decide +kernel
abbrev cJ6_bitCount_0f7a4 : ByteArray := prog_11_method_49_code
def yJ6_bitCount_0f7a4 : MethodName := ⟨RJ6, "bitCount", "(I)I"⟩
def RJ9 : String := "java/lang/Math"
def TJ9 : u_T := fun k => match k with
  | _ => ("", "", "", false)
def tyJ9 : Nat → FieldType := fun k => match k with
  | _ => .int
theorem nmJ9 : ∀ a, a < 0 → ∀ b, b < 0 → a ≠ b → (TJ9 a).2.1 ≠ (TJ9 b).2.1 := by decide +kernel
theorem tyJ9_ok : ∀ k, k < 0 → parseFieldDescriptor (TJ9 k).2.2.1 = some (tyJ9 k) := by decide +kernel
abbrev cJ9_max_7cf53 : ByteArray := prog_12_method_65_code
def yJ9_max_7cf53 : MethodName := ⟨RJ9, "max", "(II)I"⟩
abbrev cJ9_min_7cf53 : ByteArray := prog_12_method_69_code
def yJ9_min_7cf53 : MethodName := ⟨RJ9, "min", "(II)I"⟩
def RJ10 : String := "java/lang/System"
def TJ10 : u_T := fun k => match k with
  | _ => ("", "", "", false)
def tyJ10 : Nat → FieldType := fun k => match k with
  | _ => .int
theorem nmJ10 : ∀ a, a < 0 → ∀ b, b < 0 → a ≠ b → (TJ10 a).2.1 ≠ (TJ10 b).2.1 := by decide +kernel
theorem tyJ10_ok : ∀ k, k < 0 → parseFieldDescriptor (TJ10 k).2.2.1 = some (tyJ10 k) := by decide +kernel
def RJ7 : String := "java/util/Arrays"
def TJ7 : u_T := fun k => match k with
  | _ => ("", "", "", false)
def tyJ7 : Nat → FieldType := fun k => match k with
  | _ => .int
theorem nmJ7 : ∀ a, a < 0 → ∀ b, b < 0 → a ≠ b → (TJ7 a).2.1 ≠ (TJ7 b).2.1 := by decide +kernel
theorem tyJ7_ok : ∀ k, k < 0 → parseFieldDescriptor (TJ7 k).2.2.1 = some (tyJ7 k) := by decide +kernel
abbrev cJ7_fill_53178 : ByteArray := prog_14_method_103_code
def yJ7_fill_53178 : MethodName := ⟨RJ7, "fill", "([II)V"⟩
def RL : String := "JoineryFloorLaw"
abbrev cL_law : ByteArray := code
def yL_law : MethodName := ⟨RL, "law", "([I)Z"⟩
abbrev vwCl : List vw_C := [(RX0, TX0, 5), (RX1, TX1, 11), (RX2, TX2, 14), (RX3, TX3, 2), (RX4, TX4, 8), (RX5, TX5, 4), (RX6, TX6, 6), (RX7, TX7, 10), (RX8, TX8, 53)]
