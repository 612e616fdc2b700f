def f_X7_isOut (M : JMem) (x0 : Int32) (x1 : Int32) (x2 : Int32) : Option (Int32) := (jcase (α := Int32) (β := Unit) (if x0 < x1 then some (Sum.inr ()) else (if x0 ≤ x2 then some (Sum.inl 0) else some (Sum.inr ()))) fun _ => some 1)
set_option maxHeartbeats 4000000 in
theorem c_X7_isOut {M : JMem} {x0 : Int32} {x1 : Int32} {x2 : Int32} {r : Int32} (hf : f_X7_isOut M x0 x1 x2 = some r) : jCo yX7_isOut μ_X7_isOut 1 M [.int x0, .int x1, .int x2] M (some (.int r)) := by
  refine jCt_of (by decide +kernel) rfl (by simp [Value.category]) (Nat.le_of_ble_eq_true rfl) ?_
  unfold f_X7_isOut at hf
  show jGG μ_X7_isOut 1 0 [some (.int x0), some (.int x1), some (.int x2)] [] M (fun M' r' => M' = M ∧ r' = some (.int r))
  refine g_iload_n (pc := 0) dX7_isOut_0 rfl rfl ?_
  refine g_iload_n (pc := 1) dX7_isOut_1 rfl rfl ?_
  obtain ⟨y3, hf, hy2⟩ := jcb hf
  have K4 : y3 = Sum.inr () → jGG μ_X7_isOut 1 10 [none, none, none] [] M (fun M' r' => M' = M ∧ r' = some (.int r)) := by
    intro hyy
    subst hyy
    replace hf := hy2
    refine g_iconst (pc := 10) 1 dX7_isOut_10 rfl ?_
    refine g_goto (pc := 11) 15 dX7_isOut_11 rfl ?_
    obtain rfl := Option.some.inj hf
    exact g_zret (pc := 15) dX7_isOut_15 rfl (Or.inr rfl) ⟨rfl, rfl⟩
  refine g_icmp_lt (pc := 2) 10 dX7_isOut_2 rfl (fun hc7 => ?_) (fun hc7 => ?_)
  · replace hf := jifp hc7 hf
    exact g_weakK (K4 (Option.some.inj hf).symm) trivial
  · replace hf := jifn hc7 hf
    refine g_iload_n (pc := 5) dX7_isOut_5 rfl rfl ?_
    refine g_iload_n (pc := 6) dX7_isOut_6 rfl rfl ?_
    refine g_icmp_le (pc := 7) 14 dX7_isOut_7 rfl (fun hc6 => ?_) (fun hc6 => ?_)
    · replace hf := jifp hc6 hf
      refine g_iconst (pc := 14) 0 dX7_isOut_14 rfl ?_
      obtain rfl := Option.some.inj hf
      replace hf := hy2
      obtain rfl := Option.some.inj hf
      exact g_zret (pc := 15) dX7_isOut_15 rfl (Or.inl rfl) ⟨rfl, rfl⟩
    · replace hf := jifn hc6 hf
      exact g_weakK (K4 (Option.some.inj hf).symm) trivial
def f_X7_machine (M : JMem) (x1 : Int32) (x2 : Int32) : Option (JMem × Int32) := (f_X7_isOut M x1 0 3).bind fun v1 => (if v1 = 0 then (jcase (α := JMem × Int32) (β := Unit) (if x1 = 2 then (f_X7_isOut M x2 0 100).bind fun v7 => (if v7 = 0 then some (Sum.inr ()) else some (Sum.inl (M, (-100002)))) else some (Sum.inr ())) fun _ => (jcase (α := JMem × Int32) (β := Unit) (if x1 = 3 then (f_X7_isOut M x2 1 4).bind fun v15 => (if v15 = 0 then some (Sum.inr ()) else some (Sum.inl (M, (-100002)))) else some (Sum.inr ())) fun _ => (if (M 1 0) < 8 then (f_X2_addMachine M x1 x2).bind fun (M18, v19) => some (M18, v19) else some (M, (-100004))))) else some (M, (-100002)))
set_option maxHeartbeats 4000000 in
theorem c_X7_machine {M : JMem} {x1 : Int32} {x2 : Int32} {Mz : JMem} {r : Int32} (hf : f_X7_machine M x1 x2 = some (Mz, r)) : jCo yX7_machine μ_X7_machine 2 M [.ref 0, .int x1, .int x2] Mz (some (.int r)) := by
  refine jCt_of (by decide +kernel) rfl (by simp [Value.category]) (Nat.le_of_ble_eq_true rfl) ?_
  unfold f_X7_machine at hf
  show jGG μ_X7_machine 2 0 [some (.ref 0), some (.int x1), some (.int x2)] [] M (fun M' r' => M' = Mz ∧ r' = some (.int r))
  refine g_iload_n (pc := 0) dX7_machine_0 rfl rfl ?_
  refine g_iconst (pc := 1) 0 dX7_machine_1 rfl ?_
  refine g_iconst (pc := 2) 3 dX7_machine_2 rfl ?_
  obtain ⟨v1, ev1, hf⟩ := job hf
  refine g_callS (pc := 3) [.int x1, .int 0, .int 3] [] dX7_machine_3 ml_X7_68 ck_X7_isOut cs_X7_isOut rfl (by decide) (Nat.le_of_ble_eq_true rfl) (c_X7_isOut ev1) ?_
  show jGG μ_X7_machine 2 6 [some (.ref 0), some (.int x1), some (.int x2)] [.int v1] M (fun M' r' => M' = Mz ∧ r' = some (.int r))
  refine g_if_eq (pc := 6) 12 dX7_machine_6 rfl (fun hc21 => ?_) (fun hc21 => ?_)
  · replace hf := jifp hc21 hf
    refine g_iload_n (pc := 12) dX7_machine_12 rfl rfl ?_
    refine g_iconst (pc := 13) 2 dX7_machine_13 rfl ?_
    obtain ⟨y4, hf, hy3⟩ := jcb hf
    have K5 : y4 = Sum.inr () → jGG μ_X7_machine 2 30 [some (.ref 0), some (.int x1), some (.int x2)] [] M (fun M' r' => M' = Mz ∧ r' = some (.int r)) := by
      intro hyy
      subst hyy
      replace hf := hy3
      refine g_iload_n (pc := 30) dX7_machine_30 rfl rfl ?_
      refine g_iconst (pc := 31) 3 dX7_machine_31 rfl ?_
      obtain ⟨y12, hf, hy11⟩ := jcb hf
      have K13 : y12 = Sum.inr () → jGG μ_X7_machine 2 47 [some (.ref 0), some (.int x1), some (.int x2)] [] M (fun M' r' => M' = Mz ∧ r' = some (.int r)) := by
        intro hyy
        subst hyy
        replace hf := hy11
        refine g_aload_n (pc := 47) dX7_machine_47 rfl rfl ?_
        refine g_getR (pc := 48) dX7_machine_48 fl_X7_10 sh_0 rfl ?_
        refine g_getI (pc := 51) dX7_machine_51 fl_X7_73 sh_1 rfl ?_
        refine g_bipush (pc := 54) 8 dX7_machine_54 rfl ?_
        refine g_icmp_lt (pc := 56) 62 dX7_machine_56 rfl (fun hc20 => ?_) (fun hc20 => ?_)
        · replace hf := jifp hc20 hf
          refine g_aload_n (pc := 62) dX7_machine_62 rfl rfl ?_
          refine g_getR (pc := 63) dX7_machine_63 fl_X7_10 sh_0 rfl ?_
          refine g_iload_n (pc := 66) dX7_machine_66 rfl rfl ?_
          refine g_iload_n (pc := 67) dX7_machine_67 rfl rfl ?_
          obtain ⟨⟨M18, v19⟩, ev19, hf⟩ := job hf
          refine g_callV (pc := 68) [.int x1, .int x2] [] dX7_machine_68 ml_X7_77 ck_X2_addMachine cv_X2_addMachine sh_1 rfl (by decide) (Nat.le_of_ble_eq_true rfl) (c_X2_addMachine ev19) ?_
          show jGG μ_X7_machine 2 71 [some (.ref 0), some (.int x1), some (.int x2)] [.int v19] M18 (fun M' r' => M' = Mz ∧ r' = some (.int r))
          obtain ⟨rfl, rfl⟩ := Prod.mk.inj (Option.some.inj hf)
          exact g_iret (pc := 71) dX7_machine_71 rfl ⟨rfl, rfl⟩
        · replace hf := jifn hc20 hf
          refine g_ldc (pc := 59) (-100004) dX7_machine_59 lc_X7_76 ?_
          obtain ⟨rfl, rfl⟩ := Prod.mk.inj (Option.some.inj hf)
          exact g_iret (pc := 61) dX7_machine_61 rfl ⟨rfl, rfl⟩
      refine g_icmp_ne (pc := 32) 47 dX7_machine_32 rfl (fun hc17 => ?_) (fun hc17 => ?_)
      · replace hf := jifn hc17 hf
        exact g_weakK (K13 (Option.some.inj hf).symm) ⟨rfl, ⟨rfl, ⟨rfl, trivial⟩⟩⟩
      · replace hf := jifp hc17 hf
        refine g_iload_n (pc := 35) dX7_machine_35 rfl rfl ?_
        refine g_iconst (pc := 36) 1 dX7_machine_36 rfl ?_
        refine g_iconst (pc := 37) 4 dX7_machine_37 rfl ?_
        obtain ⟨v15, ev15, hf⟩ := job hf
        refine g_callS (pc := 38) [.int x2, .int 1, .int 4] [] dX7_machine_38 ml_X7_68 ck_X7_isOut cs_X7_isOut rfl (by decide) (Nat.le_of_ble_eq_true rfl) (c_X7_isOut ev15) ?_
        show jGG μ_X7_machine 2 41 [some (.ref 0), some (.int x1), some (.int x2)] [.int v15] M (fun M' r' => M' = Mz ∧ r' = some (.int r))
        refine g_if_eq (pc := 41) 47 dX7_machine_41 rfl (fun hc16 => ?_) (fun hc16 => ?_)
        · replace hf := jifp hc16 hf
          exact g_weakK (K13 (Option.some.inj hf).symm) ⟨rfl, ⟨rfl, ⟨rfl, trivial⟩⟩⟩
        · replace hf := jifn hc16 hf
          refine g_ldc (pc := 44) (-100002) dX7_machine_44 lc_X7_72 ?_
          obtain rfl := Option.some.inj hf
          replace hf := hy11
          obtain ⟨rfl, rfl⟩ := Prod.mk.inj (Option.some.inj hf)
          exact g_iret (pc := 46) dX7_machine_46 rfl ⟨rfl, rfl⟩
    refine g_icmp_ne (pc := 14) 30 dX7_machine_14 rfl (fun hc9 => ?_) (fun hc9 => ?_)
    · replace hf := jifn hc9 hf
      exact g_weakK (K5 (Option.some.inj hf).symm) ⟨rfl, ⟨rfl, ⟨rfl, trivial⟩⟩⟩
    · replace hf := jifp hc9 hf
      refine g_iload_n (pc := 17) dX7_machine_17 rfl rfl ?_
      refine g_iconst (pc := 18) 0 dX7_machine_18 rfl ?_
      refine g_bipush (pc := 19) 100 dX7_machine_19 rfl ?_
      obtain ⟨v7, ev7, hf⟩ := job hf
      refine g_callS (pc := 21) [.int x2, .int 0, .int 100] [] dX7_machine_21 ml_X7_68 ck_X7_isOut cs_X7_isOut rfl (by decide) (Nat.le_of_ble_eq_true rfl) (c_X7_isOut ev7) ?_
      show jGG μ_X7_machine 2 24 [some (.ref 0), some (.int x1), some (.int x2)] [.int v7] M (fun M' r' => M' = Mz ∧ r' = some (.int r))
      refine g_if_eq (pc := 24) 30 dX7_machine_24 rfl (fun hc8 => ?_) (fun hc8 => ?_)
      · replace hf := jifp hc8 hf
        exact g_weakK (K5 (Option.some.inj hf).symm) ⟨rfl, ⟨rfl, ⟨rfl, trivial⟩⟩⟩
      · replace hf := jifn hc8 hf
        refine g_ldc (pc := 27) (-100002) dX7_machine_27 lc_X7_72 ?_
        obtain rfl := Option.some.inj hf
        replace hf := hy3
        obtain ⟨rfl, rfl⟩ := Prod.mk.inj (Option.some.inj hf)
        exact g_iret (pc := 29) dX7_machine_29 rfl ⟨rfl, rfl⟩
  · replace hf := jifn hc21 hf
    refine g_ldc (pc := 9) (-100002) dX7_machine_9 lc_X7_72 ?_
    obtain ⟨rfl, rfl⟩ := Prod.mk.inj (Option.some.inj hf)
    exact g_iret (pc := 11) dX7_machine_11 rfl ⟨rfl, rfl⟩
def f_X7_piece (M : JMem) (x1 : Int32) : Option (JMem × Int32) := (f_X7_isOut M x1 0 9).bind fun v1 => (if v1 = 0 then (if (M 1 1) < 12 then (f_X2_addPiece M x1).bind fun (M2, v3) => some (M2, v3) else some (M, (-100004))) else some (M, (-100002)))
set_option maxHeartbeats 4000000 in
theorem c_X7_piece {M : JMem} {x1 : Int32} {Mz : JMem} {r : Int32} (hf : f_X7_piece M x1 = some (Mz, r)) : jCo yX7_piece μ_X7_piece 2 M [.ref 0, .int x1] Mz (some (.int r)) := by
  refine jCt_of (by decide +kernel) rfl (by simp [Value.category]) (Nat.le_of_ble_eq_true rfl) ?_
  unfold f_X7_piece at hf
  show jGG μ_X7_piece 2 0 [some (.ref 0), some (.int x1)] [] M (fun M' r' => M' = Mz ∧ r' = some (.int r))
  refine g_iload_n (pc := 0) dX7_piece_0 rfl rfl ?_
  refine g_iconst (pc := 1) 0 dX7_piece_1 rfl ?_
  refine g_bipush (pc := 2) 9 dX7_piece_2 rfl ?_
  obtain ⟨v1, ev1, hf⟩ := job hf
  refine g_callS (pc := 4) [.int x1, .int 0, .int 9] [] dX7_piece_4 ml_X7_68 ck_X7_isOut cs_X7_isOut rfl (by decide) (Nat.le_of_ble_eq_true rfl) (c_X7_isOut ev1) ?_
  show jGG μ_X7_piece 2 7 [some (.ref 0), some (.int x1)] [.int v1] M (fun M' r' => M' = Mz ∧ r' = some (.int r))
  refine g_if_eq (pc := 7) 13 dX7_piece_7 rfl (fun hc5 => ?_) (fun hc5 => ?_)
  · replace hf := jifp hc5 hf
    refine g_aload_n (pc := 13) dX7_piece_13 rfl rfl ?_
    refine g_getR (pc := 14) dX7_piece_14 fl_X7_10 sh_0 rfl ?_
    refine g_getI (pc := 17) dX7_piece_17 fl_X7_81 sh_1 rfl ?_
    refine g_bipush (pc := 20) 12 dX7_piece_20 rfl ?_
    refine g_icmp_lt (pc := 22) 28 dX7_piece_22 rfl (fun hc4 => ?_) (fun hc4 => ?_)
    · replace hf := jifp hc4 hf
      refine g_aload_n (pc := 28) dX7_piece_28 rfl rfl ?_
      refine g_getR (pc := 29) dX7_piece_29 fl_X7_10 sh_0 rfl ?_
      refine g_iload_n (pc := 32) dX7_piece_32 rfl rfl ?_
      obtain ⟨⟨M2, v3⟩, ev3, hf⟩ := job hf
      refine g_callV (pc := 33) [.int x1] [] dX7_piece_33 ml_X7_84 ck_X2_addPiece cv_X2_addPiece sh_1 rfl (by decide) (Nat.le_of_ble_eq_true rfl) (c_X2_addPiece ev3) ?_
      show jGG μ_X7_piece 2 36 [some (.ref 0), some (.int x1)] [.int v3] M2 (fun M' r' => M' = Mz ∧ r' = some (.int r))
      obtain ⟨rfl, rfl⟩ := Prod.mk.inj (Option.some.inj hf)
      exact g_iret (pc := 36) dX7_piece_36 rfl ⟨rfl, rfl⟩
    · replace hf := jifn hc4 hf
      refine g_ldc (pc := 25) (-100004) dX7_piece_25 lc_X7_76 ?_
      obtain ⟨rfl, rfl⟩ := Prod.mk.inj (Option.some.inj hf)
      exact g_iret (pc := 27) dX7_piece_27 rfl ⟨rfl, rfl⟩
  · replace hf := jifn hc5 hf
    refine g_ldc (pc := 10) (-100002) dX7_piece_10 lc_X7_72 ?_
    obtain ⟨rfl, rfl⟩ := Prod.mk.inj (Option.some.inj hf)
    exact g_iret (pc := 12) dX7_piece_12 rfl ⟨rfl, rfl⟩
def f_X7_isMachine (M : JMem) (x1 : Int32) : Option (Int32) := (f_X7_isOut M x1 0 ((M 1 0) - 1)).bind fun v1 => (if v1 = 0 then some 1 else some 0)
set_option maxHeartbeats 4000000 in
theorem c_X7_isMachine {M : JMem} {x1 : Int32} {r : Int32} (hf : f_X7_isMachine M x1 = some r) : jCo yX7_isMachine μ_X7_isMachine 2 M [.ref 0, .int x1] M (some (.int r)) := by
  refine jCt_of (by decide +kernel) rfl (by simp [Value.category]) (Nat.le_of_ble_eq_true rfl) ?_
  unfold f_X7_isMachine at hf
  show jGG μ_X7_isMachine 2 0 [some (.ref 0), some (.int x1)] [] M (fun M' r' => M' = M ∧ r' = some (.int r))
  refine g_iload_n (pc := 0) dX7_isMachine_0 rfl rfl ?_
  refine g_iconst (pc := 1) 0 dX7_isMachine_1 rfl ?_
  refine g_aload_n (pc := 2) dX7_isMachine_2 rfl rfl ?_
  refine g_getR (pc := 3) dX7_isMachine_3 fl_X7_10 sh_0 rfl ?_
  refine g_getI (pc := 6) dX7_isMachine_6 fl_X7_73 sh_1 rfl ?_
  refine g_iconst (pc := 9) 1 dX7_isMachine_9 rfl ?_
  refine g_isub (pc := 10) dX7_isMachine_10 ?_
  obtain ⟨v1, ev1, hf⟩ := job hf
  refine g_callS (pc := 11) [.int x1, .int 0, .int ((M 1 0) - 1)] [] dX7_isMachine_11 ml_X7_68 ck_X7_isOut cs_X7_isOut rfl (by decide) (Nat.le_of_ble_eq_true rfl) (c_X7_isOut ev1) ?_
  show jGG μ_X7_isMachine 2 14 [some (.ref 0), some (.int x1)] [.int v1] M (fun M' r' => M' = M ∧ r' = some (.int r))
  refine g_if_ne (pc := 14) 21 dX7_isMachine_14 rfl (fun hc2 => ?_) (fun hc2 => ?_)
  · replace hf := jifn hc2 hf
    refine g_iconst (pc := 21) 0 dX7_isMachine_21 rfl ?_
    obtain rfl := Option.some.inj hf
    exact g_zret (pc := 22) dX7_isMachine_22 rfl (Or.inl rfl) ⟨rfl, rfl⟩
  · replace hf := jifp hc2 hf
    refine g_iconst (pc := 17) 1 dX7_isMachine_17 rfl ?_
    refine g_goto (pc := 18) 22 dX7_isMachine_18 rfl ?_
    obtain rfl := Option.some.inj hf
    exact g_zret (pc := 22) dX7_isMachine_22 rfl (Or.inr rfl) ⟨rfl, rfl⟩
def f_X7_addStep (M : JMem) (x1 : Int32) (x2 : Int32) (x3 : Int32) : Option (JMem × Int32) := (f_X2_addStep M x1 x2 x3).bind fun (M1, v2) => (f_X3_append M1 33 x2 v2).bind fun M3 => some (M3, v2)
set_option maxHeartbeats 4000000 in
theorem c_X7_addStep {M : JMem} {x1 : Int32} {x2 : Int32} {x3 : Int32} {Mz : JMem} {r : Int32} (hf : f_X7_addStep M x1 x2 x3 = some (Mz, r)) : jCo yX7_addStep μ_X7_addStep 2 M [.ref 0, .int x1, .int x2, .int x3] Mz (some (.int r)) := by
  refine jCt_of (by decide +kernel) rfl (by simp [Value.category]) (Nat.le_of_ble_eq_true rfl) ?_
  unfold f_X7_addStep at hf
  show jGG μ_X7_addStep 2 0 [some (.ref 0), some (.int x1), some (.int x2), some (.int x3), none] [] M (fun M' r' => M' = Mz ∧ r' = some (.int r))
  refine g_aload_n (pc := 0) dX7_addStep_0 rfl rfl ?_
  refine g_getR (pc := 1) dX7_addStep_1 fl_X7_10 sh_0 rfl ?_
  refine g_iload_n (pc := 4) dX7_addStep_4 rfl rfl ?_
  refine g_iload_n (pc := 5) dX7_addStep_5 rfl rfl ?_
  refine g_iload_n (pc := 6) dX7_addStep_6 rfl rfl ?_
  obtain ⟨⟨M1, v2⟩, ev2, hf⟩ := job hf
  refine g_callV (pc := 7) [.int x1, .int x2, .int x3] [] dX7_addStep_7 ml_X7_309 ck_X2_addStep cv_X2_addStep sh_1 rfl (by decide) (Nat.le_of_ble_eq_true rfl) (c_X2_addStep ev2) ?_
  show jGG μ_X7_addStep 2 10 [some (.ref 0), some (.int x1), some (.int x2), some (.int x3), none] [.int v2] M1 (fun M' r' => M' = Mz ∧ r' = some (.int r))
  refine g_istore (pc := 10) (lv' := [some (.ref 0), some (.int x1), some (.int x2), some (.int x3), some (.int v2)]) dX7_addStep_10 (by decide) rfl ?_
  refine g_aload_n (pc := 12) dX7_addStep_12 rfl rfl ?_
  refine g_getR (pc := 13) dX7_addStep_13 fl_X7_19 sh_0 rfl ?_
  refine g_iload_n (pc := 16) dX7_addStep_16 rfl rfl ?_
  refine g_iload (pc := 17) dX7_addStep_17 rfl ?_
  obtain ⟨M3, eM3, hf⟩ := job hf
  refine g_callV (pc := 19) [.int x2, .int v2] [] dX7_addStep_19 ml_X7_234 ck_X3_append cv_X3_append sh_33 rfl (by decide) (Nat.le_of_ble_eq_true rfl) (c_X3_append isX3_33 eM3) ?_
  show jGG μ_X7_addStep 2 22 [some (.ref 0), some (.int x1), some (.int x2), some (.int x3), some (.int v2)] [] M3 (fun M' r' => M' = Mz ∧ r' = some (.int r))
  refine g_iload (pc := 22) dX7_addStep_22 rfl ?_
  obtain ⟨rfl, rfl⟩ := Prod.mk.inj (Option.some.inj hf)
  exact g_iret (pc := 24) dX7_addStep_24 rfl ⟨rfl, rfl⟩
def f_X7_step (M : JMem) (x1 : Int32) (x2 : Int32) (x3 : Int32) : Option (JMem × Int32) := (f_X7_isOut M x1 0 ((M 1 1) - 1)).bind fun v1 => (if v1 = 0 then (f_X7_isMachine M x2).bind fun v2 => (if v2 = 0 then some (M, (-100001)) else (f_X7_isOut M x3 1 1000).bind fun v3 => (if v3 = 0 then (jrd M 18 12 x1).bind fun v4 => (if 8 ≤ v4 then some (M, (-100004)) else (if (M 1 2) < 32 then (f_X7_addStep M x1 x2 x3).bind fun (M5, v6) => some (M5, v6) else some (M, (-100004)))) else some (M, (-100002)))) else some (M, (-100001)))
set_option maxHeartbeats 4000000 in
theorem c_X7_step {M : JMem} {x1 : Int32} {x2 : Int32} {x3 : Int32} {Mz : JMem} {r : Int32} (hf : f_X7_step M x1 x2 x3 = some (Mz, r)) : jCo yX7_step μ_X7_step 3 M [.ref 0, .int x1, .int x2, .int x3] Mz (some (.int r)) := by
  refine jCt_of (by decide +kernel) rfl (by simp [Value.category]) (Nat.le_of_ble_eq_true rfl) ?_
  unfold f_X7_step at hf
  show jGG μ_X7_step 3 0 [some (.ref 0), some (.int x1), some (.int x2), some (.int x3)] [] M (fun M' r' => M' = Mz ∧ r' = some (.int r))
  refine g_iload_n (pc := 0) dX7_step_0 rfl rfl ?_
  refine g_iconst (pc := 1) 0 dX7_step_1 rfl ?_
  refine g_aload_n (pc := 2) dX7_step_2 rfl rfl ?_
  refine g_getR (pc := 3) dX7_step_3 fl_X7_10 sh_0 rfl ?_
  refine g_getI (pc := 6) dX7_step_6 fl_X7_81 sh_1 rfl ?_
  refine g_iconst (pc := 9) 1 dX7_step_9 rfl ?_
  refine g_isub (pc := 10) dX7_step_10 ?_
  obtain ⟨v1, ev1, hf⟩ := job hf
  refine g_callS (pc := 11) [.int x1, .int 0, .int ((M 1 1) - 1)] [] dX7_step_11 ml_X7_68 ck_X7_isOut cs_X7_isOut rfl (by decide) (Nat.le_of_ble_eq_true rfl) (c_X7_isOut ev1) ?_
  show jGG μ_X7_step 3 14 [some (.ref 0), some (.int x1), some (.int x2), some (.int x3)] [.int v1] M (fun M' r' => M' = Mz ∧ r' = some (.int r))
  refine g_if_ne (pc := 14) 25 dX7_step_14 rfl (fun hc11 => ?_) (fun hc11 => ?_)
  · replace hf := jifn hc11 hf
    refine g_ldc (pc := 25) (-100001) dX7_step_25 lc_X7_92 ?_
    obtain ⟨rfl, rfl⟩ := Prod.mk.inj (Option.some.inj hf)
    exact g_iret (pc := 27) dX7_step_27 rfl ⟨rfl, rfl⟩
  · replace hf := jifp hc11 hf
    refine g_aload_n (pc := 17) dX7_step_17 rfl rfl ?_
    refine g_iload_n (pc := 18) dX7_step_18 rfl rfl ?_
    obtain ⟨v2, ev2, hf⟩ := job hf
    refine g_callV (pc := 19) [.int x2] [] dX7_step_19 ml_X7_88 ck_X7_isMachine cv_X7_isMachine sh_0 rfl (by decide) (Nat.le_of_ble_eq_true rfl) (c_X7_isMachine ev2) ?_
    show jGG μ_X7_step 3 22 [some (.ref 0), some (.int x1), some (.int x2), some (.int x3)] [.int v2] M (fun M' r' => M' = Mz ∧ r' = some (.int r))
    refine g_if_ne (pc := 22) 28 dX7_step_22 rfl (fun hc10 => ?_) (fun hc10 => ?_)
    · replace hf := jifn hc10 hf
      refine g_iload_n (pc := 28) dX7_step_28 rfl rfl ?_
      refine g_iconst (pc := 29) 1 dX7_step_29 rfl ?_
      refine g_sipush (pc := 30) 1000 dX7_step_30 rfl ?_
      obtain ⟨v3, ev3, hf⟩ := job hf
      refine g_callS (pc := 33) [.int x3, .int 1, .int 1000] [] dX7_step_33 ml_X7_68 ck_X7_isOut cs_X7_isOut rfl (by decide) (Nat.le_of_ble_eq_true rfl) (c_X7_isOut ev3) ?_
      show jGG μ_X7_step 3 36 [some (.ref 0), some (.int x1), some (.int x2), some (.int x3)] [.int v3] M (fun M' r' => M' = Mz ∧ r' = some (.int r))
      refine g_if_eq (pc := 36) 42 dX7_step_36 rfl (fun hc9 => ?_) (fun hc9 => ?_)
      · replace hf := jifp hc9 hf
        refine g_aload_n (pc := 42) dX7_step_42 rfl rfl ?_
        refine g_getR (pc := 43) dX7_step_43 fl_X7_10 sh_0 rfl ?_
        refine g_getR (pc := 46) dX7_step_46 fl_X7_93 sh_1 rfl ?_
        refine g_iload_n (pc := 49) dX7_step_49 rfl rfl ?_
        obtain ⟨v4, ev4, hf⟩ := job hf
        refine g_iald (pc := 50) dX7_step_50 sh_18 ev4 ?_
        refine g_bipush (pc := 51) 8 dX7_step_51 rfl ?_
        refine g_icmp_ge (pc := 53) 68 dX7_step_53 rfl (fun hc8 => ?_) (fun hc8 => ?_)
        · replace hf := jifp hc8 hf
          refine g_ldc (pc := 68) (-100004) dX7_step_68 lc_X7_76 ?_
          obtain ⟨rfl, rfl⟩ := Prod.mk.inj (Option.some.inj hf)
          exact g_iret (pc := 70) dX7_step_70 rfl ⟨rfl, rfl⟩
        · replace hf := jifn hc8 hf
          refine g_aload_n (pc := 56) dX7_step_56 rfl rfl ?_
          refine g_getR (pc := 57) dX7_step_57 fl_X7_10 sh_0 rfl ?_
          refine g_getI (pc := 60) dX7_step_60 fl_X7_97 sh_1 rfl ?_
          refine g_bipush (pc := 63) 32 dX7_step_63 rfl ?_
          refine g_icmp_lt (pc := 65) 71 dX7_step_65 rfl (fun hc7 => ?_) (fun hc7 => ?_)
          · replace hf := jifp hc7 hf
            refine g_aload_n (pc := 71) dX7_step_71 rfl rfl ?_
            refine g_iload_n (pc := 72) dX7_step_72 rfl rfl ?_
            refine g_iload_n (pc := 73) dX7_step_73 rfl rfl ?_
            refine g_iload_n (pc := 74) dX7_step_74 rfl rfl ?_
            obtain ⟨⟨M5, v6⟩, ev6, hf⟩ := job hf
            refine g_callV (pc := 75) [.int x1, .int x2, .int x3] [] dX7_step_75 ml_X7_100 ck_X7_addStep cv_X7_addStep sh_0 rfl (by decide) (Nat.le_of_ble_eq_true rfl) (c_X7_addStep ev6) ?_
            show jGG μ_X7_step 3 78 [some (.ref 0), some (.int x1), some (.int x2), some (.int x3)] [.int v6] M5 (fun M' r' => M' = Mz ∧ r' = some (.int r))
            obtain ⟨rfl, rfl⟩ := Prod.mk.inj (Option.some.inj hf)
            exact g_iret (pc := 78) dX7_step_78 rfl ⟨rfl, rfl⟩
          · replace hf := jifn hc7 hf
            refine g_ldc (pc := 68) (-100004) dX7_step_68 lc_X7_76 ?_
            obtain ⟨rfl, rfl⟩ := Prod.mk.inj (Option.some.inj hf)
            exact g_iret (pc := 70) dX7_step_70 rfl ⟨rfl, rfl⟩
      · replace hf := jifn hc9 hf
        refine g_ldc (pc := 39) (-100002) dX7_step_39 lc_X7_72 ?_
        obtain ⟨rfl, rfl⟩ := Prod.mk.inj (Option.some.inj hf)
        exact g_iret (pc := 41) dX7_step_41 rfl ⟨rfl, rfl⟩
    · replace hf := jifp hc10 hf
      refine g_ldc (pc := 25) (-100001) dX7_step_25 lc_X7_92 ?_
      obtain ⟨rfl, rfl⟩ := Prod.mk.inj (Option.some.inj hf)
      exact g_iret (pc := 27) dX7_step_27 rfl ⟨rfl, rfl⟩
def f_X7_isStep (M : JMem) (x1 : Int32) : Option (Int32) := (f_X7_isOut M x1 0 ((M 1 2) - 1)).bind fun v1 => (if v1 = 0 then some 1 else some 0)
set_option maxHeartbeats 4000000 in
theorem c_X7_isStep {M : JMem} {x1 : Int32} {r : Int32} (hf : f_X7_isStep M x1 = some r) : jCo yX7_isStep μ_X7_isStep 2 M [.ref 0, .int x1] M (some (.int r)) := by
  refine jCt_of (by decide +kernel) rfl (by simp [Value.category]) (Nat.le_of_ble_eq_true rfl) ?_
  unfold f_X7_isStep at hf
  show jGG μ_X7_isStep 2 0 [some (.ref 0), some (.int x1)] [] M (fun M' r' => M' = M ∧ r' = some (.int r))
  refine g_iload_n (pc := 0) dX7_isStep_0 rfl rfl ?_
  refine g_iconst (pc := 1) 0 dX7_isStep_1 rfl ?_
  refine g_aload_n (pc := 2) dX7_isStep_2 rfl rfl ?_
  refine g_getR (pc := 3) dX7_isStep_3 fl_X7_10 sh_0 rfl ?_
  refine g_getI (pc := 6) dX7_isStep_6 fl_X7_97 sh_1 rfl ?_
  refine g_iconst (pc := 9) 1 dX7_isStep_9 rfl ?_
  refine g_isub (pc := 10) dX7_isStep_10 ?_
  obtain ⟨v1, ev1, hf⟩ := job hf
  refine g_callS (pc := 11) [.int x1, .int 0, .int ((M 1 2) - 1)] [] dX7_isStep_11 ml_X7_68 ck_X7_isOut cs_X7_isOut rfl (by decide) (Nat.le_of_ble_eq_true rfl) (c_X7_isOut ev1) ?_
  show jGG μ_X7_isStep 2 14 [some (.ref 0), some (.int x1)] [.int v1] M (fun M' r' => M' = M ∧ r' = some (.int r))
  refine g_if_ne (pc := 14) 21 dX7_isStep_14 rfl (fun hc2 => ?_) (fun hc2 => ?_)
  · replace hf := jifn hc2 hf
    refine g_iconst (pc := 21) 0 dX7_isStep_21 rfl ?_
    obtain rfl := Option.some.inj hf
    exact g_zret (pc := 22) dX7_isStep_22 rfl (Or.inl rfl) ⟨rfl, rfl⟩
  · replace hf := jifp hc2 hf
    refine g_iconst (pc := 17) 1 dX7_isStep_17 rfl ?_
    refine g_goto (pc := 18) 22 dX7_isStep_18 rfl ?_
    obtain rfl := Option.some.inj hf
    exact g_zret (pc := 22) dX7_isStep_22 rfl (Or.inr rfl) ⟨rfl, rfl⟩
def f_X7_told (N : Nat) (M : JMem) (x1 : Int32) (x2 : Int32) : Option (Int32) := (f_X7_isStep M x1).bind fun v1 => (if v1 = 0 then some (-100001) else (if x2 = 0 then (jrd M 19 32 x1).bind fun v2 => some v2 else (if x2 = 1 then (jrd M 20 32 x1).bind fun v3 => some v3 else (if x2 = 2 then (jrd M 21 32 x1).bind fun v4 => some v4 else (if x2 = 3 then (jrd M 22 32 x1).bind fun v5 => some v5 else (if x2 = 4 then (jrd M 20 32 x1).bind fun v6 => (f_X3_placeOf N M 33 v6 x1).bind fun v7 => some v7 else some (-100002)))))))
set_option maxHeartbeats 4000000 in
theorem c_X7_told {N : Nat} {M : JMem} {x1 : Int32} {x2 : Int32} {r : Int32} (hf : f_X7_told N M x1 x2 = some r) : jCo yX7_told μ_X7_told 3 M [.ref 0, .int x1, .int x2] M (some (.int r)) := by
  refine jCt_of (by decide +kernel) rfl (by simp [Value.category]) (Nat.le_of_ble_eq_true rfl) ?_
  unfold f_X7_told at hf
  show jGG μ_X7_told 3 0 [some (.ref 0), some (.int x1), some (.int x2)] [] M (fun M' r' => M' = M ∧ r' = some (.int r))
  refine g_aload_n (pc := 0) dX7_told_0 rfl rfl ?_
  refine g_iload_n (pc := 1) dX7_told_1 rfl rfl ?_
  obtain ⟨v1, ev1, hf⟩ := job hf
  refine g_callV (pc := 2) [.int x1] [] dX7_told_2 ml_X7_104 ck_X7_isStep cv_X7_isStep sh_0 rfl (by decide) (Nat.le_of_ble_eq_true rfl) (c_X7_isStep ev1) ?_
  show jGG μ_X7_told 3 5 [some (.ref 0), some (.int x1), some (.int x2)] [.int v1] M (fun M' r' => M' = M ∧ r' = some (.int r))
  refine g_if_ne (pc := 5) 11 dX7_told_5 rfl (fun hc13 => ?_) (fun hc13 => ?_)
  · replace hf := jifn hc13 hf
    refine g_iload_n (pc := 11) dX7_told_11 rfl rfl ?_
    by_cases hc8 : x2 = 0
    · replace hf := jifp hc8 hf
      refine g_tswEq (pc := 12) 0 48 dX7_told_12 hc8 (by decide) (by decide) rfl rfl ?_
      refine g_aload_n (pc := 48) dX7_told_48 rfl rfl ?_
      refine g_getR (pc := 49) dX7_told_49 fl_X7_10 sh_0 rfl ?_
      refine g_getR (pc := 52) dX7_told_52 fl_X7_107 sh_1 rfl ?_
      refine g_iload_n (pc := 55) dX7_told_55 rfl rfl ?_
      obtain ⟨v2, ev2, hf⟩ := job hf
      refine g_iald (pc := 56) dX7_told_56 sh_19 ev2 ?_
      obtain rfl := Option.some.inj hf
      exact g_iret (pc := 57) dX7_told_57 rfl ⟨rfl, rfl⟩
    · replace hf := jifn hc8 hf
      by_cases hc9 : x2 = 1
      · replace hf := jifp hc9 hf
        refine g_tswEq (pc := 12) 1 58 dX7_told_12 hc9 (by decide) (by decide) rfl rfl ?_
        refine g_aload_n (pc := 58) dX7_told_58 rfl rfl ?_
        refine g_getR (pc := 59) dX7_told_59 fl_X7_10 sh_0 rfl ?_
        refine g_getR (pc := 62) dX7_told_62 fl_X7_110 sh_1 rfl ?_
        refine g_iload_n (pc := 65) dX7_told_65 rfl rfl ?_
        obtain ⟨v3, ev3, hf⟩ := job hf
        refine g_iald (pc := 66) dX7_told_66 sh_20 ev3 ?_
        obtain rfl := Option.some.inj hf
        exact g_iret (pc := 67) dX7_told_67 rfl ⟨rfl, rfl⟩
      · replace hf := jifn hc9 hf
        by_cases hc10 : x2 = 2
        · replace hf := jifp hc10 hf
          refine g_tswEq (pc := 12) 2 68 dX7_told_12 hc10 (by decide) (by decide) rfl rfl ?_
          refine g_aload_n (pc := 68) dX7_told_68 rfl rfl ?_
          refine g_getR (pc := 69) dX7_told_69 fl_X7_10 sh_0 rfl ?_
          refine g_getR (pc := 72) dX7_told_72 fl_X7_113 sh_1 rfl ?_
          refine g_iload_n (pc := 75) dX7_told_75 rfl rfl ?_
          obtain ⟨v4, ev4, hf⟩ := job hf
          refine g_iald (pc := 76) dX7_told_76 sh_21 ev4 ?_
          obtain rfl := Option.some.inj hf
          exact g_iret (pc := 77) dX7_told_77 rfl ⟨rfl, rfl⟩
        · replace hf := jifn hc10 hf
          by_cases hc11 : x2 = 3
          · replace hf := jifp hc11 hf
            refine g_tswEq (pc := 12) 3 78 dX7_told_12 hc11 (by decide) (by decide) rfl rfl ?_
            refine g_aload_n (pc := 78) dX7_told_78 rfl rfl ?_
            refine g_getR (pc := 79) dX7_told_79 fl_X7_10 sh_0 rfl ?_
            refine g_getR (pc := 82) dX7_told_82 fl_X7_116 sh_1 rfl ?_
            refine g_iload_n (pc := 85) dX7_told_85 rfl rfl ?_
            obtain ⟨v5, ev5, hf⟩ := job hf
            refine g_iald (pc := 86) dX7_told_86 sh_22 ev5 ?_
            obtain rfl := Option.some.inj hf
            exact g_iret (pc := 87) dX7_told_87 rfl ⟨rfl, rfl⟩
          · replace hf := jifn hc11 hf
            by_cases hc12 : x2 = 4
            · replace hf := jifp hc12 hf
              refine g_tswEq (pc := 12) 4 88 dX7_told_12 hc12 (by decide) (by decide) rfl rfl ?_
              refine g_aload_n (pc := 88) dX7_told_88 rfl rfl ?_
              refine g_getR (pc := 89) dX7_told_89 fl_X7_19 sh_0 rfl ?_
              refine g_aload_n (pc := 92) dX7_told_92 rfl rfl ?_
              refine g_getR (pc := 93) dX7_told_93 fl_X7_10 sh_0 rfl ?_
              refine g_getR (pc := 96) dX7_told_96 fl_X7_110 sh_1 rfl ?_
              refine g_iload_n (pc := 99) dX7_told_99 rfl rfl ?_
              obtain ⟨v6, ev6, hf⟩ := job hf
              refine g_iald (pc := 100) dX7_told_100 sh_20 ev6 ?_
              refine g_iload_n (pc := 101) dX7_told_101 rfl rfl ?_
              obtain ⟨v7, ev7, hf⟩ := job hf
              refine g_callV (pc := 102) [.int v6, .int x1] [] dX7_told_102 ml_X7_119 ck_X3_placeOf cv_X3_placeOf sh_33 rfl (by decide) (Nat.le_of_ble_eq_true rfl) (c_X3_placeOf isX3_33 ev7) ?_
              show jGG μ_X7_told 3 105 [some (.ref 0), some (.int x1), some (.int x2)] [.int v7] M (fun M' r' => M' = M ∧ r' = some (.int r))
              obtain rfl := Option.some.inj hf
              exact g_iret (pc := 105) dX7_told_105 rfl ⟨rfl, rfl⟩
            · replace hf := jifn hc12 hf
              refine g_tswOut (pc := 12) 106 dX7_told_12 (jsw5 hc8 hc9 hc10 hc11 hc12) rfl ?_
              refine g_ldc (pc := 106) (-100002) dX7_told_106 lc_X7_72 ?_
              obtain rfl := Option.some.inj hf
              exact g_iret (pc := 108) dX7_told_108 rfl ⟨rfl, rfl⟩
  · replace hf := jifp hc13 hf
    refine g_ldc (pc := 8) (-100001) dX7_told_8 lc_X7_92 ?_
    obtain rfl := Option.some.inj hf
    exact g_iret (pc := 10) dX7_told_10 rfl ⟨rfl, rfl⟩
def f_X7_count (N : Nat) (M : JMem) (x1 : Int32) : Option (Int32) := (if x1 = 0 then some (M 1 0) else (if x1 = 1 then some (M 1 1) else (if x1 = 2 then some (M 1 2) else (if x1 = 3 then (f_X2_isSimple N M).bind fun v1 => (if v1 = 0 then some 0 else some 1) else (if x1 = 4 then (f_X2_allSpans N M).bind fun v3 => some v3 else some (-100002))))))
set_option maxHeartbeats 4000000 in
theorem c_X7_count {N : Nat} {M : JMem} {x1 : Int32} {r : Int32} (hf : f_X7_count N M x1 = some r) : jCo yX7_count μ_X7_count 2 M [.ref 0, .int x1] M (some (.int r)) := by
  refine jCt_of (by decide +kernel) rfl (by simp [Value.category]) (Nat.le_of_ble_eq_true rfl) ?_
  unfold f_X7_count at hf
  show jGG μ_X7_count 2 0 [some (.ref 0), some (.int x1)] [] M (fun M' r' => M' = M ∧ r' = some (.int r))
  refine g_iload_n (pc := 0) dX7_count_0 rfl rfl ?_
  by_cases hc4 : x1 = 0
  · replace hf := jifp hc4 hf
    refine g_tswEq (pc := 1) 0 36 dX7_count_1 hc4 (by decide) (by decide) rfl rfl ?_
    refine g_aload_n (pc := 36) dX7_count_36 rfl rfl ?_
    refine g_getR (pc := 37) dX7_count_37 fl_X7_10 sh_0 rfl ?_
    refine g_getI (pc := 40) dX7_count_40 fl_X7_73 sh_1 rfl ?_
    obtain rfl := Option.some.inj hf
    exact g_iret (pc := 43) dX7_count_43 rfl ⟨rfl, rfl⟩
  · replace hf := jifn hc4 hf
    by_cases hc5 : x1 = 1
    · replace hf := jifp hc5 hf
      refine g_tswEq (pc := 1) 1 44 dX7_count_1 hc5 (by decide) (by decide) rfl rfl ?_
      refine g_aload_n (pc := 44) dX7_count_44 rfl rfl ?_
      refine g_getR (pc := 45) dX7_count_45 fl_X7_10 sh_0 rfl ?_
      refine g_getI (pc := 48) dX7_count_48 fl_X7_81 sh_1 rfl ?_
      obtain rfl := Option.some.inj hf
      exact g_iret (pc := 51) dX7_count_51 rfl ⟨rfl, rfl⟩
    · replace hf := jifn hc5 hf
      by_cases hc6 : x1 = 2
      · replace hf := jifp hc6 hf
        refine g_tswEq (pc := 1) 2 52 dX7_count_1 hc6 (by decide) (by decide) rfl rfl ?_
        refine g_aload_n (pc := 52) dX7_count_52 rfl rfl ?_
        refine g_getR (pc := 53) dX7_count_53 fl_X7_10 sh_0 rfl ?_
        refine g_getI (pc := 56) dX7_count_56 fl_X7_97 sh_1 rfl ?_
        obtain rfl := Option.some.inj hf
        exact g_iret (pc := 59) dX7_count_59 rfl ⟨rfl, rfl⟩
      · replace hf := jifn hc6 hf
        by_cases hc7 : x1 = 3
        · replace hf := jifp hc7 hf
          refine g_tswEq (pc := 1) 3 60 dX7_count_1 hc7 (by decide) (by decide) rfl rfl ?_
          refine g_aload_n (pc := 60) dX7_count_60 rfl rfl ?_
          refine g_getR (pc := 61) dX7_count_61 fl_X7_10 sh_0 rfl ?_
          obtain ⟨v1, ev1, hf⟩ := job hf
          refine g_callV (pc := 64) [] [] dX7_count_64 ml_X7_122 ck_X2_isSimple cv_X2_isSimple sh_1 rfl (by decide) (Nat.le_of_ble_eq_true rfl) (c_X2_isSimple ev1) ?_
          show jGG μ_X7_count 2 67 [some (.ref 0), some (.int x1)] [.int v1] M (fun M' r' => M' = M ∧ r' = some (.int r))
          refine g_if_eq (pc := 67) 74 dX7_count_67 rfl (fun hc2 => ?_) (fun hc2 => ?_)
          · replace hf := jifp hc2 hf
            refine g_iconst (pc := 74) 0 dX7_count_74 rfl ?_
            obtain rfl := Option.some.inj hf
            exact g_iret (pc := 75) dX7_count_75 rfl ⟨rfl, rfl⟩
          · replace hf := jifn hc2 hf
            refine g_iconst (pc := 70) 1 dX7_count_70 rfl ?_
            refine g_goto (pc := 71) 75 dX7_count_71 rfl ?_
            obtain rfl := Option.some.inj hf
            exact g_iret (pc := 75) dX7_count_75 rfl ⟨rfl, rfl⟩
        · replace hf := jifn hc7 hf
          by_cases hc8 : x1 = 4
          · replace hf := jifp hc8 hf
            refine g_tswEq (pc := 1) 4 76 dX7_count_1 hc8 (by decide) (by decide) rfl rfl ?_
            refine g_aload_n (pc := 76) dX7_count_76 rfl rfl ?_
            refine g_getR (pc := 77) dX7_count_77 fl_X7_10 sh_0 rfl ?_
            obtain ⟨v3, ev3, hf⟩ := job hf
            refine g_callV (pc := 80) [] [] dX7_count_80 ml_X7_126 ck_X2_allSpans cv_X2_allSpans sh_1 rfl (by decide) (Nat.le_of_ble_eq_true rfl) (c_X2_allSpans ev3) ?_
            show jGG μ_X7_count 2 83 [some (.ref 0), some (.int x1)] [.int v3] M (fun M' r' => M' = M ∧ r' = some (.int r))
            obtain rfl := Option.some.inj hf
            exact g_iret (pc := 83) dX7_count_83 rfl ⟨rfl, rfl⟩
          · replace hf := jifn hc8 hf
            refine g_tswOut (pc := 1) 84 dX7_count_1 (jsw5 hc4 hc5 hc6 hc7 hc8) rfl ?_
            refine g_ldc (pc := 84) (-100002) dX7_count_84 lc_X7_72 ?_
            obtain rfl := Option.some.inj hf
            exact g_iret (pc := 86) dX7_count_86 rfl ⟨rfl, rfl⟩
def f_X7_isSheet (M : JMem) (x0 : Int32) : Option (Int32) := (f_X7_isOut M x0 0 5).bind fun v1 => (if v1 = 0 then some 1 else some 0)
set_option maxHeartbeats 4000000 in
theorem c_X7_isSheet {M : JMem} {x0 : Int32} {r : Int32} (hf : f_X7_isSheet M x0 = some r) : jCo yX7_isSheet μ_X7_isSheet 2 M [.int x0] M (some (.int r)) := by
  refine jCt_of (by decide +kernel) rfl (by simp [Value.category]) (Nat.le_of_ble_eq_true rfl) ?_
  unfold f_X7_isSheet at hf
  show jGG μ_X7_isSheet 2 0 [some (.int x0)] [] M (fun M' r' => M' = M ∧ r' = some (.int r))
  refine g_iload_n (pc := 0) dX7_isSheet_0 rfl rfl ?_
  refine g_iconst (pc := 1) 0 dX7_isSheet_1 rfl ?_
  refine g_iconst (pc := 2) 5 dX7_isSheet_2 rfl ?_
  obtain ⟨v1, ev1, hf⟩ := job hf
  refine g_callS (pc := 3) [.int x0, .int 0, .int 5] [] dX7_isSheet_3 ml_X7_68 ck_X7_isOut cs_X7_isOut rfl (by decide) (Nat.le_of_ble_eq_true rfl) (c_X7_isOut ev1) ?_
  show jGG μ_X7_isSheet 2 6 [some (.int x0)] [.int v1] M (fun M' r' => M' = M ∧ r' = some (.int r))
  refine g_if_ne (pc := 6) 13 dX7_isSheet_6 rfl (fun hc2 => ?_) (fun hc2 => ?_)
  · replace hf := jifn hc2 hf
    refine g_iconst (pc := 13) 0 dX7_isSheet_13 rfl ?_
    obtain rfl := Option.some.inj hf
    exact g_zret (pc := 14) dX7_isSheet_14 rfl (Or.inl rfl) ⟨rfl, rfl⟩
  · replace hf := jifp hc2 hf
    refine g_iconst (pc := 9) 1 dX7_isSheet_9 rfl ?_
    refine g_goto (pc := 10) 14 dX7_isSheet_10 rfl ?_
    obtain rfl := Option.some.inj hf
    exact g_zret (pc := 14) dX7_isSheet_14 rfl (Or.inr rfl) ⟨rfl, rfl⟩
def f_X7_sheet (M : JMem) (x1 : Int32) (x2 : Int32) (x3 : Int32) : Option (JMem × Int32) := (f_X7_isSheet M x1).bind fun v1 => (if v1 = 0 then some (M, (-100001)) else (f_X7_isOut M x2 0 2).bind fun v2 => (if v2 = 0 then (if x3 ≤ 40 then (((if 0 ≤ x3 then some (0) else some (4)) : Option (Int32)).bind fun u9 => (some (jup M 44 3 u9)).bind fun M10 => (if (M10 44 3) = 0 then (f_X5_make M10 x1 x2 x3).bind fun M11 => some (M11, x3) else some (M10, 0))) else some (M, (-100002))) else some (M, (-100002))))
set_option maxHeartbeats 4000000 in
theorem c_X7_sheet {M : JMem} {x1 : Int32} {x2 : Int32} {x3 : Int32} {Mz : JMem} {r : Int32} (hf : f_X7_sheet M x1 x2 x3 = some (Mz, r)) : jCo yX7_sheet μ_X7_sheet 3 M [.ref 0, .int x1, .int x2, .int x3] Mz (some (.int r)) := by
  refine jCt_of (by decide +kernel) rfl (by simp [Value.category]) (Nat.le_of_ble_eq_true rfl) ?_
  unfold f_X7_sheet at hf
  show jGG μ_X7_sheet 3 0 [some (.ref 0), some (.int x1), some (.int x2), some (.int x3)] [] M (fun M' r' => M' = Mz ∧ r' = some (.int r))
  refine g_iload_n (pc := 0) dX7_sheet_0 rfl rfl ?_
  obtain ⟨v1, ev1, hf⟩ := job hf
  refine g_callS (pc := 1) [.int x1] [] dX7_sheet_1 ml_X7_130 ck_X7_isSheet cs_X7_isSheet rfl (by decide) (Nat.le_of_ble_eq_true rfl) (c_X7_isSheet ev1) ?_
  show jGG μ_X7_sheet 3 4 [some (.ref 0), some (.int x1), some (.int x2), some (.int x3)] [.int v1] M (fun M' r' => M' = Mz ∧ r' = some (.int r))
  refine g_if_ne (pc := 4) 10 dX7_sheet_4 rfl (fun hc15 => ?_) (fun hc15 => ?_)
  · replace hf := jifn hc15 hf
    refine g_iload_n (pc := 10) dX7_sheet_10 rfl rfl ?_
    refine g_iconst (pc := 11) 0 dX7_sheet_11 rfl ?_
    refine g_iconst (pc := 12) 2 dX7_sheet_12 rfl ?_
    obtain ⟨v2, ev2, hf⟩ := job hf
    refine g_callS (pc := 13) [.int x2, .int 0, .int 2] [] dX7_sheet_13 ml_X7_68 ck_X7_isOut cs_X7_isOut rfl (by decide) (Nat.le_of_ble_eq_true rfl) (c_X7_isOut ev2) ?_
    show jGG μ_X7_sheet 3 16 [some (.ref 0), some (.int x1), some (.int x2), some (.int x3)] [.int v2] M (fun M' r' => M' = Mz ∧ r' = some (.int r))
    refine g_if_ne (pc := 16) 25 dX7_sheet_16 rfl (fun hc14 => ?_) (fun hc14 => ?_)
    · replace hf := jifn hc14 hf
      refine g_ldc (pc := 25) (-100002) dX7_sheet_25 lc_X7_72 ?_
      obtain ⟨rfl, rfl⟩ := Prod.mk.inj (Option.some.inj hf)
      exact g_iret (pc := 27) dX7_sheet_27 rfl ⟨rfl, rfl⟩
    · replace hf := jifp hc14 hf
      refine g_iload_n (pc := 19) dX7_sheet_19 rfl rfl ?_
      refine g_bipush (pc := 20) 40 dX7_sheet_20 rfl ?_
      refine g_icmp_le (pc := 22) 28 dX7_sheet_22 rfl (fun hc13 => ?_) (fun hc13 => ?_)
      · replace hf := jifp hc13 hf
        refine g_aload_n (pc := 28) dX7_sheet_28 rfl rfl ?_
        refine g_getR (pc := 29) dX7_sheet_29 fl_X7_26 sh_0 rfl ?_
        refine g_iload_n (pc := 32) dX7_sheet_32 rfl rfl ?_
        obtain ⟨u9, hf, hy4⟩ := job hf
        have K6 : jGG μ_X7_sheet 3 41 [some (.ref 0), some (.int x1), some (.int x2), some (.int x3)] [.int u9, .ref 44] M (fun M' r' => M' = Mz ∧ r' = some (.int r)) := by
          replace hf := hy4
          refine g_putI (pc := 41) dX7_sheet_41 fp_X7_133 sh_44 rfl ?_
          obtain ⟨M10, eM10, hf⟩ := job hf
          rw [Option.some.inj eM10]
          refine g_aload_n (pc := 44) dX7_sheet_44 rfl rfl ?_
          refine g_getR (pc := 45) dX7_sheet_45 fl_X7_26 sh_0 rfl ?_
          refine g_getI (pc := 48) dX7_sheet_48 fl_X7_133 sh_44 rfl ?_
          refine g_if_eq (pc := 51) 56 dX7_sheet_51 rfl (fun hc12 => ?_) (fun hc12 => ?_)
          · replace hf := jifp hc12 hf
            refine g_aload_n (pc := 56) dX7_sheet_56 rfl rfl ?_
            refine g_getR (pc := 57) dX7_sheet_57 fl_X7_26 sh_0 rfl ?_
            refine g_iload_n (pc := 60) dX7_sheet_60 rfl rfl ?_
            refine g_iload_n (pc := 61) dX7_sheet_61 rfl rfl ?_
            refine g_iload_n (pc := 62) dX7_sheet_62 rfl rfl ?_
            obtain ⟨M11, eM11, hf⟩ := job hf
            refine g_callV (pc := 63) [.int x1, .int x2, .int x3] [] dX7_sheet_63 ml_X7_136 ck_X5_make cv_X5_make sh_44 rfl (by decide) (Nat.le_of_ble_eq_true rfl) (c_X5_make eM11) ?_
            show jGG μ_X7_sheet 3 66 [some (.ref 0), some (.int x1), some (.int x2), some (.int x3)] [] M11 (fun M' r' => M' = Mz ∧ r' = some (.int r))
            refine g_iload_n (pc := 66) dX7_sheet_66 rfl rfl ?_
            obtain ⟨rfl, rfl⟩ := Prod.mk.inj (Option.some.inj hf)
            exact g_iret (pc := 67) dX7_sheet_67 rfl ⟨rfl, rfl⟩
          · replace hf := jifn hc12 hf
            refine g_iconst (pc := 54) 0 dX7_sheet_54 rfl ?_
            obtain ⟨rfl, rfl⟩ := Prod.mk.inj (Option.some.inj hf)
            exact g_iret (pc := 55) dX7_sheet_55 rfl ⟨rfl, rfl⟩
        refine g_if_ge (pc := 33) 40 dX7_sheet_33 rfl (fun hc8 => ?_) (fun hc8 => ?_)
        · replace hf := jifp hc8 hf
          refine g_iconst (pc := 40) 0 dX7_sheet_40 rfl ?_
          obtain rfl := Option.some.inj hf
          exact g_weakK (K6) ⟨rfl, ⟨rfl, ⟨rfl, ⟨rfl, trivial⟩⟩⟩⟩
        · replace hf := jifn hc8 hf
          refine g_iconst (pc := 36) 4 dX7_sheet_36 rfl ?_
          refine g_goto (pc := 37) 41 dX7_sheet_37 rfl ?_
          obtain rfl := Option.some.inj hf
          exact g_weakK (K6) ⟨rfl, ⟨rfl, ⟨rfl, ⟨rfl, trivial⟩⟩⟩⟩
      · replace hf := jifn hc13 hf
        refine g_ldc (pc := 25) (-100002) dX7_sheet_25 lc_X7_72 ?_
        obtain ⟨rfl, rfl⟩ := Prod.mk.inj (Option.some.inj hf)
        exact g_iret (pc := 27) dX7_sheet_27 rfl ⟨rfl, rfl⟩
  · replace hf := jifp hc15 hf
    refine g_ldc (pc := 7) (-100001) dX7_sheet_7 lc_X7_92 ?_
    obtain ⟨rfl, rfl⟩ := Prod.mk.inj (Option.some.inj hf)
    exact g_iret (pc := 9) dX7_sheet_9 rfl ⟨rfl, rfl⟩
def f_X7_tear (M : JMem) (x1 : Int32) : Option (JMem × Int32) := (f_X7_isSheet M x1).bind fun v1 => (if v1 = 0 then some (M, (-100001)) else (f_X5_isThere M x1).bind fun v2 => (((if v2 = 0 then some (0) else some (1)) : Option (Int32)).bind fun u9 => (f_X5_remove M x1).bind fun M10 => some (M10, u9)))
set_option maxHeartbeats 4000000 in
theorem c_X7_tear {M : JMem} {x1 : Int32} {Mz : JMem} {r : Int32} (hf : f_X7_tear M x1 = some (Mz, r)) : jCo yX7_tear μ_X7_tear 3 M [.ref 0, .int x1] Mz (some (.int r)) := by
  refine jCt_of (by decide +kernel) rfl (by simp [Value.category]) (Nat.le_of_ble_eq_true rfl) ?_
  unfold f_X7_tear at hf
  show jGG μ_X7_tear 3 0 [some (.ref 0), some (.int x1), none] [] M (fun M' r' => M' = Mz ∧ r' = some (.int r))
  refine g_iload_n (pc := 0) dX7_tear_0 rfl rfl ?_
  obtain ⟨v1, ev1, hf⟩ := job hf
  refine g_callS (pc := 1) [.int x1] [] dX7_tear_1 ml_X7_130 ck_X7_isSheet cs_X7_isSheet rfl (by decide) (Nat.le_of_ble_eq_true rfl) (c_X7_isSheet ev1) ?_
  show jGG μ_X7_tear 3 4 [some (.ref 0), some (.int x1), none] [.int v1] M (fun M' r' => M' = Mz ∧ r' = some (.int r))
  refine g_if_ne (pc := 4) 10 dX7_tear_4 rfl (fun hc11 => ?_) (fun hc11 => ?_)
  · replace hf := jifn hc11 hf
    refine g_aload_n (pc := 10) dX7_tear_10 rfl rfl ?_
    refine g_getR (pc := 11) dX7_tear_11 fl_X7_26 sh_0 rfl ?_
    refine g_iload_n (pc := 14) dX7_tear_14 rfl rfl ?_
    obtain ⟨v2, ev2, hf⟩ := job hf
    refine g_callV (pc := 15) [.int x1] [] dX7_tear_15 ml_X7_140 ck_X5_isThere cv_X5_isThere sh_44 rfl (by decide) (Nat.le_of_ble_eq_true rfl) (c_X5_isThere ev2) ?_
    show jGG μ_X7_tear 3 18 [some (.ref 0), some (.int x1), none] [.int v2] M (fun M' r' => M' = Mz ∧ r' = some (.int r))
    obtain ⟨u9, hf, hy4⟩ := job hf
    have K6 : (hbu9 : u9 = 0 ∨ u9 = 1) → jGG μ_X7_tear 3 26 [some (.ref 0), some (.int x1), none] [.int u9] M (fun M' r' => M' = Mz ∧ r' = some (.int r)) := by
      intro hbu9
      replace hf := hy4
      refine g_istore_n (pc := 26) (lv' := [some (.ref 0), some (.int x1), some (.int u9)]) dX7_tear_26 rfl (by decide) rfl ?_
      refine g_aload_n (pc := 27) dX7_tear_27 rfl rfl ?_
      refine g_getR (pc := 28) dX7_tear_28 fl_X7_26 sh_0 rfl ?_
      refine g_iload_n (pc := 31) dX7_tear_31 rfl rfl ?_
      obtain ⟨M10, eM10, hf⟩ := job hf
      refine g_callV (pc := 32) [.int x1] [] dX7_tear_32 ml_X7_143 ck_X5_remove cv_X5_remove sh_44 rfl (by decide) (Nat.le_of_ble_eq_true rfl) (c_X5_remove eM10) ?_
      show jGG μ_X7_tear 3 35 [some (.ref 0), some (.int x1), some (.int u9)] [] M10 (fun M' r' => M' = Mz ∧ r' = some (.int r))
      refine g_iload_n (pc := 35) dX7_tear_35 rfl rfl ?_
      obtain ⟨rfl, rfl⟩ := Prod.mk.inj (Option.some.inj hf)
      exact g_iret (pc := 36) dX7_tear_36 rfl ⟨rfl, rfl⟩
    refine g_if_eq (pc := 18) 25 dX7_tear_18 rfl (fun hc8 => ?_) (fun hc8 => ?_)
    · replace hf := jifp hc8 hf
      refine g_iconst (pc := 25) 0 dX7_tear_25 rfl ?_
      obtain rfl := Option.some.inj hf
      exact g_weakK (K6 (Or.inl rfl)) ⟨rfl, ⟨rfl, trivial⟩⟩
    · replace hf := jifn hc8 hf
      refine g_iconst (pc := 21) 1 dX7_tear_21 rfl ?_
      refine g_goto (pc := 22) 26 dX7_tear_22 rfl ?_
      obtain rfl := Option.some.inj hf
      exact g_weakK (K6 (Or.inr rfl)) ⟨rfl, ⟨rfl, trivial⟩⟩
  · replace hf := jifp hc11 hf
    refine g_ldc (pc := 7) (-100001) dX7_tear_7 lc_X7_92 ?_
    obtain ⟨rfl, rfl⟩ := Prod.mk.inj (Option.some.inj hf)
    exact g_iret (pc := 9) dX7_tear_9 rfl ⟨rfl, rfl⟩
def f_X7_put (M : JMem) (x1 : Int32) (x2 : Int32) (x3 : Int32) (x4 : Int32) : Option (JMem × Int32) := (f_X7_isSheet M x1).bind fun v1 => (if v1 = 0 then some (M, (-100001)) else (f_X7_isOut M x2 0 2).bind fun v2 => (if v2 = 0 then (f_X5_codeOfPut M x1 x2 x3).bind fun v3 => (some (jup M 44 3 v3)).bind fun M4 => (if (M4 44 3) = 0 then (jrw 47 6 x1).bind fun w5 => (f_X5_cutTo M4 x2 x4).bind fun v6 => (jwr M4 w5 40 x3 v6).bind fun M7 => (jrw 47 6 x1).bind fun w8 => (jrd M7 w8 40 x3).bind fun v9 => some (M7, v9) else some (M4, 0)) else some (M, (-100002))))
set_option maxHeartbeats 4000000 in
theorem c_X7_put {M : JMem} {x1 : Int32} {x2 : Int32} {x3 : Int32} {x4 : Int32} {Mz : JMem} {r : Int32} (hf : f_X7_put M x1 x2 x3 x4 = some (Mz, r)) : jCo yX7_put μ_X7_put 4 M [.ref 0, .int x1, .int x2, .int x3, .int x4] Mz (some (.int r)) := by
  refine jCt_of (by decide +kernel) rfl (by simp [Value.category]) (Nat.le_of_ble_eq_true rfl) ?_
  unfold f_X7_put at hf
  show jGG μ_X7_put 4 0 [some (.ref 0), some (.int x1), some (.int x2), some (.int x3), some (.int x4)] [] M (fun M' r' => M' = Mz ∧ r' = some (.int r))
  refine g_iload_n (pc := 0) dX7_put_0 rfl rfl ?_
  obtain ⟨v1, ev1, hf⟩ := job hf
  refine g_callS (pc := 1) [.int x1] [] dX7_put_1 ml_X7_130 ck_X7_isSheet cs_X7_isSheet rfl (by decide) (Nat.le_of_ble_eq_true rfl) (c_X7_isSheet ev1) ?_
  show jGG μ_X7_put 4 4 [some (.ref 0), some (.int x1), some (.int x2), some (.int x3), some (.int x4)] [.int v1] M (fun M' r' => M' = Mz ∧ r' = some (.int r))
  refine g_if_ne (pc := 4) 10 dX7_put_4 rfl (fun hc12 => ?_) (fun hc12 => ?_)
  · replace hf := jifn hc12 hf
    refine g_iload_n (pc := 10) dX7_put_10 rfl rfl ?_
    refine g_iconst (pc := 11) 0 dX7_put_11 rfl ?_
    refine g_iconst (pc := 12) 2 dX7_put_12 rfl ?_
    obtain ⟨v2, ev2, hf⟩ := job hf
    refine g_callS (pc := 13) [.int x2, .int 0, .int 2] [] dX7_put_13 ml_X7_68 ck_X7_isOut cs_X7_isOut rfl (by decide) (Nat.le_of_ble_eq_true rfl) (c_X7_isOut ev2) ?_
    show jGG μ_X7_put 4 16 [some (.ref 0), some (.int x1), some (.int x2), some (.int x3), some (.int x4)] [.int v2] M (fun M' r' => M' = Mz ∧ r' = some (.int r))
    refine g_if_eq (pc := 16) 22 dX7_put_16 rfl (fun hc11 => ?_) (fun hc11 => ?_)
    · replace hf := jifp hc11 hf
      refine g_aload_n (pc := 22) dX7_put_22 rfl rfl ?_
      refine g_getR (pc := 23) dX7_put_23 fl_X7_26 sh_0 rfl ?_
      refine g_aload_n (pc := 26) dX7_put_26 rfl rfl ?_
      refine g_getR (pc := 27) dX7_put_27 fl_X7_26 sh_0 rfl ?_
      refine g_iload_n (pc := 30) dX7_put_30 rfl rfl ?_
      refine g_iload_n (pc := 31) dX7_put_31 rfl rfl ?_
      refine g_iload_n (pc := 32) dX7_put_32 rfl rfl ?_
      obtain ⟨v3, ev3, hf⟩ := job hf
      refine g_callV (pc := 33) [.int x1, .int x2, .int x3] [.ref 44] dX7_put_33 ml_X7_147 ck_X5_codeOfPut cv_X5_codeOfPut sh_44 rfl (by decide) (Nat.le_of_ble_eq_true rfl) (c_X5_codeOfPut ev3) ?_
      show jGG μ_X7_put 4 36 [some (.ref 0), some (.int x1), some (.int x2), some (.int x3), some (.int x4)] [.int v3, .ref 44] M (fun M' r' => M' = Mz ∧ r' = some (.int r))
      refine g_putI (pc := 36) dX7_put_36 fp_X7_133 sh_44 rfl ?_
      obtain ⟨M4, eM4, hf⟩ := job hf
      rw [Option.some.inj eM4]
      refine g_aload_n (pc := 39) dX7_put_39 rfl rfl ?_
      refine g_getR (pc := 40) dX7_put_40 fl_X7_26 sh_0 rfl ?_
      refine g_getI (pc := 43) dX7_put_43 fl_X7_133 sh_44 rfl ?_
      refine g_if_eq (pc := 46) 51 dX7_put_46 rfl (fun hc10 => ?_) (fun hc10 => ?_)
      · replace hf := jifp hc10 hf
        refine g_aload_n (pc := 51) dX7_put_51 rfl rfl ?_
        refine g_getR (pc := 52) dX7_put_52 fl_X7_26 sh_0 rfl ?_
        refine g_getR (pc := 55) dX7_put_55 fl_X7_150 sh_44 rfl ?_
        refine g_iload_n (pc := 58) dX7_put_58 rfl rfl ?_
        obtain ⟨w5, ew5, hf⟩ := job hf
        refine g_aald (pc := 59) dX7_put_59 sh_47 ew5 ?_
        refine g_iload_n (pc := 60) dX7_put_60 rfl rfl ?_
        refine g_iload_n (pc := 61) dX7_put_61 rfl rfl ?_
        refine g_iload (pc := 62) dX7_put_62 rfl ?_
        obtain ⟨v6, ev6, hf⟩ := job hf
        refine g_callS (pc := 64) [.int x2, .int x4] [.int x3, .ref w5] dX7_put_64 ml_X7_154 ck_X5_cutTo cs_X5_cutTo rfl (by decide) (Nat.le_of_ble_eq_true rfl) (c_X5_cutTo ev6) ?_
        show jGG μ_X7_put 4 67 [some (.ref 0), some (.int x1), some (.int x2), some (.int x3), some (.int x4)] [.int v6, .int x3, .ref w5] M4 (fun M' r' => M' = Mz ∧ r' = some (.int r))
        obtain ⟨M7, eM7, hf⟩ := job hf
        refine g_iast (pc := 67) dX7_put_67 (jrw_sh gr_47 ew5) eM7 ?_
        refine g_aload_n (pc := 68) dX7_put_68 rfl rfl ?_
        refine g_getR (pc := 69) dX7_put_69 fl_X7_26 sh_0 rfl ?_
        refine g_getR (pc := 72) dX7_put_72 fl_X7_150 sh_44 rfl ?_
        refine g_iload_n (pc := 75) dX7_put_75 rfl rfl ?_
        obtain ⟨w8, ew8, hf⟩ := job hf
        refine g_aald (pc := 76) dX7_put_76 sh_47 ew8 ?_
        refine g_iload_n (pc := 77) dX7_put_77 rfl rfl ?_
        obtain ⟨v9, ev9, hf⟩ := job hf
        refine g_iald (pc := 78) dX7_put_78 (jrw_sh gr_47 ew8) ev9 ?_
        obtain ⟨rfl, rfl⟩ := Prod.mk.inj (Option.some.inj hf)
        exact g_iret (pc := 79) dX7_put_79 rfl ⟨rfl, rfl⟩
      · replace hf := jifn hc10 hf
        refine g_iconst (pc := 49) 0 dX7_put_49 rfl ?_
        obtain ⟨rfl, rfl⟩ := Prod.mk.inj (Option.some.inj hf)
        exact g_iret (pc := 50) dX7_put_50 rfl ⟨rfl, rfl⟩
    · replace hf := jifn hc11 hf
      refine g_ldc (pc := 19) (-100002) dX7_put_19 lc_X7_72 ?_
      obtain ⟨rfl, rfl⟩ := Prod.mk.inj (Option.some.inj hf)
      exact g_iret (pc := 21) dX7_put_21 rfl ⟨rfl, rfl⟩
  · replace hf := jifp hc12 hf
    refine g_ldc (pc := 7) (-100001) dX7_put_7 lc_X7_92 ?_
    obtain ⟨rfl, rfl⟩ := Prod.mk.inj (Option.some.inj hf)
    exact g_iret (pc := 9) dX7_put_9 rfl ⟨rfl, rfl⟩
def f_X7_at (M : JMem) (x1 : Int32) (x2 : Int32) : Option (JMem × Int32) := (f_X7_isSheet M x1).bind fun v1 => (if v1 = 0 then some (M, (-100001)) else (f_X5_codeOfPlace M x1 x2).bind fun v2 => (some (jup M 44 3 v2)).bind fun M3 => (if (M3 44 3) = 0 then (jrw 47 6 x1).bind fun w4 => (jrd M3 w4 40 x2).bind fun v5 => some (M3, v5) else some (M3, 0)))
set_option maxHeartbeats 4000000 in
theorem c_X7_at {M : JMem} {x1 : Int32} {x2 : Int32} {Mz : JMem} {r : Int32} (hf : f_X7_at M x1 x2 = some (Mz, r)) : jCo yX7_at μ_X7_at 3 M [.ref 0, .int x1, .int x2] Mz (some (.int r)) := by
  refine jCt_of (by decide +kernel) rfl (by simp [Value.category]) (Nat.le_of_ble_eq_true rfl) ?_
  unfold f_X7_at at hf
  show jGG μ_X7_at 3 0 [some (.ref 0), some (.int x1), some (.int x2)] [] M (fun M' r' => M' = Mz ∧ r' = some (.int r))
  refine g_iload_n (pc := 0) dX7_at_0 rfl rfl ?_
  obtain ⟨v1, ev1, hf⟩ := job hf
  refine g_callS (pc := 1) [.int x1] [] dX7_at_1 ml_X7_130 ck_X7_isSheet cs_X7_isSheet rfl (by decide) (Nat.le_of_ble_eq_true rfl) (c_X7_isSheet ev1) ?_
  show jGG μ_X7_at 3 4 [some (.ref 0), some (.int x1), some (.int x2)] [.int v1] M (fun M' r' => M' = Mz ∧ r' = some (.int r))
  refine g_if_ne (pc := 4) 10 dX7_at_4 rfl (fun hc7 => ?_) (fun hc7 => ?_)
  · replace hf := jifn hc7 hf
    refine g_aload_n (pc := 10) dX7_at_10 rfl rfl ?_
    refine g_getR (pc := 11) dX7_at_11 fl_X7_26 sh_0 rfl ?_
    refine g_aload_n (pc := 14) dX7_at_14 rfl rfl ?_
    refine g_getR (pc := 15) dX7_at_15 fl_X7_26 sh_0 rfl ?_
    refine g_iload_n (pc := 18) dX7_at_18 rfl rfl ?_
    refine g_iload_n (pc := 19) dX7_at_19 rfl rfl ?_
    obtain ⟨v2, ev2, hf⟩ := job hf
    refine g_callV (pc := 20) [.int x1, .int x2] [.ref 44] dX7_at_20 ml_X7_157 ck_X5_codeOfPlace cv_X5_codeOfPlace sh_44 rfl (by decide) (Nat.le_of_ble_eq_true rfl) (c_X5_codeOfPlace ev2) ?_
    show jGG μ_X7_at 3 23 [some (.ref 0), some (.int x1), some (.int x2)] [.int v2, .ref 44] M (fun M' r' => M' = Mz ∧ r' = some (.int r))
    refine g_putI (pc := 23) dX7_at_23 fp_X7_133 sh_44 rfl ?_
    obtain ⟨M3, eM3, hf⟩ := job hf
    rw [Option.some.inj eM3]
    refine g_aload_n (pc := 26) dX7_at_26 rfl rfl ?_
    refine g_getR (pc := 27) dX7_at_27 fl_X7_26 sh_0 rfl ?_
    refine g_getI (pc := 30) dX7_at_30 fl_X7_133 sh_44 rfl ?_
    refine g_if_eq (pc := 33) 40 dX7_at_33 rfl (fun hc6 => ?_) (fun hc6 => ?_)
    · replace hf := jifp hc6 hf
      refine g_aload_n (pc := 40) dX7_at_40 rfl rfl ?_
      refine g_getR (pc := 41) dX7_at_41 fl_X7_26 sh_0 rfl ?_
      refine g_getR (pc := 44) dX7_at_44 fl_X7_150 sh_44 rfl ?_
      refine g_iload_n (pc := 47) dX7_at_47 rfl rfl ?_
      obtain ⟨w4, ew4, hf⟩ := job hf
      refine g_aald (pc := 48) dX7_at_48 sh_47 ew4 ?_
      refine g_iload_n (pc := 49) dX7_at_49 rfl rfl ?_
      obtain ⟨v5, ev5, hf⟩ := job hf
      refine g_iald (pc := 50) dX7_at_50 (jrw_sh gr_47 ew4) ev5 ?_
      obtain ⟨rfl, rfl⟩ := Prod.mk.inj (Option.some.inj hf)
      exact g_iret (pc := 51) dX7_at_51 rfl ⟨rfl, rfl⟩
    · replace hf := jifn hc6 hf
      refine g_iconst (pc := 36) 0 dX7_at_36 rfl ?_
      refine g_goto (pc := 37) 51 dX7_at_37 rfl ?_
      obtain ⟨rfl, rfl⟩ := Prod.mk.inj (Option.some.inj hf)
      exact g_iret (pc := 51) dX7_at_51 rfl ⟨rfl, rfl⟩
  · replace hf := jifp hc7 hf
    refine g_ldc (pc := 7) (-100001) dX7_at_7 lc_X7_92 ?_
    obtain ⟨rfl, rfl⟩ := Prod.mk.inj (Option.some.inj hf)
    exact g_iret (pc := 9) dX7_at_9 rfl ⟨rfl, rfl⟩
def f_X7_copy (M : JMem) (x1 : Int32) (x2 : Int32) (x3 : Int32) (x4 : Int32) (x5 : Int32) : Option (JMem × Int32) := (f_X7_isSheet M x1).bind fun v1 => (if v1 = 0 then some (M, (-100001)) else (f_X7_isSheet M x3).bind fun v2 => (if v2 = 0 then some (M, (-100001)) else (f_X5_codeOfCopy M x1 x2 x3 x4 x5).bind fun v3 => (some (jup M 44 3 v3)).bind fun M4 => (if (M4 44 3) = 0 then (jrw 47 6 x1).bind fun w5 => (jrw 47 6 x3).bind fun w6 => (jcpy M4 w5 40 x2 w6 40 x4 x5).bind fun M7 => some (M7, 1) else some (M4, 0))))
set_option maxHeartbeats 4000000 in
theorem c_X7_copy {M : JMem} {x1 : Int32} {x2 : Int32} {x3 : Int32} {x4 : Int32} {x5 : Int32} {Mz : JMem} {r : Int32} (hf : f_X7_copy M x1 x2 x3 x4 x5 = some (Mz, r)) : jCo yX7_copy μ_X7_copy 3 M [.ref 0, .int x1, .int x2, .int x3, .int x4, .int x5] Mz (some (.int r)) := by
  refine jCt_of (by decide +kernel) rfl (by simp [Value.category]) (Nat.le_of_ble_eq_true rfl) ?_
  unfold f_X7_copy at hf
  show jGG μ_X7_copy 3 0 [some (.ref 0), some (.int x1), some (.int x2), some (.int x3), some (.int x4), some (.int x5)] [] M (fun M' r' => M' = Mz ∧ r' = some (.int r))
  refine g_iload_n (pc := 0) dX7_copy_0 rfl rfl ?_
  obtain ⟨v1, ev1, hf⟩ := job hf
  refine g_callS (pc := 1) [.int x1] [] dX7_copy_1 ml_X7_130 ck_X7_isSheet cs_X7_isSheet rfl (by decide) (Nat.le_of_ble_eq_true rfl) (c_X7_isSheet ev1) ?_
  show jGG μ_X7_copy 3 4 [some (.ref 0), some (.int x1), some (.int x2), some (.int x3), some (.int x4), some (.int x5)] [.int v1] M (fun M' r' => M' = Mz ∧ r' = some (.int r))
  refine g_if_eq (pc := 4) 14 dX7_copy_4 rfl (fun hc10 => ?_) (fun hc10 => ?_)
  · replace hf := jifp hc10 hf
    refine g_ldc (pc := 14) (-100001) dX7_copy_14 lc_X7_92 ?_
    obtain ⟨rfl, rfl⟩ := Prod.mk.inj (Option.some.inj hf)
    exact g_iret (pc := 16) dX7_copy_16 rfl ⟨rfl, rfl⟩
  · replace hf := jifn hc10 hf
    refine g_iload_n (pc := 7) dX7_copy_7 rfl rfl ?_
    obtain ⟨v2, ev2, hf⟩ := job hf
    refine g_callS (pc := 8) [.int x3] [] dX7_copy_8 ml_X7_130 ck_X7_isSheet cs_X7_isSheet rfl (by decide) (Nat.le_of_ble_eq_true rfl) (c_X7_isSheet ev2) ?_
    show jGG μ_X7_copy 3 11 [some (.ref 0), some (.int x1), some (.int x2), some (.int x3), some (.int x4), some (.int x5)] [.int v2] M (fun M' r' => M' = Mz ∧ r' = some (.int r))
    refine g_if_ne (pc := 11) 17 dX7_copy_11 rfl (fun hc9 => ?_) (fun hc9 => ?_)
    · replace hf := jifn hc9 hf
      refine g_aload_n (pc := 17) dX7_copy_17 rfl rfl ?_
      refine g_getR (pc := 18) dX7_copy_18 fl_X7_26 sh_0 rfl ?_
      refine g_aload_n (pc := 21) dX7_copy_21 rfl rfl ?_
      refine g_getR (pc := 22) dX7_copy_22 fl_X7_26 sh_0 rfl ?_
      refine g_iload_n (pc := 25) dX7_copy_25 rfl rfl ?_
      refine g_iload_n (pc := 26) dX7_copy_26 rfl rfl ?_
      refine g_iload_n (pc := 27) dX7_copy_27 rfl rfl ?_
      refine g_iload (pc := 28) dX7_copy_28 rfl ?_
      refine g_iload (pc := 30) dX7_copy_30 rfl ?_
      obtain ⟨v3, ev3, hf⟩ := job hf
      refine g_callV (pc := 32) [.int x1, .int x2, .int x3, .int x4, .int x5] [.ref 44] dX7_copy_32 ml_X7_160 ck_X5_codeOfCopy cv_X5_codeOfCopy sh_44 rfl (by decide) (Nat.le_of_ble_eq_true rfl) (c_X5_codeOfCopy ev3) ?_
      show jGG μ_X7_copy 3 35 [some (.ref 0), some (.int x1), some (.int x2), some (.int x3), some (.int x4), some (.int x5)] [.int v3, .ref 44] M (fun M' r' => M' = Mz ∧ r' = some (.int r))
      refine g_putI (pc := 35) dX7_copy_35 fp_X7_133 sh_44 rfl ?_
      obtain ⟨M4, eM4, hf⟩ := job hf
      rw [Option.some.inj eM4]
      refine g_aload_n (pc := 38) dX7_copy_38 rfl rfl ?_
      refine g_getR (pc := 39) dX7_copy_39 fl_X7_26 sh_0 rfl ?_
      refine g_getI (pc := 42) dX7_copy_42 fl_X7_133 sh_44 rfl ?_
      refine g_if_eq (pc := 45) 50 dX7_copy_45 rfl (fun hc8 => ?_) (fun hc8 => ?_)
      · replace hf := jifp hc8 hf
        refine g_aload_n (pc := 50) dX7_copy_50 rfl rfl ?_
        refine g_getR (pc := 51) dX7_copy_51 fl_X7_26 sh_0 rfl ?_
        refine g_getR (pc := 54) dX7_copy_54 fl_X7_150 sh_44 rfl ?_
        refine g_iload_n (pc := 57) dX7_copy_57 rfl rfl ?_
        obtain ⟨w5, ew5, hf⟩ := job hf
        refine g_aald (pc := 58) dX7_copy_58 sh_47 ew5 ?_
        refine g_iload_n (pc := 59) dX7_copy_59 rfl rfl ?_
        refine g_aload_n (pc := 60) dX7_copy_60 rfl rfl ?_
        refine g_getR (pc := 61) dX7_copy_61 fl_X7_26 sh_0 rfl ?_
        refine g_getR (pc := 64) dX7_copy_64 fl_X7_150 sh_44 rfl ?_
        refine g_iload_n (pc := 67) dX7_copy_67 rfl rfl ?_
        obtain ⟨w6, ew6, hf⟩ := job hf
        refine g_aald (pc := 68) dX7_copy_68 sh_47 ew6 ?_
        refine g_iload (pc := 69) dX7_copy_69 rfl ?_
        refine g_iload (pc := 71) dX7_copy_71 rfl ?_
        obtain ⟨M7, eM7, hf⟩ := job hf
        refine g_copy (pc := 73) [] dX7_copy_73 ml_X7_164 (by decide) (Nat.le_of_ble_eq_true rfl) (jrw_sh gr_47 ew5) (jrw_sh gr_47 ew6) eM7 ?_
        refine g_iconst (pc := 76) 1 dX7_copy_76 rfl ?_
        obtain ⟨rfl, rfl⟩ := Prod.mk.inj (Option.some.inj hf)
        exact g_iret (pc := 77) dX7_copy_77 rfl ⟨rfl, rfl⟩
      · replace hf := jifn hc8 hf
        refine g_iconst (pc := 48) 0 dX7_copy_48 rfl ?_
        obtain ⟨rfl, rfl⟩ := Prod.mk.inj (Option.some.inj hf)
        exact g_iret (pc := 49) dX7_copy_49 rfl ⟨rfl, rfl⟩
    · replace hf := jifp hc9 hf
      refine g_ldc (pc := 14) (-100001) dX7_copy_14 lc_X7_92 ?_
      obtain ⟨rfl, rfl⟩ := Prod.mk.inj (Option.some.inj hf)
      exact g_iret (pc := 16) dX7_copy_16 rfl ⟨rfl, rfl⟩
def f_X7_holdsSteps (N : Nat) (M : JMem) (a1 : Nat) (x2 : Int32) : Option (Int32) := (jcase (α := Int32) (β := Unit) (jLp (σ := Int32) (ρ := (Int32) ⊕ (Unit)) N (fun (z7 : Int32) => (if x2 ≤ z7 then some (Sum.inr (Sum.inr ())) else (jrd M a1 40 (2 * z7)).bind fun v8 => (f_X7_isMachine M v8).bind fun v9 => (if v9 = 0 then some (Sum.inr (Sum.inl 0)) else (jrd M a1 40 ((2 * z7) + 1)).bind fun v10 => (f_X7_isOut M v10 1 1000).bind fun v11 => (if v11 = 0 then some (Sum.inl (z7 + 1)) else some (Sum.inr (Sum.inl 0)))))) 0) fun _ => some 1)
set_option maxHeartbeats 4000000 in
theorem c_X7_holdsSteps {N : Nat} {M : JMem} {a1 : Nat} {x2 : Int32} {r : Int32} (ha1 : jSh a1 (1, 40, [])) (hf : f_X7_holdsSteps N M a1 x2 = some r) : jCo yX7_holdsSteps μ_X7_holdsSteps 3 M [.ref 0, .ref a1, .int x2] M (some (.int r)) := by
  refine jCt_of (by decide +kernel) rfl (by simp [Value.category]) (Nat.le_of_ble_eq_true rfl) ?_
  unfold f_X7_holdsSteps at hf
  show jGG μ_X7_holdsSteps 3 0 [some (.ref 0), some (.ref a1), some (.int x2), none] [] M (fun M' r' => M' = M ∧ r' = some (.int r))
  refine g_iconst (pc := 0) 0 dX7_holdsSteps_0 rfl ?_
  refine g_istore_n (pc := 1) (lv' := [some (.ref 0), some (.ref a1), some (.int x2), some (.int 0)]) dX7_holdsSteps_1 rfl (by decide) rfl ?_
  obtain ⟨y2, hr15, hy1⟩ := jcb hf
  have K3 : y2 = Sum.inr () → jGG μ_X7_holdsSteps 3 44 [none, none, none, none] [] M (fun M' r' => M' = M ∧ r' = some (.int r)) := by
    intro hyy
    subst hyy
    replace hf := hy1
    refine g_iconst (pc := 44) 1 dX7_holdsSteps_44 rfl ?_
    obtain rfl := Option.some.inj hf
    exact g_zret (pc := 45) dX7_holdsSteps_45 rfl (Or.inr rfl) ⟨rfl, rfl⟩
  refine g_weak (lv' := [some (.ref 0), some (.ref a1), some (.int x2), some (.int 0)]) ⟨rfl, ⟨rfl, ⟨rfl, ⟨rfl, trivial⟩⟩⟩⟩ ?_
  refine jLp_ind (P := fun (z7 : Int32) => jGG μ_X7_holdsSteps 3 2 [some (.ref 0), some (.ref a1), some (.int x2), some (.int z7)] [] M (fun M' r' => M' = M ∧ r' = some (.int r))) ?_ N _ hr15
  rintro z7 x_6 hf ih5 hx4
  show jGG μ_X7_holdsSteps 3 2 [some (.ref 0), some (.ref a1), some (.int x2), some (.int z7)] [] M (fun M' r' => M' = M ∧ r' = some (.int r))
  refine g_iload_n (pc := 2) dX7_holdsSteps_2 rfl rfl ?_
  refine g_iload_n (pc := 3) dX7_holdsSteps_3 rfl rfl ?_
  refine g_icmp_ge (pc := 4) 44 dX7_holdsSteps_4 rfl (fun hc14 => ?_) (fun hc14 => ?_)
  · replace hf := jifp hc14 hf
    have hf := hx4 _ (Option.some.inj hf).symm
    exact g_weakK (K3 hf.symm) trivial
  · replace hf := jifn hc14 hf
    refine g_aload_n (pc := 7) dX7_holdsSteps_7 rfl rfl ?_
    refine g_aload_n (pc := 8) dX7_holdsSteps_8 rfl rfl ?_
    refine g_iconst (pc := 9) 2 dX7_holdsSteps_9 rfl ?_
    refine g_iload_n (pc := 10) dX7_holdsSteps_10 rfl rfl ?_
    refine g_imul (pc := 11) dX7_holdsSteps_11 ?_
    obtain ⟨v8, ev8, hf⟩ := job hf
    refine g_iald (pc := 12) dX7_holdsSteps_12 ha1 ev8 ?_
    obtain ⟨v9, ev9, hf⟩ := job hf
    refine g_callV (pc := 13) [.int v8] [] dX7_holdsSteps_13 ml_X7_88 ck_X7_isMachine cv_X7_isMachine sh_0 rfl (by decide) (Nat.le_of_ble_eq_true rfl) (c_X7_isMachine ev9) ?_
    show jGG μ_X7_holdsSteps 3 16 [some (.ref 0), some (.ref a1), some (.int x2), some (.int z7)] [.int v9] M (fun M' r' => M' = M ∧ r' = some (.int r))
    refine g_if_eq (pc := 16) 36 dX7_holdsSteps_16 rfl (fun hc13 => ?_) (fun hc13 => ?_)
    · replace hf := jifp hc13 hf
      refine g_iconst (pc := 36) 0 dX7_holdsSteps_36 rfl ?_
      have hf := hx4 _ (Option.some.inj hf).symm
      subst hf
      replace hf := hy1
      obtain rfl := Option.some.inj hf
      exact g_zret (pc := 37) dX7_holdsSteps_37 rfl (Or.inl rfl) ⟨rfl, rfl⟩
    · replace hf := jifn hc13 hf
      refine g_aload_n (pc := 19) dX7_holdsSteps_19 rfl rfl ?_
      refine g_iconst (pc := 20) 2 dX7_holdsSteps_20 rfl ?_
      refine g_iload_n (pc := 21) dX7_holdsSteps_21 rfl rfl ?_
      refine g_imul (pc := 22) dX7_holdsSteps_22 ?_
      refine g_iconst (pc := 23) 1 dX7_holdsSteps_23 rfl ?_
      refine g_iadd (pc := 24) dX7_holdsSteps_24 ?_
      obtain ⟨v10, ev10, hf⟩ := job hf
      refine g_iald (pc := 25) dX7_holdsSteps_25 ha1 ev10 ?_
      refine g_iconst (pc := 26) 1 dX7_holdsSteps_26 rfl ?_
      refine g_sipush (pc := 27) 1000 dX7_holdsSteps_27 rfl ?_
      obtain ⟨v11, ev11, hf⟩ := job hf
      refine g_callS (pc := 30) [.int v10, .int 1, .int 1000] [] dX7_holdsSteps_30 ml_X7_68 ck_X7_isOut cs_X7_isOut rfl (by decide) (Nat.le_of_ble_eq_true rfl) (c_X7_isOut ev11) ?_
      show jGG μ_X7_holdsSteps 3 33 [some (.ref 0), some (.ref a1), some (.int x2), some (.int z7)] [.int v11] M (fun M' r' => M' = M ∧ r' = some (.int r))
      refine g_if_eq (pc := 33) 38 dX7_holdsSteps_33 rfl (fun hc12 => ?_) (fun hc12 => ?_)
      · replace hf := jifp hc12 hf
        refine g_iinc (pc := 38) (lv' := [some (.ref 0), some (.ref a1), some (.int x2), some (.int (z7 + 1))]) (z7 + 1) dX7_holdsSteps_38 rfl rfl (by decide) rfl ?_
        refine g_goto (pc := 41) 2 dX7_holdsSteps_41 rfl ?_
        have hih : jGG μ_X7_holdsSteps 3 2 [some (.ref 0), some (.ref a1), some (.int x2), some (.int (z7 + 1))] [] M (fun M' r' => M' = M ∧ r' = some (.int r)) := ih5 (z7 + 1) (Option.some.inj hf).symm
        exact g_weakK hih ⟨rfl, ⟨rfl, ⟨rfl, ⟨rfl, trivial⟩⟩⟩⟩
      · replace hf := jifn hc12 hf
        refine g_iconst (pc := 36) 0 dX7_holdsSteps_36 rfl ?_
        have hf := hx4 _ (Option.some.inj hf).symm
        subst hf
        replace hf := hy1
        obtain rfl := Option.some.inj hf
        exact g_zret (pc := 37) dX7_holdsSteps_37 rfl (Or.inl rfl) ⟨rfl, rfl⟩
def f_X7_addPieceBy (N : Nat) (M : JMem) (x1 : Int32) (a2 : Nat) (x3 : Int32) : Option (JMem × Int32) := (f_X2_addPiece M x1).bind fun (M1, v2) => ((jLp (σ := Int32 × JMem) (ρ := JMem) N (fun ((z9, M10) : Int32 × JMem) => (if x3 ≤ z9 then some (Sum.inr M10) else (jrd M10 a2 40 (2 * z9)).bind fun v12 => (jrd M10 a2 40 ((2 * z9) + 1)).bind fun v13 => (f_X7_addStep M10 v2 v12 v13).bind fun (M14, v15) => some (Sum.inl (z9 + 1, M14)))) (0, M1)).bind fun t11 => some (t11, v2))
set_option maxHeartbeats 4000000 in
theorem c_X7_addPieceBy {N : Nat} {M : JMem} {x1 : Int32} {a2 : Nat} {x3 : Int32} {Mz : JMem} {r : Int32} (ha2 : jSh a2 (1, 40, [])) (hf : f_X7_addPieceBy N M x1 a2 x3 = some (Mz, r)) : jCo yX7_addPieceBy μ_X7_addPieceBy 3 M [.ref 0, .int x1, .ref a2, .int x3] Mz (some (.int r)) := by
  refine jCt_of (by decide +kernel) rfl (by simp [Value.category]) (Nat.le_of_ble_eq_true rfl) ?_
  unfold f_X7_addPieceBy at hf
  show jGG μ_X7_addPieceBy 3 0 [some (.ref 0), some (.int x1), some (.ref a2), some (.int x3), none, none] [] M (fun M' r' => M' = Mz ∧ r' = some (.int r))
  refine g_aload_n (pc := 0) dX7_addPieceBy_0 rfl rfl ?_
  refine g_getR (pc := 1) dX7_addPieceBy_1 fl_X7_10 sh_0 rfl ?_
  refine g_iload_n (pc := 4) dX7_addPieceBy_4 rfl rfl ?_
  obtain ⟨⟨M1, v2⟩, ev2, hf⟩ := job hf
  refine g_callV (pc := 5) [.int x1] [] dX7_addPieceBy_5 ml_X7_84 ck_X2_addPiece cv_X2_addPiece sh_1 rfl (by decide) (Nat.le_of_ble_eq_true rfl) (c_X2_addPiece ev2) ?_
  show jGG μ_X7_addPieceBy 3 8 [some (.ref 0), some (.int x1), some (.ref a2), some (.int x3), none, none] [.int v2] M1 (fun M' r' => M' = Mz ∧ r' = some (.int r))
  refine g_istore (pc := 8) (lv' := [some (.ref 0), some (.int x1), some (.ref a2), some (.int x3), some (.int v2), none]) dX7_addPieceBy_8 (by decide) rfl ?_
  refine g_iconst (pc := 10) 0 dX7_addPieceBy_10 rfl ?_
  refine g_istore (pc := 11) (lv' := [some (.ref 0), some (.int x1), some (.ref a2), some (.int x3), some (.int v2), some (.int 0)]) dX7_addPieceBy_11 (by decide) rfl ?_
  obtain ⟨t11, y4, hy3⟩ := job hf
  have K5 : jGG μ_X7_addPieceBy 3 46 [none, none, none, none, some (.int v2), none] [] t11 (fun M' r' => M' = Mz ∧ r' = some (.int r)) := by
    replace hf := hy3
    refine g_iload (pc := 46) dX7_addPieceBy_46 rfl ?_
    obtain ⟨rfl, rfl⟩ := Prod.mk.inj (Option.some.inj hf)
    exact g_iret (pc := 48) dX7_addPieceBy_48 rfl ⟨rfl, rfl⟩
  refine g_weak (lv' := [some (.ref 0), none, some (.ref a2), some (.int x3), some (.int v2), some (.int 0)]) ⟨rfl, ⟨rfl, ⟨rfl, ⟨rfl, ⟨rfl, trivial⟩⟩⟩⟩⟩ ?_
  refine jLp_ind (P := fun ((z9, M10) : Int32 × JMem) => jGG μ_X7_addPieceBy 3 13 [some (.ref 0), none, some (.ref a2), some (.int x3), some (.int v2), some (.int z9)] [] M10 (fun M' r' => M' = Mz ∧ r' = some (.int r))) ?_ N _ y4
  rintro ⟨z9, M10⟩ x_8 hf ih7 hx6
  show jGG μ_X7_addPieceBy 3 13 [some (.ref 0), none, some (.ref a2), some (.int x3), some (.int v2), some (.int z9)] [] M10 (fun M' r' => M' = Mz ∧ r' = some (.int r))
  refine g_iload (pc := 13) dX7_addPieceBy_13 rfl ?_
  refine g_iload_n (pc := 15) dX7_addPieceBy_15 rfl rfl ?_
  refine g_icmp_ge (pc := 16) 46 dX7_addPieceBy_16 rfl (fun hc16 => ?_) (fun hc16 => ?_)
  · replace hf := jifp hc16 hf
    have hf := hx6 _ (Option.some.inj hf).symm
    obtain rfl := hf
    exact g_weakK K5 ⟨rfl, trivial⟩
  · replace hf := jifn hc16 hf
    refine g_aload_n (pc := 19) dX7_addPieceBy_19 rfl rfl ?_
    refine g_iload (pc := 20) dX7_addPieceBy_20 rfl ?_
    refine g_aload_n (pc := 22) dX7_addPieceBy_22 rfl rfl ?_
    refine g_iconst (pc := 23) 2 dX7_addPieceBy_23 rfl ?_
    refine g_iload (pc := 24) dX7_addPieceBy_24 rfl ?_
    refine g_imul (pc := 26) dX7_addPieceBy_26 ?_
    obtain ⟨v12, ev12, hf⟩ := job hf
    refine g_iald (pc := 27) dX7_addPieceBy_27 ha2 ev12 ?_
    refine g_aload_n (pc := 28) dX7_addPieceBy_28 rfl rfl ?_
    refine g_iconst (pc := 29) 2 dX7_addPieceBy_29 rfl ?_
    refine g_iload (pc := 30) dX7_addPieceBy_30 rfl ?_
    refine g_imul (pc := 32) dX7_addPieceBy_32 ?_
    refine g_iconst (pc := 33) 1 dX7_addPieceBy_33 rfl ?_
    refine g_iadd (pc := 34) dX7_addPieceBy_34 ?_
    obtain ⟨v13, ev13, hf⟩ := job hf
    refine g_iald (pc := 35) dX7_addPieceBy_35 ha2 ev13 ?_
    obtain ⟨⟨M14, v15⟩, ev15, hf⟩ := job hf
    refine g_callV (pc := 36) [.int v2, .int v12, .int v13] [] dX7_addPieceBy_36 ml_X7_100 ck_X7_addStep cv_X7_addStep sh_0 rfl (by decide) (Nat.le_of_ble_eq_true rfl) (c_X7_addStep ev15) ?_
    show jGG μ_X7_addPieceBy 3 39 [some (.ref 0), none, some (.ref a2), some (.int x3), some (.int v2), some (.int z9)] [.int v15] M14 (fun M' r' => M' = Mz ∧ r' = some (.int r))
    refine g_pop (pc := 39) dX7_addPieceBy_39 rfl ?_
    refine g_iinc (pc := 40) (lv' := [some (.ref 0), none, some (.ref a2), some (.int x3), some (.int v2), some (.int (z9 + 1))]) (z9 + 1) dX7_addPieceBy_40 rfl rfl (by decide) rfl ?_
    refine g_goto (pc := 43) 13 dX7_addPieceBy_43 rfl ?_
    have hih : jGG μ_X7_addPieceBy 3 13 [some (.ref 0), none, some (.ref a2), some (.int x3), some (.int v2), some (.int (z9 + 1))] [] M14 (fun M' r' => M' = Mz ∧ r' = some (.int r)) := ih7 (z9 + 1, M14) (Option.some.inj hf).symm
    exact g_weakK hih ⟨rfl, ⟨rfl, ⟨rfl, ⟨rfl, ⟨rfl, trivial⟩⟩⟩⟩⟩
def f_X7_read (N : Nat) (M : JMem) (x1 : Int32) (x2 : Int32) : Option (JMem × Int32) := (f_X7_isSheet M x1).bind fun v1 => (if v1 = 0 then some (M, (-100001)) else (f_X7_isOut M x2 0 9).bind fun v2 => (if v2 = 0 then (f_X5_codeOfRead M x1).bind fun v3 => (if v3 = 0 then (jrd M 46 6 x1).bind fun v4 => (jrw 47 6 x1).bind fun w5 => (f_X7_holdsSteps N M w5 (v4 / 2)).bind fun v6 => (if v6 = 0 then some (M, (-100003)) else (if 12 ≤ (M 1 1) then some (M, (-100004)) else (if 8 < (v4 / 2) then some (M, (-100004)) else (if ((M 1 2) + (v4 / 2)) ≤ 32 then (some (jup M 44 3 0)).bind fun M7 => (jrw 47 6 x1).bind fun w8 => (f_X7_addPieceBy N M7 x2 w8 (v4 / 2)).bind fun (M9, v10) => some (M9, v10) else some (M, (-100004)))))) else (some (jup M 44 3 v3)).bind fun M15 => some (M15, 0)) else some (M, (-100002))))
set_option maxHeartbeats 4000000 in
theorem c_X7_read {N : Nat} {M : JMem} {x1 : Int32} {x2 : Int32} {Mz : JMem} {r : Int32} (hf : f_X7_read N M x1 x2 = some (Mz, r)) : jCo yX7_read μ_X7_read 4 M [.ref 0, .int x1, .int x2] Mz (some (.int r)) := by
  refine jCt_of (by decide +kernel) rfl (by simp [Value.category]) (Nat.le_of_ble_eq_true rfl) ?_
  unfold f_X7_read at hf
  show jGG μ_X7_read 4 0 [some (.ref 0), some (.int x1), some (.int x2), none, none] [] M (fun M' r' => M' = Mz ∧ r' = some (.int r))
  refine g_iload_n (pc := 0) dX7_read_0 rfl rfl ?_
  obtain ⟨v1, ev1, hf⟩ := job hf
  refine g_callS (pc := 1) [.int x1] [] dX7_read_1 ml_X7_130 ck_X7_isSheet cs_X7_isSheet rfl (by decide) (Nat.le_of_ble_eq_true rfl) (c_X7_isSheet ev1) ?_
  show jGG μ_X7_read 4 4 [some (.ref 0), some (.int x1), some (.int x2), none, none] [.int v1] M (fun M' r' => M' = Mz ∧ r' = some (.int r))
  refine g_if_ne (pc := 4) 10 dX7_read_4 rfl (fun hc18 => ?_) (fun hc18 => ?_)
  · replace hf := jifn hc18 hf
    refine g_iload_n (pc := 10) dX7_read_10 rfl rfl ?_
    refine g_iconst (pc := 11) 0 dX7_read_11 rfl ?_
    refine g_bipush (pc := 12) 9 dX7_read_12 rfl ?_
    obtain ⟨v2, ev2, hf⟩ := job hf
    refine g_callS (pc := 14) [.int x2, .int 0, .int 9] [] dX7_read_14 ml_X7_68 ck_X7_isOut cs_X7_isOut rfl (by decide) (Nat.le_of_ble_eq_true rfl) (c_X7_isOut ev2) ?_
    show jGG μ_X7_read 4 17 [some (.ref 0), some (.int x1), some (.int x2), none, none] [.int v2] M (fun M' r' => M' = Mz ∧ r' = some (.int r))
    refine g_if_eq (pc := 17) 23 dX7_read_17 rfl (fun hc17 => ?_) (fun hc17 => ?_)
    · replace hf := jifp hc17 hf
      refine g_aload_n (pc := 23) dX7_read_23 rfl rfl ?_
      refine g_getR (pc := 24) dX7_read_24 fl_X7_26 sh_0 rfl ?_
      refine g_iload_n (pc := 27) dX7_read_27 rfl rfl ?_
      obtain ⟨v3, ev3, hf⟩ := job hf
      refine g_callV (pc := 28) [.int x1] [] dX7_read_28 ml_X7_170 ck_X5_codeOfRead cv_X5_codeOfRead sh_44 rfl (by decide) (Nat.le_of_ble_eq_true rfl) (c_X5_codeOfRead ev3) ?_
      show jGG μ_X7_read 4 31 [some (.ref 0), some (.int x1), some (.int x2), none, none] [.int v3] M (fun M' r' => M' = Mz ∧ r' = some (.int r))
      refine g_istore_n (pc := 31) (lv' := [some (.ref 0), some (.int x1), some (.int x2), some (.int v3), none]) dX7_read_31 rfl (by decide) rfl ?_
      refine g_iload_n (pc := 32) dX7_read_32 rfl rfl ?_
      refine g_if_eq (pc := 33) 46 dX7_read_33 rfl (fun hc16 => ?_) (fun hc16 => ?_)
      · replace hf := jifp hc16 hf
        refine g_aload_n (pc := 46) dX7_read_46 rfl rfl ?_
        refine g_getR (pc := 47) dX7_read_47 fl_X7_26 sh_0 rfl ?_
        refine g_getR (pc := 50) dX7_read_50 fl_X7_173 sh_44 rfl ?_
        refine g_iload_n (pc := 53) dX7_read_53 rfl rfl ?_
        obtain ⟨v4, ev4, hf⟩ := job hf
        refine g_iald (pc := 54) dX7_read_54 sh_46 ev4 ?_
        refine g_iconst (pc := 55) 2 dX7_read_55 rfl ?_
        refine g_idiv (pc := 56) dX7_read_56 (by decide) ?_
        refine g_istore (pc := 57) (lv' := [some (.ref 0), some (.int x1), some (.int x2), some (.int v3), some (.int (v4 / 2))]) dX7_read_57 (by decide) rfl ?_
        refine g_aload_n (pc := 59) dX7_read_59 rfl rfl ?_
        refine g_aload_n (pc := 60) dX7_read_60 rfl rfl ?_
        refine g_getR (pc := 61) dX7_read_61 fl_X7_26 sh_0 rfl ?_
        refine g_getR (pc := 64) dX7_read_64 fl_X7_150 sh_44 rfl ?_
        refine g_iload_n (pc := 67) dX7_read_67 rfl rfl ?_
        obtain ⟨w5, ew5, hf⟩ := job hf
        refine g_aald (pc := 68) dX7_read_68 sh_47 ew5 ?_
        refine g_iload (pc := 69) dX7_read_69 rfl ?_
        obtain ⟨v6, ev6, hf⟩ := job hf
        refine g_callV (pc := 71) [.ref w5, .int (v4 / 2)] [] dX7_read_71 ml_X7_176 ck_X7_holdsSteps cv_X7_holdsSteps sh_0 rfl (by decide) (Nat.le_of_ble_eq_true rfl) (c_X7_holdsSteps (jrw_sh gr_47 ew5) ev6) ?_
        show jGG μ_X7_read 4 74 [some (.ref 0), some (.int x1), some (.int x2), some (.int v3), some (.int (v4 / 2))] [.int v6] M (fun M' r' => M' = Mz ∧ r' = some (.int r))
        refine g_if_ne (pc := 74) 80 dX7_read_74 rfl (fun hc14 => ?_) (fun hc14 => ?_)
        · replace hf := jifn hc14 hf
          refine g_aload_n (pc := 80) dX7_read_80 rfl rfl ?_
          refine g_getR (pc := 81) dX7_read_81 fl_X7_10 sh_0 rfl ?_
          refine g_getI (pc := 84) dX7_read_84 fl_X7_81 sh_1 rfl ?_
          refine g_bipush (pc := 87) 12 dX7_read_87 rfl ?_
          refine g_icmp_ge (pc := 89) 114 dX7_read_89 rfl (fun hc13 => ?_) (fun hc13 => ?_)
          · replace hf := jifp hc13 hf
            refine g_ldc (pc := 114) (-100004) dX7_read_114 lc_X7_76 ?_
            obtain ⟨rfl, rfl⟩ := Prod.mk.inj (Option.some.inj hf)
            exact g_iret (pc := 116) dX7_read_116 rfl ⟨rfl, rfl⟩
          · replace hf := jifn hc13 hf
            refine g_iload (pc := 92) dX7_read_92 rfl ?_
            refine g_bipush (pc := 94) 8 dX7_read_94 rfl ?_
            refine g_icmp_gt (pc := 96) 114 dX7_read_96 rfl (fun hc12 => ?_) (fun hc12 => ?_)
            · replace hf := jifp hc12 hf
              refine g_ldc (pc := 114) (-100004) dX7_read_114 lc_X7_76 ?_
              obtain ⟨rfl, rfl⟩ := Prod.mk.inj (Option.some.inj hf)
              exact g_iret (pc := 116) dX7_read_116 rfl ⟨rfl, rfl⟩
            · replace hf := jifn hc12 hf
              refine g_aload_n (pc := 99) dX7_read_99 rfl rfl ?_
              refine g_getR (pc := 100) dX7_read_100 fl_X7_10 sh_0 rfl ?_
              refine g_getI (pc := 103) dX7_read_103 fl_X7_97 sh_1 rfl ?_
              refine g_iload (pc := 106) dX7_read_106 rfl ?_
              refine g_iadd (pc := 108) dX7_read_108 ?_
              refine g_bipush (pc := 109) 32 dX7_read_109 rfl ?_
              refine g_icmp_le (pc := 111) 117 dX7_read_111 rfl (fun hc11 => ?_) (fun hc11 => ?_)
              · replace hf := jifp hc11 hf
                refine g_aload_n (pc := 117) dX7_read_117 rfl rfl ?_
                refine g_getR (pc := 118) dX7_read_118 fl_X7_26 sh_0 rfl ?_
                refine g_iconst (pc := 121) 0 dX7_read_121 rfl ?_
                refine g_putI (pc := 122) dX7_read_122 fp_X7_133 sh_44 rfl ?_
                obtain ⟨M7, eM7, hf⟩ := job hf
                rw [Option.some.inj eM7]
                refine g_aload_n (pc := 125) dX7_read_125 rfl rfl ?_
                refine g_iload_n (pc := 126) dX7_read_126 rfl rfl ?_
                refine g_aload_n (pc := 127) dX7_read_127 rfl rfl ?_
                refine g_getR (pc := 128) dX7_read_128 fl_X7_26 sh_0 rfl ?_
                refine g_getR (pc := 131) dX7_read_131 fl_X7_150 sh_44 rfl ?_
                refine g_iload_n (pc := 134) dX7_read_134 rfl rfl ?_
                obtain ⟨w8, ew8, hf⟩ := job hf
                refine g_aald (pc := 135) dX7_read_135 sh_47 ew8 ?_
                refine g_iload (pc := 136) dX7_read_136 rfl ?_
                obtain ⟨⟨M9, v10⟩, ev10, hf⟩ := job hf
                refine g_callV (pc := 138) [.int x2, .ref w8, .int (v4 / 2)] [] dX7_read_138 ml_X7_181 ck_X7_addPieceBy cv_X7_addPieceBy sh_0 rfl (by decide) (Nat.le_of_ble_eq_true rfl) (c_X7_addPieceBy (jrw_sh gr_47 ew8) ev10) ?_
                show jGG μ_X7_read 4 141 [some (.ref 0), some (.int x1), some (.int x2), some (.int v3), some (.int (v4 / 2))] [.int v10] M9 (fun M' r' => M' = Mz ∧ r' = some (.int r))
                obtain ⟨rfl, rfl⟩ := Prod.mk.inj (Option.some.inj hf)
                exact g_iret (pc := 141) dX7_read_141 rfl ⟨rfl, rfl⟩
              · replace hf := jifn hc11 hf
                refine g_ldc (pc := 114) (-100004) dX7_read_114 lc_X7_76 ?_
                obtain ⟨rfl, rfl⟩ := Prod.mk.inj (Option.some.inj hf)
                exact g_iret (pc := 116) dX7_read_116 rfl ⟨rfl, rfl⟩
        · replace hf := jifp hc14 hf
          refine g_ldc (pc := 77) (-100003) dX7_read_77 lc_X7_180 ?_
          obtain ⟨rfl, rfl⟩ := Prod.mk.inj (Option.some.inj hf)
          exact g_iret (pc := 79) dX7_read_79 rfl ⟨rfl, rfl⟩
      · replace hf := jifn hc16 hf
        refine g_aload_n (pc := 36) dX7_read_36 rfl rfl ?_
        refine g_getR (pc := 37) dX7_read_37 fl_X7_26 sh_0 rfl ?_
        refine g_iload_n (pc := 40) dX7_read_40 rfl rfl ?_
        refine g_putI (pc := 41) dX7_read_41 fp_X7_133 sh_44 rfl ?_
        obtain ⟨M15, eM15, hf⟩ := job hf
        rw [Option.some.inj eM15]
        refine g_iconst (pc := 44) 0 dX7_read_44 rfl ?_
        obtain ⟨rfl, rfl⟩ := Prod.mk.inj (Option.some.inj hf)
        exact g_iret (pc := 45) dX7_read_45 rfl ⟨rfl, rfl⟩
    · replace hf := jifn hc17 hf
      refine g_ldc (pc := 20) (-100002) dX7_read_20 lc_X7_72 ?_
      obtain ⟨rfl, rfl⟩ := Prod.mk.inj (Option.some.inj hf)
      exact g_iret (pc := 22) dX7_read_22 rfl ⟨rfl, rfl⟩
  · replace hf := jifp hc18 hf
    refine g_ldc (pc := 7) (-100001) dX7_read_7 lc_X7_92 ?_
    obtain ⟨rfl, rfl⟩ := Prod.mk.inj (Option.some.inj hf)
    exact g_iret (pc := 9) dX7_read_9 rfl ⟨rfl, rfl⟩
def f_X7_code (M : JMem) : Option (Int32) := some (M 44 3)
set_option maxHeartbeats 4000000 in
theorem c_X7_code {M : JMem} {r : Int32} (hf : f_X7_code M = some r) : jCo yX7_code μ_X7_code 1 M [.ref 0] M (some (.int r)) := by
  refine jCt_of (by decide +kernel) rfl (by simp [Value.category]) (Nat.le_of_ble_eq_true rfl) ?_
  unfold f_X7_code at hf
  show jGG μ_X7_code 1 0 [some (.ref 0)] [] M (fun M' r' => M' = M ∧ r' = some (.int r))
  refine g_aload_n (pc := 0) dX7_code_0 rfl rfl ?_
  refine g_getR (pc := 1) dX7_code_1 fl_X7_26 sh_0 rfl ?_
  refine g_getI (pc := 4) dX7_code_4 fl_X7_133 sh_44 rfl ?_
  obtain rfl := Option.some.inj hf
  exact g_iret (pc := 7) dX7_code_7 rfl ⟨rfl, rfl⟩
def f_X7_swap (N : Nat) (M : JMem) (x1 : Int32) (x2 : Int32) : Option (JMem × Int32) := (f_X7_isMachine M x1).bind fun v1 => (if v1 = 0 then some (M, (-100001)) else (jrd M 43 8 x1).bind fun v2 => (f_X7_isOut M x2 0 (v2 - 2)).bind fun v3 => (if v3 = 0 then (jrd M 2 8 x1).bind fun v4 => (if v4 = 1 then some (M, (-100003)) else (f_X1_work N M 54 33).bind fun (M5, v6) => (f_X3_exchange M5 33 x1 x2).bind fun M7 => (if v6 = 0 then some (M7, 1) else (f_X1_work N M7 54 33).bind fun (M8, v9) => (if v9 = 0 then (f_X3_exchange M8 33 x1 x2).bind fun M10 => some (M10, 0) else some (M8, 1)))) else some (M, (-100002))))
set_option maxHeartbeats 4000000 in
theorem c_X7_swap {N : Nat} {M : JMem} {x1 : Int32} {x2 : Int32} {Mz : JMem} {r : Int32} (hf : f_X7_swap N M x1 x2 = some (Mz, r)) : jCo yX7_swap μ_X7_swap 5 M [.ref 0, .int x1, .int x2] Mz (some (.int r)) := by
  refine jCt_of (by decide +kernel) rfl (by simp [Value.category]) (Nat.le_of_ble_eq_true rfl) ?_
  unfold f_X7_swap at hf
  show jGG μ_X7_swap 5 0 [some (.ref 0), some (.int x1), some (.int x2), none] [] M (fun M' r' => M' = Mz ∧ r' = some (.int r))
  refine g_aload_n (pc := 0) dX7_swap_0 rfl rfl ?_
  refine g_iload_n (pc := 1) dX7_swap_1 rfl rfl ?_
  obtain ⟨v1, ev1, hf⟩ := job hf
  refine g_callV (pc := 2) [.int x1] [] dX7_swap_2 ml_X7_88 ck_X7_isMachine cv_X7_isMachine sh_0 rfl (by decide) (Nat.le_of_ble_eq_true rfl) (c_X7_isMachine ev1) ?_
  show jGG μ_X7_swap 5 5 [some (.ref 0), some (.int x1), some (.int x2), none] [.int v1] M (fun M' r' => M' = Mz ∧ r' = some (.int r))
  refine g_if_ne (pc := 5) 11 dX7_swap_5 rfl (fun hc15 => ?_) (fun hc15 => ?_)
  · replace hf := jifn hc15 hf
    refine g_iload_n (pc := 11) dX7_swap_11 rfl rfl ?_
    refine g_iconst (pc := 12) 0 dX7_swap_12 rfl ?_
    refine g_aload_n (pc := 13) dX7_swap_13 rfl rfl ?_
    refine g_getR (pc := 14) dX7_swap_14 fl_X7_19 sh_0 rfl ?_
    refine g_getR (pc := 17) dX7_swap_17 fl_X7_185 sh_33 rfl ?_
    refine g_iload_n (pc := 20) dX7_swap_20 rfl rfl ?_
    obtain ⟨v2, ev2, hf⟩ := job hf
    refine g_iald (pc := 21) dX7_swap_21 sh_43 ev2 ?_
    refine g_iconst (pc := 22) 2 dX7_swap_22 rfl ?_
    refine g_isub (pc := 23) dX7_swap_23 ?_
    obtain ⟨v3, ev3, hf⟩ := job hf
    refine g_callS (pc := 24) [.int x2, .int 0, .int (v2 - 2)] [] dX7_swap_24 ml_X7_68 ck_X7_isOut cs_X7_isOut rfl (by decide) (Nat.le_of_ble_eq_true rfl) (c_X7_isOut ev3) ?_
    show jGG μ_X7_swap 5 27 [some (.ref 0), some (.int x1), some (.int x2), none] [.int v3] M (fun M' r' => M' = Mz ∧ r' = some (.int r))
    refine g_if_eq (pc := 27) 33 dX7_swap_27 rfl (fun hc14 => ?_) (fun hc14 => ?_)
    · replace hf := jifp hc14 hf
      refine g_aload_n (pc := 33) dX7_swap_33 rfl rfl ?_
      refine g_getR (pc := 34) dX7_swap_34 fl_X7_10 sh_0 rfl ?_
      refine g_getR (pc := 37) dX7_swap_37 fl_X7_186 sh_1 rfl ?_
      refine g_iload_n (pc := 40) dX7_swap_40 rfl rfl ?_
      obtain ⟨v4, ev4, hf⟩ := job hf
      refine g_iald (pc := 41) dX7_swap_41 sh_2 ev4 ?_
      refine g_iconst (pc := 42) 1 dX7_swap_42 rfl ?_
      refine g_icmp_ne (pc := 43) 49 dX7_swap_43 rfl (fun hc13 => ?_) (fun hc13 => ?_)
      · replace hf := jifn hc13 hf
        refine g_aload_n (pc := 49) dX7_swap_49 rfl rfl ?_
        refine g_getR (pc := 50) dX7_swap_50 fl_X7_33 sh_0 rfl ?_
        refine g_aload_n (pc := 53) dX7_swap_53 rfl rfl ?_
        refine g_getR (pc := 54) dX7_swap_54 fl_X7_10 sh_0 rfl ?_
        refine g_aload_n (pc := 57) dX7_swap_57 rfl rfl ?_
        refine g_getR (pc := 58) dX7_swap_58 fl_X7_19 sh_0 rfl ?_
        obtain ⟨⟨M5, v6⟩, ev6, hf⟩ := job hf
        refine g_callV (pc := 61) [.ref 1, .ref 33] [] dX7_swap_61 ml_X7_189 ck_X1_work cv_X1_work sh_54 rfl (by decide) (Nat.le_of_ble_eq_true rfl) (c_X1_work isX1_54 isX3_33 ev6) ?_
        show jGG μ_X7_swap 5 64 [some (.ref 0), some (.int x1), some (.int x2), none] [.int v6] M5 (fun M' r' => M' = Mz ∧ r' = some (.int r))
        refine g_istore_n (pc := 64) (lv' := [some (.ref 0), some (.int x1), some (.int x2), some (.int v6)]) dX7_swap_64 rfl (by decide) rfl ?_
        refine g_aload_n (pc := 65) dX7_swap_65 rfl rfl ?_
        refine g_getR (pc := 66) dX7_swap_66 fl_X7_19 sh_0 rfl ?_
        refine g_iload_n (pc := 69) dX7_swap_69 rfl rfl ?_
        refine g_iload_n (pc := 70) dX7_swap_70 rfl rfl ?_
        obtain ⟨M7, eM7, hf⟩ := job hf
        refine g_callV (pc := 71) [.int x1, .int x2] [] dX7_swap_71 ml_X7_193 ck_X3_exchange cv_X3_exchange sh_33 rfl (by decide) (Nat.le_of_ble_eq_true rfl) (c_X3_exchange isX3_33 eM7) ?_
        show jGG μ_X7_swap 5 74 [some (.ref 0), some (.int x1), some (.int x2), some (.int v6)] [] M7 (fun M' r' => M' = Mz ∧ r' = some (.int r))
        refine g_iload_n (pc := 74) dX7_swap_74 rfl rfl ?_
        refine g_if_eq (pc := 75) 107 dX7_swap_75 rfl (fun hc12 => ?_) (fun hc12 => ?_)
        · replace hf := jifp hc12 hf
          refine g_iconst (pc := 107) 1 dX7_swap_107 rfl ?_
          obtain ⟨rfl, rfl⟩ := Prod.mk.inj (Option.some.inj hf)
          exact g_iret (pc := 108) dX7_swap_108 rfl ⟨rfl, rfl⟩
        · replace hf := jifn hc12 hf
          refine g_aload_n (pc := 78) dX7_swap_78 rfl rfl ?_
          refine g_getR (pc := 79) dX7_swap_79 fl_X7_33 sh_0 rfl ?_
          refine g_aload_n (pc := 82) dX7_swap_82 rfl rfl ?_
          refine g_getR (pc := 83) dX7_swap_83 fl_X7_10 sh_0 rfl ?_
          refine g_aload_n (pc := 86) dX7_swap_86 rfl rfl ?_
          refine g_getR (pc := 87) dX7_swap_87 fl_X7_19 sh_0 rfl ?_
          obtain ⟨⟨M8, v9⟩, ev9, hf⟩ := job hf
          refine g_callV (pc := 90) [.ref 1, .ref 33] [] dX7_swap_90 ml_X7_189 ck_X1_work cv_X1_work sh_54 rfl (by decide) (Nat.le_of_ble_eq_true rfl) (c_X1_work isX1_54 isX3_33 ev9) ?_
          show jGG μ_X7_swap 5 93 [some (.ref 0), some (.int x1), some (.int x2), some (.int v6)] [.int v9] M8 (fun M' r' => M' = Mz ∧ r' = some (.int r))
          refine g_if_ne (pc := 93) 107 dX7_swap_93 rfl (fun hc11 => ?_) (fun hc11 => ?_)
          · replace hf := jifn hc11 hf
            refine g_iconst (pc := 107) 1 dX7_swap_107 rfl ?_
            obtain ⟨rfl, rfl⟩ := Prod.mk.inj (Option.some.inj hf)
            exact g_iret (pc := 108) dX7_swap_108 rfl ⟨rfl, rfl⟩
          · replace hf := jifp hc11 hf
            refine g_aload_n (pc := 96) dX7_swap_96 rfl rfl ?_
            refine g_getR (pc := 97) dX7_swap_97 fl_X7_19 sh_0 rfl ?_
            refine g_iload_n (pc := 100) dX7_swap_100 rfl rfl ?_
            refine g_iload_n (pc := 101) dX7_swap_101 rfl rfl ?_
            obtain ⟨M10, eM10, hf⟩ := job hf
            refine g_callV (pc := 102) [.int x1, .int x2] [] dX7_swap_102 ml_X7_193 ck_X3_exchange cv_X3_exchange sh_33 rfl (by decide) (Nat.le_of_ble_eq_true rfl) (c_X3_exchange isX3_33 eM10) ?_
            show jGG μ_X7_swap 5 105 [some (.ref 0), some (.int x1), some (.int x2), some (.int v6)] [] M10 (fun M' r' => M' = Mz ∧ r' = some (.int r))
            refine g_iconst (pc := 105) 0 dX7_swap_105 rfl ?_
            obtain ⟨rfl, rfl⟩ := Prod.mk.inj (Option.some.inj hf)
            exact g_iret (pc := 106) dX7_swap_106 rfl ⟨rfl, rfl⟩
      · replace hf := jifp hc13 hf
        refine g_ldc (pc := 46) (-100003) dX7_swap_46 lc_X7_180 ?_
        obtain ⟨rfl, rfl⟩ := Prod.mk.inj (Option.some.inj hf)
        exact g_iret (pc := 48) dX7_swap_48 rfl ⟨rfl, rfl⟩
    · replace hf := jifn hc14 hf
      refine g_ldc (pc := 30) (-100002) dX7_swap_30 lc_X7_72 ?_
      obtain ⟨rfl, rfl⟩ := Prod.mk.inj (Option.some.inj hf)
      exact g_iret (pc := 32) dX7_swap_32 rfl ⟨rfl, rfl⟩
  · replace hf := jifp hc15 hf
    refine g_ldc (pc := 8) (-100001) dX7_swap_8 lc_X7_92 ?_
    obtain ⟨rfl, rfl⟩ := Prod.mk.inj (Option.some.inj hf)
    exact g_iret (pc := 10) dX7_swap_10 rfl ⟨rfl, rfl⟩
def f_X7_lay (N : Nat) (M : JMem) (x1 : Int32) (x2 : Int32) : Option (JMem × Int32) := (f_X7_isStep M x1).bind fun v1 => (if v1 = 0 then some (M, (-100001)) else (jrd M 20 32 x1).bind fun v2 => (jrd M 43 8 v2).bind fun v3 => (f_X7_isOut M x2 0 (v3 - 1)).bind fun v4 => (if v4 = 0 then (f_X3_placeOf N M 33 v2 x1).bind fun v5 => (f_X3_move N M 33 v2 v5 x2).bind fun M6 => (f_X1_work N M6 54 33).bind fun (M7, v8) => (if v8 = 0 then some (M7, 0) else some (M7, 1)) else some (M, (-100002))))
set_option maxHeartbeats 4000000 in
theorem c_X7_lay {N : Nat} {M : JMem} {x1 : Int32} {x2 : Int32} {Mz : JMem} {r : Int32} (hf : f_X7_lay N M x1 x2 = some (Mz, r)) : jCo yX7_lay μ_X7_lay 5 M [.ref 0, .int x1, .int x2] Mz (some (.int r)) := by
  refine jCt_of (by decide +kernel) rfl (by simp [Value.category]) (Nat.le_of_ble_eq_true rfl) ?_
  unfold f_X7_lay at hf
  show jGG μ_X7_lay 5 0 [some (.ref 0), some (.int x1), some (.int x2), none] [] M (fun M' r' => M' = Mz ∧ r' = some (.int r))
  refine g_aload_n (pc := 0) dX7_lay_0 rfl rfl ?_
  refine g_iload_n (pc := 1) dX7_lay_1 rfl rfl ?_
  obtain ⟨v1, ev1, hf⟩ := job hf
  refine g_callV (pc := 2) [.int x1] [] dX7_lay_2 ml_X7_104 ck_X7_isStep cv_X7_isStep sh_0 rfl (by decide) (Nat.le_of_ble_eq_true rfl) (c_X7_isStep ev1) ?_
  show jGG μ_X7_lay 5 5 [some (.ref 0), some (.int x1), some (.int x2), none] [.int v1] M (fun M' r' => M' = Mz ∧ r' = some (.int r))
  refine g_if_ne (pc := 5) 11 dX7_lay_5 rfl (fun hc11 => ?_) (fun hc11 => ?_)
  · replace hf := jifn hc11 hf
    refine g_aload_n (pc := 11) dX7_lay_11 rfl rfl ?_
    refine g_getR (pc := 12) dX7_lay_12 fl_X7_10 sh_0 rfl ?_
    refine g_getR (pc := 15) dX7_lay_15 fl_X7_110 sh_1 rfl ?_
    refine g_iload_n (pc := 18) dX7_lay_18 rfl rfl ?_
    obtain ⟨v2, ev2, hf⟩ := job hf
    refine g_iald (pc := 19) dX7_lay_19 sh_20 ev2 ?_
    refine g_istore_n (pc := 20) (lv' := [some (.ref 0), some (.int x1), some (.int x2), some (.int v2)]) dX7_lay_20 rfl (by decide) rfl ?_
    refine g_iload_n (pc := 21) dX7_lay_21 rfl rfl ?_
    refine g_iconst (pc := 22) 0 dX7_lay_22 rfl ?_
    refine g_aload_n (pc := 23) dX7_lay_23 rfl rfl ?_
    refine g_getR (pc := 24) dX7_lay_24 fl_X7_19 sh_0 rfl ?_
    refine g_getR (pc := 27) dX7_lay_27 fl_X7_185 sh_33 rfl ?_
    refine g_iload_n (pc := 30) dX7_lay_30 rfl rfl ?_
    obtain ⟨v3, ev3, hf⟩ := job hf
    refine g_iald (pc := 31) dX7_lay_31 sh_43 ev3 ?_
    refine g_iconst (pc := 32) 1 dX7_lay_32 rfl ?_
    refine g_isub (pc := 33) dX7_lay_33 ?_
    obtain ⟨v4, ev4, hf⟩ := job hf
    refine g_callS (pc := 34) [.int x2, .int 0, .int (v3 - 1)] [] dX7_lay_34 ml_X7_68 ck_X7_isOut cs_X7_isOut rfl (by decide) (Nat.le_of_ble_eq_true rfl) (c_X7_isOut ev4) ?_
    show jGG μ_X7_lay 5 37 [some (.ref 0), some (.int x1), some (.int x2), some (.int v2)] [.int v4] M (fun M' r' => M' = Mz ∧ r' = some (.int r))
    refine g_if_eq (pc := 37) 43 dX7_lay_37 rfl (fun hc10 => ?_) (fun hc10 => ?_)
    · replace hf := jifp hc10 hf
      refine g_aload_n (pc := 43) dX7_lay_43 rfl rfl ?_
      refine g_getR (pc := 44) dX7_lay_44 fl_X7_19 sh_0 rfl ?_
      refine g_iload_n (pc := 47) dX7_lay_47 rfl rfl ?_
      refine g_aload_n (pc := 48) dX7_lay_48 rfl rfl ?_
      refine g_getR (pc := 49) dX7_lay_49 fl_X7_19 sh_0 rfl ?_
      refine g_iload_n (pc := 52) dX7_lay_52 rfl rfl ?_
      refine g_iload_n (pc := 53) dX7_lay_53 rfl rfl ?_
      obtain ⟨v5, ev5, hf⟩ := job hf
      refine g_callV (pc := 54) [.int v2, .int x1] [.int v2, .ref 33] dX7_lay_54 ml_X7_119 ck_X3_placeOf cv_X3_placeOf sh_33 rfl (by decide) (Nat.le_of_ble_eq_true rfl) (c_X3_placeOf isX3_33 ev5) ?_
      show jGG μ_X7_lay 5 57 [some (.ref 0), some (.int x1), some (.int x2), some (.int v2)] [.int v5, .int v2, .ref 33] M (fun M' r' => M' = Mz ∧ r' = some (.int r))
      refine g_iload_n (pc := 57) dX7_lay_57 rfl rfl ?_
      obtain ⟨M6, eM6, hf⟩ := job hf
      refine g_callV (pc := 58) [.int v2, .int v5, .int x2] [] dX7_lay_58 ml_X7_197 ck_X3_move cv_X3_move sh_33 rfl (by decide) (Nat.le_of_ble_eq_true rfl) (c_X3_move isX3_33 eM6) ?_
      show jGG μ_X7_lay 5 61 [some (.ref 0), some (.int x1), some (.int x2), some (.int v2)] [] M6 (fun M' r' => M' = Mz ∧ r' = some (.int r))
      refine g_aload_n (pc := 61) dX7_lay_61 rfl rfl ?_
      refine g_getR (pc := 62) dX7_lay_62 fl_X7_33 sh_0 rfl ?_
      refine g_aload_n (pc := 65) dX7_lay_65 rfl rfl ?_
      refine g_getR (pc := 66) dX7_lay_66 fl_X7_10 sh_0 rfl ?_
      refine g_aload_n (pc := 69) dX7_lay_69 rfl rfl ?_
      refine g_getR (pc := 70) dX7_lay_70 fl_X7_19 sh_0 rfl ?_
      obtain ⟨⟨M7, v8⟩, ev8, hf⟩ := job hf
      refine g_callV (pc := 73) [.ref 1, .ref 33] [] dX7_lay_73 ml_X7_189 ck_X1_work cv_X1_work sh_54 rfl (by decide) (Nat.le_of_ble_eq_true rfl) (c_X1_work isX1_54 isX3_33 ev8) ?_
      show jGG μ_X7_lay 5 76 [some (.ref 0), some (.int x1), some (.int x2), some (.int v2)] [.int v8] M7 (fun M' r' => M' = Mz ∧ r' = some (.int r))
      refine g_if_eq (pc := 76) 83 dX7_lay_76 rfl (fun hc9 => ?_) (fun hc9 => ?_)
      · replace hf := jifp hc9 hf
        refine g_iconst (pc := 83) 0 dX7_lay_83 rfl ?_
        obtain ⟨rfl, rfl⟩ := Prod.mk.inj (Option.some.inj hf)
        exact g_iret (pc := 84) dX7_lay_84 rfl ⟨rfl, rfl⟩
      · replace hf := jifn hc9 hf
        refine g_iconst (pc := 79) 1 dX7_lay_79 rfl ?_
        refine g_goto (pc := 80) 84 dX7_lay_80 rfl ?_
        obtain ⟨rfl, rfl⟩ := Prod.mk.inj (Option.some.inj hf)
        exact g_iret (pc := 84) dX7_lay_84 rfl ⟨rfl, rfl⟩
    · replace hf := jifn hc10 hf
      refine g_ldc (pc := 40) (-100002) dX7_lay_40 lc_X7_72 ?_
      obtain ⟨rfl, rfl⟩ := Prod.mk.inj (Option.some.inj hf)
      exact g_iret (pc := 42) dX7_lay_42 rfl ⟨rfl, rfl⟩
  · replace hf := jifp hc11 hf
    refine g_ldc (pc := 8) (-100001) dX7_lay_8 lc_X7_92 ?_
    obtain ⟨rfl, rfl⟩ := Prod.mk.inj (Option.some.inj hf)
    exact g_iret (pc := 10) dX7_lay_10 rfl ⟨rfl, rfl⟩
def f_X7_end (N : Nat) (M : JMem) : Option (JMem × Int32) := (f_X1_work N M 54 33).bind fun (M1, v2) => (if v2 = 0 then some (M1, (-1)) else some (M1, M1 54 4))
set_option maxHeartbeats 4000000 in
theorem c_X7_end {N : Nat} {M : JMem} {Mz : JMem} {r : Int32} (hf : f_X7_end N M = some (Mz, r)) : jCo yX7_end μ_X7_end 5 M [.ref 0] Mz (some (.int r)) := by
  refine jCt_of (by decide +kernel) rfl (by simp [Value.category]) (Nat.le_of_ble_eq_true rfl) ?_
  unfold f_X7_end at hf
  show jGG μ_X7_end 5 0 [some (.ref 0)] [] M (fun M' r' => M' = Mz ∧ r' = some (.int r))
  refine g_aload_n (pc := 0) dX7_end_0 rfl rfl ?_
  refine g_getR (pc := 1) dX7_end_1 fl_X7_33 sh_0 rfl ?_
  refine g_aload_n (pc := 4) dX7_end_4 rfl rfl ?_
  refine g_getR (pc := 5) dX7_end_5 fl_X7_10 sh_0 rfl ?_
  refine g_aload_n (pc := 8) dX7_end_8 rfl rfl ?_
  refine g_getR (pc := 9) dX7_end_9 fl_X7_19 sh_0 rfl ?_
  obtain ⟨⟨M1, v2⟩, ev2, hf⟩ := job hf
  refine g_callV (pc := 12) [.ref 1, .ref 33] [] dX7_end_12 ml_X7_189 ck_X1_work cv_X1_work sh_54 rfl (by decide) (Nat.le_of_ble_eq_true rfl) (c_X1_work isX1_54 isX3_33 ev2) ?_
  show jGG μ_X7_end 5 15 [some (.ref 0)] [.int v2] M1 (fun M' r' => M' = Mz ∧ r' = some (.int r))
  refine g_if_eq (pc := 15) 28 dX7_end_15 rfl (fun hc3 => ?_) (fun hc3 => ?_)
  · replace hf := jifp hc3 hf
    refine g_iconst (pc := 28) (-1) dX7_end_28 rfl ?_
    obtain ⟨rfl, rfl⟩ := Prod.mk.inj (Option.some.inj hf)
    exact g_iret (pc := 29) dX7_end_29 rfl ⟨rfl, rfl⟩
  · replace hf := jifn hc3 hf
    refine g_aload_n (pc := 18) dX7_end_18 rfl rfl ?_
    refine g_getR (pc := 19) dX7_end_19 fl_X7_33 sh_0 rfl ?_
    refine g_getI (pc := 22) dX7_end_22 fl_X7_200 sh_54 rfl ?_
    refine g_goto (pc := 25) 29 dX7_end_25 rfl ?_
    obtain ⟨rfl, rfl⟩ := Prod.mk.inj (Option.some.inj hf)
    exact g_iret (pc := 29) dX7_end_29 rfl ⟨rfl, rfl⟩
def f_X7_begin (N : Nat) (M : JMem) (x1 : Int32) : Option (JMem × Int32) := (f_X7_isStep M x1).bind fun v1 => (if v1 = 0 then some (M, (-100001)) else (f_X1_work N M 54 33).bind fun (M2, v3) => (if v3 = 0 then some (M2, (-100003)) else (jrd M2 55 32 x1).bind fun v4 => some (M2, v4)))
set_option maxHeartbeats 4000000 in
theorem c_X7_begin {N : Nat} {M : JMem} {x1 : Int32} {Mz : JMem} {r : Int32} (hf : f_X7_begin N M x1 = some (Mz, r)) : jCo yX7_begin μ_X7_begin 5 M [.ref 0, .int x1] Mz (some (.int r)) := by
  refine jCt_of (by decide +kernel) rfl (by simp [Value.category]) (Nat.le_of_ble_eq_true rfl) ?_
  unfold f_X7_begin at hf
  show jGG μ_X7_begin 5 0 [some (.ref 0), some (.int x1)] [] M (fun M' r' => M' = Mz ∧ r' = some (.int r))
  refine g_aload_n (pc := 0) dX7_begin_0 rfl rfl ?_
  refine g_iload_n (pc := 1) dX7_begin_1 rfl rfl ?_
  obtain ⟨v1, ev1, hf⟩ := job hf
  refine g_callV (pc := 2) [.int x1] [] dX7_begin_2 ml_X7_104 ck_X7_isStep cv_X7_isStep sh_0 rfl (by decide) (Nat.le_of_ble_eq_true rfl) (c_X7_isStep ev1) ?_
  show jGG μ_X7_begin 5 5 [some (.ref 0), some (.int x1)] [.int v1] M (fun M' r' => M' = Mz ∧ r' = some (.int r))
  refine g_if_ne (pc := 5) 11 dX7_begin_5 rfl (fun hc6 => ?_) (fun hc6 => ?_)
  · replace hf := jifn hc6 hf
    refine g_aload_n (pc := 11) dX7_begin_11 rfl rfl ?_
    refine g_getR (pc := 12) dX7_begin_12 fl_X7_33 sh_0 rfl ?_
    refine g_aload_n (pc := 15) dX7_begin_15 rfl rfl ?_
    refine g_getR (pc := 16) dX7_begin_16 fl_X7_10 sh_0 rfl ?_
    refine g_aload_n (pc := 19) dX7_begin_19 rfl rfl ?_
    refine g_getR (pc := 20) dX7_begin_20 fl_X7_19 sh_0 rfl ?_
    obtain ⟨⟨M2, v3⟩, ev3, hf⟩ := job hf
    refine g_callV (pc := 23) [.ref 1, .ref 33] [] dX7_begin_23 ml_X7_189 ck_X1_work cv_X1_work sh_54 rfl (by decide) (Nat.le_of_ble_eq_true rfl) (c_X1_work isX1_54 isX3_33 ev3) ?_
    show jGG μ_X7_begin 5 26 [some (.ref 0), some (.int x1)] [.int v3] M2 (fun M' r' => M' = Mz ∧ r' = some (.int r))
    refine g_if_eq (pc := 26) 41 dX7_begin_26 rfl (fun hc5 => ?_) (fun hc5 => ?_)
    · replace hf := jifp hc5 hf
      refine g_ldc (pc := 41) (-100003) dX7_begin_41 lc_X7_180 ?_
      obtain ⟨rfl, rfl⟩ := Prod.mk.inj (Option.some.inj hf)
      exact g_iret (pc := 43) dX7_begin_43 rfl ⟨rfl, rfl⟩
    · replace hf := jifn hc5 hf
      refine g_aload_n (pc := 29) dX7_begin_29 rfl rfl ?_
      refine g_getR (pc := 30) dX7_begin_30 fl_X7_33 sh_0 rfl ?_
      refine g_getR (pc := 33) dX7_begin_33 fl_X7_203 sh_54 rfl ?_
      refine g_iload_n (pc := 36) dX7_begin_36 rfl rfl ?_
      obtain ⟨v4, ev4, hf⟩ := job hf
      refine g_iald (pc := 37) dX7_begin_37 sh_55 ev4 ?_
      refine g_goto (pc := 38) 43 dX7_begin_38 rfl ?_
      obtain ⟨rfl, rfl⟩ := Prod.mk.inj (Option.some.inj hf)
      exact g_iret (pc := 43) dX7_begin_43 rfl ⟨rfl, rfl⟩
  · replace hf := jifp hc6 hf
    refine g_ldc (pc := 8) (-100001) dX7_begin_8 lc_X7_92 ?_
    obtain ⟨rfl, rfl⟩ := Prod.mk.inj (Option.some.inj hf)
    exact g_iret (pc := 10) dX7_begin_10 rfl ⟨rfl, rfl⟩
def f_X7_hasTails (N : Nat) (M : JMem) : Option (JMem × Int32) := (f_X2_isSimple N M).bind fun v1 => (if v1 = 0 then some (M, 0) else (f_X1_work N M 54 33).bind fun (M2, v3) => (if v3 = 0 then some (M2, 0) else (f_X1_findTails N M2 54).bind fun M4 => some (M4, 1)))
set_option maxHeartbeats 4000000 in
theorem c_X7_hasTails {N : Nat} {M : JMem} {Mz : JMem} {r : Int32} (hf : f_X7_hasTails N M = some (Mz, r)) : jCo yX7_hasTails μ_X7_hasTails 5 M [.ref 0] Mz (some (.int r)) := by
  refine jCt_of (by decide +kernel) rfl (by simp [Value.category]) (Nat.le_of_ble_eq_true rfl) ?_
  unfold f_X7_hasTails at hf
  show jGG μ_X7_hasTails 5 0 [some (.ref 0)] [] M (fun M' r' => M' = Mz ∧ r' = some (.int r))
  refine g_aload_n (pc := 0) dX7_hasTails_0 rfl rfl ?_
  refine g_getR (pc := 1) dX7_hasTails_1 fl_X7_10 sh_0 rfl ?_
  obtain ⟨v1, ev1, hf⟩ := job hf
  refine g_callV (pc := 4) [] [] dX7_hasTails_4 ml_X7_122 ck_X2_isSimple cv_X2_isSimple sh_1 rfl (by decide) (Nat.le_of_ble_eq_true rfl) (c_X2_isSimple ev1) ?_
  show jGG μ_X7_hasTails 5 7 [some (.ref 0)] [.int v1] M (fun M' r' => M' = Mz ∧ r' = some (.int r))
  refine g_if_eq (pc := 7) 28 dX7_hasTails_7 rfl (fun hc6 => ?_) (fun hc6 => ?_)
  · replace hf := jifp hc6 hf
    refine g_iconst (pc := 28) 0 dX7_hasTails_28 rfl ?_
    obtain ⟨rfl, rfl⟩ := Prod.mk.inj (Option.some.inj hf)
    exact g_zret (pc := 29) dX7_hasTails_29 rfl (Or.inl rfl) ⟨rfl, rfl⟩
  · replace hf := jifn hc6 hf
    refine g_aload_n (pc := 10) dX7_hasTails_10 rfl rfl ?_
    refine g_getR (pc := 11) dX7_hasTails_11 fl_X7_33 sh_0 rfl ?_
    refine g_aload_n (pc := 14) dX7_hasTails_14 rfl rfl ?_
    refine g_getR (pc := 15) dX7_hasTails_15 fl_X7_10 sh_0 rfl ?_
    refine g_aload_n (pc := 18) dX7_hasTails_18 rfl rfl ?_
    refine g_getR (pc := 19) dX7_hasTails_19 fl_X7_19 sh_0 rfl ?_
    obtain ⟨⟨M2, v3⟩, ev3, hf⟩ := job hf
    refine g_callV (pc := 22) [.ref 1, .ref 33] [] dX7_hasTails_22 ml_X7_189 ck_X1_work cv_X1_work sh_54 rfl (by decide) (Nat.le_of_ble_eq_true rfl) (c_X1_work isX1_54 isX3_33 ev3) ?_
    show jGG μ_X7_hasTails 5 25 [some (.ref 0)] [.int v3] M2 (fun M' r' => M' = Mz ∧ r' = some (.int r))
    refine g_if_ne (pc := 25) 30 dX7_hasTails_25 rfl (fun hc5 => ?_) (fun hc5 => ?_)
    · replace hf := jifn hc5 hf
      refine g_aload_n (pc := 30) dX7_hasTails_30 rfl rfl ?_
      refine g_getR (pc := 31) dX7_hasTails_31 fl_X7_33 sh_0 rfl ?_
      refine g_aload_n (pc := 34) dX7_hasTails_34 rfl rfl ?_
      refine g_getR (pc := 35) dX7_hasTails_35 fl_X7_10 sh_0 rfl ?_
      obtain ⟨M4, eM4, hf⟩ := job hf
      refine g_callV (pc := 38) [.ref 1] [] dX7_hasTails_38 ml_X7_310 ck_X1_findTails cv_X1_findTails sh_54 rfl (by decide) (Nat.le_of_ble_eq_true rfl) (c_X1_findTails isX1_54 eM4) ?_
      show jGG μ_X7_hasTails 5 41 [some (.ref 0)] [] M4 (fun M' r' => M' = Mz ∧ r' = some (.int r))
      refine g_iconst (pc := 41) 1 dX7_hasTails_41 rfl ?_
      obtain ⟨rfl, rfl⟩ := Prod.mk.inj (Option.some.inj hf)
      exact g_zret (pc := 42) dX7_hasTails_42 rfl (Or.inr rfl) ⟨rfl, rfl⟩
    · replace hf := jifp hc5 hf
      refine g_iconst (pc := 28) 0 dX7_hasTails_28 rfl ?_
      obtain ⟨rfl, rfl⟩ := Prod.mk.inj (Option.some.inj hf)
      exact g_zret (pc := 29) dX7_hasTails_29 rfl (Or.inl rfl) ⟨rfl, rfl⟩
def f_X7_tail (N : Nat) (M : JMem) (x1 : Int32) (x2 : Int32) : Option (JMem × Int32) := (f_X7_isStep M x1).bind fun v1 => (if v1 = 0 then some (M, (-100001)) else (f_X7_isOut M x2 0 1).bind fun v2 => (if v2 = 0 then (f_X7_hasTails N M).bind fun (M3, v4) => (if v4 = 0 then some (M3, (-100003)) else (if x2 = 0 then (jrd M3 56 32 x1).bind fun v6 => some (M3, v6) else (f_X1_slack M3 54 x1).bind fun v5 => some (M3, v5))) else some (M, (-100002))))
set_option maxHeartbeats 4000000 in
theorem c_X7_tail {N : Nat} {M : JMem} {x1 : Int32} {x2 : Int32} {Mz : JMem} {r : Int32} (hf : f_X7_tail N M x1 x2 = some (Mz, r)) : jCo yX7_tail μ_X7_tail 6 M [.ref 0, .int x1, .int x2] Mz (some (.int r)) := by
  refine jCt_of (by decide +kernel) rfl (by simp [Value.category]) (Nat.le_of_ble_eq_true rfl) ?_
  unfold f_X7_tail at hf
  show jGG μ_X7_tail 6 0 [some (.ref 0), some (.int x1), some (.int x2)] [] M (fun M' r' => M' = Mz ∧ r' = some (.int r))
  refine g_aload_n (pc := 0) dX7_tail_0 rfl rfl ?_
  refine g_iload_n (pc := 1) dX7_tail_1 rfl rfl ?_
  obtain ⟨v1, ev1, hf⟩ := job hf
  refine g_callV (pc := 2) [.int x1] [] dX7_tail_2 ml_X7_104 ck_X7_isStep cv_X7_isStep sh_0 rfl (by decide) (Nat.le_of_ble_eq_true rfl) (c_X7_isStep ev1) ?_
  show jGG μ_X7_tail 6 5 [some (.ref 0), some (.int x1), some (.int x2)] [.int v1] M (fun M' r' => M' = Mz ∧ r' = some (.int r))
  refine g_if_ne (pc := 5) 11 dX7_tail_5 rfl (fun hc10 => ?_) (fun hc10 => ?_)
  · replace hf := jifn hc10 hf
    refine g_iload_n (pc := 11) dX7_tail_11 rfl rfl ?_
    refine g_iconst (pc := 12) 0 dX7_tail_12 rfl ?_
    refine g_iconst (pc := 13) 1 dX7_tail_13 rfl ?_
    obtain ⟨v2, ev2, hf⟩ := job hf
    refine g_callS (pc := 14) [.int x2, .int 0, .int 1] [] dX7_tail_14 ml_X7_68 ck_X7_isOut cs_X7_isOut rfl (by decide) (Nat.le_of_ble_eq_true rfl) (c_X7_isOut ev2) ?_
    show jGG μ_X7_tail 6 17 [some (.ref 0), some (.int x1), some (.int x2)] [.int v2] M (fun M' r' => M' = Mz ∧ r' = some (.int r))
    refine g_if_eq (pc := 17) 23 dX7_tail_17 rfl (fun hc9 => ?_) (fun hc9 => ?_)
    · replace hf := jifp hc9 hf
      refine g_aload_n (pc := 23) dX7_tail_23 rfl rfl ?_
      obtain ⟨⟨M3, v4⟩, ev4, hf⟩ := job hf
      refine g_callV (pc := 24) [] [] dX7_tail_24 ml_X7_206 ck_X7_hasTails cv_X7_hasTails sh_0 rfl (by decide) (Nat.le_of_ble_eq_true rfl) (c_X7_hasTails ev4) ?_
      show jGG μ_X7_tail 6 27 [some (.ref 0), some (.int x1), some (.int x2)] [.int v4] M3 (fun M' r' => M' = Mz ∧ r' = some (.int r))
      refine g_if_ne (pc := 27) 33 dX7_tail_27 rfl (fun hc8 => ?_) (fun hc8 => ?_)
      · replace hf := jifn hc8 hf
        refine g_iload_n (pc := 33) dX7_tail_33 rfl rfl ?_
        refine g_if_ne (pc := 34) 49 dX7_tail_34 rfl (fun hc7 => ?_) (fun hc7 => ?_)
        · replace hf := jifn hc7 hf
          refine g_aload_n (pc := 49) dX7_tail_49 rfl rfl ?_
          refine g_getR (pc := 50) dX7_tail_50 fl_X7_33 sh_0 rfl ?_
          refine g_aload_n (pc := 53) dX7_tail_53 rfl rfl ?_
          refine g_getR (pc := 54) dX7_tail_54 fl_X7_10 sh_0 rfl ?_
          refine g_iload_n (pc := 57) dX7_tail_57 rfl rfl ?_
          obtain ⟨v5, ev5, hf⟩ := job hf
          refine g_callV (pc := 58) [.ref 1, .int x1] [] dX7_tail_58 ml_X7_212 ck_X1_slack cv_X1_slack sh_54 rfl (by decide) (Nat.le_of_ble_eq_true rfl) (c_X1_slack isX1_54 ev5) ?_
          show jGG μ_X7_tail 6 61 [some (.ref 0), some (.int x1), some (.int x2)] [.int v5] M3 (fun M' r' => M' = Mz ∧ r' = some (.int r))
          obtain ⟨rfl, rfl⟩ := Prod.mk.inj (Option.some.inj hf)
          exact g_iret (pc := 61) dX7_tail_61 rfl ⟨rfl, rfl⟩
        · replace hf := jifp hc7 hf
          refine g_aload_n (pc := 37) dX7_tail_37 rfl rfl ?_
          refine g_getR (pc := 38) dX7_tail_38 fl_X7_33 sh_0 rfl ?_
          refine g_getR (pc := 41) dX7_tail_41 fl_X7_209 sh_54 rfl ?_
          refine g_iload_n (pc := 44) dX7_tail_44 rfl rfl ?_
          obtain ⟨v6, ev6, hf⟩ := job hf
          refine g_iald (pc := 45) dX7_tail_45 sh_56 ev6 ?_
          refine g_goto (pc := 46) 61 dX7_tail_46 rfl ?_
          obtain ⟨rfl, rfl⟩ := Prod.mk.inj (Option.some.inj hf)
          exact g_iret (pc := 61) dX7_tail_61 rfl ⟨rfl, rfl⟩
      · replace hf := jifp hc8 hf
        refine g_ldc (pc := 30) (-100003) dX7_tail_30 lc_X7_180 ?_
        obtain ⟨rfl, rfl⟩ := Prod.mk.inj (Option.some.inj hf)
        exact g_iret (pc := 32) dX7_tail_32 rfl ⟨rfl, rfl⟩
    · replace hf := jifn hc9 hf
      refine g_ldc (pc := 20) (-100002) dX7_tail_20 lc_X7_72 ?_
      obtain ⟨rfl, rfl⟩ := Prod.mk.inj (Option.some.inj hf)
      exact g_iret (pc := 22) dX7_tail_22 rfl ⟨rfl, rfl⟩
  · replace hf := jifp hc10 hf
    refine g_ldc (pc := 8) (-100001) dX7_tail_8 lc_X7_92 ?_
    obtain ⟨rfl, rfl⟩ := Prod.mk.inj (Option.some.inj hf)
    exact g_iret (pc := 10) dX7_tail_10 rfl ⟨rfl, rfl⟩
def f_X7_row (N : Nat) (M : JMem) (x1 : Int32) : Option (JMem × Int32) := (f_X7_hasTails N M).bind fun (M1, v2) => (if v2 = 0 then some (M1, (-100003)) else (f_X7_isOut M1 x1 0 ((M1 1 2) - 1)).bind fun v3 => (if v3 = 0 then (f_X1_firstOfRow N M1 54).bind fun v4 => ((jLp (σ := Int32 × Int32) (ρ := Int32) N (fun ((z11, z12) : Int32 × Int32) => (if x1 ≤ z12 then some (Sum.inr z11) else (if z11 = ((-1)) then some (Sum.inr z11) else (f_X1_nextOfRow M1 54 z11).bind fun v14 => some (Sum.inl (v14, z12 + 1))))) (v4, 0)).bind fun t13 => some (M1, t13)) else some (M1, (-1))))
set_option maxHeartbeats 4000000 in
theorem c_X7_row {N : Nat} {M : JMem} {x1 : Int32} {Mz : JMem} {r : Int32} (hf : f_X7_row N M x1 = some (Mz, r)) : jCo yX7_row μ_X7_row 6 M [.ref 0, .int x1] Mz (some (.int r)) := by
  refine jCt_of (by decide +kernel) rfl (by simp [Value.category]) (Nat.le_of_ble_eq_true rfl) ?_
  unfold f_X7_row at hf
  show jGG μ_X7_row 6 0 [some (.ref 0), some (.int x1), none, none] [] M (fun M' r' => M' = Mz ∧ r' = some (.int r))
  refine g_aload_n (pc := 0) dX7_row_0 rfl rfl ?_
  obtain ⟨⟨M1, v2⟩, ev2, hf⟩ := job hf
  refine g_callV (pc := 1) [] [] dX7_row_1 ml_X7_206 ck_X7_hasTails cv_X7_hasTails sh_0 rfl (by decide) (Nat.le_of_ble_eq_true rfl) (c_X7_hasTails ev2) ?_
  show jGG μ_X7_row 6 4 [some (.ref 0), some (.int x1), none, none] [.int v2] M1 (fun M' r' => M' = Mz ∧ r' = some (.int r))
  refine g_if_ne (pc := 4) 10 dX7_row_4 rfl (fun hc18 => ?_) (fun hc18 => ?_)
  · replace hf := jifn hc18 hf
    refine g_iload_n (pc := 10) dX7_row_10 rfl rfl ?_
    refine g_iconst (pc := 11) 0 dX7_row_11 rfl ?_
    refine g_aload_n (pc := 12) dX7_row_12 rfl rfl ?_
    refine g_getR (pc := 13) dX7_row_13 fl_X7_10 sh_0 rfl ?_
    refine g_getI (pc := 16) dX7_row_16 fl_X7_97 sh_1 rfl ?_
    refine g_iconst (pc := 19) 1 dX7_row_19 rfl ?_
    refine g_isub (pc := 20) dX7_row_20 ?_
    obtain ⟨v3, ev3, hf⟩ := job hf
    refine g_callS (pc := 21) [.int x1, .int 0, .int ((M1 1 2) - 1)] [] dX7_row_21 ml_X7_68 ck_X7_isOut cs_X7_isOut rfl (by decide) (Nat.le_of_ble_eq_true rfl) (c_X7_isOut ev3) ?_
    show jGG μ_X7_row 6 24 [some (.ref 0), some (.int x1), none, none] [.int v3] M1 (fun M' r' => M' = Mz ∧ r' = some (.int r))
    refine g_if_eq (pc := 24) 29 dX7_row_24 rfl (fun hc17 => ?_) (fun hc17 => ?_)
    · replace hf := jifp hc17 hf
      refine g_aload_n (pc := 29) dX7_row_29 rfl rfl ?_
      refine g_getR (pc := 30) dX7_row_30 fl_X7_33 sh_0 rfl ?_
      refine g_aload_n (pc := 33) dX7_row_33 rfl rfl ?_
      refine g_getR (pc := 34) dX7_row_34 fl_X7_10 sh_0 rfl ?_
      obtain ⟨v4, ev4, hf⟩ := job hf
      refine g_callV (pc := 37) [.ref 1] [] dX7_row_37 ml_X7_216 ck_X1_firstOfRow cv_X1_firstOfRow sh_54 rfl (by decide) (Nat.le_of_ble_eq_true rfl) (c_X1_firstOfRow isX1_54 ev4) ?_
      show jGG μ_X7_row 6 40 [some (.ref 0), some (.int x1), none, none] [.int v4] M1 (fun M' r' => M' = Mz ∧ r' = some (.int r))
      refine g_istore_n (pc := 40) (lv' := [some (.ref 0), some (.int x1), some (.int v4), none]) dX7_row_40 rfl (by decide) rfl ?_
      refine g_iconst (pc := 41) 0 dX7_row_41 rfl ?_
      refine g_istore_n (pc := 42) (lv' := [some (.ref 0), some (.int x1), some (.int v4), some (.int 0)]) dX7_row_42 rfl (by decide) rfl ?_
      obtain ⟨t13, y6, hy5⟩ := job hf
      have K7 : jGG μ_X7_row 6 72 [none, none, some (.int t13), none] [] M1 (fun M' r' => M' = Mz ∧ r' = some (.int r)) := by
        replace hf := hy5
        refine g_iload_n (pc := 72) dX7_row_72 rfl rfl ?_
        obtain ⟨rfl, rfl⟩ := Prod.mk.inj (Option.some.inj hf)
        exact g_iret (pc := 73) dX7_row_73 rfl ⟨rfl, rfl⟩
      refine g_weak (lv' := [some (.ref 0), some (.int x1), some (.int v4), some (.int 0)]) ⟨rfl, ⟨rfl, ⟨rfl, ⟨rfl, trivial⟩⟩⟩⟩ ?_
      refine jLp_ind (P := fun ((z11, z12) : Int32 × Int32) => jGG μ_X7_row 6 43 [some (.ref 0), some (.int x1), some (.int z11), some (.int z12)] [] M1 (fun M' r' => M' = Mz ∧ r' = some (.int r))) ?_ N _ y6
      rintro ⟨z11, z12⟩ x_10 hf ih9 hx8
      show jGG μ_X7_row 6 43 [some (.ref 0), some (.int x1), some (.int z11), some (.int z12)] [] M1 (fun M' r' => M' = Mz ∧ r' = some (.int r))
      refine g_iload_n (pc := 43) dX7_row_43 rfl rfl ?_
      refine g_iload_n (pc := 44) dX7_row_44 rfl rfl ?_
      refine g_icmp_ge (pc := 45) 72 dX7_row_45 rfl (fun hc16 => ?_) (fun hc16 => ?_)
      · replace hf := jifp hc16 hf
        have hf := hx8 _ (Option.some.inj hf).symm
        obtain rfl := hf
        exact g_weakK K7 ⟨rfl, trivial⟩
      · replace hf := jifn hc16 hf
        refine g_iload_n (pc := 48) dX7_row_48 rfl rfl ?_
        refine g_iconst (pc := 49) (-1) dX7_row_49 rfl ?_
        refine g_icmp_eq (pc := 50) 72 dX7_row_50 rfl (fun hc15 => ?_) (fun hc15 => ?_)
        · replace hf := jifp hc15 hf
          have hf := hx8 _ (Option.some.inj hf).symm
          obtain rfl := hf
          exact g_weakK K7 ⟨rfl, trivial⟩
        · replace hf := jifn hc15 hf
          refine g_aload_n (pc := 53) dX7_row_53 rfl rfl ?_
          refine g_getR (pc := 54) dX7_row_54 fl_X7_33 sh_0 rfl ?_
          refine g_aload_n (pc := 57) dX7_row_57 rfl rfl ?_
          refine g_getR (pc := 58) dX7_row_58 fl_X7_10 sh_0 rfl ?_
          refine g_iload_n (pc := 61) dX7_row_61 rfl rfl ?_
          obtain ⟨v14, ev14, hf⟩ := job hf
          refine g_callV (pc := 62) [.ref 1, .int z11] [] dX7_row_62 ml_X7_220 ck_X1_nextOfRow cv_X1_nextOfRow sh_54 rfl (by decide) (Nat.le_of_ble_eq_true rfl) (c_X1_nextOfRow isX1_54 ev14) ?_
          show jGG μ_X7_row 6 65 [some (.ref 0), some (.int x1), some (.int z11), some (.int z12)] [.int v14] M1 (fun M' r' => M' = Mz ∧ r' = some (.int r))
          refine g_istore_n (pc := 65) (lv' := [some (.ref 0), some (.int x1), some (.int v14), some (.int z12)]) dX7_row_65 rfl (by decide) rfl ?_
          refine g_iinc (pc := 66) (lv' := [some (.ref 0), some (.int x1), some (.int v14), some (.int (z12 + 1))]) (z12 + 1) dX7_row_66 rfl rfl (by decide) rfl ?_
          refine g_goto (pc := 69) 43 dX7_row_69 rfl ?_
          have hih : jGG μ_X7_row 6 43 [some (.ref 0), some (.int x1), some (.int v14), some (.int (z12 + 1))] [] M1 (fun M' r' => M' = Mz ∧ r' = some (.int r)) := ih9 (v14, z12 + 1) (Option.some.inj hf).symm
          exact g_weakK hih ⟨rfl, ⟨rfl, ⟨rfl, ⟨rfl, trivial⟩⟩⟩⟩
    · replace hf := jifn hc17 hf
      refine g_iconst (pc := 27) (-1) dX7_row_27 rfl ?_
      obtain ⟨rfl, rfl⟩ := Prod.mk.inj (Option.some.inj hf)
      exact g_iret (pc := 28) dX7_row_28 rfl ⟨rfl, rfl⟩
  · replace hf := jifp hc18 hf
    refine g_ldc (pc := 7) (-100003) dX7_row_7 lc_X7_180 ?_
    obtain ⟨rfl, rfl⟩ := Prod.mk.inj (Option.some.inj hf)
    exact g_iret (pc := 9) dX7_row_9 rfl ⟨rfl, rfl⟩
def f_X7_rankBy (N : Nat) (M : JMem) (x1 : Int32) (x2 : Int32) : Option (Int32) := (if x1 = 0 then (jrd M 21 32 x2).bind fun v4 => some v4 else (if x1 = 1 then (jrd M 21 32 x2).bind fun v1 => (f_X2_spansBehind N M x2).bind fun v2 => some (-(v1 + v2)) else some 0))
set_option maxHeartbeats 4000000 in
theorem c_X7_rankBy {N : Nat} {M : JMem} {x1 : Int32} {x2 : Int32} {r : Int32} (hf : f_X7_rankBy N M x1 x2 = some r) : jCo yX7_rankBy μ_X7_rankBy 2 M [.ref 0, .int x1, .int x2] M (some (.int r)) := by
  refine jCt_of (by decide +kernel) rfl (by simp [Value.category]) (Nat.le_of_ble_eq_true rfl) ?_
  unfold f_X7_rankBy at hf
  show jGG μ_X7_rankBy 2 0 [some (.ref 0), some (.int x1), some (.int x2)] [] M (fun M' r' => M' = M ∧ r' = some (.int r))
  refine g_iload_n (pc := 0) dX7_rankBy_0 rfl rfl ?_
  refine g_if_ne (pc := 1) 14 dX7_rankBy_1 rfl (fun hc5 => ?_) (fun hc5 => ?_)
  · replace hf := jifn hc5 hf
    refine g_iload_n (pc := 14) dX7_rankBy_14 rfl rfl ?_
    refine g_iconst (pc := 15) 1 dX7_rankBy_15 rfl ?_
    refine g_icmp_ne (pc := 16) 41 dX7_rankBy_16 rfl (fun hc3 => ?_) (fun hc3 => ?_)
    · replace hf := jifn hc3 hf
      refine g_iconst (pc := 41) 0 dX7_rankBy_41 rfl ?_
      obtain rfl := Option.some.inj hf
      exact g_iret (pc := 42) dX7_rankBy_42 rfl ⟨rfl, rfl⟩
    · replace hf := jifp hc3 hf
      refine g_aload_n (pc := 19) dX7_rankBy_19 rfl rfl ?_
      refine g_getR (pc := 20) dX7_rankBy_20 fl_X7_10 sh_0 rfl ?_
      refine g_getR (pc := 23) dX7_rankBy_23 fl_X7_113 sh_1 rfl ?_
      refine g_iload_n (pc := 26) dX7_rankBy_26 rfl rfl ?_
      obtain ⟨v1, ev1, hf⟩ := job hf
      refine g_iald (pc := 27) dX7_rankBy_27 sh_21 ev1 ?_
      refine g_aload_n (pc := 28) dX7_rankBy_28 rfl rfl ?_
      refine g_getR (pc := 29) dX7_rankBy_29 fl_X7_10 sh_0 rfl ?_
      refine g_iload_n (pc := 32) dX7_rankBy_32 rfl rfl ?_
      obtain ⟨v2, ev2, hf⟩ := job hf
      refine g_callV (pc := 33) [.int x2] [.int v1] dX7_rankBy_33 ml_X7_320 ck_X2_spansBehind cv_X2_spansBehind sh_1 rfl (by decide) (Nat.le_of_ble_eq_true rfl) (c_X2_spansBehind ev2) ?_
      show jGG μ_X7_rankBy 2 36 [some (.ref 0), some (.int x1), some (.int x2)] [.int v2, .int v1] M (fun M' r' => M' = M ∧ r' = some (.int r))
      refine g_iadd (pc := 36) dX7_rankBy_36 ?_
      refine g_ineg (pc := 37) dX7_rankBy_37 ?_
      refine g_goto (pc := 38) 42 dX7_rankBy_38 rfl ?_
      obtain rfl := Option.some.inj hf
      exact g_iret (pc := 42) dX7_rankBy_42 rfl ⟨rfl, rfl⟩
  · replace hf := jifp hc5 hf
    refine g_aload_n (pc := 4) dX7_rankBy_4 rfl rfl ?_
    refine g_getR (pc := 5) dX7_rankBy_5 fl_X7_10 sh_0 rfl ?_
    refine g_getR (pc := 8) dX7_rankBy_8 fl_X7_113 sh_1 rfl ?_
    refine g_iload_n (pc := 11) dX7_rankBy_11 rfl rfl ?_
    obtain ⟨v4, ev4, hf⟩ := job hf
    refine g_iald (pc := 12) dX7_rankBy_12 sh_21 ev4 ?_
    obtain rfl := Option.some.inj hf
    exact g_iret (pc := 13) dX7_rankBy_13 rfl ⟨rfl, rfl⟩
