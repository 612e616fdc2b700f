def f_X2_addMachine (M : JMem) (x1 : Int32) (x2 : Int32) : Option (JMem × Int32) := (jwr M 2 8 (M 1 0) x1).bind fun M1 => (jwr M1 3 8 (M 1 0) x2).bind fun M2 => (some (jup M2 1 0 ((M2 1 0) + 1))).bind fun M3 => some (M3, M 1 0)
set_option maxHeartbeats 4000000 in
theorem c_X2_addMachine {M : JMem} {x1 : Int32} {x2 : Int32} {Mz : JMem} {r : Int32} (hf : f_X2_addMachine M x1 x2 = some (Mz, r)) : jCo yX2_addMachine μ_X2_addMachine 1 M [.ref 1, .int x1, .int x2] Mz (some (.int r)) := by
  refine jCt_of (by decide +kernel) rfl (by simp [Value.category]) (Nat.le_of_ble_eq_true rfl) ?_
  unfold f_X2_addMachine at hf
  show jGG μ_X2_addMachine 1 0 [some (.ref 1), some (.int x1), some (.int x2), none] [] M (fun M' r' => M' = Mz ∧ r' = some (.int r))
  refine g_aload_n (pc := 0) dX2_addMachine_0 rfl rfl ?_
  refine g_getI (pc := 1) dX2_addMachine_1 fl_X2_47 sh_1 rfl ?_
  refine g_istore_n (pc := 4) (lv' := [some (.ref 1), some (.int x1), some (.int x2), some (.int (M 1 0))]) dX2_addMachine_4 rfl (by decide) rfl ?_
  refine g_aload_n (pc := 5) dX2_addMachine_5 rfl rfl ?_
  refine g_getR (pc := 6) dX2_addMachine_6 fl_X2_9 sh_1 rfl ?_
  refine g_iload_n (pc := 9) dX2_addMachine_9 rfl rfl ?_
  refine g_iload_n (pc := 10) dX2_addMachine_10 rfl rfl ?_
  obtain ⟨M1, eM1, hf⟩ := job hf
  refine g_iast (pc := 11) dX2_addMachine_11 sh_2 eM1 ?_
  refine g_aload_n (pc := 12) dX2_addMachine_12 rfl rfl ?_
  refine g_getR (pc := 13) dX2_addMachine_13 fl_X2_15 sh_1 rfl ?_
  refine g_iload_n (pc := 16) dX2_addMachine_16 rfl rfl ?_
  refine g_iload_n (pc := 17) dX2_addMachine_17 rfl rfl ?_
  obtain ⟨M2, eM2, hf⟩ := job hf
  refine g_iast (pc := 18) dX2_addMachine_18 sh_3 eM2 ?_
  refine g_aload_n (pc := 19) dX2_addMachine_19 rfl rfl ?_
  refine g_dup (pc := 20) dX2_addMachine_20 rfl ?_
  refine g_getI (pc := 21) dX2_addMachine_21 fl_X2_47 sh_1 rfl ?_
  refine g_iconst (pc := 24) 1 dX2_addMachine_24 rfl ?_
  refine g_iadd (pc := 25) dX2_addMachine_25 ?_
  refine g_putI (pc := 26) dX2_addMachine_26 fp_X2_47 sh_1 rfl ?_
  obtain ⟨M3, eM3, hf⟩ := job hf
  rw [Option.some.inj eM3]
  refine g_iload_n (pc := 29) dX2_addMachine_29 rfl rfl ?_
  obtain ⟨rfl, rfl⟩ := Prod.mk.inj (Option.some.inj hf)
  exact g_iret (pc := 30) dX2_addMachine_30 rfl ⟨rfl, rfl⟩
def f_X2_addPiece (M : JMem) (x1 : Int32) : Option (JMem × Int32) := (jwr M 4 12 (M 1 1) x1).bind fun M1 => (some (jup M1 1 1 ((M1 1 1) + 1))).bind fun M2 => some (M2, M 1 1)
set_option maxHeartbeats 4000000 in
theorem c_X2_addPiece {M : JMem} {x1 : Int32} {Mz : JMem} {r : Int32} (hf : f_X2_addPiece M x1 = some (Mz, r)) : jCo yX2_addPiece μ_X2_addPiece 1 M [.ref 1, .int x1] Mz (some (.int r)) := by
  refine jCt_of (by decide +kernel) rfl (by simp [Value.category]) (Nat.le_of_ble_eq_true rfl) ?_
  unfold f_X2_addPiece at hf
  show jGG μ_X2_addPiece 1 0 [some (.ref 1), some (.int x1), none] [] M (fun M' r' => M' = Mz ∧ r' = some (.int r))
  refine g_aload_n (pc := 0) dX2_addPiece_0 rfl rfl ?_
  refine g_getI (pc := 1) dX2_addPiece_1 fl_X2_51 sh_1 rfl ?_
  refine g_istore_n (pc := 4) (lv' := [some (.ref 1), some (.int x1), some (.int (M 1 1))]) dX2_addPiece_4 rfl (by decide) rfl ?_
  refine g_aload_n (pc := 5) dX2_addPiece_5 rfl rfl ?_
  refine g_getR (pc := 6) dX2_addPiece_6 fl_X2_18 sh_1 rfl ?_
  refine g_iload_n (pc := 9) dX2_addPiece_9 rfl rfl ?_
  refine g_iload_n (pc := 10) dX2_addPiece_10 rfl rfl ?_
  obtain ⟨M1, eM1, hf⟩ := job hf
  refine g_iast (pc := 11) dX2_addPiece_11 sh_4 eM1 ?_
  refine g_aload_n (pc := 12) dX2_addPiece_12 rfl rfl ?_
  refine g_dup (pc := 13) dX2_addPiece_13 rfl ?_
  refine g_getI (pc := 14) dX2_addPiece_14 fl_X2_51 sh_1 rfl ?_
  refine g_iconst (pc := 17) 1 dX2_addPiece_17 rfl ?_
  refine g_iadd (pc := 18) dX2_addPiece_18 ?_
  refine g_putI (pc := 19) dX2_addPiece_19 fp_X2_51 sh_1 rfl ?_
  obtain ⟨M2, eM2, hf⟩ := job hf
  rw [Option.some.inj eM2]
  refine g_iload_n (pc := 22) dX2_addPiece_22 rfl rfl ?_
  obtain ⟨rfl, rfl⟩ := Prod.mk.inj (Option.some.inj hf)
  exact g_iret (pc := 23) dX2_addPiece_23 rfl ⟨rfl, rfl⟩
def f_X2_addStep (M : JMem) (x1 : Int32) (x2 : Int32) (x3 : Int32) : Option (JMem × Int32) := (jwr M 19 32 (M 1 2) x1).bind fun M1 => (jwr M1 20 32 (M 1 2) x2).bind fun M2 => (jwr M2 21 32 (M 1 2) x3).bind fun M3 => (jrd M3 18 12 x1).bind fun v4 => (jwr M3 22 32 (M 1 2) v4).bind fun M5 => (jrw 5 12 x1).bind fun w6 => (jrd M5 18 12 x1).bind fun v7 => (jwr M5 w6 8 v7 (M 1 2)).bind fun M8 => (jrd M8 18 12 x1).bind fun v9 => (jwr M8 18 12 x1 (v9 + 1)).bind fun M10 => (jrw 23 8 x2).bind fun w11 => (jrd M10 32 8 x2).bind fun v12 => (jwr M10 w11 32 v12 (M 1 2)).bind fun M13 => (jrd M13 32 8 x2).bind fun v14 => (jwr M13 32 8 x2 (v14 + 1)).bind fun M15 => (some (jup M15 1 2 ((M15 1 2) + 1))).bind fun M16 => some (M16, M 1 2)
set_option maxHeartbeats 4000000 in
theorem c_X2_addStep {M : JMem} {x1 : Int32} {x2 : Int32} {x3 : Int32} {Mz : JMem} {r : Int32} (hf : f_X2_addStep M x1 x2 x3 = some (Mz, r)) : jCo yX2_addStep μ_X2_addStep 1 M [.ref 1, .int x1, .int x2, .int x3] Mz (some (.int r)) := by
  refine jCt_of (by decide +kernel) rfl (by simp [Value.category]) (Nat.le_of_ble_eq_true rfl) ?_
  unfold f_X2_addStep at hf
  show jGG μ_X2_addStep 1 0 [some (.ref 1), some (.int x1), some (.int x2), some (.int x3), none] [] M (fun M' r' => M' = Mz ∧ r' = some (.int r))
  refine g_aload_n (pc := 0) dX2_addStep_0 rfl rfl ?_
  refine g_getI (pc := 1) dX2_addStep_1 fl_X2_54 sh_1 rfl ?_
  refine g_istore (pc := 4) (lv' := [some (.ref 1), some (.int x1), some (.int x2), some (.int x3), some (.int (M 1 2))]) dX2_addStep_4 (by decide) rfl ?_
  refine g_aload_n (pc := 6) dX2_addStep_6 rfl rfl ?_
  refine g_getR (pc := 7) dX2_addStep_7 fl_X2_29 sh_1 rfl ?_
  refine g_iload (pc := 10) dX2_addStep_10 rfl ?_
  refine g_iload_n (pc := 12) dX2_addStep_12 rfl rfl ?_
  obtain ⟨M1, eM1, hf⟩ := job hf
  refine g_iast (pc := 13) dX2_addStep_13 sh_19 eM1 ?_
  refine g_aload_n (pc := 14) dX2_addStep_14 rfl rfl ?_
  refine g_getR (pc := 15) dX2_addStep_15 fl_X2_32 sh_1 rfl ?_
  refine g_iload (pc := 18) dX2_addStep_18 rfl ?_
  refine g_iload_n (pc := 20) dX2_addStep_20 rfl rfl ?_
  obtain ⟨M2, eM2, hf⟩ := job hf
  refine g_iast (pc := 21) dX2_addStep_21 sh_20 eM2 ?_
  refine g_aload_n (pc := 22) dX2_addStep_22 rfl rfl ?_
  refine g_getR (pc := 23) dX2_addStep_23 fl_X2_35 sh_1 rfl ?_
  refine g_iload (pc := 26) dX2_addStep_26 rfl ?_
  refine g_iload_n (pc := 28) dX2_addStep_28 rfl rfl ?_
  obtain ⟨M3, eM3, hf⟩ := job hf
  refine g_iast (pc := 29) dX2_addStep_29 sh_21 eM3 ?_
  refine g_aload_n (pc := 30) dX2_addStep_30 rfl rfl ?_
  refine g_getR (pc := 31) dX2_addStep_31 fl_X2_38 sh_1 rfl ?_
  refine g_iload (pc := 34) dX2_addStep_34 rfl ?_
  refine g_aload_n (pc := 36) dX2_addStep_36 rfl rfl ?_
  refine g_getR (pc := 37) dX2_addStep_37 fl_X2_26 sh_1 rfl ?_
  refine g_iload_n (pc := 40) dX2_addStep_40 rfl rfl ?_
  obtain ⟨v4, ev4, hf⟩ := job hf
  refine g_iald (pc := 41) dX2_addStep_41 sh_18 ev4 ?_
  obtain ⟨M5, eM5, hf⟩ := job hf
  refine g_iast (pc := 42) dX2_addStep_42 sh_22 eM5 ?_
  refine g_aload_n (pc := 43) dX2_addStep_43 rfl rfl ?_
  refine g_getR (pc := 44) dX2_addStep_44 fl_X2_23 sh_1 rfl ?_
  refine g_iload_n (pc := 47) dX2_addStep_47 rfl rfl ?_
  obtain ⟨w6, ew6, hf⟩ := job hf
  refine g_aald (pc := 48) dX2_addStep_48 sh_5 ew6 ?_
  refine g_aload_n (pc := 49) dX2_addStep_49 rfl rfl ?_
  refine g_getR (pc := 50) dX2_addStep_50 fl_X2_26 sh_1 rfl ?_
  refine g_iload_n (pc := 53) dX2_addStep_53 rfl rfl ?_
  obtain ⟨v7, ev7, hf⟩ := job hf
  refine g_iald (pc := 54) dX2_addStep_54 sh_18 ev7 ?_
  refine g_iload (pc := 55) dX2_addStep_55 rfl ?_
  obtain ⟨M8, eM8, hf⟩ := job hf
  refine g_iast (pc := 57) dX2_addStep_57 (jrw_sh gr_5 ew6) eM8 ?_
  refine g_aload_n (pc := 58) dX2_addStep_58 rfl rfl ?_
  refine g_getR (pc := 59) dX2_addStep_59 fl_X2_26 sh_1 rfl ?_
  refine g_iload_n (pc := 62) dX2_addStep_62 rfl rfl ?_
  refine g_dup2 (pc := 63) dX2_addStep_63 rfl rfl ?_
  obtain ⟨v9, ev9, hf⟩ := job hf
  refine g_iald (pc := 64) dX2_addStep_64 sh_18 ev9 ?_
  refine g_iconst (pc := 65) 1 dX2_addStep_65 rfl ?_
  refine g_iadd (pc := 66) dX2_addStep_66 ?_
  obtain ⟨M10, eM10, hf⟩ := job hf
  refine g_iast (pc := 67) dX2_addStep_67 sh_18 eM10 ?_
  refine g_aload_n (pc := 68) dX2_addStep_68 rfl rfl ?_
  refine g_getR (pc := 69) dX2_addStep_69 fl_X2_41 sh_1 rfl ?_
  refine g_iload_n (pc := 72) dX2_addStep_72 rfl rfl ?_
  obtain ⟨w11, ew11, hf⟩ := job hf
  refine g_aald (pc := 73) dX2_addStep_73 sh_23 ew11 ?_
  refine g_aload_n (pc := 74) dX2_addStep_74 rfl rfl ?_
  refine g_getR (pc := 75) dX2_addStep_75 fl_X2_44 sh_1 rfl ?_
  refine g_iload_n (pc := 78) dX2_addStep_78 rfl rfl ?_
  obtain ⟨v12, ev12, hf⟩ := job hf
  refine g_iald (pc := 79) dX2_addStep_79 sh_32 ev12 ?_
  refine g_iload (pc := 80) dX2_addStep_80 rfl ?_
  obtain ⟨M13, eM13, hf⟩ := job hf
  refine g_iast (pc := 82) dX2_addStep_82 (jrw_sh gr_23 ew11) eM13 ?_
  refine g_aload_n (pc := 83) dX2_addStep_83 rfl rfl ?_
  refine g_getR (pc := 84) dX2_addStep_84 fl_X2_44 sh_1 rfl ?_
  refine g_iload_n (pc := 87) dX2_addStep_87 rfl rfl ?_
  refine g_dup2 (pc := 88) dX2_addStep_88 rfl rfl ?_
  obtain ⟨v14, ev14, hf⟩ := job hf
  refine g_iald (pc := 89) dX2_addStep_89 sh_32 ev14 ?_
  refine g_iconst (pc := 90) 1 dX2_addStep_90 rfl ?_
  refine g_iadd (pc := 91) dX2_addStep_91 ?_
  obtain ⟨M15, eM15, hf⟩ := job hf
  refine g_iast (pc := 92) dX2_addStep_92 sh_32 eM15 ?_
  refine g_aload_n (pc := 93) dX2_addStep_93 rfl rfl ?_
  refine g_dup (pc := 94) dX2_addStep_94 rfl ?_
  refine g_getI (pc := 95) dX2_addStep_95 fl_X2_54 sh_1 rfl ?_
  refine g_iconst (pc := 98) 1 dX2_addStep_98 rfl ?_
  refine g_iadd (pc := 99) dX2_addStep_99 ?_
  refine g_putI (pc := 100) dX2_addStep_100 fp_X2_54 sh_1 rfl ?_
  obtain ⟨M16, eM16, hf⟩ := job hf
  rw [Option.some.inj eM16]
  refine g_iload (pc := 103) dX2_addStep_103 rfl ?_
  obtain ⟨rfl, rfl⟩ := Prod.mk.inj (Option.some.inj hf)
  exact g_iret (pc := 105) dX2_addStep_105 rfl ⟨rfl, rfl⟩
def f_X2_isSimple (N : Nat) (M : JMem) : Option (Int32) := (jcase (α := Int32) (β := Unit) (jLp (σ := Int32) (ρ := (Int32) ⊕ (Unit)) N (fun (z7 : Int32) => (if (M 1 0) ≤ z7 then some (Sum.inr (Sum.inr ())) else (jrd M 32 8 z7).bind fun v8 => (jcase (α := (Int32) ⊕ ((Int32) ⊕ (Unit))) (β := Unit) (if v8 ≤ 0 then some (Sum.inr ()) else (jrd M 2 8 z7).bind fun v14 => (if v14 = 0 then some (Sum.inr ()) else (jrd M 2 8 z7).bind fun v15 => (if v15 = 1 then some (Sum.inr ()) else some (Sum.inl (Sum.inr (Sum.inl 0)))))) fun _ => some (Sum.inl (z7 + 1))))) 0) fun _ => some 1)
set_option maxHeartbeats 4000000 in
theorem c_X2_isSimple {N : Nat} {M : JMem} {r : Int32} (hf : f_X2_isSimple N M = some r) : jCo yX2_isSimple μ_X2_isSimple 1 M [.ref 1] M (some (.int r)) := by
  refine jCt_of (by decide +kernel) rfl (by simp [Value.category]) (Nat.le_of_ble_eq_true rfl) ?_
  unfold f_X2_isSimple at hf
  show jGG μ_X2_isSimple 1 0 [some (.ref 1), none] [] M (fun M' r' => M' = M ∧ r' = some (.int r))
  refine g_iconst (pc := 0) 0 dX2_isSimple_0 rfl ?_
  refine g_istore_n (pc := 1) (lv' := [some (.ref 1), some (.int 0)]) dX2_isSimple_1 rfl (by decide) rfl ?_
  obtain ⟨y2, hr20, hy1⟩ := jcb hf
  have K3 : y2 = Sum.inr () → jGG μ_X2_isSimple 1 46 [none, none] [] M (fun M' r' => M' = M ∧ r' = some (.int r)) := by
    intro hyy
    subst hyy
    replace hf := hy1
    refine g_iconst (pc := 46) 1 dX2_isSimple_46 rfl ?_
    obtain rfl := Option.some.inj hf
    exact g_zret (pc := 47) dX2_isSimple_47 rfl (Or.inr rfl) ⟨rfl, rfl⟩
  refine g_weak (lv' := [some (.ref 1), some (.int 0)]) ⟨rfl, ⟨rfl, trivial⟩⟩ ?_
  refine jLp_ind (P := fun (z7 : Int32) => jGG μ_X2_isSimple 1 2 [some (.ref 1), some (.int z7)] [] M (fun M' r' => M' = M ∧ r' = some (.int r))) ?_ N _ hr20
  rintro z7 x_6 hf ih5 hx4
  show jGG μ_X2_isSimple 1 2 [some (.ref 1), some (.int z7)] [] M (fun M' r' => M' = M ∧ r' = some (.int r))
  refine g_iload_n (pc := 2) dX2_isSimple_2 rfl rfl ?_
  refine g_aload_n (pc := 3) dX2_isSimple_3 rfl rfl ?_
  refine g_getI (pc := 4) dX2_isSimple_4 fl_X2_47 sh_1 rfl ?_
  refine g_icmp_ge (pc := 7) 46 dX2_isSimple_7 rfl (fun hc19 => ?_) (fun hc19 => ?_)
  · replace hf := jifp hc19 hf
    have hf := hx4 _ (Option.some.inj hf).symm
    exact g_weakK (K3 hf.symm) trivial
  · replace hf := jifn hc19 hf
    refine g_aload_n (pc := 10) dX2_isSimple_10 rfl rfl ?_
    refine g_getR (pc := 11) dX2_isSimple_11 fl_X2_44 sh_1 rfl ?_
    refine g_iload_n (pc := 14) dX2_isSimple_14 rfl rfl ?_
    obtain ⟨v8, ev8, hf⟩ := job hf
    refine g_iald (pc := 15) dX2_isSimple_15 sh_32 ev8 ?_
    obtain ⟨y11, hf, hy10⟩ := jcb hf
    have K12 : y11 = Sum.inr () → jGG μ_X2_isSimple 1 40 [some (.ref 1), some (.int z7)] [] M (fun M' r' => M' = M ∧ r' = some (.int r)) := by
      intro hyy
      subst hyy
      replace hf := hy10
      refine g_iinc (pc := 40) (lv' := [some (.ref 1), some (.int (z7 + 1))]) (z7 + 1) dX2_isSimple_40 rfl rfl (by decide) rfl ?_
      refine g_goto (pc := 43) 2 dX2_isSimple_43 rfl ?_
      have hih : jGG μ_X2_isSimple 1 2 [some (.ref 1), some (.int (z7 + 1))] [] M (fun M' r' => M' = M ∧ r' = some (.int r)) := ih5 (z7 + 1) (Option.some.inj hf).symm
      exact g_weakK hih ⟨rfl, ⟨rfl, trivial⟩⟩
    refine g_if_le (pc := 16) 40 dX2_isSimple_16 rfl (fun hc18 => ?_) (fun hc18 => ?_)
    · replace hf := jifp hc18 hf
      exact g_weakK (K12 (Option.some.inj hf).symm) ⟨rfl, ⟨rfl, trivial⟩⟩
    · replace hf := jifn hc18 hf
      refine g_aload_n (pc := 19) dX2_isSimple_19 rfl rfl ?_
      refine g_getR (pc := 20) dX2_isSimple_20 fl_X2_9 sh_1 rfl ?_
      refine g_iload_n (pc := 23) dX2_isSimple_23 rfl rfl ?_
      obtain ⟨v14, ev14, hf⟩ := job hf
      refine g_iald (pc := 24) dX2_isSimple_24 sh_2 ev14 ?_
      refine g_if_eq (pc := 25) 40 dX2_isSimple_25 rfl (fun hc17 => ?_) (fun hc17 => ?_)
      · replace hf := jifp hc17 hf
        exact g_weakK (K12 (Option.some.inj hf).symm) ⟨rfl, ⟨rfl, trivial⟩⟩
      · replace hf := jifn hc17 hf
        refine g_aload_n (pc := 28) dX2_isSimple_28 rfl rfl ?_
        refine g_getR (pc := 29) dX2_isSimple_29 fl_X2_9 sh_1 rfl ?_
        refine g_iload_n (pc := 32) dX2_isSimple_32 rfl rfl ?_
        obtain ⟨v15, ev15, hf⟩ := job hf
        refine g_iald (pc := 33) dX2_isSimple_33 sh_2 ev15 ?_
        refine g_iconst (pc := 34) 1 dX2_isSimple_34 rfl ?_
        refine g_icmp_eq (pc := 35) 40 dX2_isSimple_35 rfl (fun hc16 => ?_) (fun hc16 => ?_)
        · replace hf := jifp hc16 hf
          exact g_weakK (K12 (Option.some.inj hf).symm) ⟨rfl, ⟨rfl, trivial⟩⟩
        · replace hf := jifn hc16 hf
          refine g_iconst (pc := 38) 0 dX2_isSimple_38 rfl ?_
          obtain rfl := Option.some.inj hf
          replace hf := hy10
          have hf := hx4 _ (Option.some.inj hf).symm
          subst hf
          replace hf := hy1
          obtain rfl := Option.some.inj hf
          exact g_zret (pc := 39) dX2_isSimple_39 rfl (Or.inl rfl) ⟨rfl, rfl⟩
def f_X2_allSpans (N : Nat) (M : JMem) : Option (Int32) := ((jLp (σ := Int32 × Int32) (ρ := Int32) N (fun ((z7, z8) : Int32 × Int32) => (if (M 1 2) ≤ z8 then some (Sum.inr z7) else (jrd M 21 32 z8).bind fun v10 => some (Sum.inl (z7 + v10, z8 + 1)))) (0, 0)).bind fun t9 => some t9)
set_option maxHeartbeats 4000000 in
theorem c_X2_allSpans {N : Nat} {M : JMem} {r : Int32} (hf : f_X2_allSpans N M = some r) : jCo yX2_allSpans μ_X2_allSpans 1 M [.ref 1] M (some (.int r)) := by
  refine jCt_of (by decide +kernel) rfl (by simp [Value.category]) (Nat.le_of_ble_eq_true rfl) ?_
  unfold f_X2_allSpans at hf
  show jGG μ_X2_allSpans 1 0 [some (.ref 1), none, none] [] M (fun M' r' => M' = M ∧ r' = some (.int r))
  refine g_iconst (pc := 0) 0 dX2_allSpans_0 rfl ?_
  refine g_istore_n (pc := 1) (lv' := [some (.ref 1), some (.int 0), none]) dX2_allSpans_1 rfl (by decide) rfl ?_
  refine g_iconst (pc := 2) 0 dX2_allSpans_2 rfl ?_
  refine g_istore_n (pc := 3) (lv' := [some (.ref 1), some (.int 0), some (.int 0)]) dX2_allSpans_3 rfl (by decide) rfl ?_
  obtain ⟨t9, y2, hy1⟩ := job hf
  have K3 : jGG μ_X2_allSpans 1 27 [none, some (.int t9), none] [] M (fun M' r' => M' = M ∧ r' = some (.int r)) := by
    replace hf := hy1
    refine g_iload_n (pc := 27) dX2_allSpans_27 rfl rfl ?_
    obtain rfl := Option.some.inj hf
    exact g_iret (pc := 28) dX2_allSpans_28 rfl ⟨rfl, rfl⟩
  refine g_weak (lv' := [some (.ref 1), some (.int 0), some (.int 0)]) ⟨rfl, ⟨rfl, ⟨rfl, trivial⟩⟩⟩ ?_
  refine jLp_ind (P := fun ((z7, z8) : Int32 × Int32) => jGG μ_X2_allSpans 1 4 [some (.ref 1), some (.int z7), some (.int z8)] [] M (fun M' r' => M' = M ∧ r' = some (.int r))) ?_ N _ y2
  rintro ⟨z7, z8⟩ x_6 hf ih5 hx4
  show jGG μ_X2_allSpans 1 4 [some (.ref 1), some (.int z7), some (.int z8)] [] M (fun M' r' => M' = M ∧ r' = some (.int r))
  refine g_iload_n (pc := 4) dX2_allSpans_4 rfl rfl ?_
  refine g_aload_n (pc := 5) dX2_allSpans_5 rfl rfl ?_
  refine g_getI (pc := 6) dX2_allSpans_6 fl_X2_54 sh_1 rfl ?_
  refine g_icmp_ge (pc := 9) 27 dX2_allSpans_9 rfl (fun hc11 => ?_) (fun hc11 => ?_)
  · replace hf := jifp hc11 hf
    have hf := hx4 _ (Option.some.inj hf).symm
    obtain rfl := hf
    exact g_weakK K3 ⟨rfl, trivial⟩
  · replace hf := jifn hc11 hf
    refine g_iload_n (pc := 12) dX2_allSpans_12 rfl rfl ?_
    refine g_aload_n (pc := 13) dX2_allSpans_13 rfl rfl ?_
    refine g_getR (pc := 14) dX2_allSpans_14 fl_X2_35 sh_1 rfl ?_
    refine g_iload_n (pc := 17) dX2_allSpans_17 rfl rfl ?_
    obtain ⟨v10, ev10, hf⟩ := job hf
    refine g_iald (pc := 18) dX2_allSpans_18 sh_21 ev10 ?_
    refine g_iadd (pc := 19) dX2_allSpans_19 ?_
    refine g_istore_n (pc := 20) (lv' := [some (.ref 1), some (.int (z7 + v10)), some (.int z8)]) dX2_allSpans_20 rfl (by decide) rfl ?_
    refine g_iinc (pc := 21) (lv' := [some (.ref 1), some (.int (z7 + v10)), some (.int (z8 + 1))]) (z8 + 1) dX2_allSpans_21 rfl rfl (by decide) rfl ?_
    refine g_goto (pc := 24) 4 dX2_allSpans_24 rfl ?_
    have hih : jGG μ_X2_allSpans 1 4 [some (.ref 1), some (.int (z7 + v10)), some (.int (z8 + 1))] [] M (fun M' r' => M' = M ∧ r' = some (.int r)) := ih5 (z7 + v10, z8 + 1) (Option.some.inj hf).symm
    exact g_weakK hih ⟨rfl, ⟨rfl, ⟨rfl, trivial⟩⟩⟩
def f_X2_behindInPiece (M : JMem) (x1 : Int32) : Option (Int32) := (jrd M 19 32 x1).bind fun v1 => (jrd M 22 32 x1).bind fun v2 => (jrd M 18 12 v1).bind fun v3 => (if v3 ≤ (v2 + 1) then some (-1) else (jrw 5 12 v1).bind fun w4 => (jrd M w4 8 (v2 + 1)).bind fun v5 => some v5)
set_option maxHeartbeats 4000000 in
theorem c_X2_behindInPiece {M : JMem} {x1 : Int32} {r : Int32} (hf : f_X2_behindInPiece M x1 = some r) : jCo yX2_behindInPiece μ_X2_behindInPiece 1 M [.ref 1, .int x1] M (some (.int r)) := by
  refine jCt_of (by decide +kernel) rfl (by simp [Value.category]) (Nat.le_of_ble_eq_true rfl) ?_
  unfold f_X2_behindInPiece at hf
  show jGG μ_X2_behindInPiece 1 0 [some (.ref 1), some (.int x1), none, none] [] M (fun M' r' => M' = M ∧ r' = some (.int r))
  refine g_aload_n (pc := 0) dX2_behindInPiece_0 rfl rfl ?_
  refine g_getR (pc := 1) dX2_behindInPiece_1 fl_X2_29 sh_1 rfl ?_
  refine g_iload_n (pc := 4) dX2_behindInPiece_4 rfl rfl ?_
  obtain ⟨v1, ev1, hf⟩ := job hf
  refine g_iald (pc := 5) dX2_behindInPiece_5 sh_19 ev1 ?_
  refine g_istore_n (pc := 6) (lv' := [some (.ref 1), some (.int x1), some (.int v1), none]) dX2_behindInPiece_6 rfl (by decide) rfl ?_
  refine g_aload_n (pc := 7) dX2_behindInPiece_7 rfl rfl ?_
  refine g_getR (pc := 8) dX2_behindInPiece_8 fl_X2_38 sh_1 rfl ?_
  refine g_iload_n (pc := 11) dX2_behindInPiece_11 rfl rfl ?_
  obtain ⟨v2, ev2, hf⟩ := job hf
  refine g_iald (pc := 12) dX2_behindInPiece_12 sh_22 ev2 ?_
  refine g_iconst (pc := 13) 1 dX2_behindInPiece_13 rfl ?_
  refine g_iadd (pc := 14) dX2_behindInPiece_14 ?_
  refine g_istore_n (pc := 15) (lv' := [some (.ref 1), some (.int x1), some (.int v1), some (.int (v2 + 1))]) dX2_behindInPiece_15 rfl (by decide) rfl ?_
  refine g_iload_n (pc := 16) dX2_behindInPiece_16 rfl rfl ?_
  refine g_aload_n (pc := 17) dX2_behindInPiece_17 rfl rfl ?_
  refine g_getR (pc := 18) dX2_behindInPiece_18 fl_X2_26 sh_1 rfl ?_
  refine g_iload_n (pc := 21) dX2_behindInPiece_21 rfl rfl ?_
  obtain ⟨v3, ev3, hf⟩ := job hf
  refine g_iald (pc := 22) dX2_behindInPiece_22 sh_18 ev3 ?_
  refine g_icmp_ge (pc := 23) 37 dX2_behindInPiece_23 rfl (fun hc6 => ?_) (fun hc6 => ?_)
  · replace hf := jifp hc6 hf
    refine g_iconst (pc := 37) (-1) dX2_behindInPiece_37 rfl ?_
    obtain rfl := Option.some.inj hf
    exact g_iret (pc := 38) dX2_behindInPiece_38 rfl ⟨rfl, rfl⟩
  · replace hf := jifn hc6 hf
    refine g_aload_n (pc := 26) dX2_behindInPiece_26 rfl rfl ?_
    refine g_getR (pc := 27) dX2_behindInPiece_27 fl_X2_23 sh_1 rfl ?_
    refine g_iload_n (pc := 30) dX2_behindInPiece_30 rfl rfl ?_
    obtain ⟨w4, ew4, hf⟩ := job hf
    refine g_aald (pc := 31) dX2_behindInPiece_31 sh_5 ew4 ?_
    refine g_iload_n (pc := 32) dX2_behindInPiece_32 rfl rfl ?_
    obtain ⟨v5, ev5, hf⟩ := job hf
    refine g_iald (pc := 33) dX2_behindInPiece_33 (jrw_sh gr_5 ew4) ev5 ?_
    refine g_goto (pc := 34) 38 dX2_behindInPiece_34 rfl ?_
    obtain rfl := Option.some.inj hf
    exact g_iret (pc := 38) dX2_behindInPiece_38 rfl ⟨rfl, rfl⟩
def f_X2_spansAhead (N : Nat) (M : JMem) (x1 : Int32) : Option (Int32) := (jrd M 19 32 x1).bind fun v1 => ((jLp (σ := Int32 × Int32) (ρ := Int32) N (fun ((z8, z9) : Int32 × Int32) => (jrd M 22 32 x1).bind fun v11 => (if v11 ≤ z9 then some (Sum.inr z8) else (jrw 5 12 v1).bind fun w12 => (jrd M w12 8 z9).bind fun v13 => (jrd M 21 32 v13).bind fun v14 => some (Sum.inl (z8 + v14, z9 + 1)))) (0, 0)).bind fun t10 => some t10)
set_option maxHeartbeats 4000000 in
theorem c_X2_spansAhead {N : Nat} {M : JMem} {x1 : Int32} {r : Int32} (hf : f_X2_spansAhead N M x1 = some r) : jCo yX2_spansAhead μ_X2_spansAhead 1 M [.ref 1, .int x1] M (some (.int r)) := by
  refine jCt_of (by decide +kernel) rfl (by simp [Value.category]) (Nat.le_of_ble_eq_true rfl) ?_
  unfold f_X2_spansAhead at hf
  show jGG μ_X2_spansAhead 1 0 [some (.ref 1), some (.int x1), none, none, none] [] M (fun M' r' => M' = M ∧ r' = some (.int r))
  refine g_aload_n (pc := 0) dX2_spansAhead_0 rfl rfl ?_
  refine g_getR (pc := 1) dX2_spansAhead_1 fl_X2_29 sh_1 rfl ?_
  refine g_iload_n (pc := 4) dX2_spansAhead_4 rfl rfl ?_
  obtain ⟨v1, ev1, hf⟩ := job hf
  refine g_iald (pc := 5) dX2_spansAhead_5 sh_19 ev1 ?_
  refine g_istore_n (pc := 6) (lv' := [some (.ref 1), some (.int x1), some (.int v1), none, none]) dX2_spansAhead_6 rfl (by decide) rfl ?_
  refine g_iconst (pc := 7) 0 dX2_spansAhead_7 rfl ?_
  refine g_istore_n (pc := 8) (lv' := [some (.ref 1), some (.int x1), some (.int v1), some (.int 0), none]) dX2_spansAhead_8 rfl (by decide) rfl ?_
  refine g_iconst (pc := 9) 0 dX2_spansAhead_9 rfl ?_
  refine g_istore (pc := 10) (lv' := [some (.ref 1), some (.int x1), some (.int v1), some (.int 0), some (.int 0)]) dX2_spansAhead_10 (by decide) rfl ?_
  obtain ⟨t10, y3, hy2⟩ := job hf
  have K4 : jGG μ_X2_spansAhead 1 46 [none, none, none, some (.int t10), none] [] M (fun M' r' => M' = M ∧ r' = some (.int r)) := by
    replace hf := hy2
    refine g_iload_n (pc := 46) dX2_spansAhead_46 rfl rfl ?_
    obtain rfl := Option.some.inj hf
    exact g_iret (pc := 47) dX2_spansAhead_47 rfl ⟨rfl, rfl⟩
  refine g_weak (lv' := [some (.ref 1), some (.int x1), some (.int v1), some (.int 0), some (.int 0)]) ⟨rfl, ⟨rfl, ⟨rfl, ⟨rfl, ⟨rfl, trivial⟩⟩⟩⟩⟩ ?_
  refine jLp_ind (P := fun ((z8, z9) : Int32 × Int32) => jGG μ_X2_spansAhead 1 12 [some (.ref 1), some (.int x1), some (.int v1), some (.int z8), some (.int z9)] [] M (fun M' r' => M' = M ∧ r' = some (.int r))) ?_ N _ y3
  rintro ⟨z8, z9⟩ x_7 hf ih6 hx5
  show jGG μ_X2_spansAhead 1 12 [some (.ref 1), some (.int x1), some (.int v1), some (.int z8), some (.int z9)] [] M (fun M' r' => M' = M ∧ r' = some (.int r))
  refine g_iload (pc := 12) dX2_spansAhead_12 rfl ?_
  refine g_aload_n (pc := 14) dX2_spansAhead_14 rfl rfl ?_
  refine g_getR (pc := 15) dX2_spansAhead_15 fl_X2_38 sh_1 rfl ?_
  refine g_iload_n (pc := 18) dX2_spansAhead_18 rfl rfl ?_
  obtain ⟨v11, ev11, hf⟩ := job hf
  refine g_iald (pc := 19) dX2_spansAhead_19 sh_22 ev11 ?_
  refine g_icmp_ge (pc := 20) 46 dX2_spansAhead_20 rfl (fun hc15 => ?_) (fun hc15 => ?_)
  · replace hf := jifp hc15 hf
    have hf := hx5 _ (Option.some.inj hf).symm
    obtain rfl := hf
    exact g_weakK K4 ⟨rfl, trivial⟩
  · replace hf := jifn hc15 hf
    refine g_iload_n (pc := 23) dX2_spansAhead_23 rfl rfl ?_
    refine g_aload_n (pc := 24) dX2_spansAhead_24 rfl rfl ?_
    refine g_getR (pc := 25) dX2_spansAhead_25 fl_X2_35 sh_1 rfl ?_
    refine g_aload_n (pc := 28) dX2_spansAhead_28 rfl rfl ?_
    refine g_getR (pc := 29) dX2_spansAhead_29 fl_X2_23 sh_1 rfl ?_
    refine g_iload_n (pc := 32) dX2_spansAhead_32 rfl rfl ?_
    obtain ⟨w12, ew12, hf⟩ := job hf
    refine g_aald (pc := 33) dX2_spansAhead_33 sh_5 ew12 ?_
    refine g_iload (pc := 34) dX2_spansAhead_34 rfl ?_
    obtain ⟨v13, ev13, hf⟩ := job hf
    refine g_iald (pc := 36) dX2_spansAhead_36 (jrw_sh gr_5 ew12) ev13 ?_
    obtain ⟨v14, ev14, hf⟩ := job hf
    refine g_iald (pc := 37) dX2_spansAhead_37 sh_21 ev14 ?_
    refine g_iadd (pc := 38) dX2_spansAhead_38 ?_
    refine g_istore_n (pc := 39) (lv' := [some (.ref 1), some (.int x1), some (.int v1), some (.int (z8 + v14)), some (.int z9)]) dX2_spansAhead_39 rfl (by decide) rfl ?_
    refine g_iinc (pc := 40) (lv' := [some (.ref 1), some (.int x1), some (.int v1), some (.int (z8 + v14)), some (.int (z9 + 1))]) (z9 + 1) dX2_spansAhead_40 rfl rfl (by decide) rfl ?_
    refine g_goto (pc := 43) 12 dX2_spansAhead_43 rfl ?_
    have hih : jGG μ_X2_spansAhead 1 12 [some (.ref 1), some (.int x1), some (.int v1), some (.int (z8 + v14)), some (.int (z9 + 1))] [] M (fun M' r' => M' = M ∧ r' = some (.int r)) := ih6 (z8 + v14, z9 + 1) (Option.some.inj hf).symm
    exact g_weakK hih ⟨rfl, ⟨rfl, ⟨rfl, ⟨rfl, ⟨rfl, trivial⟩⟩⟩⟩⟩
def f_X2_spansBehind (N : Nat) (M : JMem) (x1 : Int32) : Option (Int32) := (jrd M 19 32 x1).bind fun v1 => (jrd M 22 32 x1).bind fun v2 => ((jLp (σ := Int32 × Int32) (ρ := Int32) N (fun ((z9, z10) : Int32 × Int32) => (jrd M 18 12 v1).bind fun v12 => (if v12 ≤ z10 then some (Sum.inr z9) else (jrw 5 12 v1).bind fun w13 => (jrd M w13 8 z10).bind fun v14 => (jrd M 21 32 v14).bind fun v15 => some (Sum.inl (z9 + v15, z10 + 1)))) (0, v2 + 1)).bind fun t11 => some t11)
set_option maxHeartbeats 4000000 in
theorem c_X2_spansBehind {N : Nat} {M : JMem} {x1 : Int32} {r : Int32} (hf : f_X2_spansBehind N M x1 = some r) : jCo yX2_spansBehind μ_X2_spansBehind 1 M [.ref 1, .int x1] M (some (.int r)) := by
  refine jCt_of (by decide +kernel) rfl (by simp [Value.category]) (Nat.le_of_ble_eq_true rfl) ?_
  unfold f_X2_spansBehind at hf
  show jGG μ_X2_spansBehind 1 0 [some (.ref 1), some (.int x1), none, none, none] [] M (fun M' r' => M' = M ∧ r' = some (.int r))
  refine g_aload_n (pc := 0) dX2_spansBehind_0 rfl rfl ?_
  refine g_getR (pc := 1) dX2_spansBehind_1 fl_X2_29 sh_1 rfl ?_
  refine g_iload_n (pc := 4) dX2_spansBehind_4 rfl rfl ?_
  obtain ⟨v1, ev1, hf⟩ := job hf
  refine g_iald (pc := 5) dX2_spansBehind_5 sh_19 ev1 ?_
  refine g_istore_n (pc := 6) (lv' := [some (.ref 1), some (.int x1), some (.int v1), none, none]) dX2_spansBehind_6 rfl (by decide) rfl ?_
  refine g_iconst (pc := 7) 0 dX2_spansBehind_7 rfl ?_
  refine g_istore_n (pc := 8) (lv' := [some (.ref 1), some (.int x1), some (.int v1), some (.int 0), none]) dX2_spansBehind_8 rfl (by decide) rfl ?_
  refine g_aload_n (pc := 9) dX2_spansBehind_9 rfl rfl ?_
  refine g_getR (pc := 10) dX2_spansBehind_10 fl_X2_38 sh_1 rfl ?_
  refine g_iload_n (pc := 13) dX2_spansBehind_13 rfl rfl ?_
  obtain ⟨v2, ev2, hf⟩ := job hf
  refine g_iald (pc := 14) dX2_spansBehind_14 sh_22 ev2 ?_
  refine g_iconst (pc := 15) 1 dX2_spansBehind_15 rfl ?_
  refine g_iadd (pc := 16) dX2_spansBehind_16 ?_
  refine g_istore (pc := 17) (lv' := [some (.ref 1), some (.int x1), some (.int v1), some (.int 0), some (.int (v2 + 1))]) dX2_spansBehind_17 (by decide) rfl ?_
  obtain ⟨t11, y4, hy3⟩ := job hf
  have K5 : jGG μ_X2_spansBehind 1 53 [none, none, none, some (.int t11), none] [] M (fun M' r' => M' = M ∧ r' = some (.int r)) := by
    replace hf := hy3
    refine g_iload_n (pc := 53) dX2_spansBehind_53 rfl rfl ?_
    obtain rfl := Option.some.inj hf
    exact g_iret (pc := 54) dX2_spansBehind_54 rfl ⟨rfl, rfl⟩
  refine g_weak (lv' := [some (.ref 1), none, some (.int v1), some (.int 0), some (.int (v2 + 1))]) ⟨rfl, ⟨rfl, ⟨rfl, ⟨rfl, trivial⟩⟩⟩⟩ ?_
  refine jLp_ind (P := fun ((z9, z10) : Int32 × Int32) => jGG μ_X2_spansBehind 1 19 [some (.ref 1), none, some (.int v1), some (.int z9), some (.int z10)] [] M (fun M' r' => M' = M ∧ r' = some (.int r))) ?_ N _ y4
  rintro ⟨z9, z10⟩ x_8 hf ih7 hx6
  show jGG μ_X2_spansBehind 1 19 [some (.ref 1), none, some (.int v1), some (.int z9), some (.int z10)] [] M (fun M' r' => M' = M ∧ r' = some (.int r))
  refine g_iload (pc := 19) dX2_spansBehind_19 rfl ?_
  refine g_aload_n (pc := 21) dX2_spansBehind_21 rfl rfl ?_
  refine g_getR (pc := 22) dX2_spansBehind_22 fl_X2_26 sh_1 rfl ?_
  refine g_iload_n (pc := 25) dX2_spansBehind_25 rfl rfl ?_
  obtain ⟨v12, ev12, hf⟩ := job hf
  refine g_iald (pc := 26) dX2_spansBehind_26 sh_18 ev12 ?_
  refine g_icmp_ge (pc := 27) 53 dX2_spansBehind_27 rfl (fun hc16 => ?_) (fun hc16 => ?_)
  · replace hf := jifp hc16 hf
    have hf := hx6 _ (Option.some.inj hf).symm
    obtain rfl := hf
    exact g_weakK K5 ⟨rfl, trivial⟩
  · replace hf := jifn hc16 hf
    refine g_iload_n (pc := 30) dX2_spansBehind_30 rfl rfl ?_
    refine g_aload_n (pc := 31) dX2_spansBehind_31 rfl rfl ?_
    refine g_getR (pc := 32) dX2_spansBehind_32 fl_X2_35 sh_1 rfl ?_
    refine g_aload_n (pc := 35) dX2_spansBehind_35 rfl rfl ?_
    refine g_getR (pc := 36) dX2_spansBehind_36 fl_X2_23 sh_1 rfl ?_
    refine g_iload_n (pc := 39) dX2_spansBehind_39 rfl rfl ?_
    obtain ⟨w13, ew13, hf⟩ := job hf
    refine g_aald (pc := 40) dX2_spansBehind_40 sh_5 ew13 ?_
    refine g_iload (pc := 41) dX2_spansBehind_41 rfl ?_
    obtain ⟨v14, ev14, hf⟩ := job hf
    refine g_iald (pc := 43) dX2_spansBehind_43 (jrw_sh gr_5 ew13) ev14 ?_
    obtain ⟨v15, ev15, hf⟩ := job hf
    refine g_iald (pc := 44) dX2_spansBehind_44 sh_21 ev15 ?_
    refine g_iadd (pc := 45) dX2_spansBehind_45 ?_
    refine g_istore_n (pc := 46) (lv' := [some (.ref 1), none, some (.int v1), some (.int (z9 + v15)), some (.int z10)]) dX2_spansBehind_46 rfl (by decide) rfl ?_
    refine g_iinc (pc := 47) (lv' := [some (.ref 1), none, some (.int v1), some (.int (z9 + v15)), some (.int (z10 + 1))]) (z10 + 1) dX2_spansBehind_47 rfl rfl (by decide) rfl ?_
    refine g_goto (pc := 50) 19 dX2_spansBehind_50 rfl ?_
    have hih : jGG μ_X2_spansBehind 1 19 [some (.ref 1), none, some (.int v1), some (.int (z9 + v15)), some (.int (z10 + 1))] [] M (fun M' r' => M' = M ∧ r' = some (.int r)) := ih7 (z9 + v15, z10 + 1) (Option.some.inj hf).symm
    exact g_weakK hih ⟨rfl, ⟨rfl, ⟨rfl, ⟨rfl, trivial⟩⟩⟩⟩
def f_X3_clear (M : JMem) (o : Nat) : Option (JMem) := (some (jfill M (o + 10) 8 0)).bind fun M1 => some M1
set_option maxHeartbeats 4000000 in
theorem c_X3_clear {M : JMem} {o : Nat} {Mz : JMem} (ho : isX3 o) (hf : f_X3_clear M o = some Mz) : jCo yX3_clear μ_X3_clear 2 M [.ref o] Mz none := by
  refine jCt_of (by decide +kernel) rfl (by simp [Value.category]) (Nat.le_of_ble_eq_true rfl) ?_
  unfold f_X3_clear at hf
  show jGG μ_X3_clear 2 0 [some (.ref o)] [] M (fun M' r' => M' = Mz ∧ r' = none)
  refine g_aload_n (pc := 0) dX3_clear_0 rfl rfl ?_
  refine g_getR (pc := 1) dX3_clear_1 fl_X3_16 ho.1 rfl ?_
  refine g_iconst (pc := 4) 0 dX3_clear_4 rfl ?_
  obtain ⟨M1, eM1, hf⟩ := job hf
  refine g_callS (pc := 5) [.ref (o + 10), .int 0] [] dX3_clear_5 ml_X3_20 ck_J7_fill_53178 cs_J7_fill_53178 rfl (by decide) (Nat.le_of_ble_eq_true rfl) (c_fill ho.2.2.2 (by decide)) ?_
  rw [Option.some.inj eM1]
  show jGG μ_X3_clear 2 8 [some (.ref o)] [] M1 (fun M' r' => M' = Mz ∧ r' = none)
  obtain rfl := Option.some.inj hf
  exact g_vret (pc := 8) dX3_clear_8 rfl ⟨rfl, rfl⟩
def f_X3_append (M : JMem) (o : Nat) (x1 : Int32) (x2 : Int32) : Option (JMem) := (jrw (o + 1) 8 x1).bind fun w1 => (jrd M (o + 10) 8 x1).bind fun v2 => (jwr M w1 32 v2 x2).bind fun M3 => (jrd M3 (o + 10) 8 x1).bind fun v4 => (jwr M3 (o + 10) 8 x1 (v4 + 1)).bind fun M5 => some M5
set_option maxHeartbeats 4000000 in
theorem c_X3_append {M : JMem} {o : Nat} {x1 : Int32} {x2 : Int32} {Mz : JMem} (ho : isX3 o) (hf : f_X3_append M o x1 x2 = some Mz) : jCo yX3_append μ_X3_append 1 M [.ref o, .int x1, .int x2] Mz none := by
  refine jCt_of (by decide +kernel) rfl (by simp [Value.category]) (Nat.le_of_ble_eq_true rfl) ?_
  unfold f_X3_append at hf
  show jGG μ_X3_append 1 0 [some (.ref o), some (.int x1), some (.int x2)] [] M (fun M' r' => M' = Mz ∧ r' = none)
  refine g_aload_n (pc := 0) dX3_append_0 rfl rfl ?_
  refine g_getR (pc := 1) dX3_append_1 fl_X3_11 ho.1 rfl ?_
  refine g_iload_n (pc := 4) dX3_append_4 rfl rfl ?_
  obtain ⟨w1, ew1, hf⟩ := job hf
  refine g_aald (pc := 5) dX3_append_5 ho.2.1 ew1 ?_
  refine g_aload_n (pc := 6) dX3_append_6 rfl rfl ?_
  refine g_getR (pc := 7) dX3_append_7 fl_X3_16 ho.1 rfl ?_
  refine g_iload_n (pc := 10) dX3_append_10 rfl rfl ?_
  obtain ⟨v2, ev2, hf⟩ := job hf
  refine g_iald (pc := 11) dX3_append_11 ho.2.2.2 ev2 ?_
  refine g_iload_n (pc := 12) dX3_append_12 rfl rfl ?_
  obtain ⟨M3, eM3, hf⟩ := job hf
  refine g_iast (pc := 13) dX3_append_13 (jrw_sh ho.2.2.1 ew1) eM3 ?_
  refine g_aload_n (pc := 14) dX3_append_14 rfl rfl ?_
  refine g_getR (pc := 15) dX3_append_15 fl_X3_16 ho.1 rfl ?_
  refine g_iload_n (pc := 18) dX3_append_18 rfl rfl ?_
  refine g_dup2 (pc := 19) dX3_append_19 rfl rfl ?_
  obtain ⟨v4, ev4, hf⟩ := job hf
  refine g_iald (pc := 20) dX3_append_20 ho.2.2.2 ev4 ?_
  refine g_iconst (pc := 21) 1 dX3_append_21 rfl ?_
  refine g_iadd (pc := 22) dX3_append_22 ?_
  obtain ⟨M5, eM5, hf⟩ := job hf
  refine g_iast (pc := 23) dX3_append_23 ho.2.2.2 eM5 ?_
  obtain rfl := Option.some.inj hf
  exact g_vret (pc := 24) dX3_append_24 rfl ⟨rfl, rfl⟩
def f_X3_exchange (M : JMem) (o : Nat) (x1 : Int32) (x2 : Int32) : Option (JMem) := (jrw (o + 1) 8 x1).bind fun w1 => (jrd M w1 32 x2).bind fun v2 => (jrw (o + 1) 8 x1).bind fun w3 => (jrw (o + 1) 8 x1).bind fun w4 => (jrd M w4 32 (x2 + 1)).bind fun v5 => (jwr M w3 32 x2 v5).bind fun M6 => (jrw (o + 1) 8 x1).bind fun w7 => (jwr M6 w7 32 (x2 + 1) v2).bind fun M8 => some M8
set_option maxHeartbeats 4000000 in
theorem c_X3_exchange {M : JMem} {o : Nat} {x1 : Int32} {x2 : Int32} {Mz : JMem} (ho : isX3 o) (hf : f_X3_exchange M o x1 x2 = some Mz) : jCo yX3_exchange μ_X3_exchange 1 M [.ref o, .int x1, .int x2] Mz none := by
  refine jCt_of (by decide +kernel) rfl (by simp [Value.category]) (Nat.le_of_ble_eq_true rfl) ?_
  unfold f_X3_exchange at hf
  show jGG μ_X3_exchange 1 0 [some (.ref o), some (.int x1), some (.int x2), none] [] M (fun M' r' => M' = Mz ∧ r' = none)
  refine g_aload_n (pc := 0) dX3_exchange_0 rfl rfl ?_
  refine g_getR (pc := 1) dX3_exchange_1 fl_X3_11 ho.1 rfl ?_
  refine g_iload_n (pc := 4) dX3_exchange_4 rfl rfl ?_
  obtain ⟨w1, ew1, hf⟩ := job hf
  refine g_aald (pc := 5) dX3_exchange_5 ho.2.1 ew1 ?_
  refine g_iload_n (pc := 6) dX3_exchange_6 rfl rfl ?_
  obtain ⟨v2, ev2, hf⟩ := job hf
  refine g_iald (pc := 7) dX3_exchange_7 (jrw_sh ho.2.2.1 ew1) ev2 ?_
  refine g_istore_n (pc := 8) (lv' := [some (.ref o), some (.int x1), some (.int x2), some (.int v2)]) dX3_exchange_8 rfl (by decide) rfl ?_
  refine g_aload_n (pc := 9) dX3_exchange_9 rfl rfl ?_
  refine g_getR (pc := 10) dX3_exchange_10 fl_X3_11 ho.1 rfl ?_
  refine g_iload_n (pc := 13) dX3_exchange_13 rfl rfl ?_
  obtain ⟨w3, ew3, hf⟩ := job hf
  refine g_aald (pc := 14) dX3_exchange_14 ho.2.1 ew3 ?_
  refine g_iload_n (pc := 15) dX3_exchange_15 rfl rfl ?_
  refine g_aload_n (pc := 16) dX3_exchange_16 rfl rfl ?_
  refine g_getR (pc := 17) dX3_exchange_17 fl_X3_11 ho.1 rfl ?_
  refine g_iload_n (pc := 20) dX3_exchange_20 rfl rfl ?_
  obtain ⟨w4, ew4, hf⟩ := job hf
  refine g_aald (pc := 21) dX3_exchange_21 ho.2.1 ew4 ?_
  refine g_iload_n (pc := 22) dX3_exchange_22 rfl rfl ?_
  refine g_iconst (pc := 23) 1 dX3_exchange_23 rfl ?_
  refine g_iadd (pc := 24) dX3_exchange_24 ?_
  obtain ⟨v5, ev5, hf⟩ := job hf
  refine g_iald (pc := 25) dX3_exchange_25 (jrw_sh ho.2.2.1 ew4) ev5 ?_
  obtain ⟨M6, eM6, hf⟩ := job hf
  refine g_iast (pc := 26) dX3_exchange_26 (jrw_sh ho.2.2.1 ew3) eM6 ?_
  refine g_aload_n (pc := 27) dX3_exchange_27 rfl rfl ?_
  refine g_getR (pc := 28) dX3_exchange_28 fl_X3_11 ho.1 rfl ?_
  refine g_iload_n (pc := 31) dX3_exchange_31 rfl rfl ?_
  obtain ⟨w7, ew7, hf⟩ := job hf
  refine g_aald (pc := 32) dX3_exchange_32 ho.2.1 ew7 ?_
  refine g_iload_n (pc := 33) dX3_exchange_33 rfl rfl ?_
  refine g_iconst (pc := 34) 1 dX3_exchange_34 rfl ?_
  refine g_iadd (pc := 35) dX3_exchange_35 ?_
  refine g_iload_n (pc := 36) dX3_exchange_36 rfl rfl ?_
  obtain ⟨M8, eM8, hf⟩ := job hf
  refine g_iast (pc := 37) dX3_exchange_37 (jrw_sh ho.2.2.1 ew7) eM8 ?_
  obtain rfl := Option.some.inj hf
  exact g_vret (pc := 38) dX3_exchange_38 rfl ⟨rfl, rfl⟩
def f_X3_move (N : Nat) (M : JMem) (o : Nat) (x1 : Int32) (x2 : Int32) (x3 : Int32) : Option (JMem) := ((jLp (σ := Int32 × JMem) (ρ := JMem) N (fun ((z7, M8) : Int32 × JMem) => (if x3 ≤ z7 then some (Sum.inr M8) else (f_X3_exchange M8 o x1 z7).bind fun M10 => some (Sum.inl (z7 + 1, M10)))) (x2, M)).bind fun t9 => ((jLp (σ := Int32 × JMem) (ρ := JMem) N (fun ((z18, M19) : Int32 × JMem) => (if z18 ≤ x3 then some (Sum.inr M19) else (f_X3_exchange M19 o x1 (z18 - 1)).bind fun M21 => some (Sum.inl (z18 + (-1), M21)))) (x2, t9)).bind fun t20 => some t20))
set_option maxHeartbeats 4000000 in
theorem c_X3_move {N : Nat} {M : JMem} {o : Nat} {x1 : Int32} {x2 : Int32} {x3 : Int32} {Mz : JMem} (ho : isX3 o) (hf : f_X3_move N M o x1 x2 x3 = some Mz) : jCo yX3_move μ_X3_move 2 M [.ref o, .int x1, .int x2, .int x3] Mz none := by
  refine jCt_of (by decide +kernel) rfl (by simp [Value.category]) (Nat.le_of_ble_eq_true rfl) ?_
  unfold f_X3_move at hf
  show jGG μ_X3_move 2 0 [some (.ref o), some (.int x1), some (.int x2), some (.int x3), none] [] M (fun M' r' => M' = Mz ∧ r' = none)
  refine g_iload_n (pc := 0) dX3_move_0 rfl rfl ?_
  refine g_istore (pc := 1) (lv' := [some (.ref o), some (.int x1), some (.int x2), some (.int x3), some (.int x2)]) dX3_move_1 (by decide) rfl ?_
  obtain ⟨t9, y2, hy1⟩ := job hf
  have K3 : jGG μ_X3_move 2 22 [some (.ref o), some (.int x1), some (.int x2), some (.int x3), none] [] t9 (fun M' r' => M' = Mz ∧ r' = none) := by
    replace hf := hy1
    refine g_iload_n (pc := 22) dX3_move_22 rfl rfl ?_
    refine g_istore (pc := 23) (lv' := [some (.ref o), some (.int x1), some (.int x2), some (.int x3), some (.int x2)]) dX3_move_23 (by decide) rfl ?_
    obtain ⟨t20, y13, hy12⟩ := job hf
    have K14 : jGG μ_X3_move 2 46 [none, none, none, none, none] [] t20 (fun M' r' => M' = Mz ∧ r' = none) := by
      replace hf := hy12
      obtain rfl := Option.some.inj hf
      exact g_vret (pc := 46) dX3_move_46 rfl ⟨rfl, rfl⟩
    refine g_weak (lv' := [some (.ref o), some (.int x1), none, some (.int x3), some (.int x2)]) ⟨rfl, ⟨rfl, ⟨rfl, ⟨rfl, trivial⟩⟩⟩⟩ ?_
    refine jLp_ind (P := fun ((z18, M19) : Int32 × JMem) => jGG μ_X3_move 2 25 [some (.ref o), some (.int x1), none, some (.int x3), some (.int z18)] [] M19 (fun M' r' => M' = Mz ∧ r' = none)) ?_ N _ y13
    rintro ⟨z18, M19⟩ x_17 hf ih16 hx15
    show jGG μ_X3_move 2 25 [some (.ref o), some (.int x1), none, some (.int x3), some (.int z18)] [] M19 (fun M' r' => M' = Mz ∧ r' = none)
    refine g_iload (pc := 25) dX3_move_25 rfl ?_
    refine g_iload_n (pc := 27) dX3_move_27 rfl rfl ?_
    refine g_icmp_le (pc := 28) 46 dX3_move_28 rfl (fun hc22 => ?_) (fun hc22 => ?_)
    · replace hf := jifp hc22 hf
      have hf := hx15 _ (Option.some.inj hf).symm
      obtain rfl := hf
      exact g_weakK K14 trivial
    · replace hf := jifn hc22 hf
      refine g_aload_n (pc := 31) dX3_move_31 rfl rfl ?_
      refine g_iload_n (pc := 32) dX3_move_32 rfl rfl ?_
      refine g_iload (pc := 33) dX3_move_33 rfl ?_
      refine g_iconst (pc := 35) 1 dX3_move_35 rfl ?_
      refine g_isub (pc := 36) dX3_move_36 ?_
      obtain ⟨M21, eM21, hf⟩ := job hf
      refine g_callV (pc := 37) [.int x1, .int (z18 - 1)] [] dX3_move_37 ml_X3_26 ck_X3_exchange cv_X3_exchange ho.1 rfl (by decide) (Nat.le_of_ble_eq_true rfl) (c_X3_exchange ho eM21) ?_
      show jGG μ_X3_move 2 40 [some (.ref o), some (.int x1), none, some (.int x3), some (.int z18)] [] M21 (fun M' r' => M' = Mz ∧ r' = none)
      refine g_iinc (pc := 40) (lv' := [some (.ref o), some (.int x1), none, some (.int x3), some (.int (z18 + (-1)))]) (z18 + (-1)) dX3_move_40 rfl rfl (by decide) rfl ?_
      refine g_goto (pc := 43) 25 dX3_move_43 rfl ?_
      have hih : jGG μ_X3_move 2 25 [some (.ref o), some (.int x1), none, some (.int x3), some (.int (z18 + (-1)))] [] M21 (fun M' r' => M' = Mz ∧ r' = none) := ih16 (z18 + (-1), M21) (Option.some.inj hf).symm
      exact g_weakK hih ⟨rfl, ⟨rfl, ⟨rfl, ⟨rfl, trivial⟩⟩⟩⟩
  refine g_weak (lv' := [some (.ref o), some (.int x1), some (.int x2), some (.int x3), some (.int x2)]) ⟨rfl, ⟨rfl, ⟨rfl, ⟨rfl, ⟨rfl, trivial⟩⟩⟩⟩⟩ ?_
  refine jLp_ind (P := fun ((z7, M8) : Int32 × JMem) => jGG μ_X3_move 2 3 [some (.ref o), some (.int x1), some (.int x2), some (.int x3), some (.int z7)] [] M8 (fun M' r' => M' = Mz ∧ r' = none)) ?_ N _ y2
  rintro ⟨z7, M8⟩ x_6 hf ih5 hx4
  show jGG μ_X3_move 2 3 [some (.ref o), some (.int x1), some (.int x2), some (.int x3), some (.int z7)] [] M8 (fun M' r' => M' = Mz ∧ r' = none)
  refine g_iload (pc := 3) dX3_move_3 rfl ?_
  refine g_iload_n (pc := 5) dX3_move_5 rfl rfl ?_
  refine g_icmp_ge (pc := 6) 22 dX3_move_6 rfl (fun hc11 => ?_) (fun hc11 => ?_)
  · replace hf := jifp hc11 hf
    have hf := hx4 _ (Option.some.inj hf).symm
    obtain rfl := hf
    exact g_weakK K3 ⟨rfl, ⟨rfl, ⟨rfl, ⟨rfl, trivial⟩⟩⟩⟩
  · replace hf := jifn hc11 hf
    refine g_aload_n (pc := 9) dX3_move_9 rfl rfl ?_
    refine g_iload_n (pc := 10) dX3_move_10 rfl rfl ?_
    refine g_iload (pc := 11) dX3_move_11 rfl ?_
    obtain ⟨M10, eM10, hf⟩ := job hf
    refine g_callV (pc := 13) [.int x1, .int z7] [] dX3_move_13 ml_X3_26 ck_X3_exchange cv_X3_exchange ho.1 rfl (by decide) (Nat.le_of_ble_eq_true rfl) (c_X3_exchange ho eM10) ?_
    show jGG μ_X3_move 2 16 [some (.ref o), some (.int x1), some (.int x2), some (.int x3), some (.int z7)] [] M10 (fun M' r' => M' = Mz ∧ r' = none)
    refine g_iinc (pc := 16) (lv' := [some (.ref o), some (.int x1), some (.int x2), some (.int x3), some (.int (z7 + 1))]) (z7 + 1) dX3_move_16 rfl rfl (by decide) rfl ?_
    refine g_goto (pc := 19) 3 dX3_move_19 rfl ?_
    have hih : jGG μ_X3_move 2 3 [some (.ref o), some (.int x1), some (.int x2), some (.int x3), some (.int (z7 + 1))] [] M10 (fun M' r' => M' = Mz ∧ r' = none) := ih5 (z7 + 1, M10) (Option.some.inj hf).symm
    exact g_weakK hih ⟨rfl, ⟨rfl, ⟨rfl, ⟨rfl, ⟨rfl, trivial⟩⟩⟩⟩⟩
def f_X3_placeOf (N : Nat) (M : JMem) (o : Nat) (x1 : Int32) (x2 : Int32) : Option (Int32) := ((jLp (σ := Int32 × Int32) (ρ := Int32) N (fun ((z7, z8) : Int32 × Int32) => (jrd M (o + 10) 8 x1).bind fun v10 => (if v10 ≤ z8 then some (Sum.inr z7) else (jrw (o + 1) 8 x1).bind fun w11 => (jrd M w11 32 z8).bind fun v12 => (((if v12 = x2 then some (z8) else some (z7)) : Option (Int32)).bind fun u19 => some (Sum.inl (u19, z8 + 1))))) (0, 0)).bind fun t9 => some t9)
set_option maxHeartbeats 4000000 in
theorem c_X3_placeOf {N : Nat} {M : JMem} {o : Nat} {x1 : Int32} {x2 : Int32} {r : Int32} (ho : isX3 o) (hf : f_X3_placeOf N M o x1 x2 = some r) : jCo yX3_placeOf μ_X3_placeOf 1 M [.ref o, .int x1, .int x2] M (some (.int r)) := by
  refine jCt_of (by decide +kernel) rfl (by simp [Value.category]) (Nat.le_of_ble_eq_true rfl) ?_
  unfold f_X3_placeOf at hf
  show jGG μ_X3_placeOf 1 0 [some (.ref o), some (.int x1), some (.int x2), none, none] [] M (fun M' r' => M' = M ∧ r' = some (.int r))
  refine g_iconst (pc := 0) 0 dX3_placeOf_0 rfl ?_
  refine g_istore_n (pc := 1) (lv' := [some (.ref o), some (.int x1), some (.int x2), some (.int 0), none]) dX3_placeOf_1 rfl (by decide) rfl ?_
  refine g_iconst (pc := 2) 0 dX3_placeOf_2 rfl ?_
  refine g_istore (pc := 3) (lv' := [some (.ref o), some (.int x1), some (.int x2), some (.int 0), some (.int 0)]) dX3_placeOf_3 (by decide) rfl ?_
  obtain ⟨t9, y2, hy1⟩ := job hf
  have K3 : jGG μ_X3_placeOf 1 38 [none, none, none, some (.int t9), none] [] M (fun M' r' => M' = M ∧ r' = some (.int r)) := by
    replace hf := hy1
    refine g_iload_n (pc := 38) dX3_placeOf_38 rfl rfl ?_
    obtain rfl := Option.some.inj hf
    exact g_iret (pc := 39) dX3_placeOf_39 rfl ⟨rfl, rfl⟩
  refine g_weak (lv' := [some (.ref o), some (.int x1), some (.int x2), some (.int 0), some (.int 0)]) ⟨rfl, ⟨rfl, ⟨rfl, ⟨rfl, ⟨rfl, trivial⟩⟩⟩⟩⟩ ?_
  refine jLp_ind (P := fun ((z7, z8) : Int32 × Int32) => jGG μ_X3_placeOf 1 5 [some (.ref o), some (.int x1), some (.int x2), some (.int z7), some (.int z8)] [] M (fun M' r' => M' = M ∧ r' = some (.int r))) ?_ N _ y2
  rintro ⟨z7, z8⟩ x_6 hf ih5 hx4
  show jGG μ_X3_placeOf 1 5 [some (.ref o), some (.int x1), some (.int x2), some (.int z7), some (.int z8)] [] M (fun M' r' => M' = M ∧ r' = some (.int r))
  refine g_iload (pc := 5) dX3_placeOf_5 rfl ?_
  refine g_aload_n (pc := 7) dX3_placeOf_7 rfl rfl ?_
  refine g_getR (pc := 8) dX3_placeOf_8 fl_X3_16 ho.1 rfl ?_
  refine g_iload_n (pc := 11) dX3_placeOf_11 rfl rfl ?_
  obtain ⟨v10, ev10, hf⟩ := job hf
  refine g_iald (pc := 12) dX3_placeOf_12 ho.2.2.2 ev10 ?_
  refine g_icmp_ge (pc := 13) 38 dX3_placeOf_13 rfl (fun hc20 => ?_) (fun hc20 => ?_)
  · replace hf := jifp hc20 hf
    have hf := hx4 _ (Option.some.inj hf).symm
    obtain rfl := hf
    exact g_weakK K3 ⟨rfl, trivial⟩
  · replace hf := jifn hc20 hf
    refine g_aload_n (pc := 16) dX3_placeOf_16 rfl rfl ?_
    refine g_getR (pc := 17) dX3_placeOf_17 fl_X3_11 ho.1 rfl ?_
    refine g_iload_n (pc := 20) dX3_placeOf_20 rfl rfl ?_
    obtain ⟨w11, ew11, hf⟩ := job hf
    refine g_aald (pc := 21) dX3_placeOf_21 ho.2.1 ew11 ?_
    refine g_iload (pc := 22) dX3_placeOf_22 rfl ?_
    obtain ⟨v12, ev12, hf⟩ := job hf
    refine g_iald (pc := 24) dX3_placeOf_24 (jrw_sh ho.2.2.1 ew11) ev12 ?_
    refine g_iload_n (pc := 25) dX3_placeOf_25 rfl rfl ?_
    obtain ⟨u19, hf, hy14⟩ := job hf
    have K16 : jGG μ_X3_placeOf 1 32 [some (.ref o), some (.int x1), some (.int x2), some (.int u19), some (.int z8)] [] M (fun M' r' => M' = M ∧ r' = some (.int r)) := by
      replace hf := hy14
      refine g_iinc (pc := 32) (lv' := [some (.ref o), some (.int x1), some (.int x2), some (.int u19), some (.int (z8 + 1))]) (z8 + 1) dX3_placeOf_32 rfl rfl (by decide) rfl ?_
      refine g_goto (pc := 35) 5 dX3_placeOf_35 rfl ?_
      have hih : jGG μ_X3_placeOf 1 5 [some (.ref o), some (.int x1), some (.int x2), some (.int u19), some (.int (z8 + 1))] [] M (fun M' r' => M' = M ∧ r' = some (.int r)) := ih5 (u19, z8 + 1) (Option.some.inj hf).symm
      exact g_weakK hih ⟨rfl, ⟨rfl, ⟨rfl, ⟨rfl, ⟨rfl, trivial⟩⟩⟩⟩⟩
    refine g_icmp_ne (pc := 26) 32 dX3_placeOf_26 rfl (fun hc18 => ?_) (fun hc18 => ?_)
    · replace hf := jifn hc18 hf
      obtain rfl := Option.some.inj hf
      exact g_weakK (K16) ⟨rfl, ⟨rfl, ⟨rfl, ⟨rfl, ⟨rfl, trivial⟩⟩⟩⟩⟩
    · replace hf := jifp hc18 hf
      refine g_iload (pc := 29) dX3_placeOf_29 rfl ?_
      refine g_istore_n (pc := 31) (lv' := [some (.ref o), some (.int x1), some (.int x2), some (.int z8), some (.int z8)]) dX3_placeOf_31 rfl (by decide) rfl ?_
      obtain rfl := Option.some.inj hf
      exact g_weakK (K16) ⟨rfl, ⟨rfl, ⟨rfl, ⟨rfl, ⟨rfl, trivial⟩⟩⟩⟩⟩
def f_X3_takeFrom (N : Nat) (M : JMem) (o : Nat) (r1 : Nat) : Option (JMem) := ((jLp (σ := Int32 × JMem) (ρ := JMem) N (fun ((z7, M8) : Int32 × JMem) => (if 8 ≤ z7 then some (Sum.inr M8) else (jrw (r1 + 1) 8 z7).bind fun w10 => (jrw (o + 1) 8 z7).bind fun w11 => (jcpy M8 w10 32 0 w11 32 0 32).bind fun M12 => some (Sum.inl (z7 + 1, M12)))) (0, M)).bind fun t9 => (jcpy t9 (r1 + 10) 8 0 (o + 10) 8 0 8).bind fun M14 => some M14)
set_option maxHeartbeats 4000000 in
theorem c_X3_takeFrom {N : Nat} {M : JMem} {o : Nat} {r1 : Nat} {Mz : JMem} (ho : isX3 o) (hr1 : isX3 r1) (hf : f_X3_takeFrom N M o r1 = some Mz) : jCo yX3_takeFrom μ_X3_takeFrom 1 M [.ref o, .ref r1] Mz none := by
  refine jCt_of (by decide +kernel) rfl (by simp [Value.category]) (Nat.le_of_ble_eq_true rfl) ?_
  unfold f_X3_takeFrom at hf
  show jGG μ_X3_takeFrom 1 0 [some (.ref o), some (.ref r1), none] [] M (fun M' r' => M' = Mz ∧ r' = none)
  refine g_iconst (pc := 0) 0 dX3_takeFrom_0 rfl ?_
  refine g_istore_n (pc := 1) (lv' := [some (.ref o), some (.ref r1), some (.int 0)]) dX3_takeFrom_1 rfl (by decide) rfl ?_
  obtain ⟨t9, y2, hy1⟩ := job hf
  have K3 : jGG μ_X3_takeFrom 1 33 [some (.ref o), some (.ref r1), none] [] t9 (fun M' r' => M' = Mz ∧ r' = none) := by
    replace hf := hy1
    refine g_aload_n (pc := 33) dX3_takeFrom_33 rfl rfl ?_
    refine g_getR (pc := 34) dX3_takeFrom_34 fl_X3_16 hr1.1 rfl ?_
    refine g_iconst (pc := 37) 0 dX3_takeFrom_37 rfl ?_
    refine g_aload_n (pc := 38) dX3_takeFrom_38 rfl rfl ?_
    refine g_getR (pc := 39) dX3_takeFrom_39 fl_X3_16 ho.1 rfl ?_
    refine g_iconst (pc := 42) 0 dX3_takeFrom_42 rfl ?_
    refine g_bipush (pc := 43) 8 dX3_takeFrom_43 rfl ?_
    obtain ⟨M14, eM14, hf⟩ := job hf
    refine g_copy (pc := 45) [] dX3_takeFrom_45 ml_X3_30 (by decide) (Nat.le_of_ble_eq_true rfl) hr1.2.2.2 ho.2.2.2 eM14 ?_
    obtain rfl := Option.some.inj hf
    exact g_vret (pc := 48) dX3_takeFrom_48 rfl ⟨rfl, rfl⟩
  refine g_weak (lv' := [some (.ref o), some (.ref r1), some (.int 0)]) ⟨rfl, ⟨rfl, ⟨rfl, trivial⟩⟩⟩ ?_
  refine jLp_ind (P := fun ((z7, M8) : Int32 × JMem) => jGG μ_X3_takeFrom 1 2 [some (.ref o), some (.ref r1), some (.int z7)] [] M8 (fun M' r' => M' = Mz ∧ r' = none)) ?_ N _ y2
  rintro ⟨z7, M8⟩ x_6 hf ih5 hx4
  show jGG μ_X3_takeFrom 1 2 [some (.ref o), some (.ref r1), some (.int z7)] [] M8 (fun M' r' => M' = Mz ∧ r' = none)
  refine g_iload_n (pc := 2) dX3_takeFrom_2 rfl rfl ?_
  refine g_bipush (pc := 3) 8 dX3_takeFrom_3 rfl ?_
  refine g_icmp_ge (pc := 5) 33 dX3_takeFrom_5 rfl (fun hc13 => ?_) (fun hc13 => ?_)
  · replace hf := jifp hc13 hf
    have hf := hx4 _ (Option.some.inj hf).symm
    obtain rfl := hf
    exact g_weakK K3 ⟨rfl, ⟨rfl, trivial⟩⟩
  · replace hf := jifn hc13 hf
    refine g_aload_n (pc := 8) dX3_takeFrom_8 rfl rfl ?_
    refine g_getR (pc := 9) dX3_takeFrom_9 fl_X3_11 hr1.1 rfl ?_
    refine g_iload_n (pc := 12) dX3_takeFrom_12 rfl rfl ?_
    obtain ⟨w10, ew10, hf⟩ := job hf
    refine g_aald (pc := 13) dX3_takeFrom_13 hr1.2.1 ew10 ?_
    refine g_iconst (pc := 14) 0 dX3_takeFrom_14 rfl ?_
    refine g_aload_n (pc := 15) dX3_takeFrom_15 rfl rfl ?_
    refine g_getR (pc := 16) dX3_takeFrom_16 fl_X3_11 ho.1 rfl ?_
    refine g_iload_n (pc := 19) dX3_takeFrom_19 rfl rfl ?_
    obtain ⟨w11, ew11, hf⟩ := job hf
    refine g_aald (pc := 20) dX3_takeFrom_20 ho.2.1 ew11 ?_
    refine g_iconst (pc := 21) 0 dX3_takeFrom_21 rfl ?_
    refine g_bipush (pc := 22) 32 dX3_takeFrom_22 rfl ?_
    obtain ⟨M12, eM12, hf⟩ := job hf
    refine g_copy (pc := 24) [] dX3_takeFrom_24 ml_X3_30 (by decide) (Nat.le_of_ble_eq_true rfl) (jrw_sh hr1.2.2.1 ew10) (jrw_sh ho.2.2.1 ew11) eM12 ?_
    refine g_iinc (pc := 27) (lv' := [some (.ref o), some (.ref r1), some (.int (z7 + 1))]) (z7 + 1) dX3_takeFrom_27 rfl rfl (by decide) rfl ?_
    refine g_goto (pc := 30) 2 dX3_takeFrom_30 rfl ?_
    have hih : jGG μ_X3_takeFrom 1 2 [some (.ref o), some (.ref r1), some (.int (z7 + 1))] [] M12 (fun M' r' => M' = Mz ∧ r' = none) := ih5 (z7 + 1, M12) (Option.some.inj hf).symm
    exact g_weakK hih ⟨rfl, ⟨rfl, ⟨rfl, trivial⟩⟩⟩
def f_X5_cutTo (M : JMem) (x0 : Int32) (x1 : Int32) : Option (Int32) := (if x0 = 0 then some x1.toInt8.toInt32 else (if x0 = 1 then some x1.toInt16.toInt32 else some x1))
set_option maxHeartbeats 4000000 in
theorem c_X5_cutTo {M : JMem} {x0 : Int32} {x1 : Int32} {r : Int32} (hf : f_X5_cutTo M x0 x1 = some r) : jCo yX5_cutTo μ_X5_cutTo 1 M [.int x0, .int x1] M (some (.int r)) := by
  refine jCt_of (by decide +kernel) rfl (by simp [Value.category]) (Nat.le_of_ble_eq_true rfl) ?_
  unfold f_X5_cutTo at hf
  show jGG μ_X5_cutTo 1 0 [some (.int x0), some (.int x1)] [] M (fun M' r' => M' = M ∧ r' = some (.int r))
  refine g_iload_n (pc := 0) dX5_cutTo_0 rfl rfl ?_
  refine g_if_ne (pc := 1) 7 dX5_cutTo_1 rfl (fun hc2 => ?_) (fun hc2 => ?_)
  · replace hf := jifn hc2 hf
    refine g_iload_n (pc := 7) dX5_cutTo_7 rfl rfl ?_
    refine g_iconst (pc := 8) 1 dX5_cutTo_8 rfl ?_
    refine g_icmp_ne (pc := 9) 17 dX5_cutTo_9 rfl (fun hc1 => ?_) (fun hc1 => ?_)
    · replace hf := jifn hc1 hf
      refine g_iload_n (pc := 17) dX5_cutTo_17 rfl rfl ?_
      obtain rfl := Option.some.inj hf
      exact g_iret (pc := 18) dX5_cutTo_18 rfl ⟨rfl, rfl⟩
    · replace hf := jifp hc1 hf
      refine g_iload_n (pc := 12) dX5_cutTo_12 rfl rfl ?_
      refine g_i2s (pc := 13) dX5_cutTo_13 ?_
      refine g_goto (pc := 14) 18 dX5_cutTo_14 rfl ?_
      obtain rfl := Option.some.inj hf
      exact g_iret (pc := 18) dX5_cutTo_18 rfl ⟨rfl, rfl⟩
  · replace hf := jifp hc2 hf
    refine g_iload_n (pc := 4) dX5_cutTo_4 rfl rfl ?_
    refine g_i2b (pc := 5) dX5_cutTo_5 ?_
    obtain rfl := Option.some.inj hf
    exact g_iret (pc := 6) dX5_cutTo_6 rfl ⟨rfl, rfl⟩
def f_X5_make (M : JMem) (x1 : Int32) (x2 : Int32) (x3 : Int32) : Option (JMem) := (jwr M 45 6 x1 x2).bind fun M1 => (jwr M1 46 6 x1 x3).bind fun M2 => (jrw 47 6 x1).bind fun w3 => (some (jfill M2 w3 40 0)).bind fun M4 => some M4
set_option maxHeartbeats 4000000 in
theorem c_X5_make {M : JMem} {x1 : Int32} {x2 : Int32} {x3 : Int32} {Mz : JMem} (hf : f_X5_make M x1 x2 x3 = some Mz) : jCo yX5_make μ_X5_make 2 M [.ref 44, .int x1, .int x2, .int x3] Mz none := by
  refine jCt_of (by decide +kernel) rfl (by simp [Value.category]) (Nat.le_of_ble_eq_true rfl) ?_
  unfold f_X5_make at hf
  show jGG μ_X5_make 2 0 [some (.ref 44), some (.int x1), some (.int x2), some (.int x3)] [] M (fun M' r' => M' = Mz ∧ r' = none)
  refine g_aload_n (pc := 0) dX5_make_0 rfl rfl ?_
  refine g_getR (pc := 1) dX5_make_1 fl_X5_9 sh_44 rfl ?_
  refine g_iload_n (pc := 4) dX5_make_4 rfl rfl ?_
  refine g_iload_n (pc := 5) dX5_make_5 rfl rfl ?_
  obtain ⟨M1, eM1, hf⟩ := job hf
  refine g_iast (pc := 6) dX5_make_6 sh_45 eM1 ?_
  refine g_aload_n (pc := 7) dX5_make_7 rfl rfl ?_
  refine g_getR (pc := 8) dX5_make_8 fl_X5_15 sh_44 rfl ?_
  refine g_iload_n (pc := 11) dX5_make_11 rfl rfl ?_
  refine g_iload_n (pc := 12) dX5_make_12 rfl rfl ?_
  obtain ⟨M2, eM2, hf⟩ := job hf
  refine g_iast (pc := 13) dX5_make_13 sh_46 eM2 ?_
  refine g_aload_n (pc := 14) dX5_make_14 rfl rfl ?_
  refine g_getR (pc := 15) dX5_make_15 fl_X5_20 sh_44 rfl ?_
  refine g_iload_n (pc := 18) dX5_make_18 rfl rfl ?_
  obtain ⟨w3, ew3, hf⟩ := job hf
  refine g_aald (pc := 19) dX5_make_19 sh_47 ew3 ?_
  refine g_iconst (pc := 20) 0 dX5_make_20 rfl ?_
  obtain ⟨M4, eM4, hf⟩ := job hf
  refine g_callS (pc := 21) [.ref w3, .int 0] [] dX5_make_21 ml_X5_23 ck_J7_fill_53178 cs_J7_fill_53178 rfl (by decide) (Nat.le_of_ble_eq_true rfl) (c_fill (jrw_sh gr_47 ew3) (by decide)) ?_
  rw [Option.some.inj eM4]
  show jGG μ_X5_make 2 24 [some (.ref 44), some (.int x1), some (.int x2), some (.int x3)] [] M4 (fun M' r' => M' = Mz ∧ r' = none)
  obtain rfl := Option.some.inj hf
  exact g_vret (pc := 24) dX5_make_24 rfl ⟨rfl, rfl⟩
def f_X5_remove (M : JMem) (x1 : Int32) : Option (JMem) := (jwr M 45 6 x1 ((-1))).bind fun M1 => (jwr M1 46 6 x1 0).bind fun M2 => some M2
set_option maxHeartbeats 4000000 in
theorem c_X5_remove {M : JMem} {x1 : Int32} {Mz : JMem} (hf : f_X5_remove M x1 = some Mz) : jCo yX5_remove μ_X5_remove 1 M [.ref 44, .int x1] Mz none := by
  refine jCt_of (by decide +kernel) rfl (by simp [Value.category]) (Nat.le_of_ble_eq_true rfl) ?_
  unfold f_X5_remove at hf
  show jGG μ_X5_remove 1 0 [some (.ref 44), some (.int x1)] [] M (fun M' r' => M' = Mz ∧ r' = none)
  refine g_aload_n (pc := 0) dX5_remove_0 rfl rfl ?_
  refine g_getR (pc := 1) dX5_remove_1 fl_X5_9 sh_44 rfl ?_
  refine g_iload_n (pc := 4) dX5_remove_4 rfl rfl ?_
  refine g_iconst (pc := 5) (-1) dX5_remove_5 rfl ?_
  obtain ⟨M1, eM1, hf⟩ := job hf
  refine g_iast (pc := 6) dX5_remove_6 sh_45 eM1 ?_
  refine g_aload_n (pc := 7) dX5_remove_7 rfl rfl ?_
  refine g_getR (pc := 8) dX5_remove_8 fl_X5_15 sh_44 rfl ?_
  refine g_iload_n (pc := 11) dX5_remove_11 rfl rfl ?_
  refine g_iconst (pc := 12) 0 dX5_remove_12 rfl ?_
  obtain ⟨M2, eM2, hf⟩ := job hf
  refine g_iast (pc := 13) dX5_remove_13 sh_46 eM2 ?_
  obtain rfl := Option.some.inj hf
  exact g_vret (pc := 14) dX5_remove_14 rfl ⟨rfl, rfl⟩
def f_X5_isThere (M : JMem) (x1 : Int32) : Option (Int32) := (jrd M 45 6 x1).bind fun v1 => (if v1 = ((-1)) then some 0 else some 1)
set_option maxHeartbeats 4000000 in
theorem c_X5_isThere {M : JMem} {x1 : Int32} {r : Int32} (hf : f_X5_isThere M x1 = some r) : jCo yX5_isThere μ_X5_isThere 1 M [.ref 44, .int x1] M (some (.int r)) := by
  refine jCt_of (by decide +kernel) rfl (by simp [Value.category]) (Nat.le_of_ble_eq_true rfl) ?_
  unfold f_X5_isThere at hf
  show jGG μ_X5_isThere 1 0 [some (.ref 44), some (.int x1)] [] M (fun M' r' => M' = M ∧ r' = some (.int r))
  refine g_aload_n (pc := 0) dX5_isThere_0 rfl rfl ?_
  refine g_getR (pc := 1) dX5_isThere_1 fl_X5_9 sh_44 rfl ?_
  refine g_iload_n (pc := 4) dX5_isThere_4 rfl rfl ?_
  obtain ⟨v1, ev1, hf⟩ := job hf
  refine g_iald (pc := 5) dX5_isThere_5 sh_45 ev1 ?_
  refine g_iconst (pc := 6) (-1) dX5_isThere_6 rfl ?_
  refine g_icmp_eq (pc := 7) 14 dX5_isThere_7 rfl (fun hc2 => ?_) (fun hc2 => ?_)
  · replace hf := jifp hc2 hf
    refine g_iconst (pc := 14) 0 dX5_isThere_14 rfl ?_
    obtain rfl := Option.some.inj hf
    exact g_zret (pc := 15) dX5_isThere_15 rfl (Or.inl rfl) ⟨rfl, rfl⟩
  · replace hf := jifn hc2 hf
    refine g_iconst (pc := 10) 1 dX5_isThere_10 rfl ?_
    refine g_goto (pc := 11) 15 dX5_isThere_11 rfl ?_
    obtain rfl := Option.some.inj hf
    exact g_zret (pc := 15) dX5_isThere_15 rfl (Or.inr rfl) ⟨rfl, rfl⟩
def f_X5_codeOfPlace (M : JMem) (x1 : Int32) (x2 : Int32) : Option (Int32) := (f_X5_isThere M x1).bind fun v1 => (if v1 = 0 then some 1 else (jcase (α := Int32) (β := Unit) (if x2 < 0 then some (Sum.inr ()) else (jrd M 46 6 x1).bind fun v7 => (if x2 < v7 then some (Sum.inl 0) else some (Sum.inr ()))) fun _ => some 3))
set_option maxHeartbeats 4000000 in
theorem c_X5_codeOfPlace {M : JMem} {x1 : Int32} {x2 : Int32} {r : Int32} (hf : f_X5_codeOfPlace M x1 x2 = some r) : jCo yX5_codeOfPlace μ_X5_codeOfPlace 2 M [.ref 44, .int x1, .int x2] M (some (.int r)) := by
  refine jCt_of (by decide +kernel) rfl (by simp [Value.category]) (Nat.le_of_ble_eq_true rfl) ?_
  unfold f_X5_codeOfPlace at hf
  show jGG μ_X5_codeOfPlace 2 0 [some (.ref 44), some (.int x1), some (.int x2)] [] M (fun M' r' => M' = M ∧ r' = some (.int r))
  refine g_aload_n (pc := 0) dX5_codeOfPlace_0 rfl rfl ?_
  refine g_iload_n (pc := 1) dX5_codeOfPlace_1 rfl rfl ?_
  obtain ⟨v1, ev1, hf⟩ := job hf
  refine g_callV (pc := 2) [.int x1] [] dX5_codeOfPlace_2 ml_X5_29 ck_X5_isThere cv_X5_isThere sh_44 rfl (by decide) (Nat.le_of_ble_eq_true rfl) (c_X5_isThere ev1) ?_
  show jGG μ_X5_codeOfPlace 2 5 [some (.ref 44), some (.int x1), some (.int x2)] [.int v1] M (fun M' r' => M' = M ∧ r' = some (.int r))
  refine g_if_ne (pc := 5) 10 dX5_codeOfPlace_5 rfl (fun hc10 => ?_) (fun hc10 => ?_)
  · replace hf := jifn hc10 hf
    refine g_iload_n (pc := 10) dX5_codeOfPlace_10 rfl rfl ?_
    obtain ⟨y4, hf, hy3⟩ := jcb hf
    have K5 : y4 = Sum.inr () → jGG μ_X5_codeOfPlace 2 24 [none, none, none] [] M (fun M' r' => M' = M ∧ r' = some (.int r)) := by
      intro hyy
      subst hyy
      replace hf := hy3
      refine g_iconst (pc := 24) 3 dX5_codeOfPlace_24 rfl ?_
      refine g_goto (pc := 25) 29 dX5_codeOfPlace_25 rfl ?_
      obtain rfl := Option.some.inj hf
      exact g_iret (pc := 29) dX5_codeOfPlace_29 rfl ⟨rfl, rfl⟩
    refine g_if_lt (pc := 11) 24 dX5_codeOfPlace_11 rfl (fun hc9 => ?_) (fun hc9 => ?_)
    · replace hf := jifp hc9 hf
      exact g_weakK (K5 (Option.some.inj hf).symm) trivial
    · replace hf := jifn hc9 hf
      refine g_iload_n (pc := 14) dX5_codeOfPlace_14 rfl rfl ?_
      refine g_aload_n (pc := 15) dX5_codeOfPlace_15 rfl rfl ?_
      refine g_getR (pc := 16) dX5_codeOfPlace_16 fl_X5_15 sh_44 rfl ?_
      refine g_iload_n (pc := 19) dX5_codeOfPlace_19 rfl rfl ?_
      obtain ⟨v7, ev7, hf⟩ := job hf
      refine g_iald (pc := 20) dX5_codeOfPlace_20 sh_46 ev7 ?_
      refine g_icmp_lt (pc := 21) 28 dX5_codeOfPlace_21 rfl (fun hc8 => ?_) (fun hc8 => ?_)
      · replace hf := jifp hc8 hf
        refine g_iconst (pc := 28) 0 dX5_codeOfPlace_28 rfl ?_
        obtain rfl := Option.some.inj hf
        replace hf := hy3
        obtain rfl := Option.some.inj hf
        exact g_iret (pc := 29) dX5_codeOfPlace_29 rfl ⟨rfl, rfl⟩
      · replace hf := jifn hc8 hf
        exact g_weakK (K5 (Option.some.inj hf).symm) trivial
  · replace hf := jifp hc10 hf
    refine g_iconst (pc := 8) 1 dX5_codeOfPlace_8 rfl ?_
    obtain rfl := Option.some.inj hf
    exact g_iret (pc := 9) dX5_codeOfPlace_9 rfl ⟨rfl, rfl⟩
def f_X5_codeOfPut (M : JMem) (x1 : Int32) (x2 : Int32) (x3 : Int32) : Option (Int32) := (f_X5_isThere M x1).bind fun v1 => (jcase (α := Int32) (β := Unit) (if v1 = 0 then some (Sum.inr ()) else (jrd M 45 6 x1).bind fun v7 => (if v7 = x2 then some (Sum.inr ()) else some (Sum.inl 2))) fun _ => (f_X5_codeOfPlace M x1 x3).bind fun v10 => some v10)
set_option maxHeartbeats 4000000 in
theorem c_X5_codeOfPut {M : JMem} {x1 : Int32} {x2 : Int32} {x3 : Int32} {r : Int32} (hf : f_X5_codeOfPut M x1 x2 x3 = some r) : jCo yX5_codeOfPut μ_X5_codeOfPut 3 M [.ref 44, .int x1, .int x2, .int x3] M (some (.int r)) := by
  refine jCt_of (by decide +kernel) rfl (by simp [Value.category]) (Nat.le_of_ble_eq_true rfl) ?_
  unfold f_X5_codeOfPut at hf
  show jGG μ_X5_codeOfPut 3 0 [some (.ref 44), some (.int x1), some (.int x2), some (.int x3)] [] M (fun M' r' => M' = M ∧ r' = some (.int r))
  refine g_aload_n (pc := 0) dX5_codeOfPut_0 rfl rfl ?_
  refine g_iload_n (pc := 1) dX5_codeOfPut_1 rfl rfl ?_
  obtain ⟨v1, ev1, hf⟩ := job hf
  refine g_callV (pc := 2) [.int x1] [] dX5_codeOfPut_2 ml_X5_29 ck_X5_isThere cv_X5_isThere sh_44 rfl (by decide) (Nat.le_of_ble_eq_true rfl) (c_X5_isThere ev1) ?_
  show jGG μ_X5_codeOfPut 3 5 [some (.ref 44), some (.int x1), some (.int x2), some (.int x3)] [.int v1] M (fun M' r' => M' = M ∧ r' = some (.int r))
  obtain ⟨y4, hf, hy3⟩ := jcb hf
  have K5 : y4 = Sum.inr () → jGG μ_X5_codeOfPut 3 20 [some (.ref 44), some (.int x1), none, some (.int x3)] [] M (fun M' r' => M' = M ∧ r' = some (.int r)) := by
    intro hyy
    subst hyy
    replace hf := hy3
    refine g_aload_n (pc := 20) dX5_codeOfPut_20 rfl rfl ?_
    refine g_iload_n (pc := 21) dX5_codeOfPut_21 rfl rfl ?_
    refine g_iload_n (pc := 22) dX5_codeOfPut_22 rfl rfl ?_
    obtain ⟨v10, ev10, hf⟩ := job hf
    refine g_callV (pc := 23) [.int x1, .int x3] [] dX5_codeOfPut_23 ml_X5_33 ck_X5_codeOfPlace cv_X5_codeOfPlace sh_44 rfl (by decide) (Nat.le_of_ble_eq_true rfl) (c_X5_codeOfPlace ev10) ?_
    show jGG μ_X5_codeOfPut 3 26 [some (.ref 44), some (.int x1), none, some (.int x3)] [.int v10] M (fun M' r' => M' = M ∧ r' = some (.int r))
    obtain rfl := Option.some.inj hf
    exact g_iret (pc := 26) dX5_codeOfPut_26 rfl ⟨rfl, rfl⟩
  refine g_if_eq (pc := 5) 20 dX5_codeOfPut_5 rfl (fun hc9 => ?_) (fun hc9 => ?_)
  · replace hf := jifp hc9 hf
    exact g_weakK (K5 (Option.some.inj hf).symm) ⟨rfl, ⟨rfl, ⟨rfl, trivial⟩⟩⟩
  · replace hf := jifn hc9 hf
    refine g_aload_n (pc := 8) dX5_codeOfPut_8 rfl rfl ?_
    refine g_getR (pc := 9) dX5_codeOfPut_9 fl_X5_9 sh_44 rfl ?_
    refine g_iload_n (pc := 12) dX5_codeOfPut_12 rfl rfl ?_
    obtain ⟨v7, ev7, hf⟩ := job hf
    refine g_iald (pc := 13) dX5_codeOfPut_13 sh_45 ev7 ?_
    refine g_iload_n (pc := 14) dX5_codeOfPut_14 rfl rfl ?_
    refine g_icmp_eq (pc := 15) 20 dX5_codeOfPut_15 rfl (fun hc8 => ?_) (fun hc8 => ?_)
    · replace hf := jifp hc8 hf
      exact g_weakK (K5 (Option.some.inj hf).symm) ⟨rfl, ⟨rfl, ⟨rfl, trivial⟩⟩⟩
    · replace hf := jifn hc8 hf
      refine g_iconst (pc := 18) 2 dX5_codeOfPut_18 rfl ?_
      obtain rfl := Option.some.inj hf
      replace hf := hy3
      obtain rfl := Option.some.inj hf
      exact g_iret (pc := 19) dX5_codeOfPut_19 rfl ⟨rfl, rfl⟩
def f_X5_hasPlaces (M : JMem) (x1 : Int32) (x2 : Int32) (x3 : Int32) : Option (Int32) := (if x2 < 0 then some 0 else (if x3 < 0 then some 0 else (jrd M 46 6 x1).bind fun v1 => (if v1 < x3 then some 0 else (jrd M 46 6 x1).bind fun v2 => (if (v2 - x3) < x2 then some 0 else some 1))))
set_option maxHeartbeats 4000000 in
theorem c_X5_hasPlaces {M : JMem} {x1 : Int32} {x2 : Int32} {x3 : Int32} {r : Int32} (hf : f_X5_hasPlaces M x1 x2 x3 = some r) : jCo yX5_hasPlaces μ_X5_hasPlaces 1 M [.ref 44, .int x1, .int x2, .int x3] M (some (.int r)) := by
  refine jCt_of (by decide +kernel) rfl (by simp [Value.category]) (Nat.le_of_ble_eq_true rfl) ?_
  unfold f_X5_hasPlaces at hf
  show jGG μ_X5_hasPlaces 1 0 [some (.ref 44), some (.int x1), some (.int x2), some (.int x3)] [] M (fun M' r' => M' = M ∧ r' = some (.int r))
  refine g_iload_n (pc := 0) dX5_hasPlaces_0 rfl rfl ?_
  refine g_if_lt (pc := 1) 34 dX5_hasPlaces_1 rfl (fun hc6 => ?_) (fun hc6 => ?_)
  · replace hf := jifp hc6 hf
    refine g_iconst (pc := 34) 0 dX5_hasPlaces_34 rfl ?_
    obtain rfl := Option.some.inj hf
    exact g_zret (pc := 35) dX5_hasPlaces_35 rfl (Or.inl rfl) ⟨rfl, rfl⟩
  · replace hf := jifn hc6 hf
    refine g_iload_n (pc := 4) dX5_hasPlaces_4 rfl rfl ?_
    refine g_if_lt (pc := 5) 34 dX5_hasPlaces_5 rfl (fun hc5 => ?_) (fun hc5 => ?_)
    · replace hf := jifp hc5 hf
      refine g_iconst (pc := 34) 0 dX5_hasPlaces_34 rfl ?_
      obtain rfl := Option.some.inj hf
      exact g_zret (pc := 35) dX5_hasPlaces_35 rfl (Or.inl rfl) ⟨rfl, rfl⟩
    · replace hf := jifn hc5 hf
      refine g_iload_n (pc := 8) dX5_hasPlaces_8 rfl rfl ?_
      refine g_aload_n (pc := 9) dX5_hasPlaces_9 rfl rfl ?_
      refine g_getR (pc := 10) dX5_hasPlaces_10 fl_X5_15 sh_44 rfl ?_
      refine g_iload_n (pc := 13) dX5_hasPlaces_13 rfl rfl ?_
      obtain ⟨v1, ev1, hf⟩ := job hf
      refine g_iald (pc := 14) dX5_hasPlaces_14 sh_46 ev1 ?_
      refine g_icmp_gt (pc := 15) 34 dX5_hasPlaces_15 rfl (fun hc4 => ?_) (fun hc4 => ?_)
      · replace hf := jifp hc4 hf
        refine g_iconst (pc := 34) 0 dX5_hasPlaces_34 rfl ?_
        obtain rfl := Option.some.inj hf
        exact g_zret (pc := 35) dX5_hasPlaces_35 rfl (Or.inl rfl) ⟨rfl, rfl⟩
      · replace hf := jifn hc4 hf
        refine g_iload_n (pc := 18) dX5_hasPlaces_18 rfl rfl ?_
        refine g_aload_n (pc := 19) dX5_hasPlaces_19 rfl rfl ?_
        refine g_getR (pc := 20) dX5_hasPlaces_20 fl_X5_15 sh_44 rfl ?_
        refine g_iload_n (pc := 23) dX5_hasPlaces_23 rfl rfl ?_
        obtain ⟨v2, ev2, hf⟩ := job hf
        refine g_iald (pc := 24) dX5_hasPlaces_24 sh_46 ev2 ?_
        refine g_iload_n (pc := 25) dX5_hasPlaces_25 rfl rfl ?_
        refine g_isub (pc := 26) dX5_hasPlaces_26 ?_
        refine g_icmp_gt (pc := 27) 34 dX5_hasPlaces_27 rfl (fun hc3 => ?_) (fun hc3 => ?_)
        · replace hf := jifp hc3 hf
          refine g_iconst (pc := 34) 0 dX5_hasPlaces_34 rfl ?_
          obtain rfl := Option.some.inj hf
          exact g_zret (pc := 35) dX5_hasPlaces_35 rfl (Or.inl rfl) ⟨rfl, rfl⟩
        · replace hf := jifn hc3 hf
          refine g_iconst (pc := 30) 1 dX5_hasPlaces_30 rfl ?_
          refine g_goto (pc := 31) 35 dX5_hasPlaces_31 rfl ?_
          obtain rfl := Option.some.inj hf
          exact g_zret (pc := 35) dX5_hasPlaces_35 rfl (Or.inr rfl) ⟨rfl, rfl⟩
def f_X5_codeOfCopy (M : JMem) (x1 : Int32) (x2 : Int32) (x3 : Int32) (x4 : Int32) (x5 : Int32) : Option (Int32) := (f_X5_isThere M x1).bind fun v1 => (if v1 = 0 then some 1 else (f_X5_isThere M x3).bind fun v2 => (if v2 = 0 then some 1 else (jrd M 45 6 x1).bind fun v3 => (jrd M 45 6 x3).bind fun v4 => (if v3 = v4 then (f_X5_hasPlaces M x1 x2 x5).bind fun v5 => (if v5 = 0 then some 3 else (f_X5_hasPlaces M x3 x4 x5).bind fun v6 => (if v6 = 0 then some 3 else some 0)) else some 2)))
set_option maxHeartbeats 4000000 in
theorem c_X5_codeOfCopy {M : JMem} {x1 : Int32} {x2 : Int32} {x3 : Int32} {x4 : Int32} {x5 : Int32} {r : Int32} (hf : f_X5_codeOfCopy M x1 x2 x3 x4 x5 = some r) : jCo yX5_codeOfCopy μ_X5_codeOfCopy 2 M [.ref 44, .int x1, .int x2, .int x3, .int x4, .int x5] M (some (.int r)) := by
  refine jCt_of (by decide +kernel) rfl (by simp [Value.category]) (Nat.le_of_ble_eq_true rfl) ?_
  unfold f_X5_codeOfCopy at hf
  show jGG μ_X5_codeOfCopy 2 0 [some (.ref 44), some (.int x1), some (.int x2), some (.int x3), some (.int x4), some (.int x5)] [] M (fun M' r' => M' = M ∧ r' = some (.int r))
  refine g_aload_n (pc := 0) dX5_codeOfCopy_0 rfl rfl ?_
  refine g_iload_n (pc := 1) dX5_codeOfCopy_1 rfl rfl ?_
  obtain ⟨v1, ev1, hf⟩ := job hf
  refine g_callV (pc := 2) [.int x1] [] dX5_codeOfCopy_2 ml_X5_29 ck_X5_isThere cv_X5_isThere sh_44 rfl (by decide) (Nat.le_of_ble_eq_true rfl) (c_X5_isThere ev1) ?_
  show jGG μ_X5_codeOfCopy 2 5 [some (.ref 44), some (.int x1), some (.int x2), some (.int x3), some (.int x4), some (.int x5)] [.int v1] M (fun M' r' => M' = M ∧ r' = some (.int r))
  refine g_if_eq (pc := 5) 16 dX5_codeOfCopy_5 rfl (fun hc11 => ?_) (fun hc11 => ?_)
  · replace hf := jifp hc11 hf
    refine g_iconst (pc := 16) 1 dX5_codeOfCopy_16 rfl ?_
    obtain rfl := Option.some.inj hf
    exact g_iret (pc := 17) dX5_codeOfCopy_17 rfl ⟨rfl, rfl⟩
  · replace hf := jifn hc11 hf
    refine g_aload_n (pc := 8) dX5_codeOfCopy_8 rfl rfl ?_
    refine g_iload_n (pc := 9) dX5_codeOfCopy_9 rfl rfl ?_
    obtain ⟨v2, ev2, hf⟩ := job hf
    refine g_callV (pc := 10) [.int x3] [] dX5_codeOfCopy_10 ml_X5_29 ck_X5_isThere cv_X5_isThere sh_44 rfl (by decide) (Nat.le_of_ble_eq_true rfl) (c_X5_isThere ev2) ?_
    show jGG μ_X5_codeOfCopy 2 13 [some (.ref 44), some (.int x1), some (.int x2), some (.int x3), some (.int x4), some (.int x5)] [.int v2] M (fun M' r' => M' = M ∧ r' = some (.int r))
    refine g_if_ne (pc := 13) 18 dX5_codeOfCopy_13 rfl (fun hc10 => ?_) (fun hc10 => ?_)
    · replace hf := jifn hc10 hf
      refine g_aload_n (pc := 18) dX5_codeOfCopy_18 rfl rfl ?_
      refine g_getR (pc := 19) dX5_codeOfCopy_19 fl_X5_9 sh_44 rfl ?_
      refine g_iload_n (pc := 22) dX5_codeOfCopy_22 rfl rfl ?_
      obtain ⟨v3, ev3, hf⟩ := job hf
      refine g_iald (pc := 23) dX5_codeOfCopy_23 sh_45 ev3 ?_
      refine g_aload_n (pc := 24) dX5_codeOfCopy_24 rfl rfl ?_
      refine g_getR (pc := 25) dX5_codeOfCopy_25 fl_X5_9 sh_44 rfl ?_
      refine g_iload_n (pc := 28) dX5_codeOfCopy_28 rfl rfl ?_
      obtain ⟨v4, ev4, hf⟩ := job hf
      refine g_iald (pc := 29) dX5_codeOfCopy_29 sh_45 ev4 ?_
      refine g_icmp_eq (pc := 30) 35 dX5_codeOfCopy_30 rfl (fun hc9 => ?_) (fun hc9 => ?_)
      · replace hf := jifp hc9 hf
        refine g_aload_n (pc := 35) dX5_codeOfCopy_35 rfl rfl ?_
        refine g_iload_n (pc := 36) dX5_codeOfCopy_36 rfl rfl ?_
        refine g_iload_n (pc := 37) dX5_codeOfCopy_37 rfl rfl ?_
        refine g_iload (pc := 38) dX5_codeOfCopy_38 rfl ?_
        obtain ⟨v5, ev5, hf⟩ := job hf
        refine g_callV (pc := 40) [.int x1, .int x2, .int x5] [] dX5_codeOfCopy_40 ml_X5_37 ck_X5_hasPlaces cv_X5_hasPlaces sh_44 rfl (by decide) (Nat.le_of_ble_eq_true rfl) (c_X5_hasPlaces ev5) ?_
        show jGG μ_X5_codeOfCopy 2 43 [some (.ref 44), some (.int x1), some (.int x2), some (.int x3), some (.int x4), some (.int x5)] [.int v5] M (fun M' r' => M' = M ∧ r' = some (.int r))
        refine g_if_eq (pc := 43) 62 dX5_codeOfCopy_43 rfl (fun hc8 => ?_) (fun hc8 => ?_)
        · replace hf := jifp hc8 hf
          refine g_iconst (pc := 62) 3 dX5_codeOfCopy_62 rfl ?_
          obtain rfl := Option.some.inj hf
          exact g_iret (pc := 63) dX5_codeOfCopy_63 rfl ⟨rfl, rfl⟩
        · replace hf := jifn hc8 hf
          refine g_aload_n (pc := 46) dX5_codeOfCopy_46 rfl rfl ?_
          refine g_iload_n (pc := 47) dX5_codeOfCopy_47 rfl rfl ?_
          refine g_iload (pc := 48) dX5_codeOfCopy_48 rfl ?_
          refine g_iload (pc := 50) dX5_codeOfCopy_50 rfl ?_
          obtain ⟨v6, ev6, hf⟩ := job hf
          refine g_callV (pc := 52) [.int x3, .int x4, .int x5] [] dX5_codeOfCopy_52 ml_X5_37 ck_X5_hasPlaces cv_X5_hasPlaces sh_44 rfl (by decide) (Nat.le_of_ble_eq_true rfl) (c_X5_hasPlaces ev6) ?_
          show jGG μ_X5_codeOfCopy 2 55 [some (.ref 44), some (.int x1), some (.int x2), some (.int x3), some (.int x4), some (.int x5)] [.int v6] M (fun M' r' => M' = M ∧ r' = some (.int r))
          refine g_if_eq (pc := 55) 62 dX5_codeOfCopy_55 rfl (fun hc7 => ?_) (fun hc7 => ?_)
          · replace hf := jifp hc7 hf
            refine g_iconst (pc := 62) 3 dX5_codeOfCopy_62 rfl ?_
            obtain rfl := Option.some.inj hf
            exact g_iret (pc := 63) dX5_codeOfCopy_63 rfl ⟨rfl, rfl⟩
          · replace hf := jifn hc7 hf
            refine g_iconst (pc := 58) 0 dX5_codeOfCopy_58 rfl ?_
            refine g_goto (pc := 59) 63 dX5_codeOfCopy_59 rfl ?_
            obtain rfl := Option.some.inj hf
            exact g_iret (pc := 63) dX5_codeOfCopy_63 rfl ⟨rfl, rfl⟩
      · replace hf := jifn hc9 hf
        refine g_iconst (pc := 33) 2 dX5_codeOfCopy_33 rfl ?_
        obtain rfl := Option.some.inj hf
        exact g_iret (pc := 34) dX5_codeOfCopy_34 rfl ⟨rfl, rfl⟩
    · replace hf := jifp hc10 hf
      refine g_iconst (pc := 16) 1 dX5_codeOfCopy_16 rfl ?_
      obtain rfl := Option.some.inj hf
      exact g_iret (pc := 17) dX5_codeOfCopy_17 rfl ⟨rfl, rfl⟩
def f_X5_codeOfRead (M : JMem) (x1 : Int32) : Option (Int32) := (f_X5_isThere M x1).bind fun v1 => (if v1 = 0 then some 1 else (jrd M 46 6 x1).bind fun v2 => (if (v2 - v2 / 2 * 2) = 0 then some 0 else some 3))
set_option maxHeartbeats 4000000 in
theorem c_X5_codeOfRead {M : JMem} {x1 : Int32} {r : Int32} (hf : f_X5_codeOfRead M x1 = some r) : jCo yX5_codeOfRead μ_X5_codeOfRead 2 M [.ref 44, .int x1] M (some (.int r)) := by
  refine jCt_of (by decide +kernel) rfl (by simp [Value.category]) (Nat.le_of_ble_eq_true rfl) ?_
  unfold f_X5_codeOfRead at hf
  show jGG μ_X5_codeOfRead 2 0 [some (.ref 44), some (.int x1)] [] M (fun M' r' => M' = M ∧ r' = some (.int r))
  refine g_aload_n (pc := 0) dX5_codeOfRead_0 rfl rfl ?_
  refine g_iload_n (pc := 1) dX5_codeOfRead_1 rfl rfl ?_
  obtain ⟨v1, ev1, hf⟩ := job hf
  refine g_callV (pc := 2) [.int x1] [] dX5_codeOfRead_2 ml_X5_29 ck_X5_isThere cv_X5_isThere sh_44 rfl (by decide) (Nat.le_of_ble_eq_true rfl) (c_X5_isThere ev1) ?_
  show jGG μ_X5_codeOfRead 2 5 [some (.ref 44), some (.int x1)] [.int v1] M (fun M' r' => M' = M ∧ r' = some (.int r))
  refine g_if_ne (pc := 5) 10 dX5_codeOfRead_5 rfl (fun hc4 => ?_) (fun hc4 => ?_)
  · replace hf := jifn hc4 hf
    refine g_aload_n (pc := 10) dX5_codeOfRead_10 rfl rfl ?_
    refine g_getR (pc := 11) dX5_codeOfRead_11 fl_X5_15 sh_44 rfl ?_
    refine g_iload_n (pc := 14) dX5_codeOfRead_14 rfl rfl ?_
    obtain ⟨v2, ev2, hf⟩ := job hf
    refine g_iald (pc := 15) dX5_codeOfRead_15 sh_46 ev2 ?_
    refine g_iconst (pc := 16) 2 dX5_codeOfRead_16 rfl ?_
    refine g_irem (pc := 17) dX5_codeOfRead_17 (by decide) ?_
    refine g_if_eq (pc := 18) 25 dX5_codeOfRead_18 rfl (fun hc3 => ?_) (fun hc3 => ?_)
    · replace hf := jifp hc3 hf
      refine g_iconst (pc := 25) 0 dX5_codeOfRead_25 rfl ?_
      obtain rfl := Option.some.inj hf
      exact g_iret (pc := 26) dX5_codeOfRead_26 rfl ⟨rfl, rfl⟩
    · replace hf := jifn hc3 hf
      refine g_iconst (pc := 21) 3 dX5_codeOfRead_21 rfl ?_
      refine g_goto (pc := 22) 26 dX5_codeOfRead_22 rfl ?_
      obtain rfl := Option.some.inj hf
      exact g_iret (pc := 26) dX5_codeOfRead_26 rfl ⟨rfl, rfl⟩
  · replace hf := jifp hc4 hf
    refine g_iconst (pc := 8) 1 dX5_codeOfRead_8 rfl ?_
    obtain rfl := Option.some.inj hf
    exact g_iret (pc := 9) dX5_codeOfRead_9 rfl ⟨rfl, rfl⟩
