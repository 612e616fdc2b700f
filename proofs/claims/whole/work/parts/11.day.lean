def f_X1_clear (M : JMem) (o : Nat) : Option (JMem) := (some (jup M o 6 0)).bind fun M1 => (some (jup M1 o 4 0)).bind fun M2 => (some (jfill M2 (o + 6) 32 ((-1)))).bind fun M3 => (some (jfill M3 (o + 7) 12 0)).bind fun M4 => (some (jfill M4 (o + 8) 8 0)).bind fun M5 => some M5
set_option maxHeartbeats 4000000 in
theorem c_X1_clear {M : JMem} {o : Nat} {Mz : JMem} (ho : isX1 o) (hf : f_X1_clear M o = some Mz) : jCo yX1_clear μ_X1_clear 2 M [.ref o] Mz none := by
  refine jCt_of (by decide +kernel) rfl (by simp [Value.category]) (Nat.le_of_ble_eq_true rfl) ?_
  unfold f_X1_clear at hf
  show jGG μ_X1_clear 2 0 [some (.ref o)] [] M (fun M' r' => M' = Mz ∧ r' = none)
  refine g_aload_n (pc := 0) dX1_clear_0 rfl rfl ?_
  refine g_iconst (pc := 1) 0 dX1_clear_1 rfl ?_
  refine g_putI (pc := 2) dX1_clear_2 fp_X1_45 ho.1 rfl ?_
  obtain ⟨M1, eM1, hf⟩ := job hf
  rw [Option.some.inj eM1]
  refine g_aload_n (pc := 5) dX1_clear_5 rfl rfl ?_
  refine g_iconst (pc := 6) 0 dX1_clear_6 rfl ?_
  refine g_putI (pc := 7) dX1_clear_7 fp_X1_49 ho.1 rfl ?_
  obtain ⟨M2, eM2, hf⟩ := job hf
  rw [Option.some.inj eM2]
  refine g_aload_n (pc := 10) dX1_clear_10 rfl rfl ?_
  refine g_getR (pc := 11) dX1_clear_11 fl_X1_27 ho.1 rfl ?_
  refine g_iconst (pc := 14) (-1) dX1_clear_14 rfl ?_
  obtain ⟨M3, eM3, hf⟩ := job hf
  refine g_callS (pc := 15) [.ref (o + 6), .int ((-1))] [] dX1_clear_15 ml_X1_39 ck_J7_fill_53178 cs_J7_fill_53178 rfl (by decide) (Nat.le_of_ble_eq_true rfl) (c_fill ho.2.2.2.2.2.2.1 (by decide)) ?_
  rw [Option.some.inj eM3]
  show jGG μ_X1_clear 2 18 [some (.ref o)] [] M3 (fun M' r' => M' = Mz ∧ r' = none)
  refine g_aload_n (pc := 18) dX1_clear_18 rfl rfl ?_
  refine g_getR (pc := 19) dX1_clear_19 fl_X1_30 ho.1 rfl ?_
  refine g_iconst (pc := 22) 0 dX1_clear_22 rfl ?_
  obtain ⟨M4, eM4, hf⟩ := job hf
  refine g_callS (pc := 23) [.ref (o + 7), .int 0] [] dX1_clear_23 ml_X1_39 ck_J7_fill_53178 cs_J7_fill_53178 rfl (by decide) (Nat.le_of_ble_eq_true rfl) (c_fill ho.2.2.2.2.2.2.2.1 (by decide)) ?_
  rw [Option.some.inj eM4]
  show jGG μ_X1_clear 2 26 [some (.ref o)] [] M4 (fun M' r' => M' = Mz ∧ r' = none)
  refine g_aload_n (pc := 26) dX1_clear_26 rfl rfl ?_
  refine g_getR (pc := 27) dX1_clear_27 fl_X1_33 ho.1 rfl ?_
  refine g_iconst (pc := 30) 0 dX1_clear_30 rfl ?_
  obtain ⟨M5, eM5, hf⟩ := job hf
  refine g_callS (pc := 31) [.ref (o + 8), .int 0] [] dX1_clear_31 ml_X1_39 ck_J7_fill_53178 cs_J7_fill_53178 rfl (by decide) (Nat.le_of_ble_eq_true rfl) (c_fill ho.2.2.2.2.2.2.2.2.1 (by decide)) ?_
  rw [Option.some.inj eM5]
  show jGG μ_X1_clear 2 34 [some (.ref o)] [] M5 (fun M' r' => M' = Mz ∧ r' = none)
  obtain rfl := Option.some.inj hf
  exact g_vret (pc := 34) dX1_clear_34 rfl ⟨rfl, rfl⟩
def f_X1_nextOfPiece (M : JMem) (o : Nat) (x2 : Int32) : Option (Int32) := (jrd M (o + 7) 12 x2).bind fun v1 => (jrd M 18 12 x2).bind fun v2 => (if v2 ≤ v1 then some (-1) else (jrw 5 12 x2).bind fun w3 => (jrd M w3 8 v1).bind fun v4 => some v4)
set_option maxHeartbeats 4000000 in
theorem c_X1_nextOfPiece {M : JMem} {o : Nat} {x2 : Int32} {r : Int32} (ho : isX1 o) (hf : f_X1_nextOfPiece M o x2 = some r) : jCo yX1_nextOfPiece μ_X1_nextOfPiece 1 M [.ref o, .ref 1, .int x2] M (some (.int r)) := by
  refine jCt_of (by decide +kernel) rfl (by simp [Value.category]) (Nat.le_of_ble_eq_true rfl) ?_
  unfold f_X1_nextOfPiece at hf
  show jGG μ_X1_nextOfPiece 1 0 [some (.ref o), some (.ref 1), some (.int x2), none] [] M (fun M' r' => M' = M ∧ r' = some (.int r))
  refine g_aload_n (pc := 0) dX1_nextOfPiece_0 rfl rfl ?_
  refine g_getR (pc := 1) dX1_nextOfPiece_1 fl_X1_30 ho.1 rfl ?_
  refine g_iload_n (pc := 4) dX1_nextOfPiece_4 rfl rfl ?_
  obtain ⟨v1, ev1, hf⟩ := job hf
  refine g_iald (pc := 5) dX1_nextOfPiece_5 ho.2.2.2.2.2.2.2.1 ev1 ?_
  refine g_istore_n (pc := 6) (lv' := [some (.ref o), some (.ref 1), some (.int x2), some (.int v1)]) dX1_nextOfPiece_6 rfl (by decide) rfl ?_
  refine g_iload_n (pc := 7) dX1_nextOfPiece_7 rfl rfl ?_
  refine g_aload_n (pc := 8) dX1_nextOfPiece_8 rfl rfl ?_
  refine g_getR (pc := 9) dX1_nextOfPiece_9 fl_X1_79 sh_1 rfl ?_
  refine g_iload_n (pc := 12) dX1_nextOfPiece_12 rfl rfl ?_
  obtain ⟨v2, ev2, hf⟩ := job hf
  refine g_iald (pc := 13) dX1_nextOfPiece_13 sh_18 ev2 ?_
  refine g_icmp_ge (pc := 14) 28 dX1_nextOfPiece_14 rfl (fun hc5 => ?_) (fun hc5 => ?_)
  · replace hf := jifp hc5 hf
    refine g_iconst (pc := 28) (-1) dX1_nextOfPiece_28 rfl ?_
    obtain rfl := Option.some.inj hf
    exact g_iret (pc := 29) dX1_nextOfPiece_29 rfl ⟨rfl, rfl⟩
  · replace hf := jifn hc5 hf
    refine g_aload_n (pc := 17) dX1_nextOfPiece_17 rfl rfl ?_
    refine g_getR (pc := 18) dX1_nextOfPiece_18 fl_X1_82 sh_1 rfl ?_
    refine g_iload_n (pc := 21) dX1_nextOfPiece_21 rfl rfl ?_
    obtain ⟨w3, ew3, hf⟩ := job hf
    refine g_aald (pc := 22) dX1_nextOfPiece_22 sh_5 ew3 ?_
    refine g_iload_n (pc := 23) dX1_nextOfPiece_23 rfl rfl ?_
    obtain ⟨v4, ev4, hf⟩ := job hf
    refine g_iald (pc := 24) dX1_nextOfPiece_24 (jrw_sh gr_5 ew3) ev4 ?_
    refine g_goto (pc := 25) 29 dX1_nextOfPiece_25 rfl ?_
    obtain rfl := Option.some.inj hf
    exact g_iret (pc := 29) dX1_nextOfPiece_29 rfl ⟨rfl, rfl⟩
def f_X1_isNextOnMachine (M : JMem) (o : Nat) (r2 : Nat) (x3 : Int32) : Option (Int32) := (jrd M 20 32 x3).bind fun v1 => (jrd M (o + 8) 8 v1).bind fun v2 => (jrd M 2 8 v1).bind fun v3 => (jcase (α := Int32) (β := Unit) (if v3 = 1 then some (Sum.inr ()) else (jrd M (r2 + 10) 8 v1).bind fun v9 => (if v9 ≤ v2 then some (Sum.inl 0) else (jrw (r2 + 1) 8 v1).bind fun w10 => (jrd M w10 32 v2).bind fun v11 => (if v11 = x3 then some (Sum.inr ()) else some (Sum.inl 0)))) fun _ => some 1)
set_option maxHeartbeats 4000000 in
theorem c_X1_isNextOnMachine {M : JMem} {o : Nat} {r2 : Nat} {x3 : Int32} {r : Int32} (ho : isX1 o) (hr2 : isX3 r2) (hf : f_X1_isNextOnMachine M o r2 x3 = some r) : jCo yX1_isNextOnMachine μ_X1_isNextOnMachine 1 M [.ref o, .ref 1, .ref r2, .int x3] M (some (.int r)) := by
  refine jCt_of (by decide +kernel) rfl (by simp [Value.category]) (Nat.le_of_ble_eq_true rfl) ?_
  unfold f_X1_isNextOnMachine at hf
  show jGG μ_X1_isNextOnMachine 1 0 [some (.ref o), some (.ref 1), some (.ref r2), some (.int x3), none, none] [] M (fun M' r' => M' = M ∧ r' = some (.int r))
  refine g_aload_n (pc := 0) dX1_isNextOnMachine_0 rfl rfl ?_
  refine g_getR (pc := 1) dX1_isNextOnMachine_1 fl_X1_86 sh_1 rfl ?_
  refine g_iload_n (pc := 4) dX1_isNextOnMachine_4 rfl rfl ?_
  obtain ⟨v1, ev1, hf⟩ := job hf
  refine g_iald (pc := 5) dX1_isNextOnMachine_5 sh_20 ev1 ?_
  refine g_istore (pc := 6) (lv' := [some (.ref o), some (.ref 1), some (.ref r2), some (.int x3), some (.int v1), none]) dX1_isNextOnMachine_6 (by decide) rfl ?_
  refine g_aload_n (pc := 8) dX1_isNextOnMachine_8 rfl rfl ?_
  refine g_getR (pc := 9) dX1_isNextOnMachine_9 fl_X1_33 ho.1 rfl ?_
  refine g_iload (pc := 12) dX1_isNextOnMachine_12 rfl ?_
  obtain ⟨v2, ev2, hf⟩ := job hf
  refine g_iald (pc := 14) dX1_isNextOnMachine_14 ho.2.2.2.2.2.2.2.2.1 ev2 ?_
  refine g_istore (pc := 15) (lv' := [some (.ref o), some (.ref 1), some (.ref r2), some (.int x3), some (.int v1), some (.int v2)]) dX1_isNextOnMachine_15 (by decide) rfl ?_
  refine g_aload_n (pc := 17) dX1_isNextOnMachine_17 rfl rfl ?_
  refine g_getR (pc := 18) dX1_isNextOnMachine_18 fl_X1_89 sh_1 rfl ?_
  refine g_iload (pc := 21) dX1_isNextOnMachine_21 rfl ?_
  obtain ⟨v3, ev3, hf⟩ := job hf
  refine g_iald (pc := 23) dX1_isNextOnMachine_23 sh_2 ev3 ?_
  refine g_iconst (pc := 24) 1 dX1_isNextOnMachine_24 rfl ?_
  obtain ⟨y6, hf, hy5⟩ := jcb hf
  have K7 : y6 = Sum.inr () → jGG μ_X1_isNextOnMachine 1 54 [none, none, none, none, none, none] [] M (fun M' r' => M' = M ∧ r' = some (.int r)) := by
    intro hyy
    subst hyy
    replace hf := hy5
    refine g_iconst (pc := 54) 1 dX1_isNextOnMachine_54 rfl ?_
    refine g_goto (pc := 55) 59 dX1_isNextOnMachine_55 rfl ?_
    obtain rfl := Option.some.inj hf
    exact g_zret (pc := 59) dX1_isNextOnMachine_59 rfl (Or.inr rfl) ⟨rfl, rfl⟩
  refine g_icmp_eq (pc := 25) 54 dX1_isNextOnMachine_25 rfl (fun hc14 => ?_) (fun hc14 => ?_)
  · replace hf := jifp hc14 hf
    exact g_weakK (K7 (Option.some.inj hf).symm) trivial
  · replace hf := jifn hc14 hf
    refine g_iload (pc := 28) dX1_isNextOnMachine_28 rfl ?_
    refine g_aload_n (pc := 30) dX1_isNextOnMachine_30 rfl rfl ?_
    refine g_getR (pc := 31) dX1_isNextOnMachine_31 fl_X1_92 hr2.1 rfl ?_
    refine g_iload (pc := 34) dX1_isNextOnMachine_34 rfl ?_
    obtain ⟨v9, ev9, hf⟩ := job hf
    refine g_iald (pc := 36) dX1_isNextOnMachine_36 hr2.2.2.2 ev9 ?_
    refine g_icmp_ge (pc := 37) 58 dX1_isNextOnMachine_37 rfl (fun hc13 => ?_) (fun hc13 => ?_)
    · replace hf := jifp hc13 hf
      refine g_iconst (pc := 58) 0 dX1_isNextOnMachine_58 rfl ?_
      obtain rfl := Option.some.inj hf
      replace hf := hy5
      obtain rfl := Option.some.inj hf
      exact g_zret (pc := 59) dX1_isNextOnMachine_59 rfl (Or.inl rfl) ⟨rfl, rfl⟩
    · replace hf := jifn hc13 hf
      refine g_aload_n (pc := 40) dX1_isNextOnMachine_40 rfl rfl ?_
      refine g_getR (pc := 41) dX1_isNextOnMachine_41 fl_X1_97 hr2.1 rfl ?_
      refine g_iload (pc := 44) dX1_isNextOnMachine_44 rfl ?_
      obtain ⟨w10, ew10, hf⟩ := job hf
      refine g_aald (pc := 46) dX1_isNextOnMachine_46 hr2.2.1 ew10 ?_
      refine g_iload (pc := 47) dX1_isNextOnMachine_47 rfl ?_
      obtain ⟨v11, ev11, hf⟩ := job hf
      refine g_iald (pc := 49) dX1_isNextOnMachine_49 (jrw_sh hr2.2.2.1 ew10) ev11 ?_
      refine g_iload_n (pc := 50) dX1_isNextOnMachine_50 rfl rfl ?_
      refine g_icmp_ne (pc := 51) 58 dX1_isNextOnMachine_51 rfl (fun hc12 => ?_) (fun hc12 => ?_)
      · replace hf := jifn hc12 hf
        refine g_iconst (pc := 58) 0 dX1_isNextOnMachine_58 rfl ?_
        obtain rfl := Option.some.inj hf
        replace hf := hy5
        obtain rfl := Option.some.inj hf
        exact g_zret (pc := 59) dX1_isNextOnMachine_59 rfl (Or.inl rfl) ⟨rfl, rfl⟩
      · replace hf := jifp hc12 hf
        exact g_weakK (K7 (Option.some.inj hf).symm) trivial
def f_X1_endOf (M : JMem) (o : Nat) (x2 : Int32) : Option (Int32) := (jrd M (o + 1) 32 x2).bind fun v1 => (jrd M 21 32 x2).bind fun v2 => some (v1 + v2)
set_option maxHeartbeats 4000000 in
theorem c_X1_endOf {M : JMem} {o : Nat} {x2 : Int32} {r : Int32} (ho : isX1 o) (hf : f_X1_endOf M o x2 = some r) : jCo yX1_endOf μ_X1_endOf 1 M [.ref o, .ref 1, .int x2] M (some (.int r)) := by
  refine jCt_of (by decide +kernel) rfl (by simp [Value.category]) (Nat.le_of_ble_eq_true rfl) ?_
  unfold f_X1_endOf at hf
  show jGG μ_X1_endOf 1 0 [some (.ref o), some (.ref 1), some (.int x2)] [] M (fun M' r' => M' = M ∧ r' = some (.int r))
  refine g_aload_n (pc := 0) dX1_endOf_0 rfl rfl ?_
  refine g_getR (pc := 1) dX1_endOf_1 fl_X1_9 ho.1 rfl ?_
  refine g_iload_n (pc := 4) dX1_endOf_4 rfl rfl ?_
  obtain ⟨v1, ev1, hf⟩ := job hf
  refine g_iald (pc := 5) dX1_endOf_5 ho.2.1 ev1 ?_
  refine g_aload_n (pc := 6) dX1_endOf_6 rfl rfl ?_
  refine g_getR (pc := 7) dX1_endOf_7 fl_X1_135 sh_1 rfl ?_
  refine g_iload_n (pc := 10) dX1_endOf_10 rfl rfl ?_
  obtain ⟨v2, ev2, hf⟩ := job hf
  refine g_iald (pc := 11) dX1_endOf_11 sh_21 ev2 ?_
  refine g_iadd (pc := 12) dX1_endOf_12 ?_
  obtain rfl := Option.some.inj hf
  exact g_iret (pc := 13) dX1_endOf_13 rfl ⟨rfl, rfl⟩
def f_X1_endAheadInPiece (M : JMem) (o : Nat) (x2 : Int32) : Option (Int32) := (jrd M 22 32 x2).bind fun v1 => (if v1 = 0 then some 0 else (jrd M 19 32 x2).bind fun v2 => (jrw 5 12 v2).bind fun w3 => (jrd M w3 8 (v1 - 1)).bind fun v4 => (f_X1_endOf M o v4).bind fun v5 => some v5)
set_option maxHeartbeats 4000000 in
theorem c_X1_endAheadInPiece {M : JMem} {o : Nat} {x2 : Int32} {r : Int32} (ho : isX1 o) (hf : f_X1_endAheadInPiece M o x2 = some r) : jCo yX1_endAheadInPiece μ_X1_endAheadInPiece 2 M [.ref o, .ref 1, .int x2] M (some (.int r)) := by
  refine jCt_of (by decide +kernel) rfl (by simp [Value.category]) (Nat.le_of_ble_eq_true rfl) ?_
  unfold f_X1_endAheadInPiece at hf
  show jGG μ_X1_endAheadInPiece 2 0 [some (.ref o), some (.ref 1), some (.int x2), none] [] M (fun M' r' => M' = M ∧ r' = some (.int r))
  refine g_aload_n (pc := 0) dX1_endAheadInPiece_0 rfl rfl ?_
  refine g_getR (pc := 1) dX1_endAheadInPiece_1 fl_X1_119 sh_1 rfl ?_
  refine g_iload_n (pc := 4) dX1_endAheadInPiece_4 rfl rfl ?_
  obtain ⟨v1, ev1, hf⟩ := job hf
  refine g_iald (pc := 5) dX1_endAheadInPiece_5 sh_22 ev1 ?_
  refine g_istore_n (pc := 6) (lv' := [some (.ref o), some (.ref 1), some (.int x2), some (.int v1)]) dX1_endAheadInPiece_6 rfl (by decide) rfl ?_
  refine g_iload_n (pc := 7) dX1_endAheadInPiece_7 rfl rfl ?_
  refine g_if_ne (pc := 8) 15 dX1_endAheadInPiece_8 rfl (fun hc6 => ?_) (fun hc6 => ?_)
  · replace hf := jifn hc6 hf
    refine g_aload_n (pc := 15) dX1_endAheadInPiece_15 rfl rfl ?_
    refine g_aload_n (pc := 16) dX1_endAheadInPiece_16 rfl rfl ?_
    refine g_aload_n (pc := 17) dX1_endAheadInPiece_17 rfl rfl ?_
    refine g_getR (pc := 18) dX1_endAheadInPiece_18 fl_X1_82 sh_1 rfl ?_
    refine g_aload_n (pc := 21) dX1_endAheadInPiece_21 rfl rfl ?_
    refine g_getR (pc := 22) dX1_endAheadInPiece_22 fl_X1_122 sh_1 rfl ?_
    refine g_iload_n (pc := 25) dX1_endAheadInPiece_25 rfl rfl ?_
    obtain ⟨v2, ev2, hf⟩ := job hf
    refine g_iald (pc := 26) dX1_endAheadInPiece_26 sh_19 ev2 ?_
    obtain ⟨w3, ew3, hf⟩ := job hf
    refine g_aald (pc := 27) dX1_endAheadInPiece_27 sh_5 ew3 ?_
    refine g_iload_n (pc := 28) dX1_endAheadInPiece_28 rfl rfl ?_
    refine g_iconst (pc := 29) 1 dX1_endAheadInPiece_29 rfl ?_
    refine g_isub (pc := 30) dX1_endAheadInPiece_30 ?_
    obtain ⟨v4, ev4, hf⟩ := job hf
    refine g_iald (pc := 31) dX1_endAheadInPiece_31 (jrw_sh gr_5 ew3) ev4 ?_
    obtain ⟨v5, ev5, hf⟩ := job hf
    refine g_callV (pc := 32) [.ref 1, .int v4] [] dX1_endAheadInPiece_32 ml_X1_112 ck_X1_endOf cv_X1_endOf ho.1 rfl (by decide) (Nat.le_of_ble_eq_true rfl) (c_X1_endOf ho ev5) ?_
    show jGG μ_X1_endAheadInPiece 2 35 [some (.ref o), some (.ref 1), some (.int x2), some (.int v1)] [.int v5] M (fun M' r' => M' = M ∧ r' = some (.int r))
    obtain rfl := Option.some.inj hf
    exact g_iret (pc := 35) dX1_endAheadInPiece_35 rfl ⟨rfl, rfl⟩
  · replace hf := jifp hc6 hf
    refine g_iconst (pc := 11) 0 dX1_endAheadInPiece_11 rfl ?_
    refine g_goto (pc := 12) 35 dX1_endAheadInPiece_12 rfl ?_
    obtain rfl := Option.some.inj hf
    exact g_iret (pc := 35) dX1_endAheadInPiece_35 rfl ⟨rfl, rfl⟩
def f_X1_keepLatest (N : Nat) (M : JMem) (o : Nat) (x1 : Int32) : Option (JMem) := ((jLp (σ := Int32 × Int32 × JMem) (ρ := JMem) N (fun ((z7, z8, M9) : Int32 × Int32 × JMem) => (if 4 ≤ z8 then some (Sum.inr M9) else (jrd M9 (o + 9) 4 z8).bind fun v11 => (((if z7 ≤ v11 then some ((z7, M9)) else (jrd M9 (o + 9) 4 z8).bind fun v17 => (jwr M9 (o + 9) 4 z8 z7).bind fun M18 => some ((v17, M18))) : Option (Int32 × JMem)).bind fun (u20, M21) => some (Sum.inl (u20, z8 + 1, M21))))) (x1, 0, M)).bind fun t10 => some t10)
set_option maxHeartbeats 4000000 in
theorem c_X1_keepLatest {N : Nat} {M : JMem} {o : Nat} {x1 : Int32} {Mz : JMem} (ho : isX1 o) (hf : f_X1_keepLatest N M o x1 = some Mz) : jCo yX1_keepLatest μ_X1_keepLatest 1 M [.ref o, .int x1] Mz none := by
  refine jCt_of (by decide +kernel) rfl (by simp [Value.category]) (Nat.le_of_ble_eq_true rfl) ?_
  unfold f_X1_keepLatest at hf
  show jGG μ_X1_keepLatest 1 0 [some (.ref o), some (.int x1), none, none, none] [] M (fun M' r' => M' = Mz ∧ r' = none)
  refine g_iload_n (pc := 0) dX1_keepLatest_0 rfl rfl ?_
  refine g_istore_n (pc := 1) (lv' := [some (.ref o), some (.int x1), some (.int x1), none, none]) dX1_keepLatest_1 rfl (by decide) rfl ?_
  refine g_iconst (pc := 2) 0 dX1_keepLatest_2 rfl ?_
  refine g_istore_n (pc := 3) (lv' := [some (.ref o), some (.int x1), some (.int x1), some (.int 0), none]) dX1_keepLatest_3 rfl (by decide) rfl ?_
  obtain ⟨t10, y2, hy1⟩ := job hf
  have K3 : jGG μ_X1_keepLatest 1 43 [none, none, none, none, none] [] t10 (fun M' r' => M' = Mz ∧ r' = none) := by
    replace hf := hy1
    obtain rfl := Option.some.inj hf
    exact g_vret (pc := 43) dX1_keepLatest_43 rfl ⟨rfl, rfl⟩
  refine g_weak (lv' := [some (.ref o), none, some (.int x1), some (.int 0), none]) ⟨rfl, ⟨rfl, ⟨rfl, trivial⟩⟩⟩ ?_
  refine jLp_ind (P := fun ((z7, z8, M9) : Int32 × Int32 × JMem) => jGG μ_X1_keepLatest 1 4 [some (.ref o), none, some (.int z7), some (.int z8), none] [] M9 (fun M' r' => M' = Mz ∧ r' = none)) ?_ N _ y2
  rintro ⟨z7, z8, M9⟩ x_6 hf ih5 hx4
  show jGG μ_X1_keepLatest 1 4 [some (.ref o), none, some (.int z7), some (.int z8), none] [] M9 (fun M' r' => M' = Mz ∧ r' = none)
  refine g_iload_n (pc := 4) dX1_keepLatest_4 rfl rfl ?_
  refine g_iconst (pc := 5) 4 dX1_keepLatest_5 rfl ?_
  refine g_icmp_ge (pc := 6) 43 dX1_keepLatest_6 rfl (fun hc22 => ?_) (fun hc22 => ?_)
  · replace hf := jifp hc22 hf
    have hf := hx4 _ (Option.some.inj hf).symm
    obtain rfl := hf
    exact g_weakK K3 trivial
  · replace hf := jifn hc22 hf
    refine g_iload_n (pc := 9) dX1_keepLatest_9 rfl rfl ?_
    refine g_aload_n (pc := 10) dX1_keepLatest_10 rfl rfl ?_
    refine g_getR (pc := 11) dX1_keepLatest_11 fl_X1_36 ho.1 rfl ?_
    refine g_iload_n (pc := 14) dX1_keepLatest_14 rfl rfl ?_
    obtain ⟨v11, ev11, hf⟩ := job hf
    refine g_iald (pc := 15) dX1_keepLatest_15 ho.2.2.2.2.2.2.2.2.2 ev11 ?_
    obtain ⟨⟨u20, M21⟩, hf, hy13⟩ := job hf
    have K15 : jGG μ_X1_keepLatest 1 37 [some (.ref o), none, some (.int u20), some (.int z8), none] [] M21 (fun M' r' => M' = Mz ∧ r' = none) := by
      replace hf := hy13
      refine g_iinc (pc := 37) (lv' := [some (.ref o), none, some (.int u20), some (.int (z8 + 1)), none]) (z8 + 1) dX1_keepLatest_37 rfl rfl (by decide) rfl ?_
      refine g_goto (pc := 40) 4 dX1_keepLatest_40 rfl ?_
      have hih : jGG μ_X1_keepLatest 1 4 [some (.ref o), none, some (.int u20), some (.int (z8 + 1)), none] [] M21 (fun M' r' => M' = Mz ∧ r' = none) := ih5 (u20, z8 + 1, M21) (Option.some.inj hf).symm
      exact g_weakK hih ⟨rfl, ⟨rfl, ⟨rfl, trivial⟩⟩⟩
    refine g_icmp_le (pc := 16) 37 dX1_keepLatest_16 rfl (fun hc19 => ?_) (fun hc19 => ?_)
    · replace hf := jifp hc19 hf
      obtain ⟨rfl, rfl⟩ := jp2 (Option.some.inj hf)
      exact g_weakK (K15) ⟨rfl, ⟨rfl, ⟨rfl, trivial⟩⟩⟩
    · replace hf := jifn hc19 hf
      refine g_aload_n (pc := 19) dX1_keepLatest_19 rfl rfl ?_
      refine g_getR (pc := 20) dX1_keepLatest_20 fl_X1_36 ho.1 rfl ?_
      refine g_iload_n (pc := 23) dX1_keepLatest_23 rfl rfl ?_
      obtain ⟨v17, ev17, hf⟩ := job hf
      refine g_iald (pc := 24) dX1_keepLatest_24 ho.2.2.2.2.2.2.2.2.2 ev17 ?_
      refine g_istore (pc := 25) (lv' := [some (.ref o), none, some (.int z7), some (.int z8), some (.int v17)]) dX1_keepLatest_25 (by decide) rfl ?_
      refine g_aload_n (pc := 27) dX1_keepLatest_27 rfl rfl ?_
      refine g_getR (pc := 28) dX1_keepLatest_28 fl_X1_36 ho.1 rfl ?_
      refine g_iload_n (pc := 31) dX1_keepLatest_31 rfl rfl ?_
      refine g_iload_n (pc := 32) dX1_keepLatest_32 rfl rfl ?_
      obtain ⟨M18, eM18, hf⟩ := job hf
      refine g_iast (pc := 33) dX1_keepLatest_33 ho.2.2.2.2.2.2.2.2.2 eM18 ?_
      refine g_iload (pc := 34) dX1_keepLatest_34 rfl ?_
      refine g_istore_n (pc := 36) (lv' := [some (.ref o), none, some (.int v17), some (.int z8), some (.int v17)]) dX1_keepLatest_36 rfl (by decide) rfl ?_
      obtain ⟨rfl, rfl⟩ := jp2 (Option.some.inj hf)
      exact g_weakK (K15) ⟨rfl, ⟨rfl, ⟨rfl, trivial⟩⟩⟩
def f_X1_freeHand (N : Nat) (M : JMem) (o : Nat) (r2 : Nat) (x3 : Int32) : Option (JMem × Int32) := (some (jfill M (o + 9) 4 0)).bind fun M1 => ((jLp (σ := Int32 × JMem) (ρ := JMem) N (fun ((z8, M9) : Int32 × JMem) => (jrd M9 (o + 8) 8 x3).bind fun v11 => (if v11 ≤ z8 then some (Sum.inr M9) else (jrw (r2 + 1) 8 x3).bind fun w12 => (jrd M9 w12 32 z8).bind fun v13 => (f_X1_endOf M9 o v13).bind fun v14 => (f_X1_keepLatest N M9 o v14).bind fun M15 => some (Sum.inl (z8 + 1, M15)))) (0, M1)).bind fun t10 => (jrd t10 3 8 x3).bind fun v17 => (jrd t10 (o + 9) 4 (v17 - 1)).bind fun v18 => some (t10, v18))
set_option maxHeartbeats 4000000 in
theorem c_X1_freeHand {N : Nat} {M : JMem} {o : Nat} {r2 : Nat} {x3 : Int32} {Mz : JMem} {r : Int32} (ho : isX1 o) (hr2 : isX3 r2) (hf : f_X1_freeHand N M o r2 x3 = some (Mz, r)) : jCo yX1_freeHand μ_X1_freeHand 2 M [.ref o, .ref 1, .ref r2, .int x3] Mz (some (.int r)) := by
  refine jCt_of (by decide +kernel) rfl (by simp [Value.category]) (Nat.le_of_ble_eq_true rfl) ?_
  unfold f_X1_freeHand at hf
  show jGG μ_X1_freeHand 2 0 [some (.ref o), some (.ref 1), some (.ref r2), some (.int x3), none] [] M (fun M' r' => M' = Mz ∧ r' = some (.int r))
  refine g_aload_n (pc := 0) dX1_freeHand_0 rfl rfl ?_
  refine g_getR (pc := 1) dX1_freeHand_1 fl_X1_36 ho.1 rfl ?_
  refine g_iconst (pc := 4) 0 dX1_freeHand_4 rfl ?_
  obtain ⟨M1, eM1, hf⟩ := job hf
  refine g_callS (pc := 5) [.ref (o + 9), .int 0] [] dX1_freeHand_5 ml_X1_39 ck_J7_fill_53178 cs_J7_fill_53178 rfl (by decide) (Nat.le_of_ble_eq_true rfl) (c_fill ho.2.2.2.2.2.2.2.2.2 (by decide)) ?_
  rw [Option.some.inj eM1]
  show jGG μ_X1_freeHand 2 8 [some (.ref o), some (.ref 1), some (.ref r2), some (.int x3), none] [] M1 (fun M' r' => M' = Mz ∧ r' = some (.int r))
  refine g_iconst (pc := 8) 0 dX1_freeHand_8 rfl ?_
  refine g_istore (pc := 9) (lv' := [some (.ref o), some (.ref 1), some (.ref r2), some (.int x3), some (.int 0)]) dX1_freeHand_9 (by decide) rfl ?_
  obtain ⟨t10, y3, hy2⟩ := job hf
  have K4 : jGG μ_X1_freeHand 2 46 [some (.ref o), some (.ref 1), none, some (.int x3), none] [] t10 (fun M' r' => M' = Mz ∧ r' = some (.int r)) := by
    replace hf := hy2
    refine g_aload_n (pc := 46) dX1_freeHand_46 rfl rfl ?_
    refine g_getR (pc := 47) dX1_freeHand_47 fl_X1_36 ho.1 rfl ?_
    refine g_aload_n (pc := 50) dX1_freeHand_50 rfl rfl ?_
    refine g_getR (pc := 51) dX1_freeHand_51 fl_X1_128 sh_1 rfl ?_
    refine g_iload_n (pc := 54) dX1_freeHand_54 rfl rfl ?_
    obtain ⟨v17, ev17, hf⟩ := job hf
    refine g_iald (pc := 55) dX1_freeHand_55 sh_3 ev17 ?_
    refine g_iconst (pc := 56) 1 dX1_freeHand_56 rfl ?_
    refine g_isub (pc := 57) dX1_freeHand_57 ?_
    obtain ⟨v18, ev18, hf⟩ := job hf
    refine g_iald (pc := 58) dX1_freeHand_58 ho.2.2.2.2.2.2.2.2.2 ev18 ?_
    obtain ⟨rfl, rfl⟩ := Prod.mk.inj (Option.some.inj hf)
    exact g_iret (pc := 59) dX1_freeHand_59 rfl ⟨rfl, rfl⟩
  refine g_weak (lv' := [some (.ref o), some (.ref 1), some (.ref r2), some (.int x3), some (.int 0)]) ⟨rfl, ⟨rfl, ⟨rfl, ⟨rfl, ⟨rfl, trivial⟩⟩⟩⟩⟩ ?_
  refine jLp_ind (P := fun ((z8, M9) : Int32 × JMem) => jGG μ_X1_freeHand 2 11 [some (.ref o), some (.ref 1), some (.ref r2), some (.int x3), some (.int z8)] [] M9 (fun M' r' => M' = Mz ∧ r' = some (.int r))) ?_ N _ y3
  rintro ⟨z8, M9⟩ x_7 hf ih6 hx5
  show jGG μ_X1_freeHand 2 11 [some (.ref o), some (.ref 1), some (.ref r2), some (.int x3), some (.int z8)] [] M9 (fun M' r' => M' = Mz ∧ r' = some (.int r))
  refine g_iload (pc := 11) dX1_freeHand_11 rfl ?_
  refine g_aload_n (pc := 13) dX1_freeHand_13 rfl rfl ?_
  refine g_getR (pc := 14) dX1_freeHand_14 fl_X1_33 ho.1 rfl ?_
  refine g_iload_n (pc := 17) dX1_freeHand_17 rfl rfl ?_
  obtain ⟨v11, ev11, hf⟩ := job hf
  refine g_iald (pc := 18) dX1_freeHand_18 ho.2.2.2.2.2.2.2.2.1 ev11 ?_
  refine g_icmp_ge (pc := 19) 46 dX1_freeHand_19 rfl (fun hc16 => ?_) (fun hc16 => ?_)
  · replace hf := jifp hc16 hf
    have hf := hx5 _ (Option.some.inj hf).symm
    obtain rfl := hf
    exact g_weakK K4 ⟨rfl, ⟨rfl, ⟨rfl, trivial⟩⟩⟩
  · replace hf := jifn hc16 hf
    refine g_aload_n (pc := 22) dX1_freeHand_22 rfl rfl ?_
    refine g_aload_n (pc := 23) dX1_freeHand_23 rfl rfl ?_
    refine g_aload_n (pc := 24) dX1_freeHand_24 rfl rfl ?_
    refine g_aload_n (pc := 25) dX1_freeHand_25 rfl rfl ?_
    refine g_getR (pc := 26) dX1_freeHand_26 fl_X1_97 hr2.1 rfl ?_
    refine g_iload_n (pc := 29) dX1_freeHand_29 rfl rfl ?_
    obtain ⟨w12, ew12, hf⟩ := job hf
    refine g_aald (pc := 30) dX1_freeHand_30 hr2.2.1 ew12 ?_
    refine g_iload (pc := 31) dX1_freeHand_31 rfl ?_
    obtain ⟨v13, ev13, hf⟩ := job hf
    refine g_iald (pc := 33) dX1_freeHand_33 (jrw_sh hr2.2.2.1 ew12) ev13 ?_
    obtain ⟨v14, ev14, hf⟩ := job hf
    refine g_callV (pc := 34) [.ref 1, .int v13] [.ref o] dX1_freeHand_34 ml_X1_112 ck_X1_endOf cv_X1_endOf ho.1 rfl (by decide) (Nat.le_of_ble_eq_true rfl) (c_X1_endOf ho ev14) ?_
    show jGG μ_X1_freeHand 2 37 [some (.ref o), some (.ref 1), some (.ref r2), some (.int x3), some (.int z8)] [.int v14, .ref o] M9 (fun M' r' => M' = Mz ∧ r' = some (.int r))
    obtain ⟨M15, eM15, hf⟩ := job hf
    refine g_callV (pc := 37) [.int v14] [] dX1_freeHand_37 ml_X1_131 ck_X1_keepLatest cv_X1_keepLatest ho.1 rfl (by decide) (Nat.le_of_ble_eq_true rfl) (c_X1_keepLatest ho eM15) ?_
    show jGG μ_X1_freeHand 2 40 [some (.ref o), some (.ref 1), some (.ref r2), some (.int x3), some (.int z8)] [] M15 (fun M' r' => M' = Mz ∧ r' = some (.int r))
    refine g_iinc (pc := 40) (lv' := [some (.ref o), some (.ref 1), some (.ref r2), some (.int x3), some (.int (z8 + 1))]) (z8 + 1) dX1_freeHand_40 rfl rfl (by decide) rfl ?_
    refine g_goto (pc := 43) 11 dX1_freeHand_43 rfl ?_
    have hih : jGG μ_X1_freeHand 2 11 [some (.ref o), some (.ref 1), some (.ref r2), some (.int x3), some (.int (z8 + 1))] [] M15 (fun M' r' => M' = Mz ∧ r' = some (.int r)) := ih6 (z8 + 1, M15) (Option.some.inj hf).symm
    exact g_weakK hih ⟨rfl, ⟨rfl, ⟨rfl, ⟨rfl, ⟨rfl, trivial⟩⟩⟩⟩⟩
def f_X1_pauseBetween (M : JMem) (x1 : Int32) (x2 : Int32) : Option (Int32) := (jrd M 20 32 x2).bind fun v1 => (jrd M 19 32 x1).bind fun v2 => (jrd M 4 12 v2).bind fun v3 => (jrd M 19 32 x2).bind fun v4 => (jrd M 4 12 v4).bind fun v5 => (((if v3 = v5 then some (1) else some (0)) : Option (Int32)).bind fun u12 => (jrd M 2 8 v1).bind fun v13 => (if v13 = 2 then (if u12 = 0 then (jrd M 3 8 v1).bind fun v14 => some v14 else some 0) else some 0))
set_option maxHeartbeats 4000000 in
theorem c_X1_pauseBetween {M : JMem} {x1 : Int32} {x2 : Int32} {r : Int32} (hf : f_X1_pauseBetween M x1 x2 = some r) : jCo yX1_pauseBetween μ_X1_pauseBetween 1 M [.ref 1, .int x1, .int x2] M (some (.int r)) := by
  refine jCt_of (by decide +kernel) rfl (by simp [Value.category]) (Nat.le_of_ble_eq_true rfl) ?_
  unfold f_X1_pauseBetween at hf
  show jGG μ_X1_pauseBetween 1 0 [some (.ref 1), some (.int x1), some (.int x2), none, none] [] M (fun M' r' => M' = M ∧ r' = some (.int r))
  refine g_aload_n (pc := 0) dX1_pauseBetween_0 rfl rfl ?_
  refine g_getR (pc := 1) dX1_pauseBetween_1 fl_X1_86 sh_1 rfl ?_
  refine g_iload_n (pc := 4) dX1_pauseBetween_4 rfl rfl ?_
  obtain ⟨v1, ev1, hf⟩ := job hf
  refine g_iald (pc := 5) dX1_pauseBetween_5 sh_20 ev1 ?_
  refine g_istore_n (pc := 6) (lv' := [some (.ref 1), some (.int x1), some (.int x2), some (.int v1), none]) dX1_pauseBetween_6 rfl (by decide) rfl ?_
  refine g_aload_n (pc := 7) dX1_pauseBetween_7 rfl rfl ?_
  refine g_getR (pc := 8) dX1_pauseBetween_8 fl_X1_125 sh_1 rfl ?_
  refine g_aload_n (pc := 11) dX1_pauseBetween_11 rfl rfl ?_
  refine g_getR (pc := 12) dX1_pauseBetween_12 fl_X1_122 sh_1 rfl ?_
  refine g_iload_n (pc := 15) dX1_pauseBetween_15 rfl rfl ?_
  obtain ⟨v2, ev2, hf⟩ := job hf
  refine g_iald (pc := 16) dX1_pauseBetween_16 sh_19 ev2 ?_
  obtain ⟨v3, ev3, hf⟩ := job hf
  refine g_iald (pc := 17) dX1_pauseBetween_17 sh_4 ev3 ?_
  refine g_aload_n (pc := 18) dX1_pauseBetween_18 rfl rfl ?_
  refine g_getR (pc := 19) dX1_pauseBetween_19 fl_X1_125 sh_1 rfl ?_
  refine g_aload_n (pc := 22) dX1_pauseBetween_22 rfl rfl ?_
  refine g_getR (pc := 23) dX1_pauseBetween_23 fl_X1_122 sh_1 rfl ?_
  refine g_iload_n (pc := 26) dX1_pauseBetween_26 rfl rfl ?_
  obtain ⟨v4, ev4, hf⟩ := job hf
  refine g_iald (pc := 27) dX1_pauseBetween_27 sh_19 ev4 ?_
  obtain ⟨v5, ev5, hf⟩ := job hf
  refine g_iald (pc := 28) dX1_pauseBetween_28 sh_4 ev5 ?_
  obtain ⟨u12, hf, hy7⟩ := job hf
  have K9 : (hbu12 : u12 = 0 ∨ u12 = 1) → jGG μ_X1_pauseBetween 1 37 [some (.ref 1), none, none, some (.int v1), none] [.int u12] M (fun M' r' => M' = M ∧ r' = some (.int r)) := by
    intro hbu12
    replace hf := hy7
    refine g_istore (pc := 37) (lv' := [some (.ref 1), none, none, some (.int v1), some (.int u12)]) dX1_pauseBetween_37 (by decide) rfl ?_
    refine g_aload_n (pc := 39) dX1_pauseBetween_39 rfl rfl ?_
    refine g_getR (pc := 40) dX1_pauseBetween_40 fl_X1_89 sh_1 rfl ?_
    refine g_iload_n (pc := 43) dX1_pauseBetween_43 rfl rfl ?_
    obtain ⟨v13, ev13, hf⟩ := job hf
    refine g_iald (pc := 44) dX1_pauseBetween_44 sh_2 ev13 ?_
    refine g_iconst (pc := 45) 2 dX1_pauseBetween_45 rfl ?_
    refine g_icmp_ne (pc := 46) 63 dX1_pauseBetween_46 rfl (fun hc16 => ?_) (fun hc16 => ?_)
    · replace hf := jifn hc16 hf
      refine g_iconst (pc := 63) 0 dX1_pauseBetween_63 rfl ?_
      obtain rfl := Option.some.inj hf
      exact g_iret (pc := 64) dX1_pauseBetween_64 rfl ⟨rfl, rfl⟩
    · replace hf := jifp hc16 hf
      refine g_iload (pc := 49) dX1_pauseBetween_49 rfl ?_
      refine g_if_ne (pc := 51) 63 dX1_pauseBetween_51 rfl (fun hc15 => ?_) (fun hc15 => ?_)
      · replace hf := jifn hc15 hf
        refine g_iconst (pc := 63) 0 dX1_pauseBetween_63 rfl ?_
        obtain rfl := Option.some.inj hf
        exact g_iret (pc := 64) dX1_pauseBetween_64 rfl ⟨rfl, rfl⟩
      · replace hf := jifp hc15 hf
        refine g_aload_n (pc := 54) dX1_pauseBetween_54 rfl rfl ?_
        refine g_getR (pc := 55) dX1_pauseBetween_55 fl_X1_128 sh_1 rfl ?_
        refine g_iload_n (pc := 58) dX1_pauseBetween_58 rfl rfl ?_
        obtain ⟨v14, ev14, hf⟩ := job hf
        refine g_iald (pc := 59) dX1_pauseBetween_59 sh_3 ev14 ?_
        refine g_goto (pc := 60) 64 dX1_pauseBetween_60 rfl ?_
        obtain rfl := Option.some.inj hf
        exact g_iret (pc := 64) dX1_pauseBetween_64 rfl ⟨rfl, rfl⟩
  refine g_icmp_ne (pc := 29) 36 dX1_pauseBetween_29 rfl (fun hc11 => ?_) (fun hc11 => ?_)
  · replace hf := jifn hc11 hf
    refine g_iconst (pc := 36) 0 dX1_pauseBetween_36 rfl ?_
    obtain rfl := Option.some.inj hf
    exact g_weakK (K9 (Or.inl rfl)) ⟨rfl, ⟨rfl, trivial⟩⟩
  · replace hf := jifp hc11 hf
    refine g_iconst (pc := 32) 1 dX1_pauseBetween_32 rfl ?_
    refine g_goto (pc := 33) 37 dX1_pauseBetween_33 rfl ?_
    obtain rfl := Option.some.inj hf
    exact g_weakK (K9 (Or.inr rfl)) ⟨rfl, ⟨rfl, trivial⟩⟩
def f_X1_earliest (N : Nat) (M : JMem) (o : Nat) (r2 : Nat) (x3 : Int32) : Option (JMem × Int32) := (jrd M (o + 3) 32 x3).bind fun v1 => (if v1 = ((-1)) then (jrd M 20 32 x3).bind fun v2 => (jrd M (o + 8) 8 v2).bind fun v3 => (jrd M (o + 4) 8 v2).bind fun v4 => (f_X1_endAheadInPiece M o x3).bind fun v5 => (jrd M 2 8 v2).bind fun v6 => (if v6 = 1 then some (M, jmax v4 v5) else (if v3 = 0 then some (M, jmax v4 v5) else (jrw (r2 + 1) 8 v2).bind fun w7 => (jrd M w7 32 (v3 - 1)).bind fun v8 => (jrd M 2 8 v2).bind fun v9 => (if v9 = 3 then (f_X1_freeHand N M o r2 v2).bind fun (M12, v13) => (jrd M12 (o + 1) 32 v8).bind fun v14 => some (M12, jmax (jmax v4 v5) (jmax v14 v13)) else (f_X1_endOf M o v8).bind fun v10 => (f_X1_pauseBetween M v8 x3).bind fun v11 => some (M, jmax (jmax v4 v5) (v10 + v11))))) else (jrd M (o + 3) 32 x3).bind fun v18 => some (M, v18))
set_option maxHeartbeats 4000000 in
theorem c_X1_earliest {N : Nat} {M : JMem} {o : Nat} {r2 : Nat} {x3 : Int32} {Mz : JMem} {r : Int32} (ho : isX1 o) (hr2 : isX3 r2) (hf : f_X1_earliest N M o r2 x3 = some (Mz, r)) : jCo yX1_earliest μ_X1_earliest 3 M [.ref o, .ref 1, .ref r2, .int x3] Mz (some (.int r)) := by
  refine jCt_of (by decide +kernel) rfl (by simp [Value.category]) (Nat.le_of_ble_eq_true rfl) ?_
  unfold f_X1_earliest at hf
  show jGG μ_X1_earliest 3 0 [some (.ref o), some (.ref 1), some (.ref r2), some (.int x3), none, none, none, none, none] [] M (fun M' r' => M' = Mz ∧ r' = some (.int r))
  refine g_aload_n (pc := 0) dX1_earliest_0 rfl rfl ?_
  refine g_getR (pc := 1) dX1_earliest_1 fl_X1_18 ho.1 rfl ?_
  refine g_iload_n (pc := 4) dX1_earliest_4 rfl rfl ?_
  obtain ⟨v1, ev1, hf⟩ := job hf
  refine g_iald (pc := 5) dX1_earliest_5 ho.2.2.2.1 ev1 ?_
  refine g_iconst (pc := 6) (-1) dX1_earliest_6 rfl ?_
  refine g_icmp_eq (pc := 7) 17 dX1_earliest_7 rfl (fun hc19 => ?_) (fun hc19 => ?_)
  · replace hf := jifp hc19 hf
    refine g_aload_n (pc := 17) dX1_earliest_17 rfl rfl ?_
    refine g_getR (pc := 18) dX1_earliest_18 fl_X1_86 sh_1 rfl ?_
    refine g_iload_n (pc := 21) dX1_earliest_21 rfl rfl ?_
    obtain ⟨v2, ev2, hf⟩ := job hf
    refine g_iald (pc := 22) dX1_earliest_22 sh_20 ev2 ?_
    refine g_istore (pc := 23) (lv' := [some (.ref o), some (.ref 1), some (.ref r2), some (.int x3), some (.int v2), none, none, none, none]) dX1_earliest_23 (by decide) rfl ?_
    refine g_aload_n (pc := 25) dX1_earliest_25 rfl rfl ?_
    refine g_getR (pc := 26) dX1_earliest_26 fl_X1_33 ho.1 rfl ?_
    refine g_iload (pc := 29) dX1_earliest_29 rfl ?_
    obtain ⟨v3, ev3, hf⟩ := job hf
    refine g_iald (pc := 31) dX1_earliest_31 ho.2.2.2.2.2.2.2.2.1 ev3 ?_
    refine g_istore (pc := 32) (lv' := [some (.ref o), some (.ref 1), some (.ref r2), some (.int x3), some (.int v2), some (.int v3), none, none, none]) dX1_earliest_32 (by decide) rfl ?_
    refine g_aload_n (pc := 34) dX1_earliest_34 rfl rfl ?_
    refine g_getR (pc := 35) dX1_earliest_35 fl_X1_21 ho.1 rfl ?_
    refine g_iload (pc := 38) dX1_earliest_38 rfl ?_
    obtain ⟨v4, ev4, hf⟩ := job hf
    refine g_iald (pc := 40) dX1_earliest_40 ho.2.2.2.2.1 ev4 ?_
    refine g_aload_n (pc := 41) dX1_earliest_41 rfl rfl ?_
    refine g_aload_n (pc := 42) dX1_earliest_42 rfl rfl ?_
    refine g_iload_n (pc := 43) dX1_earliest_43 rfl rfl ?_
    obtain ⟨v5, ev5, hf⟩ := job hf
    refine g_callV (pc := 44) [.ref 1, .int x3] [.int v4] dX1_earliest_44 ml_X1_100 ck_X1_endAheadInPiece cv_X1_endAheadInPiece ho.1 rfl (by decide) (Nat.le_of_ble_eq_true rfl) (c_X1_endAheadInPiece ho ev5) ?_
    show jGG μ_X1_earliest 3 47 [some (.ref o), some (.ref 1), some (.ref r2), some (.int x3), some (.int v2), some (.int v3), none, none, none] [.int v5, .int v4] M (fun M' r' => M' = Mz ∧ r' = some (.int r))
    refine g_max (pc := 47) [] dX1_earliest_47 ml_X1_103 (by omega) (Nat.le_of_ble_eq_true rfl) ?_
    refine g_istore (pc := 50) (lv' := [some (.ref o), some (.ref 1), some (.ref r2), some (.int x3), some (.int v2), some (.int v3), some (.int (jmax v4 v5)), none, none]) dX1_earliest_50 (by decide) rfl ?_
    refine g_aload_n (pc := 52) dX1_earliest_52 rfl rfl ?_
    refine g_getR (pc := 53) dX1_earliest_53 fl_X1_89 sh_1 rfl ?_
    refine g_iload (pc := 56) dX1_earliest_56 rfl ?_
    obtain ⟨v6, ev6, hf⟩ := job hf
    refine g_iald (pc := 58) dX1_earliest_58 sh_2 ev6 ?_
    refine g_iconst (pc := 59) 1 dX1_earliest_59 rfl ?_
    refine g_icmp_eq (pc := 60) 68 dX1_earliest_60 rfl (fun hc17 => ?_) (fun hc17 => ?_)
    · replace hf := jifp hc17 hf
      refine g_iload (pc := 68) dX1_earliest_68 rfl ?_
      obtain ⟨rfl, rfl⟩ := Prod.mk.inj (Option.some.inj hf)
      exact g_iret (pc := 70) dX1_earliest_70 rfl ⟨rfl, rfl⟩
    · replace hf := jifn hc17 hf
      refine g_iload (pc := 63) dX1_earliest_63 rfl ?_
      refine g_if_ne (pc := 65) 71 dX1_earliest_65 rfl (fun hc16 => ?_) (fun hc16 => ?_)
      · replace hf := jifn hc16 hf
        refine g_aload_n (pc := 71) dX1_earliest_71 rfl rfl ?_
        refine g_getR (pc := 72) dX1_earliest_72 fl_X1_97 hr2.1 rfl ?_
        refine g_iload (pc := 75) dX1_earliest_75 rfl ?_
        obtain ⟨w7, ew7, hf⟩ := job hf
        refine g_aald (pc := 77) dX1_earliest_77 hr2.2.1 ew7 ?_
        refine g_iload (pc := 78) dX1_earliest_78 rfl ?_
        refine g_iconst (pc := 80) 1 dX1_earliest_80 rfl ?_
        refine g_isub (pc := 81) dX1_earliest_81 ?_
        obtain ⟨v8, ev8, hf⟩ := job hf
        refine g_iald (pc := 82) dX1_earliest_82 (jrw_sh hr2.2.2.1 ew7) ev8 ?_
        refine g_istore (pc := 83) (lv' := [some (.ref o), some (.ref 1), some (.ref r2), some (.int x3), some (.int v2), some (.int v3), some (.int (jmax v4 v5)), some (.int v8), none]) dX1_earliest_83 (by decide) rfl ?_
        refine g_aload_n (pc := 85) dX1_earliest_85 rfl rfl ?_
        refine g_getR (pc := 86) dX1_earliest_86 fl_X1_89 sh_1 rfl ?_
        refine g_iload (pc := 89) dX1_earliest_89 rfl ?_
        obtain ⟨v9, ev9, hf⟩ := job hf
        refine g_iald (pc := 91) dX1_earliest_91 sh_2 ev9 ?_
        refine g_iconst (pc := 92) 3 dX1_earliest_92 rfl ?_
        refine g_icmp_ne (pc := 93) 124 dX1_earliest_93 rfl (fun hc15 => ?_) (fun hc15 => ?_)
        · replace hf := jifn hc15 hf
          refine g_iload (pc := 124) dX1_earliest_124 rfl ?_
          refine g_aload_n (pc := 126) dX1_earliest_126 rfl rfl ?_
          refine g_aload_n (pc := 127) dX1_earliest_127 rfl rfl ?_
          refine g_iload (pc := 128) dX1_earliest_128 rfl ?_
          obtain ⟨v10, ev10, hf⟩ := job hf
          refine g_callV (pc := 130) [.ref 1, .int v8] [.int (jmax v4 v5)] dX1_earliest_130 ml_X1_112 ck_X1_endOf cv_X1_endOf ho.1 rfl (by decide) (Nat.le_of_ble_eq_true rfl) (c_X1_endOf ho ev10) ?_
          show jGG μ_X1_earliest 3 133 [some (.ref o), some (.ref 1), some (.ref r2), some (.int x3), some (.int v2), some (.int v3), some (.int (jmax v4 v5)), some (.int v8), none] [.int v10, .int (jmax v4 v5)] M (fun M' r' => M' = Mz ∧ r' = some (.int r))
          refine g_aload_n (pc := 133) dX1_earliest_133 rfl rfl ?_
          refine g_iload (pc := 134) dX1_earliest_134 rfl ?_
          refine g_iload_n (pc := 136) dX1_earliest_136 rfl rfl ?_
          obtain ⟨v11, ev11, hf⟩ := job hf
          refine g_callS (pc := 137) [.ref 1, .int v8, .int x3] [.int v10, .int (jmax v4 v5)] dX1_earliest_137 ml_X1_115 ck_X1_pauseBetween cs_X1_pauseBetween rfl (by decide) (Nat.le_of_ble_eq_true rfl) (c_X1_pauseBetween ev11) ?_
          show jGG μ_X1_earliest 3 140 [some (.ref o), some (.ref 1), some (.ref r2), some (.int x3), some (.int v2), some (.int v3), some (.int (jmax v4 v5)), some (.int v8), none] [.int v11, .int v10, .int (jmax v4 v5)] M (fun M' r' => M' = Mz ∧ r' = some (.int r))
          refine g_iadd (pc := 140) dX1_earliest_140 ?_
          refine g_max (pc := 141) [] dX1_earliest_141 ml_X1_103 (by omega) (Nat.le_of_ble_eq_true rfl) ?_
          obtain ⟨rfl, rfl⟩ := Prod.mk.inj (Option.some.inj hf)
          exact g_iret (pc := 144) dX1_earliest_144 rfl ⟨rfl, rfl⟩
        · replace hf := jifp hc15 hf
          refine g_aload_n (pc := 96) dX1_earliest_96 rfl rfl ?_
          refine g_aload_n (pc := 97) dX1_earliest_97 rfl rfl ?_
          refine g_aload_n (pc := 98) dX1_earliest_98 rfl rfl ?_
          refine g_iload (pc := 99) dX1_earliest_99 rfl ?_
          obtain ⟨⟨M12, v13⟩, ev13, hf⟩ := job hf
          refine g_callV (pc := 101) [.ref 1, .ref r2, .int v2] [] dX1_earliest_101 ml_X1_109 ck_X1_freeHand cv_X1_freeHand ho.1 rfl (by decide) (Nat.le_of_ble_eq_true rfl) (c_X1_freeHand ho hr2 ev13) ?_
          show jGG μ_X1_earliest 3 104 [some (.ref o), some (.ref 1), some (.ref r2), some (.int x3), some (.int v2), some (.int v3), some (.int (jmax v4 v5)), some (.int v8), none] [.int v13] M12 (fun M' r' => M' = Mz ∧ r' = some (.int r))
          refine g_istore (pc := 104) (lv' := [some (.ref o), some (.ref 1), some (.ref r2), some (.int x3), some (.int v2), some (.int v3), some (.int (jmax v4 v5)), some (.int v8), some (.int v13)]) dX1_earliest_104 (by decide) rfl ?_
          refine g_iload (pc := 106) dX1_earliest_106 rfl ?_
          refine g_aload_n (pc := 108) dX1_earliest_108 rfl rfl ?_
          refine g_getR (pc := 109) dX1_earliest_109 fl_X1_9 ho.1 rfl ?_
          refine g_iload (pc := 112) dX1_earliest_112 rfl ?_
          obtain ⟨v14, ev14, hf⟩ := job hf
          refine g_iald (pc := 114) dX1_earliest_114 ho.2.1 ev14 ?_
          refine g_iload (pc := 115) dX1_earliest_115 rfl ?_
          refine g_max (pc := 117) [.int (jmax v4 v5)] dX1_earliest_117 ml_X1_103 (by omega) (Nat.le_of_ble_eq_true rfl) ?_
          refine g_max (pc := 120) [] dX1_earliest_120 ml_X1_103 (by omega) (Nat.le_of_ble_eq_true rfl) ?_
          obtain ⟨rfl, rfl⟩ := Prod.mk.inj (Option.some.inj hf)
          exact g_iret (pc := 123) dX1_earliest_123 rfl ⟨rfl, rfl⟩
      · replace hf := jifp hc16 hf
        refine g_iload (pc := 68) dX1_earliest_68 rfl ?_
        obtain ⟨rfl, rfl⟩ := Prod.mk.inj (Option.some.inj hf)
        exact g_iret (pc := 70) dX1_earliest_70 rfl ⟨rfl, rfl⟩
  · replace hf := jifn hc19 hf
    refine g_aload_n (pc := 10) dX1_earliest_10 rfl rfl ?_
    refine g_getR (pc := 11) dX1_earliest_11 fl_X1_18 ho.1 rfl ?_
    refine g_iload_n (pc := 14) dX1_earliest_14 rfl rfl ?_
    obtain ⟨v18, ev18, hf⟩ := job hf
    refine g_iald (pc := 15) dX1_earliest_15 ho.2.2.2.1 ev18 ?_
    obtain ⟨rfl, rfl⟩ := Prod.mk.inj (Option.some.inj hf)
    exact g_iret (pc := 16) dX1_earliest_16 rfl ⟨rfl, rfl⟩
def f_X1_set (M : JMem) (o : Nat) (r2 : Nat) (x3 : Int32) (x4 : Int32) : Option (JMem) := (jrd M 20 32 x3).bind fun v1 => (jrd M (o + 8) 8 v1).bind fun v2 => (jwr M (o + 1) 32 x3 x4).bind fun M3 => (f_X1_endOf M3 o x3).bind fun v4 => (some (jup M3 o 4 (jmax (M3 o 4) v4))).bind fun M5 => (jrd M5 2 8 v1).bind fun v6 => (((if v6 = 0 then (if v2 ≤ 0 then some (M5) else (jrw (r2 + 1) 8 v1).bind fun w12 => (jrd M5 w12 32 (v2 - 1)).bind fun v13 => (jwr M5 (o + 6) 32 v13 x3).bind fun M14 => some (M14)) else some (M5)) : Option (JMem)).bind fun M17 => (jwr M17 (o + 5) 32 (M17 o 6) x3).bind fun M18 => (some (jup M18 o 6 ((M18 o 6) + 1))).bind fun M19 => (jrd M19 19 32 x3).bind fun v20 => (jrd M19 (o + 7) 12 v20).bind fun v21 => (jwr M19 (o + 7) 12 v20 (v21 + 1)).bind fun M22 => (jrd M22 (o + 8) 8 v1).bind fun v23 => (jwr M22 (o + 8) 8 v1 (v23 + 1)).bind fun M24 => some M24)
set_option maxHeartbeats 4000000 in
theorem c_X1_set {M : JMem} {o : Nat} {r2 : Nat} {x3 : Int32} {x4 : Int32} {Mz : JMem} (ho : isX1 o) (hr2 : isX3 r2) (hf : f_X1_set M o r2 x3 x4 = some Mz) : jCo yX1_set μ_X1_set 2 M [.ref o, .ref 1, .ref r2, .int x3, .int x4] Mz none := by
  refine jCt_of (by decide +kernel) rfl (by simp [Value.category]) (Nat.le_of_ble_eq_true rfl) ?_
  unfold f_X1_set at hf
  show jGG μ_X1_set 2 0 [some (.ref o), some (.ref 1), some (.ref r2), some (.int x3), some (.int x4), none, none] [] M (fun M' r' => M' = Mz ∧ r' = none)
  refine g_aload_n (pc := 0) dX1_set_0 rfl rfl ?_
  refine g_getR (pc := 1) dX1_set_1 fl_X1_86 sh_1 rfl ?_
  refine g_iload_n (pc := 4) dX1_set_4 rfl rfl ?_
  obtain ⟨v1, ev1, hf⟩ := job hf
  refine g_iald (pc := 5) dX1_set_5 sh_20 ev1 ?_
  refine g_istore (pc := 6) (lv' := [some (.ref o), some (.ref 1), some (.ref r2), some (.int x3), some (.int x4), some (.int v1), none]) dX1_set_6 (by decide) rfl ?_
  refine g_aload_n (pc := 8) dX1_set_8 rfl rfl ?_
  refine g_getR (pc := 9) dX1_set_9 fl_X1_33 ho.1 rfl ?_
  refine g_iload (pc := 12) dX1_set_12 rfl ?_
  obtain ⟨v2, ev2, hf⟩ := job hf
  refine g_iald (pc := 14) dX1_set_14 ho.2.2.2.2.2.2.2.2.1 ev2 ?_
  refine g_istore (pc := 15) (lv' := [some (.ref o), some (.ref 1), some (.ref r2), some (.int x3), some (.int x4), some (.int v1), some (.int v2)]) dX1_set_15 (by decide) rfl ?_
  refine g_aload_n (pc := 17) dX1_set_17 rfl rfl ?_
  refine g_getR (pc := 18) dX1_set_18 fl_X1_9 ho.1 rfl ?_
  refine g_iload_n (pc := 21) dX1_set_21 rfl rfl ?_
  refine g_iload (pc := 22) dX1_set_22 rfl ?_
  obtain ⟨M3, eM3, hf⟩ := job hf
  refine g_iast (pc := 24) dX1_set_24 ho.2.1 eM3 ?_
  refine g_aload_n (pc := 25) dX1_set_25 rfl rfl ?_
  refine g_aload_n (pc := 26) dX1_set_26 rfl rfl ?_
  refine g_getI (pc := 27) dX1_set_27 fl_X1_49 ho.1 rfl ?_
  refine g_aload_n (pc := 30) dX1_set_30 rfl rfl ?_
  refine g_aload_n (pc := 31) dX1_set_31 rfl rfl ?_
  refine g_iload_n (pc := 32) dX1_set_32 rfl rfl ?_
  obtain ⟨v4, ev4, hf⟩ := job hf
  refine g_callV (pc := 33) [.ref 1, .int x3] [.int (M3 o 4), .ref o] dX1_set_33 ml_X1_112 ck_X1_endOf cv_X1_endOf ho.1 rfl (by decide) (Nat.le_of_ble_eq_true rfl) (c_X1_endOf ho ev4) ?_
  show jGG μ_X1_set 2 36 [some (.ref o), some (.ref 1), some (.ref r2), some (.int x3), some (.int x4), some (.int v1), some (.int v2)] [.int v4, .int (M3 o 4), .ref o] M3 (fun M' r' => M' = Mz ∧ r' = none)
  refine g_max (pc := 36) [.ref o] dX1_set_36 ml_X1_103 (by omega) (Nat.le_of_ble_eq_true rfl) ?_
  refine g_putI (pc := 39) dX1_set_39 fp_X1_49 ho.1 rfl ?_
  obtain ⟨M5, eM5, hf⟩ := job hf
  rw [Option.some.inj eM5]
  refine g_aload_n (pc := 42) dX1_set_42 rfl rfl ?_
  refine g_getR (pc := 43) dX1_set_43 fl_X1_89 sh_1 rfl ?_
  refine g_iload (pc := 46) dX1_set_46 rfl ?_
  obtain ⟨v6, ev6, hf⟩ := job hf
  refine g_iald (pc := 48) dX1_set_48 sh_2 ev6 ?_
  obtain ⟨M17, hf, hy8⟩ := job hf
  have K10 : jGG μ_X1_set 2 75 [some (.ref o), some (.ref 1), none, some (.int x3), none, some (.int v1), none] [] M17 (fun M' r' => M' = Mz ∧ r' = none) := by
    replace hf := hy8
    refine g_aload_n (pc := 75) dX1_set_75 rfl rfl ?_
    refine g_getR (pc := 76) dX1_set_76 fl_X1_24 ho.1 rfl ?_
    refine g_aload_n (pc := 79) dX1_set_79 rfl rfl ?_
    refine g_getI (pc := 80) dX1_set_80 fl_X1_45 ho.1 rfl ?_
    refine g_iload_n (pc := 83) dX1_set_83 rfl rfl ?_
    obtain ⟨M18, eM18, hf⟩ := job hf
    refine g_iast (pc := 84) dX1_set_84 ho.2.2.2.2.2.1 eM18 ?_
    refine g_aload_n (pc := 85) dX1_set_85 rfl rfl ?_
    refine g_dup (pc := 86) dX1_set_86 rfl ?_
    refine g_getI (pc := 87) dX1_set_87 fl_X1_45 ho.1 rfl ?_
    refine g_iconst (pc := 90) 1 dX1_set_90 rfl ?_
    refine g_iadd (pc := 91) dX1_set_91 ?_
    refine g_putI (pc := 92) dX1_set_92 fp_X1_45 ho.1 rfl ?_
    obtain ⟨M19, eM19, hf⟩ := job hf
    rw [Option.some.inj eM19]
    refine g_aload_n (pc := 95) dX1_set_95 rfl rfl ?_
    refine g_getR (pc := 96) dX1_set_96 fl_X1_30 ho.1 rfl ?_
    refine g_aload_n (pc := 99) dX1_set_99 rfl rfl ?_
    refine g_getR (pc := 100) dX1_set_100 fl_X1_122 sh_1 rfl ?_
    refine g_iload_n (pc := 103) dX1_set_103 rfl rfl ?_
    obtain ⟨v20, ev20, hf⟩ := job hf
    refine g_iald (pc := 104) dX1_set_104 sh_19 ev20 ?_
    refine g_dup2 (pc := 105) dX1_set_105 rfl rfl ?_
    obtain ⟨v21, ev21, hf⟩ := job hf
    refine g_iald (pc := 106) dX1_set_106 ho.2.2.2.2.2.2.2.1 ev21 ?_
    refine g_iconst (pc := 107) 1 dX1_set_107 rfl ?_
    refine g_iadd (pc := 108) dX1_set_108 ?_
    obtain ⟨M22, eM22, hf⟩ := job hf
    refine g_iast (pc := 109) dX1_set_109 ho.2.2.2.2.2.2.2.1 eM22 ?_
    refine g_aload_n (pc := 110) dX1_set_110 rfl rfl ?_
    refine g_getR (pc := 111) dX1_set_111 fl_X1_33 ho.1 rfl ?_
    refine g_iload (pc := 114) dX1_set_114 rfl ?_
    refine g_dup2 (pc := 116) dX1_set_116 rfl rfl ?_
    obtain ⟨v23, ev23, hf⟩ := job hf
    refine g_iald (pc := 117) dX1_set_117 ho.2.2.2.2.2.2.2.2.1 ev23 ?_
    refine g_iconst (pc := 118) 1 dX1_set_118 rfl ?_
    refine g_iadd (pc := 119) dX1_set_119 ?_
    obtain ⟨M24, eM24, hf⟩ := job hf
    refine g_iast (pc := 120) dX1_set_120 ho.2.2.2.2.2.2.2.2.1 eM24 ?_
    obtain rfl := Option.some.inj hf
    exact g_vret (pc := 121) dX1_set_121 rfl ⟨rfl, rfl⟩
  refine g_if_ne (pc := 49) 75 dX1_set_49 rfl (fun hc16 => ?_) (fun hc16 => ?_)
  · replace hf := jifn hc16 hf
    obtain rfl := Option.some.inj hf
    exact g_weakK (K10) ⟨rfl, ⟨rfl, ⟨rfl, ⟨rfl, trivial⟩⟩⟩⟩
  · replace hf := jifp hc16 hf
    refine g_iload (pc := 52) dX1_set_52 rfl ?_
    refine g_if_le (pc := 54) 75 dX1_set_54 rfl (fun hc15 => ?_) (fun hc15 => ?_)
    · replace hf := jifp hc15 hf
      obtain rfl := Option.some.inj hf
      exact g_weakK (K10) ⟨rfl, ⟨rfl, ⟨rfl, ⟨rfl, trivial⟩⟩⟩⟩
    · replace hf := jifn hc15 hf
      refine g_aload_n (pc := 57) dX1_set_57 rfl rfl ?_
      refine g_getR (pc := 58) dX1_set_58 fl_X1_27 ho.1 rfl ?_
      refine g_aload_n (pc := 61) dX1_set_61 rfl rfl ?_
      refine g_getR (pc := 62) dX1_set_62 fl_X1_97 hr2.1 rfl ?_
      refine g_iload (pc := 65) dX1_set_65 rfl ?_
      obtain ⟨w12, ew12, hf⟩ := job hf
      refine g_aald (pc := 67) dX1_set_67 hr2.2.1 ew12 ?_
      refine g_iload (pc := 68) dX1_set_68 rfl ?_
      refine g_iconst (pc := 70) 1 dX1_set_70 rfl ?_
      refine g_isub (pc := 71) dX1_set_71 ?_
      obtain ⟨v13, ev13, hf⟩ := job hf
      refine g_iald (pc := 72) dX1_set_72 (jrw_sh hr2.2.2.1 ew12) ev13 ?_
      refine g_iload_n (pc := 73) dX1_set_73 rfl rfl ?_
      obtain ⟨M14, eM14, hf⟩ := job hf
      refine g_iast (pc := 74) dX1_set_74 ho.2.2.2.2.2.2.1 eM14 ?_
      obtain rfl := Option.some.inj hf
      exact g_weakK (K10) ⟨rfl, ⟨rfl, ⟨rfl, ⟨rfl, trivial⟩⟩⟩⟩
def f_X1_work (N : Nat) (M : JMem) (o : Nat) (r2 : Nat) : Option (JMem × Int32) := (f_X1_clear M o).bind fun M1 => ((jLp (σ := Int32 × Int32 × JMem) (ρ := JMem) N (fun ((z8, z9, M10) : Int32 × Int32 × JMem) => (if (M10 1 2) ≤ z9 then some (Sum.inr M10) else (if z8 = 0 then some (Sum.inr M10) else ((jLp (σ := Int32 × Int32 × JMem) (ρ := Int32 × JMem) N (fun ((z18, z19, M20) : Int32 × Int32 × JMem) => (if (M20 1 1) ≤ z19 then some (Sum.inr (z18, M20)) else (f_X1_nextOfPiece M20 o z19).bind fun v23 => (((if v23 = ((-1)) then some ((z18, M20)) else (f_X1_isNextOnMachine M20 o r2 v23).bind fun v29 => (if v29 = 0 then some ((z18, M20)) else (f_X1_earliest N M20 o r2 v23).bind fun (M30, v31) => (f_X1_set M30 o r2 v23 v31).bind fun M32 => some ((1, M32)))) : Option (Int32 × JMem)).bind fun (u35, M36) => some (Sum.inl (u35, z19 + 1, M36))))) (0, 0, M10)).bind fun (t21, t22) => some (Sum.inl (t21, z9 + 1, t22)))))) (1, 0, M1)).bind fun t11 => (if (t11 o 6) = (t11 1 2) then some (t11, 1) else some (t11, 0)))
set_option maxHeartbeats 4000000 in
theorem c_X1_work {N : Nat} {M : JMem} {o : Nat} {r2 : Nat} {Mz : JMem} {r : Int32} (ho : isX1 o) (hr2 : isX3 r2) (hf : f_X1_work N M o r2 = some (Mz, r)) : jCo yX1_work μ_X1_work 4 M [.ref o, .ref 1, .ref r2] Mz (some (.int r)) := by
  refine jCt_of (by decide +kernel) rfl (by simp [Value.category]) (Nat.le_of_ble_eq_true rfl) ?_
  unfold f_X1_work at hf
  show jGG μ_X1_work 4 0 [some (.ref o), some (.ref 1), some (.ref r2), none, none, none, none] [] M (fun M' r' => M' = Mz ∧ r' = some (.int r))
  refine g_aload_n (pc := 0) dX1_work_0 rfl rfl ?_
  obtain ⟨M1, eM1, hf⟩ := job hf
  refine g_callV (pc := 1) [] [] dX1_work_1 ml_X1_52 ck_X1_clear cv_X1_clear ho.1 rfl (by decide) (Nat.le_of_ble_eq_true rfl) (c_X1_clear ho eM1) ?_
  show jGG μ_X1_work 4 4 [some (.ref o), some (.ref 1), some (.ref r2), none, none, none, none] [] M1 (fun M' r' => M' = Mz ∧ r' = some (.int r))
  refine g_iconst (pc := 4) 1 dX1_work_4 rfl ?_
  refine g_istore_n (pc := 5) (lv' := [some (.ref o), some (.ref 1), some (.ref r2), some (.int 1), none, none, none]) dX1_work_5 rfl (by decide) rfl ?_
  refine g_iconst (pc := 6) 0 dX1_work_6 rfl ?_
  refine g_istore (pc := 7) (lv' := [some (.ref o), some (.ref 1), some (.ref r2), some (.int 1), some (.int 0), none, none]) dX1_work_7 (by decide) rfl ?_
  obtain ⟨t11, y3, hy2⟩ := job hf
  have K4 : jGG μ_X1_work 4 92 [some (.ref o), some (.ref 1), none, none, none, none, none] [] t11 (fun M' r' => M' = Mz ∧ r' = some (.int r)) := by
    replace hf := hy2
    refine g_aload_n (pc := 92) dX1_work_92 rfl rfl ?_
    refine g_getI (pc := 93) dX1_work_93 fl_X1_45 ho.1 rfl ?_
    refine g_aload_n (pc := 96) dX1_work_96 rfl rfl ?_
    refine g_getI (pc := 97) dX1_work_97 fl_X1_55 sh_1 rfl ?_
    refine g_icmp_ne (pc := 100) 107 dX1_work_100 rfl (fun hc40 => ?_) (fun hc40 => ?_)
    · replace hf := jifn hc40 hf
      refine g_iconst (pc := 107) 0 dX1_work_107 rfl ?_
      obtain ⟨rfl, rfl⟩ := Prod.mk.inj (Option.some.inj hf)
      exact g_zret (pc := 108) dX1_work_108 rfl (Or.inl rfl) ⟨rfl, rfl⟩
    · replace hf := jifp hc40 hf
      refine g_iconst (pc := 103) 1 dX1_work_103 rfl ?_
      refine g_goto (pc := 104) 108 dX1_work_104 rfl ?_
      obtain ⟨rfl, rfl⟩ := Prod.mk.inj (Option.some.inj hf)
      exact g_zret (pc := 108) dX1_work_108 rfl (Or.inr rfl) ⟨rfl, rfl⟩
  refine g_weak (lv' := [some (.ref o), some (.ref 1), some (.ref r2), some (.int 1), some (.int 0), none, none]) ⟨rfl, ⟨rfl, ⟨rfl, ⟨rfl, ⟨rfl, trivial⟩⟩⟩⟩⟩ ?_
  refine jLp_ind (P := fun ((z8, z9, M10) : Int32 × Int32 × JMem) => jGG μ_X1_work 4 9 [some (.ref o), some (.ref 1), some (.ref r2), some (.int z8), some (.int z9), none, none] [] M10 (fun M' r' => M' = Mz ∧ r' = some (.int r))) ?_ N _ y3
  rintro ⟨z8, z9, M10⟩ x_7 hf ih6 hx5
  show jGG μ_X1_work 4 9 [some (.ref o), some (.ref 1), some (.ref r2), some (.int z8), some (.int z9), none, none] [] M10 (fun M' r' => M' = Mz ∧ r' = some (.int r))
  refine g_iload (pc := 9) dX1_work_9 rfl ?_
  refine g_aload_n (pc := 11) dX1_work_11 rfl rfl ?_
  refine g_getI (pc := 12) dX1_work_12 fl_X1_55 sh_1 rfl ?_
  refine g_icmp_ge (pc := 15) 92 dX1_work_15 rfl (fun hc39 => ?_) (fun hc39 => ?_)
  · replace hf := jifp hc39 hf
    have hf := hx5 _ (Option.some.inj hf).symm
    obtain rfl := hf
    exact g_weakK K4 ⟨rfl, ⟨rfl, trivial⟩⟩
  · replace hf := jifn hc39 hf
    refine g_iload_n (pc := 18) dX1_work_18 rfl rfl ?_
    refine g_if_eq (pc := 19) 92 dX1_work_19 rfl (fun hc38 => ?_) (fun hc38 => ?_)
    · replace hf := jifp hc38 hf
      have hf := hx5 _ (Option.some.inj hf).symm
      obtain rfl := hf
      exact g_weakK K4 ⟨rfl, ⟨rfl, trivial⟩⟩
    · replace hf := jifn hc38 hf
      refine g_iconst (pc := 22) 0 dX1_work_22 rfl ?_
      refine g_istore_n (pc := 23) (lv' := [some (.ref o), some (.ref 1), some (.ref r2), some (.int 0), some (.int z9), none, none]) dX1_work_23 rfl (by decide) rfl ?_
      refine g_iconst (pc := 24) 0 dX1_work_24 rfl ?_
      refine g_istore (pc := 25) (lv' := [some (.ref o), some (.ref 1), some (.ref r2), some (.int 0), some (.int z9), some (.int 0), none]) dX1_work_25 (by decide) rfl ?_
      obtain ⟨⟨t21, t22⟩, y13, hy12⟩ := job hf
      have K14 : jGG μ_X1_work 4 86 [some (.ref o), some (.ref 1), some (.ref r2), some (.int t21), some (.int z9), none, none] [] t22 (fun M' r' => M' = Mz ∧ r' = some (.int r)) := by
        replace hf := hy12
        refine g_iinc (pc := 86) (lv' := [some (.ref o), some (.ref 1), some (.ref r2), some (.int t21), some (.int (z9 + 1)), none, none]) (z9 + 1) dX1_work_86 rfl rfl (by decide) rfl ?_
        refine g_goto (pc := 89) 9 dX1_work_89 rfl ?_
        have hih : jGG μ_X1_work 4 9 [some (.ref o), some (.ref 1), some (.ref r2), some (.int t21), some (.int (z9 + 1)), none, none] [] t22 (fun M' r' => M' = Mz ∧ r' = some (.int r)) := ih6 (t21, z9 + 1, t22) (Option.some.inj hf).symm
        exact g_weakK hih ⟨rfl, ⟨rfl, ⟨rfl, ⟨rfl, ⟨rfl, trivial⟩⟩⟩⟩⟩
      refine g_weak (lv' := [some (.ref o), some (.ref 1), some (.ref r2), some (.int 0), some (.int z9), some (.int 0), none]) ⟨rfl, ⟨rfl, ⟨rfl, ⟨rfl, ⟨rfl, ⟨rfl, trivial⟩⟩⟩⟩⟩⟩ ?_
      refine jLp_ind (P := fun ((z18, z19, M20) : Int32 × Int32 × JMem) => jGG μ_X1_work 4 27 [some (.ref o), some (.ref 1), some (.ref r2), some (.int z18), some (.int z9), some (.int z19), none] [] M20 (fun M' r' => M' = Mz ∧ r' = some (.int r))) ?_ N _ y13
      rintro ⟨z18, z19, M20⟩ x_17 hf ih16 hx15
      show jGG μ_X1_work 4 27 [some (.ref o), some (.ref 1), some (.ref r2), some (.int z18), some (.int z9), some (.int z19), none] [] M20 (fun M' r' => M' = Mz ∧ r' = some (.int r))
      refine g_iload (pc := 27) dX1_work_27 rfl ?_
      refine g_aload_n (pc := 29) dX1_work_29 rfl rfl ?_
      refine g_getI (pc := 30) dX1_work_30 fl_X1_60 sh_1 rfl ?_
      refine g_icmp_ge (pc := 33) 86 dX1_work_33 rfl (fun hc37 => ?_) (fun hc37 => ?_)
      · replace hf := jifp hc37 hf
        have hf := hx15 _ (Option.some.inj hf).symm
        obtain ⟨rfl, rfl⟩ := jp2 hf
        exact g_weakK K14 ⟨rfl, ⟨rfl, ⟨rfl, ⟨rfl, ⟨rfl, trivial⟩⟩⟩⟩⟩
      · replace hf := jifn hc37 hf
        refine g_aload_n (pc := 36) dX1_work_36 rfl rfl ?_
        refine g_aload_n (pc := 37) dX1_work_37 rfl rfl ?_
        refine g_iload (pc := 38) dX1_work_38 rfl ?_
        obtain ⟨v23, ev23, hf⟩ := job hf
        refine g_callV (pc := 40) [.ref 1, .int z19] [] dX1_work_40 ml_X1_63 ck_X1_nextOfPiece cv_X1_nextOfPiece ho.1 rfl (by decide) (Nat.le_of_ble_eq_true rfl) (c_X1_nextOfPiece ho ev23) ?_
        show jGG μ_X1_work 4 43 [some (.ref o), some (.ref 1), some (.ref r2), some (.int z18), some (.int z9), some (.int z19), none] [.int v23] M20 (fun M' r' => M' = Mz ∧ r' = some (.int r))
        refine g_istore (pc := 43) (lv' := [some (.ref o), some (.ref 1), some (.ref r2), some (.int z18), some (.int z9), some (.int z19), some (.int v23)]) dX1_work_43 (by decide) rfl ?_
        refine g_iload (pc := 45) dX1_work_45 rfl ?_
        refine g_iconst (pc := 47) (-1) dX1_work_47 rfl ?_
        obtain ⟨⟨u35, M36⟩, hf, hy25⟩ := job hf
        have K27 : jGG μ_X1_work 4 80 [some (.ref o), some (.ref 1), some (.ref r2), some (.int u35), some (.int z9), some (.int z19), none] [] M36 (fun M' r' => M' = Mz ∧ r' = some (.int r)) := by
          replace hf := hy25
          refine g_iinc (pc := 80) (lv' := [some (.ref o), some (.ref 1), some (.ref r2), some (.int u35), some (.int z9), some (.int (z19 + 1)), none]) (z19 + 1) dX1_work_80 rfl rfl (by decide) rfl ?_
          refine g_goto (pc := 83) 27 dX1_work_83 rfl ?_
          have hih : jGG μ_X1_work 4 27 [some (.ref o), some (.ref 1), some (.ref r2), some (.int u35), some (.int z9), some (.int (z19 + 1)), none] [] M36 (fun M' r' => M' = Mz ∧ r' = some (.int r)) := ih16 (u35, z19 + 1, M36) (Option.some.inj hf).symm
          exact g_weakK hih ⟨rfl, ⟨rfl, ⟨rfl, ⟨rfl, ⟨rfl, ⟨rfl, trivial⟩⟩⟩⟩⟩⟩
        refine g_icmp_eq (pc := 48) 80 dX1_work_48 rfl (fun hc34 => ?_) (fun hc34 => ?_)
        · replace hf := jifp hc34 hf
          obtain ⟨rfl, rfl⟩ := jp2 (Option.some.inj hf)
          exact g_weakK (K27) ⟨rfl, ⟨rfl, ⟨rfl, ⟨rfl, ⟨rfl, ⟨rfl, trivial⟩⟩⟩⟩⟩⟩
        · replace hf := jifn hc34 hf
          refine g_aload_n (pc := 51) dX1_work_51 rfl rfl ?_
          refine g_aload_n (pc := 52) dX1_work_52 rfl rfl ?_
          refine g_aload_n (pc := 53) dX1_work_53 rfl rfl ?_
          refine g_iload (pc := 54) dX1_work_54 rfl ?_
          obtain ⟨v29, ev29, hf⟩ := job hf
          refine g_callV (pc := 56) [.ref 1, .ref r2, .int v23] [] dX1_work_56 ml_X1_67 ck_X1_isNextOnMachine cv_X1_isNextOnMachine ho.1 rfl (by decide) (Nat.le_of_ble_eq_true rfl) (c_X1_isNextOnMachine ho hr2 ev29) ?_
          show jGG μ_X1_work 4 59 [some (.ref o), some (.ref 1), some (.ref r2), some (.int z18), some (.int z9), some (.int z19), some (.int v23)] [.int v29] M20 (fun M' r' => M' = Mz ∧ r' = some (.int r))
          refine g_if_eq (pc := 59) 80 dX1_work_59 rfl (fun hc33 => ?_) (fun hc33 => ?_)
          · replace hf := jifp hc33 hf
            obtain ⟨rfl, rfl⟩ := jp2 (Option.some.inj hf)
            exact g_weakK (K27) ⟨rfl, ⟨rfl, ⟨rfl, ⟨rfl, ⟨rfl, ⟨rfl, trivial⟩⟩⟩⟩⟩⟩
          · replace hf := jifn hc33 hf
            refine g_aload_n (pc := 62) dX1_work_62 rfl rfl ?_
            refine g_aload_n (pc := 63) dX1_work_63 rfl rfl ?_
            refine g_aload_n (pc := 64) dX1_work_64 rfl rfl ?_
            refine g_iload (pc := 65) dX1_work_65 rfl ?_
            refine g_aload_n (pc := 67) dX1_work_67 rfl rfl ?_
            refine g_aload_n (pc := 68) dX1_work_68 rfl rfl ?_
            refine g_aload_n (pc := 69) dX1_work_69 rfl rfl ?_
            refine g_iload (pc := 70) dX1_work_70 rfl ?_
            obtain ⟨⟨M30, v31⟩, ev31, hf⟩ := job hf
            refine g_callV (pc := 72) [.ref 1, .ref r2, .int v23] [.int v23, .ref r2, .ref 1, .ref o] dX1_work_72 ml_X1_71 ck_X1_earliest cv_X1_earliest ho.1 rfl (by decide) (Nat.le_of_ble_eq_true rfl) (c_X1_earliest ho hr2 ev31) ?_
            show jGG μ_X1_work 4 75 [some (.ref o), some (.ref 1), some (.ref r2), some (.int z18), some (.int z9), some (.int z19), some (.int v23)] [.int v31, .int v23, .ref r2, .ref 1, .ref o] M30 (fun M' r' => M' = Mz ∧ r' = some (.int r))
            obtain ⟨M32, eM32, hf⟩ := job hf
            refine g_callV (pc := 75) [.ref 1, .ref r2, .int v23, .int v31] [] dX1_work_75 ml_X1_75 ck_X1_set cv_X1_set ho.1 rfl (by decide) (Nat.le_of_ble_eq_true rfl) (c_X1_set ho hr2 eM32) ?_
            show jGG μ_X1_work 4 78 [some (.ref o), some (.ref 1), some (.ref r2), some (.int z18), some (.int z9), some (.int z19), some (.int v23)] [] M32 (fun M' r' => M' = Mz ∧ r' = some (.int r))
            refine g_iconst (pc := 78) 1 dX1_work_78 rfl ?_
            refine g_istore_n (pc := 79) (lv' := [some (.ref o), some (.ref 1), some (.ref r2), some (.int 1), some (.int z9), some (.int z19), some (.int v23)]) dX1_work_79 rfl (by decide) rfl ?_
            obtain ⟨rfl, rfl⟩ := jp2 (Option.some.inj hf)
            exact g_weakK (K27) ⟨rfl, ⟨rfl, ⟨rfl, ⟨rfl, ⟨rfl, ⟨rfl, trivial⟩⟩⟩⟩⟩⟩
def f_X1_lengthFrom (M : JMem) (o : Nat) (x2 : Int32) : Option (Int32) := (if x2 = ((-1)) then some 0 else (jrd M 21 32 x2).bind fun v1 => (jrd M (o + 2) 32 x2).bind fun v2 => some (v1 + v2))
set_option maxHeartbeats 4000000 in
theorem c_X1_lengthFrom {M : JMem} {o : Nat} {x2 : Int32} {r : Int32} (ho : isX1 o) (hf : f_X1_lengthFrom M o x2 = some r) : jCo yX1_lengthFrom μ_X1_lengthFrom 1 M [.ref o, .ref 1, .int x2] M (some (.int r)) := by
  refine jCt_of (by decide +kernel) rfl (by simp [Value.category]) (Nat.le_of_ble_eq_true rfl) ?_
  unfold f_X1_lengthFrom at hf
  show jGG μ_X1_lengthFrom 1 0 [some (.ref o), some (.ref 1), some (.int x2)] [] M (fun M' r' => M' = M ∧ r' = some (.int r))
  refine g_iload_n (pc := 0) dX1_lengthFrom_0 rfl rfl ?_
  refine g_iconst (pc := 1) (-1) dX1_lengthFrom_1 rfl ?_
  refine g_icmp_ne (pc := 2) 9 dX1_lengthFrom_2 rfl (fun hc3 => ?_) (fun hc3 => ?_)
  · replace hf := jifn hc3 hf
    refine g_aload_n (pc := 9) dX1_lengthFrom_9 rfl rfl ?_
    refine g_getR (pc := 10) dX1_lengthFrom_10 fl_X1_135 sh_1 rfl ?_
    refine g_iload_n (pc := 13) dX1_lengthFrom_13 rfl rfl ?_
    obtain ⟨v1, ev1, hf⟩ := job hf
    refine g_iald (pc := 14) dX1_lengthFrom_14 sh_21 ev1 ?_
    refine g_aload_n (pc := 15) dX1_lengthFrom_15 rfl rfl ?_
    refine g_getR (pc := 16) dX1_lengthFrom_16 fl_X1_15 ho.1 rfl ?_
    refine g_iload_n (pc := 19) dX1_lengthFrom_19 rfl rfl ?_
    obtain ⟨v2, ev2, hf⟩ := job hf
    refine g_iald (pc := 20) dX1_lengthFrom_20 ho.2.2.1 ev2 ?_
    refine g_iadd (pc := 21) dX1_lengthFrom_21 ?_
    obtain rfl := Option.some.inj hf
    exact g_iret (pc := 22) dX1_lengthFrom_22 rfl ⟨rfl, rfl⟩
  · replace hf := jifp hc3 hf
    refine g_iconst (pc := 5) 0 dX1_lengthFrom_5 rfl ?_
    refine g_goto (pc := 6) 22 dX1_lengthFrom_6 rfl ?_
    obtain rfl := Option.some.inj hf
    exact g_iret (pc := 22) dX1_lengthFrom_22 rfl ⟨rfl, rfl⟩
def f_X1_findTails (N : Nat) (M : JMem) (o : Nat) : Option (JMem) := ((jLp (σ := Int32 × JMem) (ρ := JMem) N (fun ((z7, M8) : Int32 × JMem) => (if z7 < 0 then some (Sum.inr M8) else (jrd M8 (o + 5) 32 z7).bind fun v10 => (f_X2_behindInPiece M8 v10).bind fun v11 => (f_X1_lengthFrom M8 o v11).bind fun v12 => (jrd M8 (o + 6) 32 v10).bind fun v13 => (f_X1_lengthFrom M8 o v13).bind fun v14 => (jwr M8 (o + 2) 32 v10 (jmax v12 v14)).bind fun M15 => some (Sum.inl (z7 + (-1), M15)))) ((M o 6) - 1, M)).bind fun t9 => some t9)
set_option maxHeartbeats 4000000 in
theorem c_X1_findTails {N : Nat} {M : JMem} {o : Nat} {Mz : JMem} (ho : isX1 o) (hf : f_X1_findTails N M o = some Mz) : jCo yX1_findTails μ_X1_findTails 2 M [.ref o, .ref 1] Mz none := by
  refine jCt_of (by decide +kernel) rfl (by simp [Value.category]) (Nat.le_of_ble_eq_true rfl) ?_
  unfold f_X1_findTails at hf
  show jGG μ_X1_findTails 2 0 [some (.ref o), some (.ref 1), none, none, none, none] [] M (fun M' r' => M' = Mz ∧ r' = none)
  refine g_aload_n (pc := 0) dX1_findTails_0 rfl rfl ?_
  refine g_getI (pc := 1) dX1_findTails_1 fl_X1_45 ho.1 rfl ?_
  refine g_iconst (pc := 4) 1 dX1_findTails_4 rfl ?_
  refine g_isub (pc := 5) dX1_findTails_5 ?_
  refine g_istore_n (pc := 6) (lv' := [some (.ref o), some (.ref 1), some (.int ((M o 6) - 1)), none, none, none]) dX1_findTails_6 rfl (by decide) rfl ?_
  obtain ⟨t9, y2, hy1⟩ := job hf
  have K3 : jGG μ_X1_findTails 2 62 [none, none, none, none, none, none] [] t9 (fun M' r' => M' = Mz ∧ r' = none) := by
    replace hf := hy1
    obtain rfl := Option.some.inj hf
    exact g_vret (pc := 62) dX1_findTails_62 rfl ⟨rfl, rfl⟩
  refine g_weak (lv' := [some (.ref o), some (.ref 1), some (.int ((M o 6) - 1)), none, none, none]) ⟨rfl, ⟨rfl, ⟨rfl, trivial⟩⟩⟩ ?_
  refine jLp_ind (P := fun ((z7, M8) : Int32 × JMem) => jGG μ_X1_findTails 2 7 [some (.ref o), some (.ref 1), some (.int z7), none, none, none] [] M8 (fun M' r' => M' = Mz ∧ r' = none)) ?_ N _ y2
  rintro ⟨z7, M8⟩ x_6 hf ih5 hx4
  show jGG μ_X1_findTails 2 7 [some (.ref o), some (.ref 1), some (.int z7), none, none, none] [] M8 (fun M' r' => M' = Mz ∧ r' = none)
  refine g_iload_n (pc := 7) dX1_findTails_7 rfl rfl ?_
  refine g_if_lt (pc := 8) 62 dX1_findTails_8 rfl (fun hc16 => ?_) (fun hc16 => ?_)
  · replace hf := jifp hc16 hf
    have hf := hx4 _ (Option.some.inj hf).symm
    obtain rfl := hf
    exact g_weakK K3 trivial
  · replace hf := jifn hc16 hf
    refine g_aload_n (pc := 11) dX1_findTails_11 rfl rfl ?_
    refine g_getR (pc := 12) dX1_findTails_12 fl_X1_24 ho.1 rfl ?_
    refine g_iload_n (pc := 15) dX1_findTails_15 rfl rfl ?_
    obtain ⟨v10, ev10, hf⟩ := job hf
    refine g_iald (pc := 16) dX1_findTails_16 ho.2.2.2.2.2.1 ev10 ?_
    refine g_istore_n (pc := 17) (lv' := [some (.ref o), some (.ref 1), some (.int z7), some (.int v10), none, none]) dX1_findTails_17 rfl (by decide) rfl ?_
    refine g_aload_n (pc := 18) dX1_findTails_18 rfl rfl ?_
    refine g_aload_n (pc := 19) dX1_findTails_19 rfl rfl ?_
    refine g_aload_n (pc := 20) dX1_findTails_20 rfl rfl ?_
    refine g_iload_n (pc := 21) dX1_findTails_21 rfl rfl ?_
    obtain ⟨v11, ev11, hf⟩ := job hf
    refine g_callV (pc := 22) [.int v10] [.ref 1, .ref o] dX1_findTails_22 ml_X1_138 ck_X2_behindInPiece cv_X2_behindInPiece sh_1 rfl (by decide) (Nat.le_of_ble_eq_true rfl) (c_X2_behindInPiece ev11) ?_
    show jGG μ_X1_findTails 2 25 [some (.ref o), some (.ref 1), some (.int z7), some (.int v10), none, none] [.int v11, .ref 1, .ref o] M8 (fun M' r' => M' = Mz ∧ r' = none)
    obtain ⟨v12, ev12, hf⟩ := job hf
    refine g_callV (pc := 25) [.ref 1, .int v11] [] dX1_findTails_25 ml_X1_142 ck_X1_lengthFrom cv_X1_lengthFrom ho.1 rfl (by decide) (Nat.le_of_ble_eq_true rfl) (c_X1_lengthFrom ho ev12) ?_
    show jGG μ_X1_findTails 2 28 [some (.ref o), some (.ref 1), some (.int z7), some (.int v10), none, none] [.int v12] M8 (fun M' r' => M' = Mz ∧ r' = none)
    refine g_istore (pc := 28) (lv' := [some (.ref o), some (.ref 1), some (.int z7), some (.int v10), some (.int v12), none]) dX1_findTails_28 (by decide) rfl ?_
    refine g_aload_n (pc := 30) dX1_findTails_30 rfl rfl ?_
    refine g_aload_n (pc := 31) dX1_findTails_31 rfl rfl ?_
    refine g_aload_n (pc := 32) dX1_findTails_32 rfl rfl ?_
    refine g_getR (pc := 33) dX1_findTails_33 fl_X1_27 ho.1 rfl ?_
    refine g_iload_n (pc := 36) dX1_findTails_36 rfl rfl ?_
    obtain ⟨v13, ev13, hf⟩ := job hf
    refine g_iald (pc := 37) dX1_findTails_37 ho.2.2.2.2.2.2.1 ev13 ?_
    obtain ⟨v14, ev14, hf⟩ := job hf
    refine g_callV (pc := 38) [.ref 1, .int v13] [] dX1_findTails_38 ml_X1_142 ck_X1_lengthFrom cv_X1_lengthFrom ho.1 rfl (by decide) (Nat.le_of_ble_eq_true rfl) (c_X1_lengthFrom ho ev14) ?_
    show jGG μ_X1_findTails 2 41 [some (.ref o), some (.ref 1), some (.int z7), some (.int v10), some (.int v12), none] [.int v14] M8 (fun M' r' => M' = Mz ∧ r' = none)
    refine g_istore (pc := 41) (lv' := [some (.ref o), some (.ref 1), some (.int z7), some (.int v10), some (.int v12), some (.int v14)]) dX1_findTails_41 (by decide) rfl ?_
    refine g_aload_n (pc := 43) dX1_findTails_43 rfl rfl ?_
    refine g_getR (pc := 44) dX1_findTails_44 fl_X1_15 ho.1 rfl ?_
    refine g_iload_n (pc := 47) dX1_findTails_47 rfl rfl ?_
    refine g_iload (pc := 48) dX1_findTails_48 rfl ?_
    refine g_iload (pc := 50) dX1_findTails_50 rfl ?_
    refine g_max (pc := 52) [.int v10, .ref (o + 2)] dX1_findTails_52 ml_X1_103 (by omega) (Nat.le_of_ble_eq_true rfl) ?_
    obtain ⟨M15, eM15, hf⟩ := job hf
    refine g_iast (pc := 55) dX1_findTails_55 ho.2.2.1 eM15 ?_
    refine g_iinc (pc := 56) (lv' := [some (.ref o), some (.ref 1), some (.int (z7 + (-1))), some (.int v10), some (.int v12), some (.int v14)]) (z7 + (-1)) dX1_findTails_56 rfl rfl (by decide) rfl ?_
    refine g_goto (pc := 59) 7 dX1_findTails_59 rfl ?_
    have hih : jGG μ_X1_findTails 2 7 [some (.ref o), some (.ref 1), some (.int (z7 + (-1))), none, none, none] [] M15 (fun M' r' => M' = Mz ∧ r' = none) := ih5 (z7 + (-1), M15) (Option.some.inj hf).symm
    exact g_weakK hih ⟨rfl, ⟨rfl, ⟨rfl, trivial⟩⟩⟩
def f_X1_slack (M : JMem) (o : Nat) (x2 : Int32) : Option (Int32) := (f_X1_endOf M o x2).bind fun v1 => (jrd M (o + 2) 32 x2).bind fun v2 => some (((M o 4) - v1) - v2)
set_option maxHeartbeats 4000000 in
theorem c_X1_slack {M : JMem} {o : Nat} {x2 : Int32} {r : Int32} (ho : isX1 o) (hf : f_X1_slack M o x2 = some r) : jCo yX1_slack μ_X1_slack 2 M [.ref o, .ref 1, .int x2] M (some (.int r)) := by
  refine jCt_of (by decide +kernel) rfl (by simp [Value.category]) (Nat.le_of_ble_eq_true rfl) ?_
  unfold f_X1_slack at hf
  show jGG μ_X1_slack 2 0 [some (.ref o), some (.ref 1), some (.int x2)] [] M (fun M' r' => M' = M ∧ r' = some (.int r))
  refine g_aload_n (pc := 0) dX1_slack_0 rfl rfl ?_
  refine g_getI (pc := 1) dX1_slack_1 fl_X1_49 ho.1 rfl ?_
  refine g_aload_n (pc := 4) dX1_slack_4 rfl rfl ?_
  refine g_aload_n (pc := 5) dX1_slack_5 rfl rfl ?_
  refine g_iload_n (pc := 6) dX1_slack_6 rfl rfl ?_
  obtain ⟨v1, ev1, hf⟩ := job hf
  refine g_callV (pc := 7) [.ref 1, .int x2] [.int (M o 4)] dX1_slack_7 ml_X1_112 ck_X1_endOf cv_X1_endOf ho.1 rfl (by decide) (Nat.le_of_ble_eq_true rfl) (c_X1_endOf ho ev1) ?_
  show jGG μ_X1_slack 2 10 [some (.ref o), some (.ref 1), some (.int x2)] [.int v1, .int (M o 4)] M (fun M' r' => M' = M ∧ r' = some (.int r))
  refine g_isub (pc := 10) dX1_slack_10 ?_
  refine g_aload_n (pc := 11) dX1_slack_11 rfl rfl ?_
  refine g_getR (pc := 12) dX1_slack_12 fl_X1_15 ho.1 rfl ?_
  refine g_iload_n (pc := 15) dX1_slack_15 rfl rfl ?_
  obtain ⟨v2, ev2, hf⟩ := job hf
  refine g_iald (pc := 16) dX1_slack_16 ho.2.2.1 ev2 ?_
  refine g_isub (pc := 17) dX1_slack_17 ?_
  obtain rfl := Option.some.inj hf
  exact g_iret (pc := 18) dX1_slack_18 rfl ⟨rfl, rfl⟩
def f_X1_firstOfRow (N : Nat) (M : JMem) (o : Nat) : Option (Int32) := (jcase (α := Int32) (β := Unit) (jLp (σ := Int32) (ρ := (Int32) ⊕ (Unit)) N (fun (z7 : Int32) => (if (M 1 2) ≤ z7 then some (Sum.inr (Sum.inr ())) else (jrd M (o + 1) 32 z7).bind fun v8 => (jcase (α := (Int32) ⊕ ((Int32) ⊕ (Unit))) (β := Unit) (if v8 = 0 then (f_X1_slack M o z7).bind fun v14 => (if v14 = 0 then some (Sum.inl (Sum.inr (Sum.inl z7))) else some (Sum.inr ())) else some (Sum.inr ())) fun _ => some (Sum.inl (z7 + 1))))) 0) fun _ => some (-1))
set_option maxHeartbeats 4000000 in
theorem c_X1_firstOfRow {N : Nat} {M : JMem} {o : Nat} {r : Int32} (ho : isX1 o) (hf : f_X1_firstOfRow N M o = some r) : jCo yX1_firstOfRow μ_X1_firstOfRow 3 M [.ref o, .ref 1] M (some (.int r)) := by
  refine jCt_of (by decide +kernel) rfl (by simp [Value.category]) (Nat.le_of_ble_eq_true rfl) ?_
  unfold f_X1_firstOfRow at hf
  show jGG μ_X1_firstOfRow 3 0 [some (.ref o), some (.ref 1), none] [] M (fun M' r' => M' = M ∧ r' = some (.int r))
  refine g_iconst (pc := 0) 0 dX1_firstOfRow_0 rfl ?_
  refine g_istore_n (pc := 1) (lv' := [some (.ref o), some (.ref 1), some (.int 0)]) dX1_firstOfRow_1 rfl (by decide) rfl ?_
  obtain ⟨y2, hr18, hy1⟩ := jcb hf
  have K3 : y2 = Sum.inr () → jGG μ_X1_firstOfRow 3 36 [none, none, none] [] M (fun M' r' => M' = M ∧ r' = some (.int r)) := by
    intro hyy
    subst hyy
    replace hf := hy1
    refine g_iconst (pc := 36) (-1) dX1_firstOfRow_36 rfl ?_
    obtain rfl := Option.some.inj hf
    exact g_iret (pc := 37) dX1_firstOfRow_37 rfl ⟨rfl, rfl⟩
  refine g_weak (lv' := [some (.ref o), some (.ref 1), some (.int 0)]) ⟨rfl, ⟨rfl, ⟨rfl, trivial⟩⟩⟩ ?_
  refine jLp_ind (P := fun (z7 : Int32) => jGG μ_X1_firstOfRow 3 2 [some (.ref o), some (.ref 1), some (.int z7)] [] M (fun M' r' => M' = M ∧ r' = some (.int r))) ?_ N _ hr18
  rintro z7 x_6 hf ih5 hx4
  show jGG μ_X1_firstOfRow 3 2 [some (.ref o), some (.ref 1), some (.int z7)] [] M (fun M' r' => M' = M ∧ r' = some (.int r))
  refine g_iload_n (pc := 2) dX1_firstOfRow_2 rfl rfl ?_
  refine g_aload_n (pc := 3) dX1_firstOfRow_3 rfl rfl ?_
  refine g_getI (pc := 4) dX1_firstOfRow_4 fl_X1_55 sh_1 rfl ?_
  refine g_icmp_ge (pc := 7) 36 dX1_firstOfRow_7 rfl (fun hc17 => ?_) (fun hc17 => ?_)
  · replace hf := jifp hc17 hf
    have hf := hx4 _ (Option.some.inj hf).symm
    exact g_weakK (K3 hf.symm) trivial
  · replace hf := jifn hc17 hf
    refine g_aload_n (pc := 10) dX1_firstOfRow_10 rfl rfl ?_
    refine g_getR (pc := 11) dX1_firstOfRow_11 fl_X1_9 ho.1 rfl ?_
    refine g_iload_n (pc := 14) dX1_firstOfRow_14 rfl rfl ?_
    obtain ⟨v8, ev8, hf⟩ := job hf
    refine g_iald (pc := 15) dX1_firstOfRow_15 ho.2.1 ev8 ?_
    obtain ⟨y11, hf, hy10⟩ := jcb hf
    have K12 : y11 = Sum.inr () → jGG μ_X1_firstOfRow 3 30 [some (.ref o), some (.ref 1), some (.int z7)] [] M (fun M' r' => M' = M ∧ r' = some (.int r)) := by
      intro hyy
      subst hyy
      replace hf := hy10
      refine g_iinc (pc := 30) (lv' := [some (.ref o), some (.ref 1), some (.int (z7 + 1))]) (z7 + 1) dX1_firstOfRow_30 rfl rfl (by decide) rfl ?_
      refine g_goto (pc := 33) 2 dX1_firstOfRow_33 rfl ?_
      have hih : jGG μ_X1_firstOfRow 3 2 [some (.ref o), some (.ref 1), some (.int (z7 + 1))] [] M (fun M' r' => M' = M ∧ r' = some (.int r)) := ih5 (z7 + 1) (Option.some.inj hf).symm
      exact g_weakK hih ⟨rfl, ⟨rfl, ⟨rfl, trivial⟩⟩⟩
    refine g_if_ne (pc := 16) 30 dX1_firstOfRow_16 rfl (fun hc16 => ?_) (fun hc16 => ?_)
    · replace hf := jifn hc16 hf
      exact g_weakK (K12 (Option.some.inj hf).symm) ⟨rfl, ⟨rfl, ⟨rfl, trivial⟩⟩⟩
    · replace hf := jifp hc16 hf
      refine g_aload_n (pc := 19) dX1_firstOfRow_19 rfl rfl ?_
      refine g_aload_n (pc := 20) dX1_firstOfRow_20 rfl rfl ?_
      refine g_iload_n (pc := 21) dX1_firstOfRow_21 rfl rfl ?_
      obtain ⟨v14, ev14, hf⟩ := job hf
      refine g_callV (pc := 22) [.ref 1, .int z7] [] dX1_firstOfRow_22 ml_X1_145 ck_X1_slack cv_X1_slack ho.1 rfl (by decide) (Nat.le_of_ble_eq_true rfl) (c_X1_slack ho ev14) ?_
      show jGG μ_X1_firstOfRow 3 25 [some (.ref o), some (.ref 1), some (.int z7)] [.int v14] M (fun M' r' => M' = M ∧ r' = some (.int r))
      refine g_if_ne (pc := 25) 30 dX1_firstOfRow_25 rfl (fun hc15 => ?_) (fun hc15 => ?_)
      · replace hf := jifn hc15 hf
        exact g_weakK (K12 (Option.some.inj hf).symm) ⟨rfl, ⟨rfl, ⟨rfl, trivial⟩⟩⟩
      · replace hf := jifp hc15 hf
        refine g_iload_n (pc := 28) dX1_firstOfRow_28 rfl rfl ?_
        obtain rfl := Option.some.inj hf
        replace hf := hy10
        have hf := hx4 _ (Option.some.inj hf).symm
        subst hf
        replace hf := hy1
        obtain rfl := Option.some.inj hf
        exact g_iret (pc := 29) dX1_firstOfRow_29 rfl ⟨rfl, rfl⟩
def f_X1_followsInRow (M : JMem) (o : Nat) (x2 : Int32) (x3 : Int32) : Option (Int32) := (if x3 = ((-1)) then some 0 else (jrd M (o + 1) 32 x3).bind fun v1 => (f_X1_endOf M o x2).bind fun v2 => (if v1 = v2 then (f_X1_slack M o x3).bind fun v3 => (if v3 = 0 then some 1 else some 0) else some 0))
set_option maxHeartbeats 4000000 in
theorem c_X1_followsInRow {M : JMem} {o : Nat} {x2 : Int32} {x3 : Int32} {r : Int32} (ho : isX1 o) (hf : f_X1_followsInRow M o x2 x3 = some r) : jCo yX1_followsInRow μ_X1_followsInRow 3 M [.ref o, .ref 1, .int x2, .int x3] M (some (.int r)) := by
  refine jCt_of (by decide +kernel) rfl (by simp [Value.category]) (Nat.le_of_ble_eq_true rfl) ?_
  unfold f_X1_followsInRow at hf
  show jGG μ_X1_followsInRow 3 0 [some (.ref o), some (.ref 1), some (.int x2), some (.int x3)] [] M (fun M' r' => M' = M ∧ r' = some (.int r))
  refine g_iload_n (pc := 0) dX1_followsInRow_0 rfl rfl ?_
  refine g_iconst (pc := 1) (-1) dX1_followsInRow_1 rfl ?_
  refine g_icmp_eq (pc := 2) 33 dX1_followsInRow_2 rfl (fun hc6 => ?_) (fun hc6 => ?_)
  · replace hf := jifp hc6 hf
    refine g_iconst (pc := 33) 0 dX1_followsInRow_33 rfl ?_
    obtain rfl := Option.some.inj hf
    exact g_zret (pc := 34) dX1_followsInRow_34 rfl (Or.inl rfl) ⟨rfl, rfl⟩
  · replace hf := jifn hc6 hf
    refine g_aload_n (pc := 5) dX1_followsInRow_5 rfl rfl ?_
    refine g_getR (pc := 6) dX1_followsInRow_6 fl_X1_9 ho.1 rfl ?_
    refine g_iload_n (pc := 9) dX1_followsInRow_9 rfl rfl ?_
    obtain ⟨v1, ev1, hf⟩ := job hf
    refine g_iald (pc := 10) dX1_followsInRow_10 ho.2.1 ev1 ?_
    refine g_aload_n (pc := 11) dX1_followsInRow_11 rfl rfl ?_
    refine g_aload_n (pc := 12) dX1_followsInRow_12 rfl rfl ?_
    refine g_iload_n (pc := 13) dX1_followsInRow_13 rfl rfl ?_
    obtain ⟨v2, ev2, hf⟩ := job hf
    refine g_callV (pc := 14) [.ref 1, .int x2] [.int v1] dX1_followsInRow_14 ml_X1_112 ck_X1_endOf cv_X1_endOf ho.1 rfl (by decide) (Nat.le_of_ble_eq_true rfl) (c_X1_endOf ho ev2) ?_
    show jGG μ_X1_followsInRow 3 17 [some (.ref o), some (.ref 1), some (.int x2), some (.int x3)] [.int v2, .int v1] M (fun M' r' => M' = M ∧ r' = some (.int r))
    refine g_icmp_ne (pc := 17) 33 dX1_followsInRow_17 rfl (fun hc5 => ?_) (fun hc5 => ?_)
    · replace hf := jifn hc5 hf
      refine g_iconst (pc := 33) 0 dX1_followsInRow_33 rfl ?_
      obtain rfl := Option.some.inj hf
      exact g_zret (pc := 34) dX1_followsInRow_34 rfl (Or.inl rfl) ⟨rfl, rfl⟩
    · replace hf := jifp hc5 hf
      refine g_aload_n (pc := 20) dX1_followsInRow_20 rfl rfl ?_
      refine g_aload_n (pc := 21) dX1_followsInRow_21 rfl rfl ?_
      refine g_iload_n (pc := 22) dX1_followsInRow_22 rfl rfl ?_
      obtain ⟨v3, ev3, hf⟩ := job hf
      refine g_callV (pc := 23) [.ref 1, .int x3] [] dX1_followsInRow_23 ml_X1_145 ck_X1_slack cv_X1_slack ho.1 rfl (by decide) (Nat.le_of_ble_eq_true rfl) (c_X1_slack ho ev3) ?_
      show jGG μ_X1_followsInRow 3 26 [some (.ref o), some (.ref 1), some (.int x2), some (.int x3)] [.int v3] M (fun M' r' => M' = M ∧ r' = some (.int r))
      refine g_if_ne (pc := 26) 33 dX1_followsInRow_26 rfl (fun hc4 => ?_) (fun hc4 => ?_)
      · replace hf := jifn hc4 hf
        refine g_iconst (pc := 33) 0 dX1_followsInRow_33 rfl ?_
        obtain rfl := Option.some.inj hf
        exact g_zret (pc := 34) dX1_followsInRow_34 rfl (Or.inl rfl) ⟨rfl, rfl⟩
      · replace hf := jifp hc4 hf
        refine g_iconst (pc := 29) 1 dX1_followsInRow_29 rfl ?_
        refine g_goto (pc := 30) 34 dX1_followsInRow_30 rfl ?_
        obtain rfl := Option.some.inj hf
        exact g_zret (pc := 34) dX1_followsInRow_34 rfl (Or.inr rfl) ⟨rfl, rfl⟩
def f_X1_nextOfRow (M : JMem) (o : Nat) (x2 : Int32) : Option (Int32) := (f_X2_behindInPiece M x2).bind fun v1 => (f_X1_followsInRow M o x2 v1).bind fun v2 => (if v2 = 0 then (jrd M (o + 6) 32 x2).bind fun v3 => (f_X1_followsInRow M o x2 v3).bind fun v4 => (if v4 = 0 then some (-1) else some v3) else some v1)
set_option maxHeartbeats 4000000 in
theorem c_X1_nextOfRow {M : JMem} {o : Nat} {x2 : Int32} {r : Int32} (ho : isX1 o) (hf : f_X1_nextOfRow M o x2 = some r) : jCo yX1_nextOfRow μ_X1_nextOfRow 4 M [.ref o, .ref 1, .int x2] M (some (.int r)) := by
  refine jCt_of (by decide +kernel) rfl (by simp [Value.category]) (Nat.le_of_ble_eq_true rfl) ?_
  unfold f_X1_nextOfRow at hf
  show jGG μ_X1_nextOfRow 4 0 [some (.ref o), some (.ref 1), some (.int x2), none, none] [] M (fun M' r' => M' = M ∧ r' = some (.int r))
  refine g_aload_n (pc := 0) dX1_nextOfRow_0 rfl rfl ?_
  refine g_iload_n (pc := 1) dX1_nextOfRow_1 rfl rfl ?_
  obtain ⟨v1, ev1, hf⟩ := job hf
  refine g_callV (pc := 2) [.int x2] [] dX1_nextOfRow_2 ml_X1_138 ck_X2_behindInPiece cv_X2_behindInPiece sh_1 rfl (by decide) (Nat.le_of_ble_eq_true rfl) (c_X2_behindInPiece ev1) ?_
  show jGG μ_X1_nextOfRow 4 5 [some (.ref o), some (.ref 1), some (.int x2), none, none] [.int v1] M (fun M' r' => M' = M ∧ r' = some (.int r))
  refine g_istore_n (pc := 5) (lv' := [some (.ref o), some (.ref 1), some (.int x2), some (.int v1), none]) dX1_nextOfRow_5 rfl (by decide) rfl ?_
  refine g_aload_n (pc := 6) dX1_nextOfRow_6 rfl rfl ?_
  refine g_aload_n (pc := 7) dX1_nextOfRow_7 rfl rfl ?_
  refine g_iload_n (pc := 8) dX1_nextOfRow_8 rfl rfl ?_
  refine g_iload_n (pc := 9) dX1_nextOfRow_9 rfl rfl ?_
  obtain ⟨v2, ev2, hf⟩ := job hf
  refine g_callV (pc := 10) [.ref 1, .int x2, .int v1] [] dX1_nextOfRow_10 ml_X1_148 ck_X1_followsInRow cv_X1_followsInRow ho.1 rfl (by decide) (Nat.le_of_ble_eq_true rfl) (c_X1_followsInRow ho ev2) ?_
  show jGG μ_X1_nextOfRow 4 13 [some (.ref o), some (.ref 1), some (.int x2), some (.int v1), none] [.int v2] M (fun M' r' => M' = M ∧ r' = some (.int r))
  refine g_if_eq (pc := 13) 18 dX1_nextOfRow_13 rfl (fun hc6 => ?_) (fun hc6 => ?_)
  · replace hf := jifp hc6 hf
    refine g_aload_n (pc := 18) dX1_nextOfRow_18 rfl rfl ?_
    refine g_getR (pc := 19) dX1_nextOfRow_19 fl_X1_27 ho.1 rfl ?_
    refine g_iload_n (pc := 22) dX1_nextOfRow_22 rfl rfl ?_
    obtain ⟨v3, ev3, hf⟩ := job hf
    refine g_iald (pc := 23) dX1_nextOfRow_23 ho.2.2.2.2.2.2.1 ev3 ?_
    refine g_istore (pc := 24) (lv' := [some (.ref o), some (.ref 1), some (.int x2), some (.int v1), some (.int v3)]) dX1_nextOfRow_24 (by decide) rfl ?_
    refine g_aload_n (pc := 26) dX1_nextOfRow_26 rfl rfl ?_
    refine g_aload_n (pc := 27) dX1_nextOfRow_27 rfl rfl ?_
    refine g_iload_n (pc := 28) dX1_nextOfRow_28 rfl rfl ?_
    refine g_iload (pc := 29) dX1_nextOfRow_29 rfl ?_
    obtain ⟨v4, ev4, hf⟩ := job hf
    refine g_callV (pc := 31) [.ref 1, .int x2, .int v3] [] dX1_nextOfRow_31 ml_X1_148 ck_X1_followsInRow cv_X1_followsInRow ho.1 rfl (by decide) (Nat.le_of_ble_eq_true rfl) (c_X1_followsInRow ho ev4) ?_
    show jGG μ_X1_nextOfRow 4 34 [some (.ref o), some (.ref 1), some (.int x2), some (.int v1), some (.int v3)] [.int v4] M (fun M' r' => M' = M ∧ r' = some (.int r))
    refine g_if_eq (pc := 34) 42 dX1_nextOfRow_34 rfl (fun hc5 => ?_) (fun hc5 => ?_)
    · replace hf := jifp hc5 hf
      refine g_iconst (pc := 42) (-1) dX1_nextOfRow_42 rfl ?_
      obtain rfl := Option.some.inj hf
      exact g_iret (pc := 43) dX1_nextOfRow_43 rfl ⟨rfl, rfl⟩
    · replace hf := jifn hc5 hf
      refine g_iload (pc := 37) dX1_nextOfRow_37 rfl ?_
      refine g_goto (pc := 39) 43 dX1_nextOfRow_39 rfl ?_
      obtain rfl := Option.some.inj hf
      exact g_iret (pc := 43) dX1_nextOfRow_43 rfl ⟨rfl, rfl⟩
  · replace hf := jifn hc6 hf
    refine g_iload_n (pc := 16) dX1_nextOfRow_16 rfl rfl ?_
    obtain rfl := Option.some.inj hf
    exact g_iret (pc := 17) dX1_nextOfRow_17 rfl ⟨rfl, rfl⟩
