def f_X0_takeJobs (N : Nat) (M : JMem) (x2 : Int32) : Option (JMem) := (jrd M 32 8 x2).bind fun v1 => (some (jup M 78 4 v1)).bind fun M2 => ((jLp (σ := Int32 × JMem) (ρ := JMem) N (fun ((z9, M10) : Int32 × JMem) => (if (M10 78 4) ≤ z9 then some (Sum.inr M10) else (jrw 23 8 x2).bind fun w12 => (jrd M10 w12 32 z9).bind fun v13 => (f_X2_spansAhead N M10 v13).bind fun v14 => (jwr M10 79 32 z9 v14).bind fun M15 => (f_X2_spansBehind N M15 v13).bind fun v16 => (jwr M15 80 32 z9 v16).bind fun M17 => (jrd M17 21 32 v13).bind fun v18 => (jwr M17 81 32 z9 v18).bind fun M19 => some (Sum.inl (z9 + 1, M19)))) (0, M2)).bind fun t11 => some t11)
set_option maxHeartbeats 4000000 in
theorem c_X0_takeJobs {N : Nat} {M : JMem} {x2 : Int32} {Mz : JMem} (hf : f_X0_takeJobs N M x2 = some Mz) : jCo yX0_takeJobs μ_X0_takeJobs 2 M [.ref 78, .ref 1, .int x2] Mz none := by
  refine jCt_of (by decide +kernel) rfl (by simp [Value.category]) (Nat.le_of_ble_eq_true rfl) ?_
  unfold f_X0_takeJobs at hf
  show jGG μ_X0_takeJobs 2 0 [some (.ref 78), some (.ref 1), some (.int x2), none, none] [] M (fun M' r' => M' = Mz ∧ r' = none)
  refine g_aload_n (pc := 0) dX0_takeJobs_0 rfl rfl ?_
  refine g_aload_n (pc := 1) dX0_takeJobs_1 rfl rfl ?_
  refine g_getR (pc := 2) dX0_takeJobs_2 fl_X0_24 sh_1 rfl ?_
  refine g_iload_n (pc := 5) dX0_takeJobs_5 rfl rfl ?_
  obtain ⟨v1, ev1, hf⟩ := job hf
  refine g_iald (pc := 6) dX0_takeJobs_6 sh_32 ev1 ?_
  refine g_putI (pc := 7) dX0_takeJobs_7 fp_X0_29 sh_78 rfl ?_
  obtain ⟨M2, eM2, hf⟩ := job hf
  rw [Option.some.inj eM2]
  refine g_iconst (pc := 10) 0 dX0_takeJobs_10 rfl ?_
  refine g_istore_n (pc := 11) (lv' := [some (.ref 78), some (.ref 1), some (.int x2), some (.int 0), none]) dX0_takeJobs_11 rfl (by decide) rfl ?_
  obtain ⟨t11, y4, hy3⟩ := job hf
  have K5 : jGG μ_X0_takeJobs 2 73 [none, none, none, none, none] [] t11 (fun M' r' => M' = Mz ∧ r' = none) := by
    replace hf := hy3
    obtain rfl := Option.some.inj hf
    exact g_vret (pc := 73) dX0_takeJobs_73 rfl ⟨rfl, rfl⟩
  refine g_weak (lv' := [some (.ref 78), some (.ref 1), some (.int x2), some (.int 0), none]) ⟨rfl, ⟨rfl, ⟨rfl, ⟨rfl, trivial⟩⟩⟩⟩ ?_
  refine jLp_ind (P := fun ((z9, M10) : Int32 × JMem) => jGG μ_X0_takeJobs 2 12 [some (.ref 78), some (.ref 1), some (.int x2), some (.int z9), none] [] M10 (fun M' r' => M' = Mz ∧ r' = none)) ?_ N _ y4
  rintro ⟨z9, M10⟩ x_8 hf ih7 hx6
  show jGG μ_X0_takeJobs 2 12 [some (.ref 78), some (.ref 1), some (.int x2), some (.int z9), none] [] M10 (fun M' r' => M' = Mz ∧ r' = none)
  refine g_iload_n (pc := 12) dX0_takeJobs_12 rfl rfl ?_
  refine g_aload_n (pc := 13) dX0_takeJobs_13 rfl rfl ?_
  refine g_getI (pc := 14) dX0_takeJobs_14 fl_X0_29 sh_78 rfl ?_
  refine g_icmp_ge (pc := 17) 73 dX0_takeJobs_17 rfl (fun hc20 => ?_) (fun hc20 => ?_)
  · replace hf := jifp hc20 hf
    have hf := hx6 _ (Option.some.inj hf).symm
    obtain rfl := hf
    exact g_weakK K5 trivial
  · replace hf := jifn hc20 hf
    refine g_aload_n (pc := 20) dX0_takeJobs_20 rfl rfl ?_
    refine g_getR (pc := 21) dX0_takeJobs_21 fl_X0_33 sh_1 rfl ?_
    refine g_iload_n (pc := 24) dX0_takeJobs_24 rfl rfl ?_
    obtain ⟨w12, ew12, hf⟩ := job hf
    refine g_aald (pc := 25) dX0_takeJobs_25 sh_23 ew12 ?_
    refine g_iload_n (pc := 26) dX0_takeJobs_26 rfl rfl ?_
    obtain ⟨v13, ev13, hf⟩ := job hf
    refine g_iald (pc := 27) dX0_takeJobs_27 (jrw_sh gr_23 ew12) ev13 ?_
    refine g_istore (pc := 28) (lv' := [some (.ref 78), some (.ref 1), some (.int x2), some (.int z9), some (.int v13)]) dX0_takeJobs_28 (by decide) rfl ?_
    refine g_aload_n (pc := 30) dX0_takeJobs_30 rfl rfl ?_
    refine g_getR (pc := 31) dX0_takeJobs_31 fl_X0_9 sh_78 rfl ?_
    refine g_iload_n (pc := 34) dX0_takeJobs_34 rfl rfl ?_
    refine g_aload_n (pc := 35) dX0_takeJobs_35 rfl rfl ?_
    refine g_iload (pc := 36) dX0_takeJobs_36 rfl ?_
    obtain ⟨v14, ev14, hf⟩ := job hf
    refine g_callV (pc := 38) [.int v13] [.int z9, .ref 79] dX0_takeJobs_38 ml_X0_37 ck_X2_spansAhead cv_X2_spansAhead sh_1 rfl (by decide) (Nat.le_of_ble_eq_true rfl) (c_X2_spansAhead ev14) ?_
    show jGG μ_X0_takeJobs 2 41 [some (.ref 78), some (.ref 1), some (.int x2), some (.int z9), some (.int v13)] [.int v14, .int z9, .ref 79] M10 (fun M' r' => M' = Mz ∧ r' = none)
    obtain ⟨M15, eM15, hf⟩ := job hf
    refine g_iast (pc := 41) dX0_takeJobs_41 sh_79 eM15 ?_
    refine g_aload_n (pc := 42) dX0_takeJobs_42 rfl rfl ?_
    refine g_getR (pc := 43) dX0_takeJobs_43 fl_X0_15 sh_78 rfl ?_
    refine g_iload_n (pc := 46) dX0_takeJobs_46 rfl rfl ?_
    refine g_aload_n (pc := 47) dX0_takeJobs_47 rfl rfl ?_
    refine g_iload (pc := 48) dX0_takeJobs_48 rfl ?_
    obtain ⟨v16, ev16, hf⟩ := job hf
    refine g_callV (pc := 50) [.int v13] [.int z9, .ref 80] dX0_takeJobs_50 ml_X0_41 ck_X2_spansBehind cv_X2_spansBehind sh_1 rfl (by decide) (Nat.le_of_ble_eq_true rfl) (c_X2_spansBehind ev16) ?_
    show jGG μ_X0_takeJobs 2 53 [some (.ref 78), some (.ref 1), some (.int x2), some (.int z9), some (.int v13)] [.int v16, .int z9, .ref 80] M15 (fun M' r' => M' = Mz ∧ r' = none)
    obtain ⟨M17, eM17, hf⟩ := job hf
    refine g_iast (pc := 53) dX0_takeJobs_53 sh_80 eM17 ?_
    refine g_aload_n (pc := 54) dX0_takeJobs_54 rfl rfl ?_
    refine g_getR (pc := 55) dX0_takeJobs_55 fl_X0_18 sh_78 rfl ?_
    refine g_iload_n (pc := 58) dX0_takeJobs_58 rfl rfl ?_
    refine g_aload_n (pc := 59) dX0_takeJobs_59 rfl rfl ?_
    refine g_getR (pc := 60) dX0_takeJobs_60 fl_X0_44 sh_1 rfl ?_
    refine g_iload (pc := 63) dX0_takeJobs_63 rfl ?_
    obtain ⟨v18, ev18, hf⟩ := job hf
    refine g_iald (pc := 65) dX0_takeJobs_65 sh_21 ev18 ?_
    obtain ⟨M19, eM19, hf⟩ := job hf
    refine g_iast (pc := 66) dX0_takeJobs_66 sh_81 eM19 ?_
    refine g_iinc (pc := 67) (lv' := [some (.ref 78), some (.ref 1), some (.int x2), some (.int (z9 + 1)), some (.int v13)]) (z9 + 1) dX0_takeJobs_67 rfl rfl (by decide) rfl ?_
    refine g_goto (pc := 70) 12 dX0_takeJobs_70 rfl ?_
    have hih : jGG μ_X0_takeJobs 2 12 [some (.ref 78), some (.ref 1), some (.int x2), some (.int (z9 + 1)), none] [] M19 (fun M' r' => M' = Mz ∧ r' = none) := ih7 (z9 + 1, M19) (Option.some.inj hf).symm
    exact g_weakK hih ⟨rfl, ⟨rfl, ⟨rfl, ⟨rfl, trivial⟩⟩⟩⟩
def f_X0_mostPressing (N : Nat) (M : JMem) (x1 : Int32) : Option (Int32) := ((jLp (σ := Int32 × Int32) (ρ := Int32) N (fun ((z7, z8) : Int32 × Int32) => (if (M 78 4) ≤ z8 then some (Sum.inr z7) else (jrd M 82 32 z8).bind fun v10 => (((jcase (α := Int32) (β := Unit) (if v10 ≤ 0 then some (Sum.inr ()) else (jrd M 79 32 z8).bind fun v21 => (if x1 < v21 then some (Sum.inr ()) else some (Sum.inl (1)))) fun _ => some (0)) : Option (Int32)).bind fun u24 => (((if u24 = 0 then some (z7) else (jcase (α := Int32) (β := Unit) (if z7 = ((-1)) then some (Sum.inr ()) else (jrd M 80 32 z8).bind fun v35 => (jrd M 80 32 z7).bind fun v36 => (if v35 ≤ v36 then some (Sum.inl (z7)) else some (Sum.inr ()))) fun _ => some (z8))) : Option (Int32)).bind fun u40 => some (Sum.inl (u40, z8 + 1)))))) ((-1), 0)).bind fun t9 => some t9)
set_option maxHeartbeats 4000000 in
theorem c_X0_mostPressing {N : Nat} {M : JMem} {x1 : Int32} {r : Int32} (hf : f_X0_mostPressing N M x1 = some r) : jCo yX0_mostPressing μ_X0_mostPressing 1 M [.ref 78, .int x1] M (some (.int r)) := by
  refine jCt_of (by decide +kernel) rfl (by simp [Value.category]) (Nat.le_of_ble_eq_true rfl) ?_
  unfold f_X0_mostPressing at hf
  show jGG μ_X0_mostPressing 1 0 [some (.ref 78), some (.int x1), none, none, none] [] M (fun M' r' => M' = M ∧ r' = some (.int r))
  refine g_iconst (pc := 0) (-1) dX0_mostPressing_0 rfl ?_
  refine g_istore_n (pc := 1) (lv' := [some (.ref 78), some (.int x1), some (.int ((-1))), none, none]) dX0_mostPressing_1 rfl (by decide) rfl ?_
  refine g_iconst (pc := 2) 0 dX0_mostPressing_2 rfl ?_
  refine g_istore_n (pc := 3) (lv' := [some (.ref 78), some (.int x1), some (.int ((-1))), some (.int 0), none]) dX0_mostPressing_3 rfl (by decide) rfl ?_
  obtain ⟨t9, y2, hy1⟩ := job hf
  have K3 : jGG μ_X0_mostPressing 1 71 [none, none, some (.int t9), none, none] [] M (fun M' r' => M' = M ∧ r' = some (.int r)) := by
    replace hf := hy1
    refine g_iload_n (pc := 71) dX0_mostPressing_71 rfl rfl ?_
    obtain rfl := Option.some.inj hf
    exact g_iret (pc := 72) dX0_mostPressing_72 rfl ⟨rfl, rfl⟩
  refine g_weak (lv' := [some (.ref 78), some (.int x1), some (.int ((-1))), some (.int 0), none]) ⟨rfl, ⟨rfl, ⟨rfl, ⟨rfl, trivial⟩⟩⟩⟩ ?_
  refine jLp_ind (P := fun ((z7, z8) : Int32 × Int32) => jGG μ_X0_mostPressing 1 4 [some (.ref 78), some (.int x1), some (.int z7), some (.int z8), none] [] M (fun M' r' => M' = M ∧ r' = some (.int r))) ?_ N _ y2
  rintro ⟨z7, z8⟩ x_6 hf ih5 hx4
  show jGG μ_X0_mostPressing 1 4 [some (.ref 78), some (.int x1), some (.int z7), some (.int z8), none] [] M (fun M' r' => M' = M ∧ r' = some (.int r))
  refine g_iload_n (pc := 4) dX0_mostPressing_4 rfl rfl ?_
  refine g_aload_n (pc := 5) dX0_mostPressing_5 rfl rfl ?_
  refine g_getI (pc := 6) dX0_mostPressing_6 fl_X0_29 sh_78 rfl ?_
  refine g_icmp_ge (pc := 9) 71 dX0_mostPressing_9 rfl (fun hc41 => ?_) (fun hc41 => ?_)
  · replace hf := jifp hc41 hf
    have hf := hx4 _ (Option.some.inj hf).symm
    obtain rfl := hf
    exact g_weakK K3 ⟨rfl, trivial⟩
  · replace hf := jifn hc41 hf
    refine g_aload_n (pc := 12) dX0_mostPressing_12 rfl rfl ?_
    refine g_getR (pc := 13) dX0_mostPressing_13 fl_X0_21 sh_78 rfl ?_
    refine g_iload_n (pc := 16) dX0_mostPressing_16 rfl rfl ?_
    obtain ⟨v10, ev10, hf⟩ := job hf
    refine g_iald (pc := 17) dX0_mostPressing_17 sh_82 ev10 ?_
    obtain ⟨u24, hf, hy12⟩ := job hf
    have K14 : (hbu24 : u24 = 0 ∨ u24 = 1) → jGG μ_X0_mostPressing 1 36 [some (.ref 78), some (.int x1), some (.int z7), some (.int z8), none] [.int u24] M (fun M' r' => M' = M ∧ r' = some (.int r)) := by
      intro hbu24
      replace hf := hy12
      refine g_istore (pc := 36) (lv' := [some (.ref 78), some (.int x1), some (.int z7), some (.int z8), some (.int u24)]) dX0_mostPressing_36 (by decide) rfl ?_
      refine g_iload (pc := 38) dX0_mostPressing_38 rfl ?_
      obtain ⟨u40, hf, hy26⟩ := job hf
      have K28 : jGG μ_X0_mostPressing 1 65 [some (.ref 78), some (.int x1), some (.int u40), some (.int z8), none] [] M (fun M' r' => M' = M ∧ r' = some (.int r)) := by
        replace hf := hy26
        refine g_iinc (pc := 65) (lv' := [some (.ref 78), some (.int x1), some (.int u40), some (.int (z8 + 1)), none]) (z8 + 1) dX0_mostPressing_65 rfl rfl (by decide) rfl ?_
        refine g_goto (pc := 68) 4 dX0_mostPressing_68 rfl ?_
        have hih : jGG μ_X0_mostPressing 1 4 [some (.ref 78), some (.int x1), some (.int u40), some (.int (z8 + 1)), none] [] M (fun M' r' => M' = M ∧ r' = some (.int r)) := ih5 (u40, z8 + 1) (Option.some.inj hf).symm
        exact g_weakK hih ⟨rfl, ⟨rfl, ⟨rfl, ⟨rfl, trivial⟩⟩⟩⟩
      refine g_if_eq (pc := 40) 65 dX0_mostPressing_40 rfl (fun hc39 => ?_) (fun hc39 => ?_)
      · replace hf := jifp hc39 hf
        obtain rfl := Option.some.inj hf
        exact g_weakK (K28) ⟨rfl, ⟨rfl, ⟨rfl, ⟨rfl, trivial⟩⟩⟩⟩
      · replace hf := jifn hc39 hf
        refine g_iload_n (pc := 43) dX0_mostPressing_43 rfl rfl ?_
        refine g_iconst (pc := 44) (-1) dX0_mostPressing_44 rfl ?_
        obtain ⟨y32, hf, hy31⟩ := jcb hf
        have K33 : y32 = Sum.inr () → jGG μ_X0_mostPressing 1 63 [some (.ref 78), some (.int x1), none, some (.int z8), none] [] M (fun M' r' => M' = M ∧ r' = some (.int r)) := by
          intro hyy
          subst hyy
          replace hf := hy31
          refine g_iload_n (pc := 63) dX0_mostPressing_63 rfl rfl ?_
          refine g_istore_n (pc := 64) (lv' := [some (.ref 78), some (.int x1), some (.int z8), some (.int z8), none]) dX0_mostPressing_64 rfl (by decide) rfl ?_
          obtain rfl := Option.some.inj hf
          exact g_weakK (K28) ⟨rfl, ⟨rfl, ⟨rfl, ⟨rfl, trivial⟩⟩⟩⟩
        refine g_icmp_eq (pc := 45) 63 dX0_mostPressing_45 rfl (fun hc38 => ?_) (fun hc38 => ?_)
        · replace hf := jifp hc38 hf
          exact g_weakK (K33 (Option.some.inj hf).symm) ⟨rfl, ⟨rfl, ⟨rfl, trivial⟩⟩⟩
        · replace hf := jifn hc38 hf
          refine g_aload_n (pc := 48) dX0_mostPressing_48 rfl rfl ?_
          refine g_getR (pc := 49) dX0_mostPressing_49 fl_X0_15 sh_78 rfl ?_
          refine g_iload_n (pc := 52) dX0_mostPressing_52 rfl rfl ?_
          obtain ⟨v35, ev35, hf⟩ := job hf
          refine g_iald (pc := 53) dX0_mostPressing_53 sh_80 ev35 ?_
          refine g_aload_n (pc := 54) dX0_mostPressing_54 rfl rfl ?_
          refine g_getR (pc := 55) dX0_mostPressing_55 fl_X0_15 sh_78 rfl ?_
          refine g_iload_n (pc := 58) dX0_mostPressing_58 rfl rfl ?_
          obtain ⟨v36, ev36, hf⟩ := job hf
          refine g_iald (pc := 59) dX0_mostPressing_59 sh_80 ev36 ?_
          refine g_icmp_le (pc := 60) 65 dX0_mostPressing_60 rfl (fun hc37 => ?_) (fun hc37 => ?_)
          · replace hf := jifp hc37 hf
            obtain rfl := Option.some.inj hf
            replace hf := hy31
            obtain rfl := Option.some.inj hf
            exact g_weakK (K28) ⟨rfl, ⟨rfl, ⟨rfl, ⟨rfl, trivial⟩⟩⟩⟩
          · replace hf := jifn hc37 hf
            exact g_weakK (K33 (Option.some.inj hf).symm) ⟨rfl, ⟨rfl, ⟨rfl, trivial⟩⟩⟩
    obtain ⟨y18, hf, hy17⟩ := jcb hf
    have K19 : y18 = Sum.inr () → jGG μ_X0_mostPressing 1 35 [some (.ref 78), some (.int x1), some (.int z7), some (.int z8), none] [] M (fun M' r' => M' = M ∧ r' = some (.int r)) := by
      intro hyy
      subst hyy
      replace hf := hy17
      refine g_iconst (pc := 35) 0 dX0_mostPressing_35 rfl ?_
      obtain rfl := Option.some.inj hf
      exact g_weakK (K14 (Or.inl rfl)) ⟨rfl, ⟨rfl, ⟨rfl, ⟨rfl, trivial⟩⟩⟩⟩
    refine g_if_le (pc := 18) 35 dX0_mostPressing_18 rfl (fun hc23 => ?_) (fun hc23 => ?_)
    · replace hf := jifp hc23 hf
      exact g_weakK (K19 (Option.some.inj hf).symm) ⟨rfl, ⟨rfl, ⟨rfl, ⟨rfl, trivial⟩⟩⟩⟩
    · replace hf := jifn hc23 hf
      refine g_aload_n (pc := 21) dX0_mostPressing_21 rfl rfl ?_
      refine g_getR (pc := 22) dX0_mostPressing_22 fl_X0_9 sh_78 rfl ?_
      refine g_iload_n (pc := 25) dX0_mostPressing_25 rfl rfl ?_
      obtain ⟨v21, ev21, hf⟩ := job hf
      refine g_iald (pc := 26) dX0_mostPressing_26 sh_79 ev21 ?_
      refine g_iload_n (pc := 27) dX0_mostPressing_27 rfl rfl ?_
      refine g_icmp_gt (pc := 28) 35 dX0_mostPressing_28 rfl (fun hc22 => ?_) (fun hc22 => ?_)
      · replace hf := jifp hc22 hf
        exact g_weakK (K19 (Option.some.inj hf).symm) ⟨rfl, ⟨rfl, ⟨rfl, ⟨rfl, trivial⟩⟩⟩⟩
      · replace hf := jifn hc22 hf
        refine g_iconst (pc := 31) 1 dX0_mostPressing_31 rfl ?_
        refine g_goto (pc := 32) 36 dX0_mostPressing_32 rfl ?_
        obtain rfl := Option.some.inj hf
        replace hf := hy17
        obtain rfl := Option.some.inj hf
        exact g_weakK (K14 (Or.inr rfl)) ⟨rfl, ⟨rfl, ⟨rfl, ⟨rfl, trivial⟩⟩⟩⟩
def f_X0_nextFirst (N : Nat) (M : JMem) (x1 : Int32) : Option (Int32) := ((jLp (σ := Int32 × Int32) (ρ := Int32) N (fun ((z7, z8) : Int32 × Int32) => (if (M 78 4) ≤ z8 then some (Sum.inr z7) else (jrd M 79 32 z8).bind fun v10 => (((if v10 ≤ x1 then some (z7) else (jcase (α := Int32) (β := Unit) (if z7 = ((-1)) then some (Sum.inr ()) else (jrd M 79 32 z8).bind fun v21 => (if z7 ≤ v21 then some (Sum.inl (z7)) else some (Sum.inr ()))) fun _ => (jrd M 79 32 z8).bind fun v24 => some (v24))) : Option (Int32)).bind fun u26 => some (Sum.inl (u26, z8 + 1))))) ((-1), 0)).bind fun t9 => some t9)
set_option maxHeartbeats 4000000 in
theorem c_X0_nextFirst {N : Nat} {M : JMem} {x1 : Int32} {r : Int32} (hf : f_X0_nextFirst N M x1 = some r) : jCo yX0_nextFirst μ_X0_nextFirst 1 M [.ref 78, .int x1] M (some (.int r)) := by
  refine jCt_of (by decide +kernel) rfl (by simp [Value.category]) (Nat.le_of_ble_eq_true rfl) ?_
  unfold f_X0_nextFirst at hf
  show jGG μ_X0_nextFirst 1 0 [some (.ref 78), some (.int x1), none, none] [] M (fun M' r' => M' = M ∧ r' = some (.int r))
  refine g_iconst (pc := 0) (-1) dX0_nextFirst_0 rfl ?_
  refine g_istore_n (pc := 1) (lv' := [some (.ref 78), some (.int x1), some (.int ((-1))), none]) dX0_nextFirst_1 rfl (by decide) rfl ?_
  refine g_iconst (pc := 2) 0 dX0_nextFirst_2 rfl ?_
  refine g_istore_n (pc := 3) (lv' := [some (.ref 78), some (.int x1), some (.int ((-1))), some (.int 0)]) dX0_nextFirst_3 rfl (by decide) rfl ?_
  obtain ⟨t9, y2, hy1⟩ := job hf
  have K3 : jGG μ_X0_nextFirst 1 50 [none, none, some (.int t9), none] [] M (fun M' r' => M' = M ∧ r' = some (.int r)) := by
    replace hf := hy1
    refine g_iload_n (pc := 50) dX0_nextFirst_50 rfl rfl ?_
    obtain rfl := Option.some.inj hf
    exact g_iret (pc := 51) dX0_nextFirst_51 rfl ⟨rfl, rfl⟩
  refine g_weak (lv' := [some (.ref 78), some (.int x1), some (.int ((-1))), some (.int 0)]) ⟨rfl, ⟨rfl, ⟨rfl, ⟨rfl, trivial⟩⟩⟩⟩ ?_
  refine jLp_ind (P := fun ((z7, z8) : Int32 × Int32) => jGG μ_X0_nextFirst 1 4 [some (.ref 78), some (.int x1), some (.int z7), some (.int z8)] [] M (fun M' r' => M' = M ∧ r' = some (.int r))) ?_ N _ y2
  rintro ⟨z7, z8⟩ x_6 hf ih5 hx4
  show jGG μ_X0_nextFirst 1 4 [some (.ref 78), some (.int x1), some (.int z7), some (.int z8)] [] M (fun M' r' => M' = M ∧ r' = some (.int r))
  refine g_iload_n (pc := 4) dX0_nextFirst_4 rfl rfl ?_
  refine g_aload_n (pc := 5) dX0_nextFirst_5 rfl rfl ?_
  refine g_getI (pc := 6) dX0_nextFirst_6 fl_X0_29 sh_78 rfl ?_
  refine g_icmp_ge (pc := 9) 50 dX0_nextFirst_9 rfl (fun hc27 => ?_) (fun hc27 => ?_)
  · replace hf := jifp hc27 hf
    have hf := hx4 _ (Option.some.inj hf).symm
    obtain rfl := hf
    exact g_weakK K3 ⟨rfl, trivial⟩
  · replace hf := jifn hc27 hf
    refine g_aload_n (pc := 12) dX0_nextFirst_12 rfl rfl ?_
    refine g_getR (pc := 13) dX0_nextFirst_13 fl_X0_9 sh_78 rfl ?_
    refine g_iload_n (pc := 16) dX0_nextFirst_16 rfl rfl ?_
    obtain ⟨v10, ev10, hf⟩ := job hf
    refine g_iald (pc := 17) dX0_nextFirst_17 sh_79 ev10 ?_
    refine g_iload_n (pc := 18) dX0_nextFirst_18 rfl rfl ?_
    obtain ⟨u26, hf, hy12⟩ := job hf
    have K14 : jGG μ_X0_nextFirst 1 44 [some (.ref 78), some (.int x1), some (.int u26), some (.int z8)] [] M (fun M' r' => M' = M ∧ r' = some (.int r)) := by
      replace hf := hy12
      refine g_iinc (pc := 44) (lv' := [some (.ref 78), some (.int x1), some (.int u26), some (.int (z8 + 1))]) (z8 + 1) dX0_nextFirst_44 rfl rfl (by decide) rfl ?_
      refine g_goto (pc := 47) 4 dX0_nextFirst_47 rfl ?_
      have hih : jGG μ_X0_nextFirst 1 4 [some (.ref 78), some (.int x1), some (.int u26), some (.int (z8 + 1))] [] M (fun M' r' => M' = M ∧ r' = some (.int r)) := ih5 (u26, z8 + 1) (Option.some.inj hf).symm
      exact g_weakK hih ⟨rfl, ⟨rfl, ⟨rfl, ⟨rfl, trivial⟩⟩⟩⟩
    refine g_icmp_le (pc := 19) 44 dX0_nextFirst_19 rfl (fun hc25 => ?_) (fun hc25 => ?_)
    · replace hf := jifp hc25 hf
      obtain rfl := Option.some.inj hf
      exact g_weakK (K14) ⟨rfl, ⟨rfl, ⟨rfl, ⟨rfl, trivial⟩⟩⟩⟩
    · replace hf := jifn hc25 hf
      refine g_iload_n (pc := 22) dX0_nextFirst_22 rfl rfl ?_
      refine g_iconst (pc := 23) (-1) dX0_nextFirst_23 rfl ?_
      obtain ⟨y18, hf, hy17⟩ := jcb hf
      have K19 : y18 = Sum.inr () → jGG μ_X0_nextFirst 1 37 [some (.ref 78), some (.int x1), none, some (.int z8)] [] M (fun M' r' => M' = M ∧ r' = some (.int r)) := by
        intro hyy
        subst hyy
        replace hf := hy17
        refine g_aload_n (pc := 37) dX0_nextFirst_37 rfl rfl ?_
        refine g_getR (pc := 38) dX0_nextFirst_38 fl_X0_9 sh_78 rfl ?_
        refine g_iload_n (pc := 41) dX0_nextFirst_41 rfl rfl ?_
        obtain ⟨v24, ev24, hf⟩ := job hf
        refine g_iald (pc := 42) dX0_nextFirst_42 sh_79 ev24 ?_
        refine g_istore_n (pc := 43) (lv' := [some (.ref 78), some (.int x1), some (.int v24), some (.int z8)]) dX0_nextFirst_43 rfl (by decide) rfl ?_
        obtain rfl := Option.some.inj hf
        exact g_weakK (K14) ⟨rfl, ⟨rfl, ⟨rfl, ⟨rfl, trivial⟩⟩⟩⟩
      refine g_icmp_eq (pc := 24) 37 dX0_nextFirst_24 rfl (fun hc23 => ?_) (fun hc23 => ?_)
      · replace hf := jifp hc23 hf
        exact g_weakK (K19 (Option.some.inj hf).symm) ⟨rfl, ⟨rfl, ⟨rfl, trivial⟩⟩⟩
      · replace hf := jifn hc23 hf
        refine g_aload_n (pc := 27) dX0_nextFirst_27 rfl rfl ?_
        refine g_getR (pc := 28) dX0_nextFirst_28 fl_X0_9 sh_78 rfl ?_
        refine g_iload_n (pc := 31) dX0_nextFirst_31 rfl rfl ?_
        obtain ⟨v21, ev21, hf⟩ := job hf
        refine g_iald (pc := 32) dX0_nextFirst_32 sh_79 ev21 ?_
        refine g_iload_n (pc := 33) dX0_nextFirst_33 rfl rfl ?_
        refine g_icmp_ge (pc := 34) 44 dX0_nextFirst_34 rfl (fun hc22 => ?_) (fun hc22 => ?_)
        · replace hf := jifp hc22 hf
          obtain rfl := Option.some.inj hf
          replace hf := hy17
          obtain rfl := Option.some.inj hf
          exact g_weakK (K14) ⟨rfl, ⟨rfl, ⟨rfl, ⟨rfl, trivial⟩⟩⟩⟩
        · replace hf := jifn hc22 hf
          exact g_weakK (K19 (Option.some.inj hf).symm) ⟨rfl, ⟨rfl, ⟨rfl, trivial⟩⟩⟩
def f_X0_cutBound (N : Nat) (M : JMem) : Option (JMem × Int32) := (jcpy M 81 32 0 82 32 0 32).bind fun M1 => (jcase (α := JMem × Int32) (β := Int32 × JMem) (jLp (σ := Int32 × Int32 × Int32 × JMem) (ρ := (JMem × Int32) ⊕ (Int32 × JMem)) N (fun ((z8, z9, z10, M11) : Int32 × Int32 × Int32 × JMem) => (if (2 * (M11 78 4)) ≤ z10 then some (Sum.inr (Sum.inr (z9, M11))) else (f_X0_mostPressing N M11 z8).bind fun v14 => (f_X0_nextFirst N M11 z8).bind fun v15 => (((if v14 = ((-1)) then some (v15) else (jrd M11 82 32 v14).bind fun v21 => some ((z8 + v21))) : Option (Int32)).bind fun u23 => (((if v15 = ((-1)) then some (u23) else some ((jmin u23 v15))) : Option (Int32)).bind fun u30 => (if u30 = ((-1)) then some (Sum.inr (Sum.inl (M11, z9))) else (((if v14 = ((-1)) then some ((z9, M11)) else (jrd M11 82 32 v14).bind fun v36 => (jwr M11 82 32 v14 (v36 - (u30 - z8))).bind fun M37 => (jrd M37 82 32 v14).bind fun v38 => (((if v38 = 0 then (jrd M37 80 32 v14).bind fun v44 => some ((jmax z9 (u30 + v44))) else some (z9)) : Option (Int32)).bind fun u46 => some ((u46, M37)))) : Option (Int32 × JMem)).bind fun (u48, M49) => some (Sum.inl (u30, u48, z10 + 1, M49)))))))) (0, 0, 0, M1)) fun (t12, t13) => some (t13, t12))
set_option maxHeartbeats 4000000 in
theorem c_X0_cutBound {N : Nat} {M : JMem} {Mz : JMem} {r : Int32} (hf : f_X0_cutBound N M = some (Mz, r)) : jCo yX0_cutBound μ_X0_cutBound 2 M [.ref 78] Mz (some (.int r)) := by
  refine jCt_of (by decide +kernel) rfl (by simp [Value.category]) (Nat.le_of_ble_eq_true rfl) ?_
  unfold f_X0_cutBound at hf
  show jGG μ_X0_cutBound 2 0 [some (.ref 78), none, none, none, none, none, none, none] [] M (fun M' r' => M' = Mz ∧ r' = some (.int r))
  refine g_aload_n (pc := 0) dX0_cutBound_0 rfl rfl ?_
  refine g_getR (pc := 1) dX0_cutBound_1 fl_X0_18 sh_78 rfl ?_
  refine g_iconst (pc := 4) 0 dX0_cutBound_4 rfl ?_
  refine g_aload_n (pc := 5) dX0_cutBound_5 rfl rfl ?_
  refine g_getR (pc := 6) dX0_cutBound_6 fl_X0_21 sh_78 rfl ?_
  refine g_iconst (pc := 9) 0 dX0_cutBound_9 rfl ?_
  refine g_bipush (pc := 10) 32 dX0_cutBound_10 rfl ?_
  obtain ⟨M1, eM1, hf⟩ := job hf
  refine g_copy (pc := 12) [] dX0_cutBound_12 ml_X0_45 (by decide) (Nat.le_of_ble_eq_true rfl) sh_81 sh_82 eM1 ?_
  refine g_iconst (pc := 15) 0 dX0_cutBound_15 rfl ?_
  refine g_istore_n (pc := 16) (lv' := [some (.ref 78), some (.int 0), none, none, none, none, none, none]) dX0_cutBound_16 rfl (by decide) rfl ?_
  refine g_iconst (pc := 17) 0 dX0_cutBound_17 rfl ?_
  refine g_istore_n (pc := 18) (lv' := [some (.ref 78), some (.int 0), some (.int 0), none, none, none, none, none]) dX0_cutBound_18 rfl (by decide) rfl ?_
  refine g_iconst (pc := 19) 0 dX0_cutBound_19 rfl ?_
  refine g_istore_n (pc := 20) (lv' := [some (.ref 78), some (.int 0), some (.int 0), some (.int 0), none, none, none, none]) dX0_cutBound_20 rfl (by decide) rfl ?_
  obtain ⟨y3, hr52, hy2⟩ := jcb hf
  have K4 : ∀ (t12 : Int32), ∀ (t13 : JMem), y3 = Sum.inr (t12, t13) → jGG μ_X0_cutBound 2 153 [none, none, some (.int t12), none, none, none, none, none] [] t13 (fun M' r' => M' = Mz ∧ r' = some (.int r)) := by
    intro t12 t13 hyy
    subst hyy
    replace hf := hy2
    refine g_iload_n (pc := 153) dX0_cutBound_153 rfl rfl ?_
    obtain ⟨rfl, rfl⟩ := Prod.mk.inj (Option.some.inj hf)
    exact g_iret (pc := 154) dX0_cutBound_154 rfl ⟨rfl, rfl⟩
  refine g_weak (lv' := [some (.ref 78), some (.int 0), some (.int 0), some (.int 0), none, none, none, none]) ⟨rfl, ⟨rfl, ⟨rfl, ⟨rfl, trivial⟩⟩⟩⟩ ?_
  refine jLp_ind (P := fun ((z8, z9, z10, M11) : Int32 × Int32 × Int32 × JMem) => jGG μ_X0_cutBound 2 21 [some (.ref 78), some (.int z8), some (.int z9), some (.int z10), none, none, none, none] [] M11 (fun M' r' => M' = Mz ∧ r' = some (.int r))) ?_ N _ hr52
  rintro ⟨z8, z9, z10, M11⟩ x_7 hf ih6 hx5
  show jGG μ_X0_cutBound 2 21 [some (.ref 78), some (.int z8), some (.int z9), some (.int z10), none, none, none, none] [] M11 (fun M' r' => M' = Mz ∧ r' = some (.int r))
  refine g_iload_n (pc := 21) dX0_cutBound_21 rfl rfl ?_
  refine g_iconst (pc := 22) 2 dX0_cutBound_22 rfl ?_
  refine g_aload_n (pc := 23) dX0_cutBound_23 rfl rfl ?_
  refine g_getI (pc := 24) dX0_cutBound_24 fl_X0_29 sh_78 rfl ?_
  refine g_imul (pc := 27) dX0_cutBound_27 ?_
  refine g_icmp_ge (pc := 28) 153 dX0_cutBound_28 rfl (fun hc51 => ?_) (fun hc51 => ?_)
  · replace hf := jifp hc51 hf
    have hf := hx5 _ (Option.some.inj hf).symm
    exact g_weakK (K4 _ _ hf.symm) ⟨rfl, trivial⟩
  · replace hf := jifn hc51 hf
    refine g_aload_n (pc := 31) dX0_cutBound_31 rfl rfl ?_
    refine g_iload_n (pc := 32) dX0_cutBound_32 rfl rfl ?_
    obtain ⟨v14, ev14, hf⟩ := job hf
    refine g_callV (pc := 33) [.int z8] [] dX0_cutBound_33 ml_X0_51 ck_X0_mostPressing cv_X0_mostPressing sh_78 rfl (by decide) (Nat.le_of_ble_eq_true rfl) (c_X0_mostPressing ev14) ?_
    show jGG μ_X0_cutBound 2 36 [some (.ref 78), some (.int z8), some (.int z9), some (.int z10), none, none, none, none] [.int v14] M11 (fun M' r' => M' = Mz ∧ r' = some (.int r))
    refine g_istore (pc := 36) (lv' := [some (.ref 78), some (.int z8), some (.int z9), some (.int z10), some (.int v14), none, none, none]) dX0_cutBound_36 (by decide) rfl ?_
    refine g_aload_n (pc := 38) dX0_cutBound_38 rfl rfl ?_
    refine g_iload_n (pc := 39) dX0_cutBound_39 rfl rfl ?_
    obtain ⟨v15, ev15, hf⟩ := job hf
    refine g_callV (pc := 40) [.int z8] [] dX0_cutBound_40 ml_X0_54 ck_X0_nextFirst cv_X0_nextFirst sh_78 rfl (by decide) (Nat.le_of_ble_eq_true rfl) (c_X0_nextFirst ev15) ?_
    show jGG μ_X0_cutBound 2 43 [some (.ref 78), some (.int z8), some (.int z9), some (.int z10), some (.int v14), none, none, none] [.int v15] M11 (fun M' r' => M' = Mz ∧ r' = some (.int r))
    refine g_istore (pc := 43) (lv' := [some (.ref 78), some (.int z8), some (.int z9), some (.int z10), some (.int v14), some (.int v15), none, none]) dX0_cutBound_43 (by decide) rfl ?_
    refine g_iload (pc := 45) dX0_cutBound_45 rfl ?_
    refine g_iconst (pc := 47) (-1) dX0_cutBound_47 rfl ?_
    obtain ⟨u23, hf, hy17⟩ := job hf
    have K19 : jGG μ_X0_cutBound 2 65 [some (.ref 78), some (.int z8), some (.int z9), some (.int z10), some (.int v14), some (.int v15), none, none] [.int u23] M11 (fun M' r' => M' = Mz ∧ r' = some (.int r)) := by
      replace hf := hy17
      refine g_istore (pc := 65) (lv' := [some (.ref 78), some (.int z8), some (.int z9), some (.int z10), some (.int v14), some (.int v15), some (.int u23), none]) dX0_cutBound_65 (by decide) rfl ?_
      refine g_iload (pc := 67) dX0_cutBound_67 rfl ?_
      refine g_iconst (pc := 69) (-1) dX0_cutBound_69 rfl ?_
      obtain ⟨u30, hf, hy25⟩ := job hf
      have K27 : jGG μ_X0_cutBound 2 85 [some (.ref 78), some (.int z8), some (.int z9), some (.int z10), some (.int v14), none, none, none] [.int u30] M11 (fun M' r' => M' = Mz ∧ r' = some (.int r)) := by
        replace hf := hy25
        refine g_istore (pc := 85) (lv' := [some (.ref 78), some (.int z8), some (.int z9), some (.int z10), some (.int v14), none, none, some (.int u30)]) dX0_cutBound_85 (by decide) rfl ?_
        refine g_iload (pc := 87) dX0_cutBound_87 rfl ?_
        refine g_iconst (pc := 89) (-1) dX0_cutBound_89 rfl ?_
        refine g_icmp_ne (pc := 90) 95 dX0_cutBound_90 rfl (fun hc50 => ?_) (fun hc50 => ?_)
        · replace hf := jifn hc50 hf
          refine g_iload (pc := 95) dX0_cutBound_95 rfl ?_
          refine g_iconst (pc := 97) (-1) dX0_cutBound_97 rfl ?_
          obtain ⟨⟨u48, M49⟩, hf, hy32⟩ := job hf
          have K34 : jGG μ_X0_cutBound 2 144 [some (.ref 78), none, some (.int u48), some (.int z10), none, none, none, some (.int u30)] [] M49 (fun M' r' => M' = Mz ∧ r' = some (.int r)) := by
            replace hf := hy32
            refine g_iload (pc := 144) dX0_cutBound_144 rfl ?_
            refine g_istore_n (pc := 146) (lv' := [some (.ref 78), some (.int u30), some (.int u48), some (.int z10), none, none, none, some (.int u30)]) dX0_cutBound_146 rfl (by decide) rfl ?_
            refine g_iinc (pc := 147) (lv' := [some (.ref 78), some (.int u30), some (.int u48), some (.int (z10 + 1)), none, none, none, some (.int u30)]) (z10 + 1) dX0_cutBound_147 rfl rfl (by decide) rfl ?_
            refine g_goto (pc := 150) 21 dX0_cutBound_150 rfl ?_
            have hih : jGG μ_X0_cutBound 2 21 [some (.ref 78), some (.int u30), some (.int u48), some (.int (z10 + 1)), none, none, none, none] [] M49 (fun M' r' => M' = Mz ∧ r' = some (.int r)) := ih6 (u30, u48, z10 + 1, M49) (Option.some.inj hf).symm
            exact g_weakK hih ⟨rfl, ⟨rfl, ⟨rfl, ⟨rfl, trivial⟩⟩⟩⟩
          refine g_icmp_eq (pc := 98) 144 dX0_cutBound_98 rfl (fun hc47 => ?_) (fun hc47 => ?_)
          · replace hf := jifp hc47 hf
            obtain ⟨rfl, rfl⟩ := jp2 (Option.some.inj hf)
            exact g_weakK (K34) ⟨rfl, ⟨rfl, ⟨rfl, ⟨rfl, trivial⟩⟩⟩⟩
          · replace hf := jifn hc47 hf
            refine g_aload_n (pc := 101) dX0_cutBound_101 rfl rfl ?_
            refine g_getR (pc := 102) dX0_cutBound_102 fl_X0_21 sh_78 rfl ?_
            refine g_iload (pc := 105) dX0_cutBound_105 rfl ?_
            refine g_dup2 (pc := 107) dX0_cutBound_107 rfl rfl ?_
            obtain ⟨v36, ev36, hf⟩ := job hf
            refine g_iald (pc := 108) dX0_cutBound_108 sh_82 ev36 ?_
            refine g_iload (pc := 109) dX0_cutBound_109 rfl ?_
            refine g_iload_n (pc := 111) dX0_cutBound_111 rfl rfl ?_
            refine g_isub (pc := 112) dX0_cutBound_112 ?_
            refine g_isub (pc := 113) dX0_cutBound_113 ?_
            obtain ⟨M37, eM37, hf⟩ := job hf
            refine g_iast (pc := 114) dX0_cutBound_114 sh_82 eM37 ?_
            refine g_aload_n (pc := 115) dX0_cutBound_115 rfl rfl ?_
            refine g_getR (pc := 116) dX0_cutBound_116 fl_X0_21 sh_78 rfl ?_
            refine g_iload (pc := 119) dX0_cutBound_119 rfl ?_
            obtain ⟨v38, ev38, hf⟩ := job hf
            refine g_iald (pc := 121) dX0_cutBound_121 sh_82 ev38 ?_
            obtain ⟨u46, hf, hy40⟩ := job hf
            have K42 : jGG μ_X0_cutBound 2 143 [some (.ref 78), none, none, some (.int z10), none, none, none, some (.int u30)] [.int u46] M37 (fun M' r' => M' = Mz ∧ r' = some (.int r)) := by
              replace hf := hy40
              refine g_istore_n (pc := 143) (lv' := [some (.ref 78), none, some (.int u46), some (.int z10), none, none, none, some (.int u30)]) dX0_cutBound_143 rfl (by decide) rfl ?_
              obtain ⟨rfl, rfl⟩ := jp2 (Option.some.inj hf)
              exact g_weakK (K34) ⟨rfl, ⟨rfl, ⟨rfl, ⟨rfl, trivial⟩⟩⟩⟩
            refine g_if_ne (pc := 122) 142 dX0_cutBound_122 rfl (fun hc45 => ?_) (fun hc45 => ?_)
            · replace hf := jifn hc45 hf
              refine g_iload_n (pc := 142) dX0_cutBound_142 rfl rfl ?_
              obtain rfl := Option.some.inj hf
              exact g_weakK (K42) ⟨rfl, ⟨rfl, ⟨rfl, trivial⟩⟩⟩
            · replace hf := jifp hc45 hf
              refine g_iload_n (pc := 125) dX0_cutBound_125 rfl rfl ?_
              refine g_iload (pc := 126) dX0_cutBound_126 rfl ?_
              refine g_aload_n (pc := 128) dX0_cutBound_128 rfl rfl ?_
              refine g_getR (pc := 129) dX0_cutBound_129 fl_X0_15 sh_78 rfl ?_
              refine g_iload (pc := 132) dX0_cutBound_132 rfl ?_
              obtain ⟨v44, ev44, hf⟩ := job hf
              refine g_iald (pc := 134) dX0_cutBound_134 sh_80 ev44 ?_
              refine g_iadd (pc := 135) dX0_cutBound_135 ?_
              refine g_max (pc := 136) [] dX0_cutBound_136 ml_X0_63 (by omega) (Nat.le_of_ble_eq_true rfl) ?_
              refine g_goto (pc := 139) 143 dX0_cutBound_139 rfl ?_
              obtain rfl := Option.some.inj hf
              exact g_weakK (K42) ⟨rfl, ⟨rfl, ⟨rfl, trivial⟩⟩⟩
        · replace hf := jifp hc50 hf
          refine g_iload_n (pc := 93) dX0_cutBound_93 rfl rfl ?_
          have hf := hx5 _ (Option.some.inj hf).symm
          subst hf
          replace hf := hy2
          obtain ⟨rfl, rfl⟩ := Prod.mk.inj (Option.some.inj hf)
          exact g_iret (pc := 94) dX0_cutBound_94 rfl ⟨rfl, rfl⟩
      refine g_icmp_ne (pc := 70) 78 dX0_cutBound_70 rfl (fun hc29 => ?_) (fun hc29 => ?_)
      · replace hf := jifn hc29 hf
        refine g_iload (pc := 78) dX0_cutBound_78 rfl ?_
        refine g_iload (pc := 80) dX0_cutBound_80 rfl ?_
        refine g_min (pc := 82) [] dX0_cutBound_82 ml_X0_57 (by omega) (Nat.le_of_ble_eq_true rfl) ?_
        obtain rfl := Option.some.inj hf
        exact g_weakK (K27) ⟨rfl, ⟨rfl, ⟨rfl, ⟨rfl, ⟨rfl, trivial⟩⟩⟩⟩⟩
      · replace hf := jifp hc29 hf
        refine g_iload (pc := 73) dX0_cutBound_73 rfl ?_
        refine g_goto (pc := 75) 85 dX0_cutBound_75 rfl ?_
        obtain rfl := Option.some.inj hf
        exact g_weakK (K27) ⟨rfl, ⟨rfl, ⟨rfl, ⟨rfl, ⟨rfl, trivial⟩⟩⟩⟩⟩
    refine g_icmp_ne (pc := 48) 56 dX0_cutBound_48 rfl (fun hc22 => ?_) (fun hc22 => ?_)
    · replace hf := jifn hc22 hf
      refine g_iload_n (pc := 56) dX0_cutBound_56 rfl rfl ?_
      refine g_aload_n (pc := 57) dX0_cutBound_57 rfl rfl ?_
      refine g_getR (pc := 58) dX0_cutBound_58 fl_X0_21 sh_78 rfl ?_
      refine g_iload (pc := 61) dX0_cutBound_61 rfl ?_
      obtain ⟨v21, ev21, hf⟩ := job hf
      refine g_iald (pc := 63) dX0_cutBound_63 sh_82 ev21 ?_
      refine g_iadd (pc := 64) dX0_cutBound_64 ?_
      obtain rfl := Option.some.inj hf
      exact g_weakK (K19) ⟨rfl, ⟨rfl, ⟨rfl, ⟨rfl, ⟨rfl, ⟨rfl, trivial⟩⟩⟩⟩⟩⟩
    · replace hf := jifp hc22 hf
      refine g_iload (pc := 51) dX0_cutBound_51 rfl ?_
      refine g_goto (pc := 53) 65 dX0_cutBound_53 rfl ?_
      obtain rfl := Option.some.inj hf
      exact g_weakK (K19) ⟨rfl, ⟨rfl, ⟨rfl, ⟨rfl, ⟨rfl, ⟨rfl, trivial⟩⟩⟩⟩⟩⟩
def f_X0_tryRest (N : Nat) : Nat → JMem → Int32 → Int32 → Int32 → Int32 → Int32 → Int32 → Option (Int32)
  | 0, _, _, _, _, _, _, _ => none
  | n + 1, M, x1, x2, x3, x4, x5, x6 => (if x3 < x4 then (if x6 < (M 78 4) then ((jLp (σ := Int32 × Int32) (ρ := Int32) N (fun ((z7, z8) : Int32 × Int32) => (if (M 78 4) ≤ z8 then some (Sum.inr z7) else (if z7 ≤ x5 then some (Sum.inr z7) else (((if ((jushr x1 z8) &&& 1) = 0 then (jrd M 79 32 z8).bind fun v15 => (jrd M 81 32 z8).bind fun v16 => (jrd M 80 32 z8).bind fun v17 => (f_X0_tryRest N n M (x1 ||| (jshl 1 z8)) ((jmax x2 v15) + v16) (jmax x3 (((jmax x2 v15) + v16) + v17)) z7 x5 (x6 + 1)).bind fun v18 => some (v18) else some (z7)) : Option (Int32)).bind fun u20 => some (Sum.inl (u20, z8 + 1)))))) (x4, 0)).bind fun t9 => some t9) else some x3) else some x4)
set_option maxHeartbeats 4000000 in
theorem c_X0_tryRest {N : Nat}  : ∀ {n : Nat} {M : JMem} {x1 : Int32} {x2 : Int32} {x3 : Int32} {x4 : Int32} {x5 : Int32} {x6 : Int32} {r : Int32}, f_X0_tryRest N n M x1 x2 x3 x4 x5 x6 = some r → jCo yX0_tryRest μ_X0_tryRest (n + 1) M [.ref 78, .int x1, .int x2, .int x3, .int x4, .int x5, .int x6] M (some (.int r))
  | 0, _, _, _, _, _, _, _, _, h => by cases h
  | n + 1, M, x1, x2, x3, x4, x5, x6, r, hf => by
    have ih := @c_X0_tryRest N n
    refine jCt_of (by decide +kernel) rfl (by simp [Value.category]) (Nat.le_of_ble_eq_true rfl) ?_
    unfold f_X0_tryRest at hf
    show jGG μ_X0_tryRest (n + 2) 0 [some (.ref 78), some (.int x1), some (.int x2), some (.int x3), some (.int x4), some (.int x5), some (.int x6), none, none, none, none] [] M (fun M' r' => M' = M ∧ r' = some (.int r))
    refine g_iload_n (pc := 0) dX0_tryRest_0 rfl rfl ?_
    refine g_iload (pc := 1) dX0_tryRest_1 rfl ?_
    refine g_icmp_lt (pc := 3) 9 dX0_tryRest_3 rfl (fun hc24 => ?_) (fun hc24 => ?_)
    · replace hf := jifp hc24 hf
      refine g_iload (pc := 9) dX0_tryRest_9 rfl ?_
      refine g_aload_n (pc := 11) dX0_tryRest_11 rfl rfl ?_
      refine g_getI (pc := 12) dX0_tryRest_12 fl_X0_29 sh_78 rfl ?_
      refine g_icmp_lt (pc := 15) 20 dX0_tryRest_15 rfl (fun hc23 => ?_) (fun hc23 => ?_)
      · replace hf := jifp hc23 hf
        refine g_iload (pc := 20) dX0_tryRest_20 rfl ?_
        refine g_istore (pc := 22) (lv' := [some (.ref 78), some (.int x1), some (.int x2), some (.int x3), some (.int x4), some (.int x5), some (.int x6), some (.int x4), none, none, none]) dX0_tryRest_22 (by decide) rfl ?_
        refine g_iconst (pc := 24) 0 dX0_tryRest_24 rfl ?_
        refine g_istore (pc := 25) (lv' := [some (.ref 78), some (.int x1), some (.int x2), some (.int x3), some (.int x4), some (.int x5), some (.int x6), some (.int x4), some (.int 0), none, none]) dX0_tryRest_25 (by decide) rfl ?_
        obtain ⟨t9, y2, hy1⟩ := job hf
        have K3 : jGG μ_X0_tryRest (n + 2) 119 [none, none, none, none, none, none, none, some (.int t9), none, none, none] [] M (fun M' r' => M' = M ∧ r' = some (.int r)) := by
          replace hf := hy1
          refine g_iload (pc := 119) dX0_tryRest_119 rfl ?_
          obtain rfl := Option.some.inj hf
          exact g_iret (pc := 121) dX0_tryRest_121 rfl ⟨rfl, rfl⟩
        refine g_weak (lv' := [some (.ref 78), some (.int x1), some (.int x2), some (.int x3), none, some (.int x5), some (.int x6), some (.int x4), some (.int 0), none, none]) ⟨rfl, ⟨rfl, ⟨rfl, ⟨rfl, ⟨rfl, ⟨rfl, ⟨rfl, ⟨rfl, trivial⟩⟩⟩⟩⟩⟩⟩⟩ ?_
        refine jLp_ind (P := fun ((z7, z8) : Int32 × Int32) => jGG μ_X0_tryRest (n + 2) 27 [some (.ref 78), some (.int x1), some (.int x2), some (.int x3), none, some (.int x5), some (.int x6), some (.int z7), some (.int z8), none, none] [] M (fun M' r' => M' = M ∧ r' = some (.int r))) ?_ N _ y2
        rintro ⟨z7, z8⟩ x_6 hf ih5 hx4
        show jGG μ_X0_tryRest (n + 2) 27 [some (.ref 78), some (.int x1), some (.int x2), some (.int x3), none, some (.int x5), some (.int x6), some (.int z7), some (.int z8), none, none] [] M (fun M' r' => M' = M ∧ r' = some (.int r))
        refine g_iload (pc := 27) dX0_tryRest_27 rfl ?_
        refine g_aload_n (pc := 29) dX0_tryRest_29 rfl rfl ?_
        refine g_getI (pc := 30) dX0_tryRest_30 fl_X0_29 sh_78 rfl ?_
        refine g_icmp_ge (pc := 33) 119 dX0_tryRest_33 rfl (fun hc22 => ?_) (fun hc22 => ?_)
        · replace hf := jifp hc22 hf
          have hf := hx4 _ (Option.some.inj hf).symm
          obtain rfl := hf
          exact g_weakK K3 ⟨rfl, trivial⟩
        · replace hf := jifn hc22 hf
          refine g_iload (pc := 36) dX0_tryRest_36 rfl ?_
          refine g_iload (pc := 38) dX0_tryRest_38 rfl ?_
          refine g_icmp_le (pc := 40) 119 dX0_tryRest_40 rfl (fun hc21 => ?_) (fun hc21 => ?_)
          · replace hf := jifp hc21 hf
            have hf := hx4 _ (Option.some.inj hf).symm
            obtain rfl := hf
            exact g_weakK K3 ⟨rfl, trivial⟩
          · replace hf := jifn hc21 hf
            refine g_iload_n (pc := 43) dX0_tryRest_43 rfl rfl ?_
            refine g_iload (pc := 44) dX0_tryRest_44 rfl ?_
            refine g_iushr (pc := 46) dX0_tryRest_46 ?_
            refine g_iconst (pc := 47) 1 dX0_tryRest_47 rfl ?_
            refine g_iand (pc := 48) dX0_tryRest_48 ?_
            obtain ⟨u20, hf, hy11⟩ := job hf
            have K13 : jGG μ_X0_tryRest (n + 2) 113 [some (.ref 78), some (.int x1), some (.int x2), some (.int x3), none, some (.int x5), some (.int x6), some (.int u20), some (.int z8), none, none] [] M (fun M' r' => M' = M ∧ r' = some (.int r)) := by
              replace hf := hy11
              refine g_iinc (pc := 113) (lv' := [some (.ref 78), some (.int x1), some (.int x2), some (.int x3), none, some (.int x5), some (.int x6), some (.int u20), some (.int (z8 + 1)), none, none]) (z8 + 1) dX0_tryRest_113 rfl rfl (by decide) rfl ?_
              refine g_goto (pc := 116) 27 dX0_tryRest_116 rfl ?_
              have hih : jGG μ_X0_tryRest (n + 2) 27 [some (.ref 78), some (.int x1), some (.int x2), some (.int x3), none, some (.int x5), some (.int x6), some (.int u20), some (.int (z8 + 1)), none, none] [] M (fun M' r' => M' = M ∧ r' = some (.int r)) := ih5 (u20, z8 + 1) (Option.some.inj hf).symm
              exact g_weakK hih ⟨rfl, ⟨rfl, ⟨rfl, ⟨rfl, ⟨rfl, ⟨rfl, ⟨rfl, ⟨rfl, trivial⟩⟩⟩⟩⟩⟩⟩⟩
            refine g_if_ne (pc := 49) 113 dX0_tryRest_49 rfl (fun hc19 => ?_) (fun hc19 => ?_)
            · replace hf := jifn hc19 hf
              obtain rfl := Option.some.inj hf
              exact g_weakK (K13) ⟨rfl, ⟨rfl, ⟨rfl, ⟨rfl, ⟨rfl, ⟨rfl, ⟨rfl, ⟨rfl, trivial⟩⟩⟩⟩⟩⟩⟩⟩
            · replace hf := jifp hc19 hf
              refine g_iload_n (pc := 52) dX0_tryRest_52 rfl rfl ?_
              refine g_aload_n (pc := 53) dX0_tryRest_53 rfl rfl ?_
              refine g_getR (pc := 54) dX0_tryRest_54 fl_X0_9 sh_78 rfl ?_
              refine g_iload (pc := 57) dX0_tryRest_57 rfl ?_
              obtain ⟨v15, ev15, hf⟩ := job hf
              refine g_iald (pc := 59) dX0_tryRest_59 sh_79 ev15 ?_
              refine g_max (pc := 60) [] dX0_tryRest_60 ml_X0_63 (by omega) (Nat.le_of_ble_eq_true rfl) ?_
              refine g_aload_n (pc := 63) dX0_tryRest_63 rfl rfl ?_
              refine g_getR (pc := 64) dX0_tryRest_64 fl_X0_18 sh_78 rfl ?_
              refine g_iload (pc := 67) dX0_tryRest_67 rfl ?_
              obtain ⟨v16, ev16, hf⟩ := job hf
              refine g_iald (pc := 69) dX0_tryRest_69 sh_81 ev16 ?_
              refine g_iadd (pc := 70) dX0_tryRest_70 ?_
              refine g_istore (pc := 71) (lv' := [some (.ref 78), some (.int x1), some (.int x2), some (.int x3), none, some (.int x5), some (.int x6), some (.int z7), some (.int z8), some (.int ((jmax x2 v15) + v16)), none]) dX0_tryRest_71 (by decide) rfl ?_
              refine g_iload_n (pc := 73) dX0_tryRest_73 rfl rfl ?_
              refine g_iload (pc := 74) dX0_tryRest_74 rfl ?_
              refine g_aload_n (pc := 76) dX0_tryRest_76 rfl rfl ?_
              refine g_getR (pc := 77) dX0_tryRest_77 fl_X0_15 sh_78 rfl ?_
              refine g_iload (pc := 80) dX0_tryRest_80 rfl ?_
              obtain ⟨v17, ev17, hf⟩ := job hf
              refine g_iald (pc := 82) dX0_tryRest_82 sh_80 ev17 ?_
              refine g_iadd (pc := 83) dX0_tryRest_83 ?_
              refine g_max (pc := 84) [] dX0_tryRest_84 ml_X0_63 (by omega) (Nat.le_of_ble_eq_true rfl) ?_
              refine g_istore (pc := 87) (lv' := [some (.ref 78), some (.int x1), some (.int x2), some (.int x3), none, some (.int x5), some (.int x6), some (.int z7), some (.int z8), some (.int ((jmax x2 v15) + v16)), some (.int (jmax x3 (((jmax x2 v15) + v16) + v17)))]) dX0_tryRest_87 (by decide) rfl ?_
              refine g_aload_n (pc := 89) dX0_tryRest_89 rfl rfl ?_
              refine g_iload_n (pc := 90) dX0_tryRest_90 rfl rfl ?_
              refine g_iconst (pc := 91) 1 dX0_tryRest_91 rfl ?_
              refine g_iload (pc := 92) dX0_tryRest_92 rfl ?_
              refine g_ishl (pc := 94) dX0_tryRest_94 ?_
              refine g_ior (pc := 95) dX0_tryRest_95 ?_
              refine g_iload (pc := 96) dX0_tryRest_96 rfl ?_
              refine g_iload (pc := 98) dX0_tryRest_98 rfl ?_
              refine g_iload (pc := 100) dX0_tryRest_100 rfl ?_
              refine g_iload (pc := 102) dX0_tryRest_102 rfl ?_
              refine g_iload (pc := 104) dX0_tryRest_104 rfl ?_
              refine g_iconst (pc := 106) 1 dX0_tryRest_106 rfl ?_
              refine g_iadd (pc := 107) dX0_tryRest_107 ?_
              obtain ⟨v18, ev18, hf⟩ := job hf
              refine g_callV (pc := 108) [.int (x1 ||| (jshl 1 z8)), .int ((jmax x2 v15) + v16), .int (jmax x3 (((jmax x2 v15) + v16) + v17)), .int z7, .int x5, .int (x6 + 1)] [] dX0_tryRest_108 ml_X0_67 ck_X0_tryRest cv_X0_tryRest sh_78 rfl (by constructor <;> simp <;> omega) (Nat.le_of_ble_eq_true rfl) (ih ev18) ?_
              show jGG μ_X0_tryRest (n + 2) 111 [some (.ref 78), some (.int x1), some (.int x2), some (.int x3), none, some (.int x5), some (.int x6), some (.int z7), some (.int z8), some (.int ((jmax x2 v15) + v16)), some (.int (jmax x3 (((jmax x2 v15) + v16) + v17)))] [.int v18] M (fun M' r' => M' = M ∧ r' = some (.int r))
              refine g_istore (pc := 111) (lv' := [some (.ref 78), some (.int x1), some (.int x2), some (.int x3), none, some (.int x5), some (.int x6), some (.int v18), some (.int z8), some (.int ((jmax x2 v15) + v16)), some (.int (jmax x3 (((jmax x2 v15) + v16) + v17)))]) dX0_tryRest_111 (by decide) rfl ?_
              obtain rfl := Option.some.inj hf
              exact g_weakK (K13) ⟨rfl, ⟨rfl, ⟨rfl, ⟨rfl, ⟨rfl, ⟨rfl, ⟨rfl, ⟨rfl, trivial⟩⟩⟩⟩⟩⟩⟩⟩
      · replace hf := jifn hc23 hf
        refine g_iload_n (pc := 18) dX0_tryRest_18 rfl rfl ?_
        obtain rfl := Option.some.inj hf
        exact g_iret (pc := 19) dX0_tryRest_19 rfl ⟨rfl, rfl⟩
    · replace hf := jifn hc24 hf
      refine g_iload (pc := 6) dX0_tryRest_6 rfl ?_
      obtain rfl := Option.some.inj hf
      exact g_iret (pc := 8) dX0_tryRest_8 rfl ⟨rfl, rfl⟩
def f_X0_wholeBound (N : Nat) (M : JMem) (x1 : Int32) : Option (Int32) := (jcase (α := Int32) (β := Unit) (if (M 78 4) = 0 then some (Sum.inr ()) else (if (M 78 4) ≤ 8 then (f_X0_tryRest N 14 M 0 0 0 1000000 x1 0).bind fun v6 => some (Sum.inl v6) else some (Sum.inr ()))) fun _ => some 0)
set_option maxHeartbeats 4000000 in
theorem c_X0_wholeBound {N : Nat} {M : JMem} {x1 : Int32} {r : Int32} (hf : f_X0_wholeBound N M x1 = some r) : jCo yX0_wholeBound μ_X0_wholeBound 16 M [.ref 78, .int x1] M (some (.int r)) := by
  refine jCt_of (by decide +kernel) rfl (by simp [Value.category]) (Nat.le_of_ble_eq_true rfl) ?_
  unfold f_X0_wholeBound at hf
  show jGG μ_X0_wholeBound 16 0 [some (.ref 78), some (.int x1)] [] M (fun M' r' => M' = M ∧ r' = some (.int r))
  refine g_aload_n (pc := 0) dX0_wholeBound_0 rfl rfl ?_
  refine g_getI (pc := 1) dX0_wholeBound_1 fl_X0_29 sh_78 rfl ?_
  obtain ⟨y3, hf, hy2⟩ := jcb hf
  have K4 : y3 = Sum.inr () → jGG μ_X0_wholeBound 16 16 [none, none] [] M (fun M' r' => M' = M ∧ r' = some (.int r)) := by
    intro hyy
    subst hyy
    replace hf := hy2
    refine g_iconst (pc := 16) 0 dX0_wholeBound_16 rfl ?_
    refine g_goto (pc := 17) 31 dX0_wholeBound_17 rfl ?_
    obtain rfl := Option.some.inj hf
    exact g_iret (pc := 31) dX0_wholeBound_31 rfl ⟨rfl, rfl⟩
  refine g_if_eq (pc := 4) 16 dX0_wholeBound_4 rfl (fun hc8 => ?_) (fun hc8 => ?_)
  · replace hf := jifp hc8 hf
    exact g_weakK (K4 (Option.some.inj hf).symm) trivial
  · replace hf := jifn hc8 hf
    refine g_aload_n (pc := 7) dX0_wholeBound_7 rfl rfl ?_
    refine g_getI (pc := 8) dX0_wholeBound_8 fl_X0_29 sh_78 rfl ?_
    refine g_bipush (pc := 11) 8 dX0_wholeBound_11 rfl ?_
    refine g_icmp_le (pc := 13) 20 dX0_wholeBound_13 rfl (fun hc7 => ?_) (fun hc7 => ?_)
    · replace hf := jifp hc7 hf
      refine g_aload_n (pc := 20) dX0_wholeBound_20 rfl rfl ?_
      refine g_iconst (pc := 21) 0 dX0_wholeBound_21 rfl ?_
      refine g_iconst (pc := 22) 0 dX0_wholeBound_22 rfl ?_
      refine g_iconst (pc := 23) 0 dX0_wholeBound_23 rfl ?_
      refine g_ldc (pc := 24) 1000000 dX0_wholeBound_24 lc_X0_66 ?_
      refine g_iload_n (pc := 26) dX0_wholeBound_26 rfl rfl ?_
      refine g_iconst (pc := 27) 0 dX0_wholeBound_27 rfl ?_
      obtain ⟨v6, ev6, hf⟩ := job hf
      refine g_callV (pc := 28) [.int 0, .int 0, .int 0, .int 1000000, .int x1, .int 0] [] dX0_wholeBound_28 ml_X0_67 ck_X0_tryRest cv_X0_tryRest sh_78 rfl (by decide) (Nat.le_of_ble_eq_true rfl) (c_X0_tryRest ev6) ?_
      show jGG μ_X0_wholeBound 16 31 [some (.ref 78), some (.int x1)] [.int v6] M (fun M' r' => M' = M ∧ r' = some (.int r))
      obtain rfl := Option.some.inj hf
      replace hf := hy2
      obtain rfl := Option.some.inj hf
      exact g_iret (pc := 31) dX0_wholeBound_31 rfl ⟨rfl, rfl⟩
    · replace hf := jifn hc7 hf
      exact g_weakK (K4 (Option.some.inj hf).symm) trivial
