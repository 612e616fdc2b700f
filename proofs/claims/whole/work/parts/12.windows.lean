def f_X6_raise (M : JMem) (o : Nat) (x1 : Int32) (x2 : Int32) : Option (JMem) := (jrd M (o + 1) 32 x1).bind fun v1 => (if x2 ≤ v1 then some M else (jwr M (o + 1) 32 x1 x2).bind fun M2 => (some (jup M2 o 4 1)).bind fun M3 => some M3)
set_option maxHeartbeats 4000000 in
theorem c_X6_raise {M : JMem} {o : Nat} {x1 : Int32} {x2 : Int32} {Mz : JMem} (ho : isX6 o) (hf : f_X6_raise M o x1 x2 = some Mz) : jCo yX6_raise μ_X6_raise 1 M [.ref o, .int x1, .int x2] Mz none := by
  refine jCt_of (by decide +kernel) rfl (by simp [Value.category]) (Nat.le_of_ble_eq_true rfl) ?_
  unfold f_X6_raise at hf
  show jGG μ_X6_raise 1 0 [some (.ref o), some (.int x1), some (.int x2)] [] M (fun M' r' => M' = Mz ∧ r' = none)
  refine g_aload_n (pc := 0) dX6_raise_0 rfl rfl ?_
  refine g_getR (pc := 1) dX6_raise_1 fl_X6_9 ho.1 rfl ?_
  refine g_iload_n (pc := 4) dX6_raise_4 rfl rfl ?_
  obtain ⟨v1, ev1, hf⟩ := job hf
  refine g_iald (pc := 5) dX6_raise_5 ho.2.1 ev1 ?_
  refine g_iload_n (pc := 6) dX6_raise_6 rfl rfl ?_
  refine g_icmp_ge (pc := 7) 22 dX6_raise_7 rfl (fun hc4 => ?_) (fun hc4 => ?_)
  · replace hf := jifp hc4 hf
    obtain rfl := Option.some.inj hf
    exact g_vret (pc := 22) dX6_raise_22 rfl ⟨rfl, rfl⟩
  · replace hf := jifn hc4 hf
    refine g_aload_n (pc := 10) dX6_raise_10 rfl rfl ?_
    refine g_getR (pc := 11) dX6_raise_11 fl_X6_9 ho.1 rfl ?_
    refine g_iload_n (pc := 14) dX6_raise_14 rfl rfl ?_
    refine g_iload_n (pc := 15) dX6_raise_15 rfl rfl ?_
    obtain ⟨M2, eM2, hf⟩ := job hf
    refine g_iast (pc := 16) dX6_raise_16 ho.2.1 eM2 ?_
    refine g_aload_n (pc := 17) dX6_raise_17 rfl rfl ?_
    refine g_iconst (pc := 18) 1 dX6_raise_18 rfl ?_
    refine g_putZ (pc := 19) dX6_raise_19 fp_X6_38 (Or.inr rfl) ho.1 rfl ?_
    obtain ⟨M3, eM3, hf⟩ := job hf
    rw [Option.some.inj eM3]
    obtain rfl := Option.some.inj hf
    exact g_vret (pc := 22) dX6_raise_22 rfl ⟨rfl, rfl⟩
def f_X6_lower (M : JMem) (o : Nat) (x1 : Int32) (x2 : Int32) : Option (JMem) := (jrd M (o + 2) 32 x1).bind fun v1 => (if v1 ≤ x2 then some M else (jwr M (o + 2) 32 x1 x2).bind fun M2 => (some (jup M2 o 4 1)).bind fun M3 => some M3)
set_option maxHeartbeats 4000000 in
theorem c_X6_lower {M : JMem} {o : Nat} {x1 : Int32} {x2 : Int32} {Mz : JMem} (ho : isX6 o) (hf : f_X6_lower M o x1 x2 = some Mz) : jCo yX6_lower μ_X6_lower 1 M [.ref o, .int x1, .int x2] Mz none := by
  refine jCt_of (by decide +kernel) rfl (by simp [Value.category]) (Nat.le_of_ble_eq_true rfl) ?_
  unfold f_X6_lower at hf
  show jGG μ_X6_lower 1 0 [some (.ref o), some (.int x1), some (.int x2)] [] M (fun M' r' => M' = Mz ∧ r' = none)
  refine g_aload_n (pc := 0) dX6_lower_0 rfl rfl ?_
  refine g_getR (pc := 1) dX6_lower_1 fl_X6_15 ho.1 rfl ?_
  refine g_iload_n (pc := 4) dX6_lower_4 rfl rfl ?_
  obtain ⟨v1, ev1, hf⟩ := job hf
  refine g_iald (pc := 5) dX6_lower_5 ho.2.2.1 ev1 ?_
  refine g_iload_n (pc := 6) dX6_lower_6 rfl rfl ?_
  refine g_icmp_le (pc := 7) 22 dX6_lower_7 rfl (fun hc4 => ?_) (fun hc4 => ?_)
  · replace hf := jifp hc4 hf
    obtain rfl := Option.some.inj hf
    exact g_vret (pc := 22) dX6_lower_22 rfl ⟨rfl, rfl⟩
  · replace hf := jifn hc4 hf
    refine g_aload_n (pc := 10) dX6_lower_10 rfl rfl ?_
    refine g_getR (pc := 11) dX6_lower_11 fl_X6_15 ho.1 rfl ?_
    refine g_iload_n (pc := 14) dX6_lower_14 rfl rfl ?_
    refine g_iload_n (pc := 15) dX6_lower_15 rfl rfl ?_
    obtain ⟨M2, eM2, hf⟩ := job hf
    refine g_iast (pc := 16) dX6_lower_16 ho.2.2.1 eM2 ?_
    refine g_aload_n (pc := 17) dX6_lower_17 rfl rfl ?_
    refine g_iconst (pc := 18) 1 dX6_lower_18 rfl ?_
    refine g_putZ (pc := 19) dX6_lower_19 fp_X6_38 (Or.inr rfl) ho.1 rfl ?_
    obtain ⟨M3, eM3, hf⟩ := job hf
    rw [Option.some.inj eM3]
    obtain rfl := Option.some.inj hf
    exact g_vret (pc := 22) dX6_lower_22 rfl ⟨rfl, rfl⟩
def f_X6_alongPieces (N : Nat) (M : JMem) (o : Nat) : Option (JMem) := ((jLp (σ := Int32 × JMem) (ρ := JMem) N (fun ((z7, M8) : Int32 × JMem) => (if (M8 1 1) ≤ z7 then some (Sum.inr M8) else (jrw 5 12 z7).bind fun w10 => (jrd M8 18 12 z7).bind fun v11 => ((jLp (σ := Int32 × JMem) (ρ := JMem) N (fun ((z18, M19) : Int32 × JMem) => (if v11 ≤ z18 then some (Sum.inr M19) else (jrd M19 w10 8 z18).bind fun v21 => (jrd M19 w10 8 (z18 - 1)).bind fun v22 => (jrd M19 (o + 1) 32 v22).bind fun v23 => (jrd M19 w10 8 (z18 - 1)).bind fun v24 => (jrd M19 21 32 v24).bind fun v25 => (f_X6_raise M19 o v21 (v23 + v25)).bind fun M26 => some (Sum.inl (z18 + 1, M26)))) (1, M8)).bind fun t20 => ((jLp (σ := Int32 × JMem) (ρ := JMem) N (fun ((z34, M35) : Int32 × JMem) => (if z34 ≤ 0 then some (Sum.inr M35) else (jrd M35 w10 8 (z34 - 1)).bind fun v37 => (jrd M35 w10 8 z34).bind fun v38 => (jrd M35 (o + 2) 32 v38).bind fun v39 => (jrd M35 w10 8 z34).bind fun v40 => (jrd M35 21 32 v40).bind fun v41 => (f_X6_lower M35 o v37 (v39 - v41)).bind fun M42 => some (Sum.inl (z34 + (-1), M42)))) (v11 - 1, t20)).bind fun t36 => some (Sum.inl (z7 + 1, t36)))))) (0, M)).bind fun t9 => some t9)
set_option maxHeartbeats 4000000 in
theorem c_X6_alongPieces {N : Nat} {M : JMem} {o : Nat} {Mz : JMem} (ho : isX6 o) (hf : f_X6_alongPieces N M o = some Mz) : jCo yX6_alongPieces μ_X6_alongPieces 2 M [.ref o, .ref 1] Mz none := by
  refine jCt_of (by decide +kernel) rfl (by simp [Value.category]) (Nat.le_of_ble_eq_true rfl) ?_
  unfold f_X6_alongPieces at hf
  show jGG μ_X6_alongPieces 2 0 [some (.ref o), some (.ref 1), none, none, none, none] [] M (fun M' r' => M' = Mz ∧ r' = none)
  refine g_iconst (pc := 0) 0 dX6_alongPieces_0 rfl ?_
  refine g_istore_n (pc := 1) (lv' := [some (.ref o), some (.ref 1), some (.int 0), none, none, none]) dX6_alongPieces_1 rfl (by decide) rfl ?_
  obtain ⟨t9, y2, hy1⟩ := job hf
  have K3 : jGG μ_X6_alongPieces 2 124 [none, none, none, none, none, none] [] t9 (fun M' r' => M' = Mz ∧ r' = none) := by
    replace hf := hy1
    obtain rfl := Option.some.inj hf
    exact g_vret (pc := 124) dX6_alongPieces_124 rfl ⟨rfl, rfl⟩
  refine g_weak (lv' := [some (.ref o), some (.ref 1), some (.int 0), none, none, none]) ⟨rfl, ⟨rfl, ⟨rfl, trivial⟩⟩⟩ ?_
  refine jLp_ind (P := fun ((z7, M8) : Int32 × JMem) => jGG μ_X6_alongPieces 2 2 [some (.ref o), some (.ref 1), some (.int z7), none, none, none] [] M8 (fun M' r' => M' = Mz ∧ r' = none)) ?_ N _ y2
  rintro ⟨z7, M8⟩ x_6 hf ih5 hx4
  show jGG μ_X6_alongPieces 2 2 [some (.ref o), some (.ref 1), some (.int z7), none, none, none] [] M8 (fun M' r' => M' = Mz ∧ r' = none)
  refine g_iload_n (pc := 2) dX6_alongPieces_2 rfl rfl ?_
  refine g_aload_n (pc := 3) dX6_alongPieces_3 rfl rfl ?_
  refine g_getI (pc := 4) dX6_alongPieces_4 fl_X6_64 sh_1 rfl ?_
  refine g_icmp_ge (pc := 7) 124 dX6_alongPieces_7 rfl (fun hc44 => ?_) (fun hc44 => ?_)
  · replace hf := jifp hc44 hf
    have hf := hx4 _ (Option.some.inj hf).symm
    obtain rfl := hf
    exact g_weakK K3 trivial
  · replace hf := jifn hc44 hf
    refine g_aload_n (pc := 10) dX6_alongPieces_10 rfl rfl ?_
    refine g_getR (pc := 11) dX6_alongPieces_11 fl_X6_67 sh_1 rfl ?_
    refine g_iload_n (pc := 14) dX6_alongPieces_14 rfl rfl ?_
    obtain ⟨w10, ew10, hf⟩ := job hf
    refine g_aald (pc := 15) dX6_alongPieces_15 sh_5 ew10 ?_
    refine g_astore_n (pc := 16) (lv' := [some (.ref o), some (.ref 1), some (.int z7), some (.ref w10), none, none]) dX6_alongPieces_16 rfl (by decide) rfl ?_
    refine g_aload_n (pc := 17) dX6_alongPieces_17 rfl rfl ?_
    refine g_getR (pc := 18) dX6_alongPieces_18 fl_X6_71 sh_1 rfl ?_
    refine g_iload_n (pc := 21) dX6_alongPieces_21 rfl rfl ?_
    obtain ⟨v11, ev11, hf⟩ := job hf
    refine g_iald (pc := 22) dX6_alongPieces_22 sh_18 ev11 ?_
    refine g_istore (pc := 23) (lv' := [some (.ref o), some (.ref 1), some (.int z7), some (.ref w10), some (.int v11), none]) dX6_alongPieces_23 (by decide) rfl ?_
    refine g_iconst (pc := 25) 1 dX6_alongPieces_25 rfl ?_
    refine g_istore (pc := 26) (lv' := [some (.ref o), some (.ref 1), some (.int z7), some (.ref w10), some (.int v11), some (.int 1)]) dX6_alongPieces_26 (by decide) rfl ?_
    obtain ⟨t20, y13, hy12⟩ := job hf
    have K14 : jGG μ_X6_alongPieces 2 72 [some (.ref o), some (.ref 1), some (.int z7), some (.ref w10), some (.int v11), none] [] t20 (fun M' r' => M' = Mz ∧ r' = none) := by
      replace hf := hy12
      refine g_iload (pc := 72) dX6_alongPieces_72 rfl ?_
      refine g_iconst (pc := 74) 1 dX6_alongPieces_74 rfl ?_
      refine g_isub (pc := 75) dX6_alongPieces_75 ?_
      refine g_istore (pc := 76) (lv' := [some (.ref o), some (.ref 1), some (.int z7), some (.ref w10), some (.int v11), some (.int (v11 - 1))]) dX6_alongPieces_76 (by decide) rfl ?_
      obtain ⟨t36, y29, hy28⟩ := job hf
      have K30 : jGG μ_X6_alongPieces 2 118 [some (.ref o), some (.ref 1), some (.int z7), none, none, none] [] t36 (fun M' r' => M' = Mz ∧ r' = none) := by
        replace hf := hy28
        refine g_iinc (pc := 118) (lv' := [some (.ref o), some (.ref 1), some (.int (z7 + 1)), none, none, none]) (z7 + 1) dX6_alongPieces_118 rfl rfl (by decide) rfl ?_
        refine g_goto (pc := 121) 2 dX6_alongPieces_121 rfl ?_
        have hih : jGG μ_X6_alongPieces 2 2 [some (.ref o), some (.ref 1), some (.int (z7 + 1)), none, none, none] [] t36 (fun M' r' => M' = Mz ∧ r' = none) := ih5 (z7 + 1, t36) (Option.some.inj hf).symm
        exact g_weakK hih ⟨rfl, ⟨rfl, ⟨rfl, trivial⟩⟩⟩
      refine g_weak (lv' := [some (.ref o), some (.ref 1), some (.int z7), some (.ref w10), none, some (.int (v11 - 1))]) ⟨rfl, ⟨rfl, ⟨rfl, ⟨rfl, ⟨rfl, trivial⟩⟩⟩⟩⟩ ?_
      refine jLp_ind (P := fun ((z34, M35) : Int32 × JMem) => jGG μ_X6_alongPieces 2 78 [some (.ref o), some (.ref 1), some (.int z7), some (.ref w10), none, some (.int z34)] [] M35 (fun M' r' => M' = Mz ∧ r' = none)) ?_ N _ y29
      rintro ⟨z34, M35⟩ x_33 hf ih32 hx31
      show jGG μ_X6_alongPieces 2 78 [some (.ref o), some (.ref 1), some (.int z7), some (.ref w10), none, some (.int z34)] [] M35 (fun M' r' => M' = Mz ∧ r' = none)
      refine g_iload (pc := 78) dX6_alongPieces_78 rfl ?_
      refine g_if_le (pc := 80) 118 dX6_alongPieces_80 rfl (fun hc43 => ?_) (fun hc43 => ?_)
      · replace hf := jifp hc43 hf
        have hf := hx31 _ (Option.some.inj hf).symm
        obtain rfl := hf
        exact g_weakK K30 ⟨rfl, ⟨rfl, ⟨rfl, trivial⟩⟩⟩
      · replace hf := jifn hc43 hf
        refine g_aload_n (pc := 83) dX6_alongPieces_83 rfl rfl ?_
        refine g_aload_n (pc := 84) dX6_alongPieces_84 rfl rfl ?_
        refine g_iload (pc := 85) dX6_alongPieces_85 rfl ?_
        refine g_iconst (pc := 87) 1 dX6_alongPieces_87 rfl ?_
        refine g_isub (pc := 88) dX6_alongPieces_88 ?_
        obtain ⟨v37, ev37, hf⟩ := job hf
        refine g_iald (pc := 89) dX6_alongPieces_89 (jrw_sh gr_5 ew10) ev37 ?_
        refine g_aload_n (pc := 90) dX6_alongPieces_90 rfl rfl ?_
        refine g_getR (pc := 91) dX6_alongPieces_91 fl_X6_15 ho.1 rfl ?_
        refine g_aload_n (pc := 94) dX6_alongPieces_94 rfl rfl ?_
        refine g_iload (pc := 95) dX6_alongPieces_95 rfl ?_
        obtain ⟨v38, ev38, hf⟩ := job hf
        refine g_iald (pc := 97) dX6_alongPieces_97 (jrw_sh gr_5 ew10) ev38 ?_
        obtain ⟨v39, ev39, hf⟩ := job hf
        refine g_iald (pc := 98) dX6_alongPieces_98 ho.2.2.1 ev39 ?_
        refine g_aload_n (pc := 99) dX6_alongPieces_99 rfl rfl ?_
        refine g_getR (pc := 100) dX6_alongPieces_100 fl_X6_61 sh_1 rfl ?_
        refine g_aload_n (pc := 103) dX6_alongPieces_103 rfl rfl ?_
        refine g_iload (pc := 104) dX6_alongPieces_104 rfl ?_
        obtain ⟨v40, ev40, hf⟩ := job hf
        refine g_iald (pc := 106) dX6_alongPieces_106 (jrw_sh gr_5 ew10) ev40 ?_
        obtain ⟨v41, ev41, hf⟩ := job hf
        refine g_iald (pc := 107) dX6_alongPieces_107 sh_21 ev41 ?_
        refine g_isub (pc := 108) dX6_alongPieces_108 ?_
        obtain ⟨M42, eM42, hf⟩ := job hf
        refine g_callV (pc := 109) [.int v37, .int (v39 - v41)] [] dX6_alongPieces_109 ml_X6_78 ck_X6_lower cv_X6_lower ho.1 rfl (by decide) (Nat.le_of_ble_eq_true rfl) (c_X6_lower ho eM42) ?_
        show jGG μ_X6_alongPieces 2 112 [some (.ref o), some (.ref 1), some (.int z7), some (.ref w10), none, some (.int z34)] [] M42 (fun M' r' => M' = Mz ∧ r' = none)
        refine g_iinc (pc := 112) (lv' := [some (.ref o), some (.ref 1), some (.int z7), some (.ref w10), none, some (.int (z34 + (-1)))]) (z34 + (-1)) dX6_alongPieces_112 rfl rfl (by decide) rfl ?_
        refine g_goto (pc := 115) 78 dX6_alongPieces_115 rfl ?_
        have hih : jGG μ_X6_alongPieces 2 78 [some (.ref o), some (.ref 1), some (.int z7), some (.ref w10), none, some (.int (z34 + (-1)))] [] M42 (fun M' r' => M' = Mz ∧ r' = none) := ih32 (z34 + (-1), M42) (Option.some.inj hf).symm
        exact g_weakK hih ⟨rfl, ⟨rfl, ⟨rfl, ⟨rfl, ⟨rfl, trivial⟩⟩⟩⟩⟩
    refine g_weak (lv' := [some (.ref o), some (.ref 1), some (.int z7), some (.ref w10), some (.int v11), some (.int 1)]) ⟨rfl, ⟨rfl, ⟨rfl, ⟨rfl, ⟨rfl, ⟨rfl, trivial⟩⟩⟩⟩⟩⟩ ?_
    refine jLp_ind (P := fun ((z18, M19) : Int32 × JMem) => jGG μ_X6_alongPieces 2 28 [some (.ref o), some (.ref 1), some (.int z7), some (.ref w10), some (.int v11), some (.int z18)] [] M19 (fun M' r' => M' = Mz ∧ r' = none)) ?_ N _ y13
    rintro ⟨z18, M19⟩ x_17 hf ih16 hx15
    show jGG μ_X6_alongPieces 2 28 [some (.ref o), some (.ref 1), some (.int z7), some (.ref w10), some (.int v11), some (.int z18)] [] M19 (fun M' r' => M' = Mz ∧ r' = none)
    refine g_iload (pc := 28) dX6_alongPieces_28 rfl ?_
    refine g_iload (pc := 30) dX6_alongPieces_30 rfl ?_
    refine g_icmp_ge (pc := 32) 72 dX6_alongPieces_32 rfl (fun hc27 => ?_) (fun hc27 => ?_)
    · replace hf := jifp hc27 hf
      have hf := hx15 _ (Option.some.inj hf).symm
      obtain rfl := hf
      exact g_weakK K14 ⟨rfl, ⟨rfl, ⟨rfl, ⟨rfl, ⟨rfl, trivial⟩⟩⟩⟩⟩
    · replace hf := jifn hc27 hf
      refine g_aload_n (pc := 35) dX6_alongPieces_35 rfl rfl ?_
      refine g_aload_n (pc := 36) dX6_alongPieces_36 rfl rfl ?_
      refine g_iload (pc := 37) dX6_alongPieces_37 rfl ?_
      obtain ⟨v21, ev21, hf⟩ := job hf
      refine g_iald (pc := 39) dX6_alongPieces_39 (jrw_sh gr_5 ew10) ev21 ?_
      refine g_aload_n (pc := 40) dX6_alongPieces_40 rfl rfl ?_
      refine g_getR (pc := 41) dX6_alongPieces_41 fl_X6_9 ho.1 rfl ?_
      refine g_aload_n (pc := 44) dX6_alongPieces_44 rfl rfl ?_
      refine g_iload (pc := 45) dX6_alongPieces_45 rfl ?_
      refine g_iconst (pc := 47) 1 dX6_alongPieces_47 rfl ?_
      refine g_isub (pc := 48) dX6_alongPieces_48 ?_
      obtain ⟨v22, ev22, hf⟩ := job hf
      refine g_iald (pc := 49) dX6_alongPieces_49 (jrw_sh gr_5 ew10) ev22 ?_
      obtain ⟨v23, ev23, hf⟩ := job hf
      refine g_iald (pc := 50) dX6_alongPieces_50 ho.2.1 ev23 ?_
      refine g_aload_n (pc := 51) dX6_alongPieces_51 rfl rfl ?_
      refine g_getR (pc := 52) dX6_alongPieces_52 fl_X6_61 sh_1 rfl ?_
      refine g_aload_n (pc := 55) dX6_alongPieces_55 rfl rfl ?_
      refine g_iload (pc := 56) dX6_alongPieces_56 rfl ?_
      refine g_iconst (pc := 58) 1 dX6_alongPieces_58 rfl ?_
      refine g_isub (pc := 59) dX6_alongPieces_59 ?_
      obtain ⟨v24, ev24, hf⟩ := job hf
      refine g_iald (pc := 60) dX6_alongPieces_60 (jrw_sh gr_5 ew10) ev24 ?_
      obtain ⟨v25, ev25, hf⟩ := job hf
      refine g_iald (pc := 61) dX6_alongPieces_61 sh_21 ev25 ?_
      refine g_iadd (pc := 62) dX6_alongPieces_62 ?_
      obtain ⟨M26, eM26, hf⟩ := job hf
      refine g_callV (pc := 63) [.int v21, .int (v23 + v25)] [] dX6_alongPieces_63 ml_X6_74 ck_X6_raise cv_X6_raise ho.1 rfl (by decide) (Nat.le_of_ble_eq_true rfl) (c_X6_raise ho eM26) ?_
      show jGG μ_X6_alongPieces 2 66 [some (.ref o), some (.ref 1), some (.int z7), some (.ref w10), some (.int v11), some (.int z18)] [] M26 (fun M' r' => M' = Mz ∧ r' = none)
      refine g_iinc (pc := 66) (lv' := [some (.ref o), some (.ref 1), some (.int z7), some (.ref w10), some (.int v11), some (.int (z18 + 1))]) (z18 + 1) dX6_alongPieces_66 rfl rfl (by decide) rfl ?_
      refine g_goto (pc := 69) 28 dX6_alongPieces_69 rfl ?_
      have hih : jGG μ_X6_alongPieces 2 28 [some (.ref o), some (.ref 1), some (.int z7), some (.ref w10), some (.int v11), some (.int (z18 + 1))] [] M26 (fun M' r' => M' = Mz ∧ r' = none) := ih16 (z18 + 1, M26) (Option.some.inj hf).symm
      exact g_weakK hih ⟨rfl, ⟨rfl, ⟨rfl, ⟨rfl, ⟨rfl, ⟨rfl, trivial⟩⟩⟩⟩⟩⟩
def f_X6_lookForBurst (N : Nat) (M : JMem) (o : Nat) : Option (JMem) := ((jLp (σ := Int32 × JMem) (ρ := JMem) N (fun ((z7, M8) : Int32 × JMem) => (if (M8 o 3) ≤ z7 then some (Sum.inr M8) else (jrd M8 (o + 2) 32 z7).bind fun v10 => (jrd M8 (o + 1) 32 z7).bind fun v11 => (jrd M8 21 32 z7).bind fun v12 => (((if v12 ≤ (v10 - v11) then some (M8) else (some (jup M8 o 5 1)).bind fun M18 => some (M18)) : Option (JMem)).bind fun M20 => some (Sum.inl (z7 + 1, M20))))) (0, M)).bind fun t9 => some t9)
set_option maxHeartbeats 4000000 in
theorem c_X6_lookForBurst {N : Nat} {M : JMem} {o : Nat} {Mz : JMem} (ho : isX6 o) (hf : f_X6_lookForBurst N M o = some Mz) : jCo yX6_lookForBurst μ_X6_lookForBurst 1 M [.ref o, .ref 1] Mz none := by
  refine jCt_of (by decide +kernel) rfl (by simp [Value.category]) (Nat.le_of_ble_eq_true rfl) ?_
  unfold f_X6_lookForBurst at hf
  show jGG μ_X6_lookForBurst 1 0 [some (.ref o), some (.ref 1), none] [] M (fun M' r' => M' = Mz ∧ r' = none)
  refine g_iconst (pc := 0) 0 dX6_lookForBurst_0 rfl ?_
  refine g_istore_n (pc := 1) (lv' := [some (.ref o), some (.ref 1), some (.int 0)]) dX6_lookForBurst_1 rfl (by decide) rfl ?_
  obtain ⟨t9, y2, hy1⟩ := job hf
  have K3 : jGG μ_X6_lookForBurst 1 43 [none, none, none] [] t9 (fun M' r' => M' = Mz ∧ r' = none) := by
    replace hf := hy1
    obtain rfl := Option.some.inj hf
    exact g_vret (pc := 43) dX6_lookForBurst_43 rfl ⟨rfl, rfl⟩
  refine g_weak (lv' := [some (.ref o), some (.ref 1), some (.int 0)]) ⟨rfl, ⟨rfl, ⟨rfl, trivial⟩⟩⟩ ?_
  refine jLp_ind (P := fun ((z7, M8) : Int32 × JMem) => jGG μ_X6_lookForBurst 1 2 [some (.ref o), some (.ref 1), some (.int z7)] [] M8 (fun M' r' => M' = Mz ∧ r' = none)) ?_ N _ y2
  rintro ⟨z7, M8⟩ x_6 hf ih5 hx4
  show jGG μ_X6_lookForBurst 1 2 [some (.ref o), some (.ref 1), some (.int z7)] [] M8 (fun M' r' => M' = Mz ∧ r' = none)
  refine g_iload_n (pc := 2) dX6_lookForBurst_2 rfl rfl ?_
  refine g_aload_n (pc := 3) dX6_lookForBurst_3 rfl rfl ?_
  refine g_getI (pc := 4) dX6_lookForBurst_4 fl_X6_27 ho.1 rfl ?_
  refine g_icmp_ge (pc := 7) 43 dX6_lookForBurst_7 rfl (fun hc21 => ?_) (fun hc21 => ?_)
  · replace hf := jifp hc21 hf
    have hf := hx4 _ (Option.some.inj hf).symm
    obtain rfl := hf
    exact g_weakK K3 trivial
  · replace hf := jifn hc21 hf
    refine g_aload_n (pc := 10) dX6_lookForBurst_10 rfl rfl ?_
    refine g_getR (pc := 11) dX6_lookForBurst_11 fl_X6_15 ho.1 rfl ?_
    refine g_iload_n (pc := 14) dX6_lookForBurst_14 rfl rfl ?_
    obtain ⟨v10, ev10, hf⟩ := job hf
    refine g_iald (pc := 15) dX6_lookForBurst_15 ho.2.2.1 ev10 ?_
    refine g_aload_n (pc := 16) dX6_lookForBurst_16 rfl rfl ?_
    refine g_getR (pc := 17) dX6_lookForBurst_17 fl_X6_9 ho.1 rfl ?_
    refine g_iload_n (pc := 20) dX6_lookForBurst_20 rfl rfl ?_
    obtain ⟨v11, ev11, hf⟩ := job hf
    refine g_iald (pc := 21) dX6_lookForBurst_21 ho.2.1 ev11 ?_
    refine g_isub (pc := 22) dX6_lookForBurst_22 ?_
    refine g_aload_n (pc := 23) dX6_lookForBurst_23 rfl rfl ?_
    refine g_getR (pc := 24) dX6_lookForBurst_24 fl_X6_61 sh_1 rfl ?_
    refine g_iload_n (pc := 27) dX6_lookForBurst_27 rfl rfl ?_
    obtain ⟨v12, ev12, hf⟩ := job hf
    refine g_iald (pc := 28) dX6_lookForBurst_28 sh_21 ev12 ?_
    obtain ⟨M20, hf, hy14⟩ := job hf
    have K16 : jGG μ_X6_lookForBurst 1 37 [some (.ref o), some (.ref 1), some (.int z7)] [] M20 (fun M' r' => M' = Mz ∧ r' = none) := by
      replace hf := hy14
      refine g_iinc (pc := 37) (lv' := [some (.ref o), some (.ref 1), some (.int (z7 + 1))]) (z7 + 1) dX6_lookForBurst_37 rfl rfl (by decide) rfl ?_
      refine g_goto (pc := 40) 2 dX6_lookForBurst_40 rfl ?_
      have hih : jGG μ_X6_lookForBurst 1 2 [some (.ref o), some (.ref 1), some (.int (z7 + 1))] [] M20 (fun M' r' => M' = Mz ∧ r' = none) := ih5 (z7 + 1, M20) (Option.some.inj hf).symm
      exact g_weakK hih ⟨rfl, ⟨rfl, ⟨rfl, trivial⟩⟩⟩
    refine g_icmp_ge (pc := 29) 37 dX6_lookForBurst_29 rfl (fun hc19 => ?_) (fun hc19 => ?_)
    · replace hf := jifp hc19 hf
      obtain rfl := Option.some.inj hf
      exact g_weakK (K16) ⟨rfl, ⟨rfl, ⟨rfl, trivial⟩⟩⟩
    · replace hf := jifn hc19 hf
      refine g_aload_n (pc := 32) dX6_lookForBurst_32 rfl rfl ?_
      refine g_iconst (pc := 33) 1 dX6_lookForBurst_33 rfl ?_
      refine g_putZ (pc := 34) dX6_lookForBurst_34 fp_X6_34 (Or.inr rfl) ho.1 rfl ?_
      obtain ⟨M18, eM18, hf⟩ := job hf
      rw [Option.some.inj eM18]
      obtain rfl := Option.some.inj hf
      exact g_weakK (K16) ⟨rfl, ⟨rfl, ⟨rfl, trivial⟩⟩⟩
def f_X6_isAhead (M : JMem) (o : Nat) (x1 : Int32) (x2 : Int32) : Option (Int32) := (jrd M (o + 3) 32 x1).bind fun v1 => (if ((jushr v1 x2) &&& 1) = 0 then some 0 else some 1)
set_option maxHeartbeats 4000000 in
theorem c_X6_isAhead {M : JMem} {o : Nat} {x1 : Int32} {x2 : Int32} {r : Int32} (ho : isX6 o) (hf : f_X6_isAhead M o x1 x2 = some r) : jCo yX6_isAhead μ_X6_isAhead 1 M [.ref o, .int x1, .int x2] M (some (.int r)) := by
  refine jCt_of (by decide +kernel) rfl (by simp [Value.category]) (Nat.le_of_ble_eq_true rfl) ?_
  unfold f_X6_isAhead at hf
  show jGG μ_X6_isAhead 1 0 [some (.ref o), some (.int x1), some (.int x2)] [] M (fun M' r' => M' = M ∧ r' = some (.int r))
  refine g_aload_n (pc := 0) dX6_isAhead_0 rfl rfl ?_
  refine g_getR (pc := 1) dX6_isAhead_1 fl_X6_18 ho.1 rfl ?_
  refine g_iload_n (pc := 4) dX6_isAhead_4 rfl rfl ?_
  obtain ⟨v1, ev1, hf⟩ := job hf
  refine g_iald (pc := 5) dX6_isAhead_5 ho.2.2.2 ev1 ?_
  refine g_iload_n (pc := 6) dX6_isAhead_6 rfl rfl ?_
  refine g_iushr (pc := 7) dX6_isAhead_7 ?_
  refine g_iconst (pc := 8) 1 dX6_isAhead_8 rfl ?_
  refine g_iand (pc := 9) dX6_isAhead_9 ?_
  refine g_if_eq (pc := 10) 17 dX6_isAhead_10 rfl (fun hc2 => ?_) (fun hc2 => ?_)
  · replace hf := jifp hc2 hf
    refine g_iconst (pc := 17) 0 dX6_isAhead_17 rfl ?_
    obtain rfl := Option.some.inj hf
    exact g_zret (pc := 18) dX6_isAhead_18 rfl (Or.inl rfl) ⟨rfl, rfl⟩
  · replace hf := jifn hc2 hf
    refine g_iconst (pc := 13) 1 dX6_isAhead_13 rfl ?_
    refine g_goto (pc := 14) 18 dX6_isAhead_14 rfl ?_
    obtain rfl := Option.some.inj hf
    exact g_zret (pc := 18) dX6_isAhead_18 rfl (Or.inr rfl) ⟨rfl, rfl⟩
def f_X6_alongPairs (N : Nat) (M : JMem) (o : Nat) : Option (JMem) := ((jLp (σ := Int32 × JMem) (ρ := JMem) N (fun ((z7, M8) : Int32 × JMem) => (if (M8 o 3) ≤ z7 then some (Sum.inr M8) else ((jLp (σ := Int32 × JMem) (ρ := JMem) N (fun ((z16, M17) : Int32 × JMem) => (if (M17 o 3) ≤ z16 then some (Sum.inr M17) else (f_X6_isAhead M17 o z7 z16).bind fun v19 => (((if v19 = 0 then some (M17) else (jrd M17 (o + 1) 32 z7).bind fun v25 => (jrd M17 21 32 z7).bind fun v26 => (f_X6_raise M17 o z16 (v25 + v26)).bind fun M27 => (jrd M27 (o + 2) 32 z16).bind fun v28 => (jrd M27 21 32 z16).bind fun v29 => (f_X6_lower M27 o z7 (v28 - v29)).bind fun M30 => some (M30)) : Option (JMem)).bind fun M32 => some (Sum.inl (z16 + 1, M32))))) (0, M8)).bind fun t18 => some (Sum.inl (z7 + 1, t18))))) (0, M)).bind fun t9 => some t9)
set_option maxHeartbeats 4000000 in
theorem c_X6_alongPairs {N : Nat} {M : JMem} {o : Nat} {Mz : JMem} (ho : isX6 o) (hf : f_X6_alongPairs N M o = some Mz) : jCo yX6_alongPairs μ_X6_alongPairs 2 M [.ref o, .ref 1] Mz none := by
  refine jCt_of (by decide +kernel) rfl (by simp [Value.category]) (Nat.le_of_ble_eq_true rfl) ?_
  unfold f_X6_alongPairs at hf
  show jGG μ_X6_alongPairs 2 0 [some (.ref o), some (.ref 1), none, none] [] M (fun M' r' => M' = Mz ∧ r' = none)
  refine g_iconst (pc := 0) 0 dX6_alongPairs_0 rfl ?_
  refine g_istore_n (pc := 1) (lv' := [some (.ref o), some (.ref 1), some (.int 0), none]) dX6_alongPairs_1 rfl (by decide) rfl ?_
  obtain ⟨t9, y2, hy1⟩ := job hf
  have K3 : jGG μ_X6_alongPairs 2 77 [none, none, none, none] [] t9 (fun M' r' => M' = Mz ∧ r' = none) := by
    replace hf := hy1
    obtain rfl := Option.some.inj hf
    exact g_vret (pc := 77) dX6_alongPairs_77 rfl ⟨rfl, rfl⟩
  refine g_weak (lv' := [some (.ref o), some (.ref 1), some (.int 0), none]) ⟨rfl, ⟨rfl, ⟨rfl, trivial⟩⟩⟩ ?_
  refine jLp_ind (P := fun ((z7, M8) : Int32 × JMem) => jGG μ_X6_alongPairs 2 2 [some (.ref o), some (.ref 1), some (.int z7), none] [] M8 (fun M' r' => M' = Mz ∧ r' = none)) ?_ N _ y2
  rintro ⟨z7, M8⟩ x_6 hf ih5 hx4
  show jGG μ_X6_alongPairs 2 2 [some (.ref o), some (.ref 1), some (.int z7), none] [] M8 (fun M' r' => M' = Mz ∧ r' = none)
  refine g_iload_n (pc := 2) dX6_alongPairs_2 rfl rfl ?_
  refine g_aload_n (pc := 3) dX6_alongPairs_3 rfl rfl ?_
  refine g_getI (pc := 4) dX6_alongPairs_4 fl_X6_27 ho.1 rfl ?_
  refine g_icmp_ge (pc := 7) 77 dX6_alongPairs_7 rfl (fun hc34 => ?_) (fun hc34 => ?_)
  · replace hf := jifp hc34 hf
    have hf := hx4 _ (Option.some.inj hf).symm
    obtain rfl := hf
    exact g_weakK K3 trivial
  · replace hf := jifn hc34 hf
    refine g_iconst (pc := 10) 0 dX6_alongPairs_10 rfl ?_
    refine g_istore_n (pc := 11) (lv' := [some (.ref o), some (.ref 1), some (.int z7), some (.int 0)]) dX6_alongPairs_11 rfl (by decide) rfl ?_
    obtain ⟨t18, y11, hy10⟩ := job hf
    have K12 : jGG μ_X6_alongPairs 2 71 [some (.ref o), some (.ref 1), some (.int z7), none] [] t18 (fun M' r' => M' = Mz ∧ r' = none) := by
      replace hf := hy10
      refine g_iinc (pc := 71) (lv' := [some (.ref o), some (.ref 1), some (.int (z7 + 1)), none]) (z7 + 1) dX6_alongPairs_71 rfl rfl (by decide) rfl ?_
      refine g_goto (pc := 74) 2 dX6_alongPairs_74 rfl ?_
      have hih : jGG μ_X6_alongPairs 2 2 [some (.ref o), some (.ref 1), some (.int (z7 + 1)), none] [] t18 (fun M' r' => M' = Mz ∧ r' = none) := ih5 (z7 + 1, t18) (Option.some.inj hf).symm
      exact g_weakK hih ⟨rfl, ⟨rfl, ⟨rfl, trivial⟩⟩⟩
    refine g_weak (lv' := [some (.ref o), some (.ref 1), some (.int z7), some (.int 0)]) ⟨rfl, ⟨rfl, ⟨rfl, ⟨rfl, trivial⟩⟩⟩⟩ ?_
    refine jLp_ind (P := fun ((z16, M17) : Int32 × JMem) => jGG μ_X6_alongPairs 2 12 [some (.ref o), some (.ref 1), some (.int z7), some (.int z16)] [] M17 (fun M' r' => M' = Mz ∧ r' = none)) ?_ N _ y11
    rintro ⟨z16, M17⟩ x_15 hf ih14 hx13
    show jGG μ_X6_alongPairs 2 12 [some (.ref o), some (.ref 1), some (.int z7), some (.int z16)] [] M17 (fun M' r' => M' = Mz ∧ r' = none)
    refine g_iload_n (pc := 12) dX6_alongPairs_12 rfl rfl ?_
    refine g_aload_n (pc := 13) dX6_alongPairs_13 rfl rfl ?_
    refine g_getI (pc := 14) dX6_alongPairs_14 fl_X6_27 ho.1 rfl ?_
    refine g_icmp_ge (pc := 17) 71 dX6_alongPairs_17 rfl (fun hc33 => ?_) (fun hc33 => ?_)
    · replace hf := jifp hc33 hf
      have hf := hx13 _ (Option.some.inj hf).symm
      obtain rfl := hf
      exact g_weakK K12 ⟨rfl, ⟨rfl, ⟨rfl, trivial⟩⟩⟩
    · replace hf := jifn hc33 hf
      refine g_aload_n (pc := 20) dX6_alongPairs_20 rfl rfl ?_
      refine g_iload_n (pc := 21) dX6_alongPairs_21 rfl rfl ?_
      refine g_iload_n (pc := 22) dX6_alongPairs_22 rfl rfl ?_
      obtain ⟨v19, ev19, hf⟩ := job hf
      refine g_callV (pc := 23) [.int z7, .int z16] [] dX6_alongPairs_23 ml_X6_57 ck_X6_isAhead cv_X6_isAhead ho.1 rfl (by decide) (Nat.le_of_ble_eq_true rfl) (c_X6_isAhead ho ev19) ?_
      show jGG μ_X6_alongPairs 2 26 [some (.ref o), some (.ref 1), some (.int z7), some (.int z16)] [.int v19] M17 (fun M' r' => M' = Mz ∧ r' = none)
      obtain ⟨M32, hf, hy21⟩ := job hf
      have K23 : jGG μ_X6_alongPairs 2 65 [some (.ref o), some (.ref 1), some (.int z7), some (.int z16)] [] M32 (fun M' r' => M' = Mz ∧ r' = none) := by
        replace hf := hy21
        refine g_iinc (pc := 65) (lv' := [some (.ref o), some (.ref 1), some (.int z7), some (.int (z16 + 1))]) (z16 + 1) dX6_alongPairs_65 rfl rfl (by decide) rfl ?_
        refine g_goto (pc := 68) 12 dX6_alongPairs_68 rfl ?_
        have hih : jGG μ_X6_alongPairs 2 12 [some (.ref o), some (.ref 1), some (.int z7), some (.int (z16 + 1))] [] M32 (fun M' r' => M' = Mz ∧ r' = none) := ih14 (z16 + 1, M32) (Option.some.inj hf).symm
        exact g_weakK hih ⟨rfl, ⟨rfl, ⟨rfl, ⟨rfl, trivial⟩⟩⟩⟩
      refine g_if_eq (pc := 26) 65 dX6_alongPairs_26 rfl (fun hc31 => ?_) (fun hc31 => ?_)
      · replace hf := jifp hc31 hf
        obtain rfl := Option.some.inj hf
        exact g_weakK (K23) ⟨rfl, ⟨rfl, ⟨rfl, ⟨rfl, trivial⟩⟩⟩⟩
      · replace hf := jifn hc31 hf
        refine g_aload_n (pc := 29) dX6_alongPairs_29 rfl rfl ?_
        refine g_iload_n (pc := 30) dX6_alongPairs_30 rfl rfl ?_
        refine g_aload_n (pc := 31) dX6_alongPairs_31 rfl rfl ?_
        refine g_getR (pc := 32) dX6_alongPairs_32 fl_X6_9 ho.1 rfl ?_
        refine g_iload_n (pc := 35) dX6_alongPairs_35 rfl rfl ?_
        obtain ⟨v25, ev25, hf⟩ := job hf
        refine g_iald (pc := 36) dX6_alongPairs_36 ho.2.1 ev25 ?_
        refine g_aload_n (pc := 37) dX6_alongPairs_37 rfl rfl ?_
        refine g_getR (pc := 38) dX6_alongPairs_38 fl_X6_61 sh_1 rfl ?_
        refine g_iload_n (pc := 41) dX6_alongPairs_41 rfl rfl ?_
        obtain ⟨v26, ev26, hf⟩ := job hf
        refine g_iald (pc := 42) dX6_alongPairs_42 sh_21 ev26 ?_
        refine g_iadd (pc := 43) dX6_alongPairs_43 ?_
        obtain ⟨M27, eM27, hf⟩ := job hf
        refine g_callV (pc := 44) [.int z16, .int (v25 + v26)] [] dX6_alongPairs_44 ml_X6_74 ck_X6_raise cv_X6_raise ho.1 rfl (by decide) (Nat.le_of_ble_eq_true rfl) (c_X6_raise ho eM27) ?_
        show jGG μ_X6_alongPairs 2 47 [some (.ref o), some (.ref 1), some (.int z7), some (.int z16)] [] M27 (fun M' r' => M' = Mz ∧ r' = none)
        refine g_aload_n (pc := 47) dX6_alongPairs_47 rfl rfl ?_
        refine g_iload_n (pc := 48) dX6_alongPairs_48 rfl rfl ?_
        refine g_aload_n (pc := 49) dX6_alongPairs_49 rfl rfl ?_
        refine g_getR (pc := 50) dX6_alongPairs_50 fl_X6_15 ho.1 rfl ?_
        refine g_iload_n (pc := 53) dX6_alongPairs_53 rfl rfl ?_
        obtain ⟨v28, ev28, hf⟩ := job hf
        refine g_iald (pc := 54) dX6_alongPairs_54 ho.2.2.1 ev28 ?_
        refine g_aload_n (pc := 55) dX6_alongPairs_55 rfl rfl ?_
        refine g_getR (pc := 56) dX6_alongPairs_56 fl_X6_61 sh_1 rfl ?_
        refine g_iload_n (pc := 59) dX6_alongPairs_59 rfl rfl ?_
        obtain ⟨v29, ev29, hf⟩ := job hf
        refine g_iald (pc := 60) dX6_alongPairs_60 sh_21 ev29 ?_
        refine g_isub (pc := 61) dX6_alongPairs_61 ?_
        obtain ⟨M30, eM30, hf⟩ := job hf
        refine g_callV (pc := 62) [.int z7, .int (v28 - v29)] [] dX6_alongPairs_62 ml_X6_78 ck_X6_lower cv_X6_lower ho.1 rfl (by decide) (Nat.le_of_ble_eq_true rfl) (c_X6_lower ho eM30) ?_
        show jGG μ_X6_alongPairs 2 65 [some (.ref o), some (.ref 1), some (.int z7), some (.int z16)] [] M30 (fun M' r' => M' = Mz ∧ r' = none)
        obtain rfl := Option.some.inj hf
        exact g_weakK (K23) ⟨rfl, ⟨rfl, ⟨rfl, ⟨rfl, trivial⟩⟩⟩⟩
def f_X6_isOpen (M : JMem) (o : Nat) (x1 : Int32) (x2 : Int32) : Option (Int32) := (f_X6_isAhead M o x1 x2).bind fun v1 => (if v1 = 0 then (f_X6_isAhead M o x2 x1).bind fun v2 => (if v2 = 0 then some 1 else some 0) else some 0)
set_option maxHeartbeats 4000000 in
theorem c_X6_isOpen {M : JMem} {o : Nat} {x1 : Int32} {x2 : Int32} {r : Int32} (ho : isX6 o) (hf : f_X6_isOpen M o x1 x2 = some r) : jCo yX6_isOpen μ_X6_isOpen 2 M [.ref o, .int x1, .int x2] M (some (.int r)) := by
  refine jCt_of (by decide +kernel) rfl (by simp [Value.category]) (Nat.le_of_ble_eq_true rfl) ?_
  unfold f_X6_isOpen at hf
  show jGG μ_X6_isOpen 2 0 [some (.ref o), some (.int x1), some (.int x2)] [] M (fun M' r' => M' = M ∧ r' = some (.int r))
  refine g_aload_n (pc := 0) dX6_isOpen_0 rfl rfl ?_
  refine g_iload_n (pc := 1) dX6_isOpen_1 rfl rfl ?_
  refine g_iload_n (pc := 2) dX6_isOpen_2 rfl rfl ?_
  obtain ⟨v1, ev1, hf⟩ := job hf
  refine g_callV (pc := 3) [.int x1, .int x2] [] dX6_isOpen_3 ml_X6_57 ck_X6_isAhead cv_X6_isAhead ho.1 rfl (by decide) (Nat.le_of_ble_eq_true rfl) (c_X6_isAhead ho ev1) ?_
  show jGG μ_X6_isOpen 2 6 [some (.ref o), some (.int x1), some (.int x2)] [.int v1] M (fun M' r' => M' = M ∧ r' = some (.int r))
  refine g_if_ne (pc := 6) 22 dX6_isOpen_6 rfl (fun hc4 => ?_) (fun hc4 => ?_)
  · replace hf := jifn hc4 hf
    refine g_iconst (pc := 22) 0 dX6_isOpen_22 rfl ?_
    obtain rfl := Option.some.inj hf
    exact g_zret (pc := 23) dX6_isOpen_23 rfl (Or.inl rfl) ⟨rfl, rfl⟩
  · replace hf := jifp hc4 hf
    refine g_aload_n (pc := 9) dX6_isOpen_9 rfl rfl ?_
    refine g_iload_n (pc := 10) dX6_isOpen_10 rfl rfl ?_
    refine g_iload_n (pc := 11) dX6_isOpen_11 rfl rfl ?_
    obtain ⟨v2, ev2, hf⟩ := job hf
    refine g_callV (pc := 12) [.int x2, .int x1] [] dX6_isOpen_12 ml_X6_57 ck_X6_isAhead cv_X6_isAhead ho.1 rfl (by decide) (Nat.le_of_ble_eq_true rfl) (c_X6_isAhead ho ev2) ?_
    show jGG μ_X6_isOpen 2 15 [some (.ref o), some (.int x1), some (.int x2)] [.int v2] M (fun M' r' => M' = M ∧ r' = some (.int r))
    refine g_if_ne (pc := 15) 22 dX6_isOpen_15 rfl (fun hc3 => ?_) (fun hc3 => ?_)
    · replace hf := jifn hc3 hf
      refine g_iconst (pc := 22) 0 dX6_isOpen_22 rfl ?_
      obtain rfl := Option.some.inj hf
      exact g_zret (pc := 23) dX6_isOpen_23 rfl (Or.inl rfl) ⟨rfl, rfl⟩
    · replace hf := jifp hc3 hf
      refine g_iconst (pc := 18) 1 dX6_isOpen_18 rfl ?_
      refine g_goto (pc := 19) 23 dX6_isOpen_19 rfl ?_
      obtain rfl := Option.some.inj hf
      exact g_zret (pc := 23) dX6_isOpen_23 rfl (Or.inr rfl) ⟨rfl, rfl⟩
def f_X6_tellAhead (M : JMem) (o : Nat) (x1 : Int32) (x2 : Int32) : Option (JMem) := (jrd M (o + 3) 32 x1).bind fun v1 => (jwr M (o + 3) 32 x1 (v1 ||| (jshl 1 x2))).bind fun M2 => (some (jup M2 o 4 1)).bind fun M3 => some M3
set_option maxHeartbeats 4000000 in
theorem c_X6_tellAhead {M : JMem} {o : Nat} {x1 : Int32} {x2 : Int32} {Mz : JMem} (ho : isX6 o) (hf : f_X6_tellAhead M o x1 x2 = some Mz) : jCo yX6_tellAhead μ_X6_tellAhead 1 M [.ref o, .int x1, .int x2] Mz none := by
  refine jCt_of (by decide +kernel) rfl (by simp [Value.category]) (Nat.le_of_ble_eq_true rfl) ?_
  unfold f_X6_tellAhead at hf
  show jGG μ_X6_tellAhead 1 0 [some (.ref o), some (.int x1), some (.int x2)] [] M (fun M' r' => M' = Mz ∧ r' = none)
  refine g_aload_n (pc := 0) dX6_tellAhead_0 rfl rfl ?_
  refine g_getR (pc := 1) dX6_tellAhead_1 fl_X6_18 ho.1 rfl ?_
  refine g_iload_n (pc := 4) dX6_tellAhead_4 rfl rfl ?_
  refine g_dup2 (pc := 5) dX6_tellAhead_5 rfl rfl ?_
  obtain ⟨v1, ev1, hf⟩ := job hf
  refine g_iald (pc := 6) dX6_tellAhead_6 ho.2.2.2 ev1 ?_
  refine g_iconst (pc := 7) 1 dX6_tellAhead_7 rfl ?_
  refine g_iload_n (pc := 8) dX6_tellAhead_8 rfl rfl ?_
  refine g_ishl (pc := 9) dX6_tellAhead_9 ?_
  refine g_ior (pc := 10) dX6_tellAhead_10 ?_
  obtain ⟨M2, eM2, hf⟩ := job hf
  refine g_iast (pc := 11) dX6_tellAhead_11 ho.2.2.2 eM2 ?_
  refine g_aload_n (pc := 12) dX6_tellAhead_12 rfl rfl ?_
  refine g_iconst (pc := 13) 1 dX6_tellAhead_13 rfl ?_
  refine g_putZ (pc := 14) dX6_tellAhead_14 fp_X6_38 (Or.inr rfl) ho.1 rfl ?_
  obtain ⟨M3, eM3, hf⟩ := job hf
  rw [Option.some.inj eM3]
  obtain rfl := Option.some.inj hf
  exact g_vret (pc := 17) dX6_tellAhead_17 rfl ⟨rfl, rfl⟩
def f_X6_tellPair (M : JMem) (o : Nat) (x2 : Int32) (x3 : Int32) : Option (JMem) := (f_X6_isOpen M o x2 x3).bind fun v1 => (if v1 = 0 then some M else (jrd M 21 32 x2).bind fun v2 => (jrd M 21 32 x3).bind fun v3 => (jrd M (o + 1) 32 x2).bind fun v4 => (jrd M (o + 2) 32 x3).bind fun v5 => (((if (v4 + (v2 + v3)) ≤ v5 then some (0) else some (1)) : Option (Int32)).bind fun u12 => (jrd M (o + 1) 32 x3).bind fun v13 => (jrd M (o + 2) 32 x2).bind fun v14 => (((if (v13 + (v2 + v3)) ≤ v14 then some (0) else some (1)) : Option (Int32)).bind fun u21 => (jcase (α := JMem) (β := Unit) (if u12 = 0 then some (Sum.inr ()) else (if u21 = 0 then some (Sum.inr ()) else (some (jup M o 5 1)).bind fun M27 => some (Sum.inl M27))) fun _ => (if u12 = 0 then (if u21 = 0 then some M else (f_X6_tellAhead M o x2 x3).bind fun M30 => some M30) else (f_X6_tellAhead M o x3 x2).bind fun M32 => some M32)))))
set_option maxHeartbeats 4000000 in
theorem c_X6_tellPair {M : JMem} {o : Nat} {x2 : Int32} {x3 : Int32} {Mz : JMem} (ho : isX6 o) (hf : f_X6_tellPair M o x2 x3 = some Mz) : jCo yX6_tellPair μ_X6_tellPair 3 M [.ref o, .ref 1, .int x2, .int x3] Mz none := by
  refine jCt_of (by decide +kernel) rfl (by simp [Value.category]) (Nat.le_of_ble_eq_true rfl) ?_
  unfold f_X6_tellPair at hf
  show jGG μ_X6_tellPair 3 0 [some (.ref o), some (.ref 1), some (.int x2), some (.int x3), none, none, none] [] M (fun M' r' => M' = Mz ∧ r' = none)
  refine g_aload_n (pc := 0) dX6_tellPair_0 rfl rfl ?_
  refine g_iload_n (pc := 1) dX6_tellPair_1 rfl rfl ?_
  refine g_iload_n (pc := 2) dX6_tellPair_2 rfl rfl ?_
  obtain ⟨v1, ev1, hf⟩ := job hf
  refine g_callV (pc := 3) [.int x2, .int x3] [] dX6_tellPair_3 ml_X6_97 ck_X6_isOpen cv_X6_isOpen ho.1 rfl (by decide) (Nat.le_of_ble_eq_true rfl) (c_X6_isOpen ho ev1) ?_
  show jGG μ_X6_tellPair 3 6 [some (.ref o), some (.ref 1), some (.int x2), some (.int x3), none, none, none] [.int v1] M (fun M' r' => M' = Mz ∧ r' = none)
  refine g_if_ne (pc := 6) 10 dX6_tellPair_6 rfl (fun hc34 => ?_) (fun hc34 => ?_)
  · replace hf := jifn hc34 hf
    refine g_aload_n (pc := 10) dX6_tellPair_10 rfl rfl ?_
    refine g_getR (pc := 11) dX6_tellPair_11 fl_X6_61 sh_1 rfl ?_
    refine g_iload_n (pc := 14) dX6_tellPair_14 rfl rfl ?_
    obtain ⟨v2, ev2, hf⟩ := job hf
    refine g_iald (pc := 15) dX6_tellPair_15 sh_21 ev2 ?_
    refine g_aload_n (pc := 16) dX6_tellPair_16 rfl rfl ?_
    refine g_getR (pc := 17) dX6_tellPair_17 fl_X6_61 sh_1 rfl ?_
    refine g_iload_n (pc := 20) dX6_tellPair_20 rfl rfl ?_
    obtain ⟨v3, ev3, hf⟩ := job hf
    refine g_iald (pc := 21) dX6_tellPair_21 sh_21 ev3 ?_
    refine g_iadd (pc := 22) dX6_tellPair_22 ?_
    refine g_istore (pc := 23) (lv' := [some (.ref o), some (.ref 1), some (.int x2), some (.int x3), some (.int (v2 + v3)), none, none]) dX6_tellPair_23 (by decide) rfl ?_
    refine g_aload_n (pc := 25) dX6_tellPair_25 rfl rfl ?_
    refine g_getR (pc := 26) dX6_tellPair_26 fl_X6_9 ho.1 rfl ?_
    refine g_iload_n (pc := 29) dX6_tellPair_29 rfl rfl ?_
    obtain ⟨v4, ev4, hf⟩ := job hf
    refine g_iald (pc := 30) dX6_tellPair_30 ho.2.1 ev4 ?_
    refine g_iload (pc := 31) dX6_tellPair_31 rfl ?_
    refine g_iadd (pc := 33) dX6_tellPair_33 ?_
    refine g_aload_n (pc := 34) dX6_tellPair_34 rfl rfl ?_
    refine g_getR (pc := 35) dX6_tellPair_35 fl_X6_15 ho.1 rfl ?_
    refine g_iload_n (pc := 38) dX6_tellPair_38 rfl rfl ?_
    obtain ⟨v5, ev5, hf⟩ := job hf
    refine g_iald (pc := 39) dX6_tellPair_39 ho.2.2.1 ev5 ?_
    obtain ⟨u12, hf, hy7⟩ := job hf
    have K9 : (hbu12 : u12 = 0 ∨ u12 = 1) → jGG μ_X6_tellPair 3 48 [some (.ref o), none, some (.int x2), some (.int x3), some (.int (v2 + v3)), none, none] [.int u12] M (fun M' r' => M' = Mz ∧ r' = none) := by
      intro hbu12
      replace hf := hy7
      refine g_istore (pc := 48) (lv' := [some (.ref o), none, some (.int x2), some (.int x3), some (.int (v2 + v3)), some (.int u12), none]) dX6_tellPair_48 (by decide) rfl ?_
      refine g_aload_n (pc := 50) dX6_tellPair_50 rfl rfl ?_
      refine g_getR (pc := 51) dX6_tellPair_51 fl_X6_9 ho.1 rfl ?_
      refine g_iload_n (pc := 54) dX6_tellPair_54 rfl rfl ?_
      obtain ⟨v13, ev13, hf⟩ := job hf
      refine g_iald (pc := 55) dX6_tellPair_55 ho.2.1 ev13 ?_
      refine g_iload (pc := 56) dX6_tellPair_56 rfl ?_
      refine g_iadd (pc := 58) dX6_tellPair_58 ?_
      refine g_aload_n (pc := 59) dX6_tellPair_59 rfl rfl ?_
      refine g_getR (pc := 60) dX6_tellPair_60 fl_X6_15 ho.1 rfl ?_
      refine g_iload_n (pc := 63) dX6_tellPair_63 rfl rfl ?_
      obtain ⟨v14, ev14, hf⟩ := job hf
      refine g_iald (pc := 64) dX6_tellPair_64 ho.2.2.1 ev14 ?_
      obtain ⟨u21, hf, hy16⟩ := job hf
      have K18 : (hbu21 : u21 = 0 ∨ u21 = 1) → jGG μ_X6_tellPair 3 73 [some (.ref o), none, some (.int x2), some (.int x3), none, some (.int u12), none] [.int u21] M (fun M' r' => M' = Mz ∧ r' = none) := by
        intro hbu21
        replace hf := hy16
        refine g_istore (pc := 73) (lv' := [some (.ref o), none, some (.int x2), some (.int x3), none, some (.int u12), some (.int u21)]) dX6_tellPair_73 (by decide) rfl ?_
        refine g_iload (pc := 75) dX6_tellPair_75 rfl ?_
        obtain ⟨y24, hf, hy23⟩ := jcb hf
        have K25 : y24 = Sum.inr () → jGG μ_X6_tellPair 3 93 [some (.ref o), none, some (.int x2), some (.int x3), none, some (.int u12), some (.int u21)] [] M (fun M' r' => M' = Mz ∧ r' = none) := by
          intro hyy
          subst hyy
          replace hf := hy23
          refine g_iload (pc := 93) dX6_tellPair_93 rfl ?_
          refine g_if_eq (pc := 95) 107 dX6_tellPair_95 rfl (fun hc33 => ?_) (fun hc33 => ?_)
          · replace hf := jifp hc33 hf
            refine g_iload (pc := 107) dX6_tellPair_107 rfl ?_
            refine g_if_eq (pc := 109) 118 dX6_tellPair_109 rfl (fun hc31 => ?_) (fun hc31 => ?_)
            · replace hf := jifp hc31 hf
              obtain rfl := Option.some.inj hf
              exact g_vret (pc := 118) dX6_tellPair_118 rfl ⟨rfl, rfl⟩
            · replace hf := jifn hc31 hf
              refine g_aload_n (pc := 112) dX6_tellPair_112 rfl rfl ?_
              refine g_iload_n (pc := 113) dX6_tellPair_113 rfl rfl ?_
              refine g_iload_n (pc := 114) dX6_tellPair_114 rfl rfl ?_
              obtain ⟨M30, eM30, hf⟩ := job hf
              refine g_callV (pc := 115) [.int x2, .int x3] [] dX6_tellPair_115 ml_X6_100 ck_X6_tellAhead cv_X6_tellAhead ho.1 rfl (by decide) (Nat.le_of_ble_eq_true rfl) (c_X6_tellAhead ho eM30) ?_
              show jGG μ_X6_tellPair 3 118 [some (.ref o), none, some (.int x2), some (.int x3), none, some (.int u12), some (.int u21)] [] M30 (fun M' r' => M' = Mz ∧ r' = none)
              obtain rfl := Option.some.inj hf
              exact g_vret (pc := 118) dX6_tellPair_118 rfl ⟨rfl, rfl⟩
          · replace hf := jifn hc33 hf
            refine g_aload_n (pc := 98) dX6_tellPair_98 rfl rfl ?_
            refine g_iload_n (pc := 99) dX6_tellPair_99 rfl rfl ?_
            refine g_iload_n (pc := 100) dX6_tellPair_100 rfl rfl ?_
            obtain ⟨M32, eM32, hf⟩ := job hf
            refine g_callV (pc := 101) [.int x3, .int x2] [] dX6_tellPair_101 ml_X6_100 ck_X6_tellAhead cv_X6_tellAhead ho.1 rfl (by decide) (Nat.le_of_ble_eq_true rfl) (c_X6_tellAhead ho eM32) ?_
            show jGG μ_X6_tellPair 3 104 [some (.ref o), none, some (.int x2), some (.int x3), none, some (.int u12), some (.int u21)] [] M32 (fun M' r' => M' = Mz ∧ r' = none)
            refine g_goto (pc := 104) 118 dX6_tellPair_104 rfl ?_
            obtain rfl := Option.some.inj hf
            exact g_vret (pc := 118) dX6_tellPair_118 rfl ⟨rfl, rfl⟩
        refine g_if_eq (pc := 77) 93 dX6_tellPair_77 rfl (fun hc29 => ?_) (fun hc29 => ?_)
        · replace hf := jifp hc29 hf
          exact g_weakK (K25 (Option.some.inj hf).symm) ⟨rfl, ⟨rfl, ⟨rfl, ⟨rfl, ⟨rfl, trivial⟩⟩⟩⟩⟩
        · replace hf := jifn hc29 hf
          refine g_iload (pc := 80) dX6_tellPair_80 rfl ?_
          refine g_if_eq (pc := 82) 93 dX6_tellPair_82 rfl (fun hc28 => ?_) (fun hc28 => ?_)
          · replace hf := jifp hc28 hf
            exact g_weakK (K25 (Option.some.inj hf).symm) ⟨rfl, ⟨rfl, ⟨rfl, ⟨rfl, ⟨rfl, trivial⟩⟩⟩⟩⟩
          · replace hf := jifn hc28 hf
            refine g_aload_n (pc := 85) dX6_tellPair_85 rfl rfl ?_
            refine g_iconst (pc := 86) 1 dX6_tellPair_86 rfl ?_
            refine g_putZ (pc := 87) dX6_tellPair_87 fp_X6_34 (Or.inr rfl) ho.1 rfl ?_
            obtain ⟨M27, eM27, hf⟩ := job hf
            rw [Option.some.inj eM27]
            refine g_goto (pc := 90) 118 dX6_tellPair_90 rfl ?_
            obtain rfl := Option.some.inj hf
            replace hf := hy23
            obtain rfl := Option.some.inj hf
            exact g_vret (pc := 118) dX6_tellPair_118 rfl ⟨rfl, rfl⟩
      refine g_icmp_le (pc := 65) 72 dX6_tellPair_65 rfl (fun hc20 => ?_) (fun hc20 => ?_)
      · replace hf := jifp hc20 hf
        refine g_iconst (pc := 72) 0 dX6_tellPair_72 rfl ?_
        obtain rfl := Option.some.inj hf
        exact g_weakK (K18 (Or.inl rfl)) ⟨rfl, ⟨rfl, ⟨rfl, ⟨rfl, trivial⟩⟩⟩⟩
      · replace hf := jifn hc20 hf
        refine g_iconst (pc := 68) 1 dX6_tellPair_68 rfl ?_
        refine g_goto (pc := 69) 73 dX6_tellPair_69 rfl ?_
        obtain rfl := Option.some.inj hf
        exact g_weakK (K18 (Or.inr rfl)) ⟨rfl, ⟨rfl, ⟨rfl, ⟨rfl, trivial⟩⟩⟩⟩
    refine g_icmp_le (pc := 40) 47 dX6_tellPair_40 rfl (fun hc11 => ?_) (fun hc11 => ?_)
    · replace hf := jifp hc11 hf
      refine g_iconst (pc := 47) 0 dX6_tellPair_47 rfl ?_
      obtain rfl := Option.some.inj hf
      exact g_weakK (K9 (Or.inl rfl)) ⟨rfl, ⟨rfl, ⟨rfl, ⟨rfl, trivial⟩⟩⟩⟩
    · replace hf := jifn hc11 hf
      refine g_iconst (pc := 43) 1 dX6_tellPair_43 rfl ?_
      refine g_goto (pc := 44) 48 dX6_tellPair_44 rfl ?_
      obtain rfl := Option.some.inj hf
      exact g_weakK (K9 (Or.inr rfl)) ⟨rfl, ⟨rfl, ⟨rfl, ⟨rfl, trivial⟩⟩⟩⟩
  · replace hf := jifp hc34 hf
    obtain rfl := Option.some.inj hf
    exact g_vret (pc := 9) dX6_tellPair_9 rfl ⟨rfl, rfl⟩
def f_X6_tellPairs (N : Nat) (M : JMem) (o : Nat) : Option (JMem) := ((jLp (σ := Int32 × JMem) (ρ := JMem) N (fun ((z7, M8) : Int32 × JMem) => (if (M8 1 0) ≤ z7 then some (Sum.inr M8) else (jrd M8 2 8 z7).bind fun v10 => (((if v10 = 0 then (jrd M8 32 8 z7).bind fun v16 => some (v16) else some (0)) : Option (Int32)).bind fun u18 => ((jLp (σ := Int32 × JMem) (ρ := JMem) N (fun ((z25, M26) : Int32 × JMem) => (if u18 ≤ z25 then some (Sum.inr M26) else ((jLp (σ := Int32 × JMem) (ρ := JMem) N (fun ((z34, M35) : Int32 × JMem) => (if u18 ≤ z34 then some (Sum.inr M35) else (if (M35 o 5) = 0 then (jrw 23 8 z7).bind fun w37 => (jrd M35 w37 32 z25).bind fun v38 => (jrw 23 8 z7).bind fun w39 => (jrd M35 w39 32 z34).bind fun v40 => (f_X6_tellPair M35 o v38 v40).bind fun M41 => some (Sum.inl (z34 + 1, M41)) else some (Sum.inr M35)))) (z25 + 1, M26)).bind fun t36 => some (Sum.inl (z25 + 1, t36))))) (0, M8)).bind fun t27 => some (Sum.inl (z7 + 1, t27)))))) (0, M)).bind fun t9 => some t9)
set_option maxHeartbeats 4000000 in
theorem c_X6_tellPairs {N : Nat} {M : JMem} {o : Nat} {Mz : JMem} (ho : isX6 o) (hf : f_X6_tellPairs N M o = some Mz) : jCo yX6_tellPairs μ_X6_tellPairs 4 M [.ref o, .ref 1] Mz none := by
  refine jCt_of (by decide +kernel) rfl (by simp [Value.category]) (Nat.le_of_ble_eq_true rfl) ?_
  unfold f_X6_tellPairs at hf
  show jGG μ_X6_tellPairs 4 0 [some (.ref o), some (.ref 1), none, none, none, none] [] M (fun M' r' => M' = Mz ∧ r' = none)
  refine g_iconst (pc := 0) 0 dX6_tellPairs_0 rfl ?_
  refine g_istore_n (pc := 1) (lv' := [some (.ref o), some (.ref 1), some (.int 0), none, none, none]) dX6_tellPairs_1 rfl (by decide) rfl ?_
  obtain ⟨t9, y2, hy1⟩ := job hf
  have K3 : jGG μ_X6_tellPairs 4 99 [none, none, none, none, none, none] [] t9 (fun M' r' => M' = Mz ∧ r' = none) := by
    replace hf := hy1
    obtain rfl := Option.some.inj hf
    exact g_vret (pc := 99) dX6_tellPairs_99 rfl ⟨rfl, rfl⟩
  refine g_weak (lv' := [some (.ref o), some (.ref 1), some (.int 0), none, none, none]) ⟨rfl, ⟨rfl, ⟨rfl, trivial⟩⟩⟩ ?_
  refine jLp_ind (P := fun ((z7, M8) : Int32 × JMem) => jGG μ_X6_tellPairs 4 2 [some (.ref o), some (.ref 1), some (.int z7), none, none, none] [] M8 (fun M' r' => M' = Mz ∧ r' = none)) ?_ N _ y2
  rintro ⟨z7, M8⟩ x_6 hf ih5 hx4
  show jGG μ_X6_tellPairs 4 2 [some (.ref o), some (.ref 1), some (.int z7), none, none, none] [] M8 (fun M' r' => M' = Mz ∧ r' = none)
  refine g_iload_n (pc := 2) dX6_tellPairs_2 rfl rfl ?_
  refine g_aload_n (pc := 3) dX6_tellPairs_3 rfl rfl ?_
  refine g_getI (pc := 4) dX6_tellPairs_4 fl_X6_81 sh_1 rfl ?_
  refine g_icmp_ge (pc := 7) 99 dX6_tellPairs_7 rfl (fun hc45 => ?_) (fun hc45 => ?_)
  · replace hf := jifp hc45 hf
    have hf := hx4 _ (Option.some.inj hf).symm
    obtain rfl := hf
    exact g_weakK K3 trivial
  · replace hf := jifn hc45 hf
    refine g_aload_n (pc := 10) dX6_tellPairs_10 rfl rfl ?_
    refine g_getR (pc := 11) dX6_tellPairs_11 fl_X6_84 sh_1 rfl ?_
    refine g_iload_n (pc := 14) dX6_tellPairs_14 rfl rfl ?_
    obtain ⟨v10, ev10, hf⟩ := job hf
    refine g_iald (pc := 15) dX6_tellPairs_15 sh_2 ev10 ?_
    obtain ⟨u18, hf, hy12⟩ := job hf
    have K14 : jGG μ_X6_tellPairs 4 29 [some (.ref o), some (.ref 1), some (.int z7), none, none, none] [.int u18] M8 (fun M' r' => M' = Mz ∧ r' = none) := by
      replace hf := hy12
      refine g_istore_n (pc := 29) (lv' := [some (.ref o), some (.ref 1), some (.int z7), some (.int u18), none, none]) dX6_tellPairs_29 rfl (by decide) rfl ?_
      refine g_iconst (pc := 30) 0 dX6_tellPairs_30 rfl ?_
      refine g_istore (pc := 31) (lv' := [some (.ref o), some (.ref 1), some (.int z7), some (.int u18), some (.int 0), none]) dX6_tellPairs_31 (by decide) rfl ?_
      obtain ⟨t27, y20, hy19⟩ := job hf
      have K21 : jGG μ_X6_tellPairs 4 93 [some (.ref o), some (.ref 1), some (.int z7), none, none, none] [] t27 (fun M' r' => M' = Mz ∧ r' = none) := by
        replace hf := hy19
        refine g_iinc (pc := 93) (lv' := [some (.ref o), some (.ref 1), some (.int (z7 + 1)), none, none, none]) (z7 + 1) dX6_tellPairs_93 rfl rfl (by decide) rfl ?_
        refine g_goto (pc := 96) 2 dX6_tellPairs_96 rfl ?_
        have hih : jGG μ_X6_tellPairs 4 2 [some (.ref o), some (.ref 1), some (.int (z7 + 1)), none, none, none] [] t27 (fun M' r' => M' = Mz ∧ r' = none) := ih5 (z7 + 1, t27) (Option.some.inj hf).symm
        exact g_weakK hih ⟨rfl, ⟨rfl, ⟨rfl, trivial⟩⟩⟩
      refine g_weak (lv' := [some (.ref o), some (.ref 1), some (.int z7), some (.int u18), some (.int 0), none]) ⟨rfl, ⟨rfl, ⟨rfl, ⟨rfl, ⟨rfl, trivial⟩⟩⟩⟩⟩ ?_
      refine jLp_ind (P := fun ((z25, M26) : Int32 × JMem) => jGG μ_X6_tellPairs 4 33 [some (.ref o), some (.ref 1), some (.int z7), some (.int u18), some (.int z25), none] [] M26 (fun M' r' => M' = Mz ∧ r' = none)) ?_ N _ y20
      rintro ⟨z25, M26⟩ x_24 hf ih23 hx22
      show jGG μ_X6_tellPairs 4 33 [some (.ref o), some (.ref 1), some (.int z7), some (.int u18), some (.int z25), none] [] M26 (fun M' r' => M' = Mz ∧ r' = none)
      refine g_iload (pc := 33) dX6_tellPairs_33 rfl ?_
      refine g_iload_n (pc := 35) dX6_tellPairs_35 rfl rfl ?_
      refine g_icmp_ge (pc := 36) 93 dX6_tellPairs_36 rfl (fun hc44 => ?_) (fun hc44 => ?_)
      · replace hf := jifp hc44 hf
        have hf := hx22 _ (Option.some.inj hf).symm
        obtain rfl := hf
        exact g_weakK K21 ⟨rfl, ⟨rfl, ⟨rfl, trivial⟩⟩⟩
      · replace hf := jifn hc44 hf
        refine g_iload (pc := 39) dX6_tellPairs_39 rfl ?_
        refine g_iconst (pc := 41) 1 dX6_tellPairs_41 rfl ?_
        refine g_iadd (pc := 42) dX6_tellPairs_42 ?_
        refine g_istore (pc := 43) (lv' := [some (.ref o), some (.ref 1), some (.int z7), some (.int u18), some (.int z25), some (.int (z25 + 1))]) dX6_tellPairs_43 (by decide) rfl ?_
        obtain ⟨t36, y29, hy28⟩ := job hf
        have K30 : jGG μ_X6_tellPairs 4 87 [some (.ref o), some (.ref 1), some (.int z7), some (.int u18), some (.int z25), none] [] t36 (fun M' r' => M' = Mz ∧ r' = none) := by
          replace hf := hy28
          refine g_iinc (pc := 87) (lv' := [some (.ref o), some (.ref 1), some (.int z7), some (.int u18), some (.int (z25 + 1)), none]) (z25 + 1) dX6_tellPairs_87 rfl rfl (by decide) rfl ?_
          refine g_goto (pc := 90) 33 dX6_tellPairs_90 rfl ?_
          have hih : jGG μ_X6_tellPairs 4 33 [some (.ref o), some (.ref 1), some (.int z7), some (.int u18), some (.int (z25 + 1)), none] [] t36 (fun M' r' => M' = Mz ∧ r' = none) := ih23 (z25 + 1, t36) (Option.some.inj hf).symm
          exact g_weakK hih ⟨rfl, ⟨rfl, ⟨rfl, ⟨rfl, ⟨rfl, trivial⟩⟩⟩⟩⟩
        refine g_weak (lv' := [some (.ref o), some (.ref 1), some (.int z7), some (.int u18), some (.int z25), some (.int (z25 + 1))]) ⟨rfl, ⟨rfl, ⟨rfl, ⟨rfl, ⟨rfl, ⟨rfl, trivial⟩⟩⟩⟩⟩⟩ ?_
        refine jLp_ind (P := fun ((z34, M35) : Int32 × JMem) => jGG μ_X6_tellPairs 4 45 [some (.ref o), some (.ref 1), some (.int z7), some (.int u18), some (.int z25), some (.int z34)] [] M35 (fun M' r' => M' = Mz ∧ r' = none)) ?_ N _ y29
        rintro ⟨z34, M35⟩ x_33 hf ih32 hx31
        show jGG μ_X6_tellPairs 4 45 [some (.ref o), some (.ref 1), some (.int z7), some (.int u18), some (.int z25), some (.int z34)] [] M35 (fun M' r' => M' = Mz ∧ r' = none)
        refine g_iload (pc := 45) dX6_tellPairs_45 rfl ?_
        refine g_iload_n (pc := 47) dX6_tellPairs_47 rfl rfl ?_
        refine g_icmp_ge (pc := 48) 87 dX6_tellPairs_48 rfl (fun hc43 => ?_) (fun hc43 => ?_)
        · replace hf := jifp hc43 hf
          have hf := hx31 _ (Option.some.inj hf).symm
          obtain rfl := hf
          exact g_weakK K30 ⟨rfl, ⟨rfl, ⟨rfl, ⟨rfl, ⟨rfl, trivial⟩⟩⟩⟩⟩
        · replace hf := jifn hc43 hf
          refine g_aload_n (pc := 51) dX6_tellPairs_51 rfl rfl ?_
          refine g_getI (pc := 52) dX6_tellPairs_52 fl_X6_34 ho.1 rfl ?_
          refine g_if_ne (pc := 55) 87 dX6_tellPairs_55 rfl (fun hc42 => ?_) (fun hc42 => ?_)
          · replace hf := jifn hc42 hf
            have hf := hx31 _ (Option.some.inj hf).symm
            obtain rfl := hf
            exact g_weakK K30 ⟨rfl, ⟨rfl, ⟨rfl, ⟨rfl, ⟨rfl, trivial⟩⟩⟩⟩⟩
          · replace hf := jifp hc42 hf
            refine g_aload_n (pc := 58) dX6_tellPairs_58 rfl rfl ?_
            refine g_aload_n (pc := 59) dX6_tellPairs_59 rfl rfl ?_
            refine g_aload_n (pc := 60) dX6_tellPairs_60 rfl rfl ?_
            refine g_getR (pc := 61) dX6_tellPairs_61 fl_X6_90 sh_1 rfl ?_
            refine g_iload_n (pc := 64) dX6_tellPairs_64 rfl rfl ?_
            obtain ⟨w37, ew37, hf⟩ := job hf
            refine g_aald (pc := 65) dX6_tellPairs_65 sh_23 ew37 ?_
            refine g_iload (pc := 66) dX6_tellPairs_66 rfl ?_
            obtain ⟨v38, ev38, hf⟩ := job hf
            refine g_iald (pc := 68) dX6_tellPairs_68 (jrw_sh gr_23 ew37) ev38 ?_
            refine g_aload_n (pc := 69) dX6_tellPairs_69 rfl rfl ?_
            refine g_getR (pc := 70) dX6_tellPairs_70 fl_X6_90 sh_1 rfl ?_
            refine g_iload_n (pc := 73) dX6_tellPairs_73 rfl rfl ?_
            obtain ⟨w39, ew39, hf⟩ := job hf
            refine g_aald (pc := 74) dX6_tellPairs_74 sh_23 ew39 ?_
            refine g_iload (pc := 75) dX6_tellPairs_75 rfl ?_
            obtain ⟨v40, ev40, hf⟩ := job hf
            refine g_iald (pc := 77) dX6_tellPairs_77 (jrw_sh gr_23 ew39) ev40 ?_
            obtain ⟨M41, eM41, hf⟩ := job hf
            refine g_callV (pc := 78) [.ref 1, .int v38, .int v40] [] dX6_tellPairs_78 ml_X6_93 ck_X6_tellPair cv_X6_tellPair ho.1 rfl (by decide) (Nat.le_of_ble_eq_true rfl) (c_X6_tellPair ho eM41) ?_
            show jGG μ_X6_tellPairs 4 81 [some (.ref o), some (.ref 1), some (.int z7), some (.int u18), some (.int z25), some (.int z34)] [] M41 (fun M' r' => M' = Mz ∧ r' = none)
            refine g_iinc (pc := 81) (lv' := [some (.ref o), some (.ref 1), some (.int z7), some (.int u18), some (.int z25), some (.int (z34 + 1))]) (z34 + 1) dX6_tellPairs_81 rfl rfl (by decide) rfl ?_
            refine g_goto (pc := 84) 45 dX6_tellPairs_84 rfl ?_
            have hih : jGG μ_X6_tellPairs 4 45 [some (.ref o), some (.ref 1), some (.int z7), some (.int u18), some (.int z25), some (.int (z34 + 1))] [] M41 (fun M' r' => M' = Mz ∧ r' = none) := ih32 (z34 + 1, M41) (Option.some.inj hf).symm
            exact g_weakK hih ⟨rfl, ⟨rfl, ⟨rfl, ⟨rfl, ⟨rfl, ⟨rfl, trivial⟩⟩⟩⟩⟩⟩
    refine g_if_ne (pc := 16) 28 dX6_tellPairs_16 rfl (fun hc17 => ?_) (fun hc17 => ?_)
    · replace hf := jifn hc17 hf
      refine g_iconst (pc := 28) 0 dX6_tellPairs_28 rfl ?_
      obtain rfl := Option.some.inj hf
      exact g_weakK (K14) ⟨rfl, ⟨rfl, ⟨rfl, trivial⟩⟩⟩
    · replace hf := jifp hc17 hf
      refine g_aload_n (pc := 19) dX6_tellPairs_19 rfl rfl ?_
      refine g_getR (pc := 20) dX6_tellPairs_20 fl_X6_87 sh_1 rfl ?_
      refine g_iload_n (pc := 23) dX6_tellPairs_23 rfl rfl ?_
      obtain ⟨v16, ev16, hf⟩ := job hf
      refine g_iald (pc := 24) dX6_tellPairs_24 sh_32 ev16 ?_
      refine g_goto (pc := 25) 29 dX6_tellPairs_25 rfl ?_
      obtain rfl := Option.some.inj hf
      exact g_weakK (K14) ⟨rfl, ⟨rfl, ⟨rfl, trivial⟩⟩⟩
def f_X6_keepOff (M : JMem) (o : Nat) (x1 : Int32) (x2 : Int32) (x3 : Int32) (x4 : Int32) (x5 : Int32) : Option (JMem) := (jrd M (o + 1) 32 x1).bind fun v1 => (((if (((jmin v1 x3) + x5) + x2) ≤ x4 then some (M) else (f_X6_raise M o x1 (x3 + x5)).bind fun M7 => some (M7)) : Option (JMem)).bind fun M9 => (jrd M9 (o + 2) 32 x1).bind fun v10 => (if ((x3 + x5) + x2) ≤ (jmax x4 v10) then some M9 else (f_X6_lower M9 o x1 (x4 - x5)).bind fun M11 => some M11))
set_option maxHeartbeats 4000000 in
theorem c_X6_keepOff {M : JMem} {o : Nat} {x1 : Int32} {x2 : Int32} {x3 : Int32} {x4 : Int32} {x5 : Int32} {Mz : JMem} (ho : isX6 o) (hf : f_X6_keepOff M o x1 x2 x3 x4 x5 = some Mz) : jCo yX6_keepOff μ_X6_keepOff 2 M [.ref o, .int x1, .int x2, .int x3, .int x4, .int x5] Mz none := by
  refine jCt_of (by decide +kernel) rfl (by simp [Value.category]) (Nat.le_of_ble_eq_true rfl) ?_
  unfold f_X6_keepOff at hf
  show jGG μ_X6_keepOff 2 0 [some (.ref o), some (.int x1), some (.int x2), some (.int x3), some (.int x4), some (.int x5)] [] M (fun M' r' => M' = Mz ∧ r' = none)
  refine g_aload_n (pc := 0) dX6_keepOff_0 rfl rfl ?_
  refine g_getR (pc := 1) dX6_keepOff_1 fl_X6_9 ho.1 rfl ?_
  refine g_iload_n (pc := 4) dX6_keepOff_4 rfl rfl ?_
  obtain ⟨v1, ev1, hf⟩ := job hf
  refine g_iald (pc := 5) dX6_keepOff_5 ho.2.1 ev1 ?_
  refine g_iload_n (pc := 6) dX6_keepOff_6 rfl rfl ?_
  refine g_min (pc := 7) [] dX6_keepOff_7 ml_X6_111 (by omega) (Nat.le_of_ble_eq_true rfl) ?_
  refine g_iload (pc := 10) dX6_keepOff_10 rfl ?_
  refine g_iadd (pc := 12) dX6_keepOff_12 ?_
  refine g_iload_n (pc := 13) dX6_keepOff_13 rfl rfl ?_
  refine g_iadd (pc := 14) dX6_keepOff_14 ?_
  refine g_iload (pc := 15) dX6_keepOff_15 rfl ?_
  obtain ⟨M9, hf, hy3⟩ := job hf
  have K5 : jGG μ_X6_keepOff 2 29 [some (.ref o), some (.int x1), some (.int x2), some (.int x3), some (.int x4), some (.int x5)] [] M9 (fun M' r' => M' = Mz ∧ r' = none) := by
    replace hf := hy3
    refine g_iload_n (pc := 29) dX6_keepOff_29 rfl rfl ?_
    refine g_iload (pc := 30) dX6_keepOff_30 rfl ?_
    refine g_iadd (pc := 32) dX6_keepOff_32 ?_
    refine g_iload_n (pc := 33) dX6_keepOff_33 rfl rfl ?_
    refine g_iadd (pc := 34) dX6_keepOff_34 ?_
    refine g_iload (pc := 35) dX6_keepOff_35 rfl ?_
    refine g_aload_n (pc := 37) dX6_keepOff_37 rfl rfl ?_
    refine g_getR (pc := 38) dX6_keepOff_38 fl_X6_15 ho.1 rfl ?_
    refine g_iload_n (pc := 41) dX6_keepOff_41 rfl rfl ?_
    obtain ⟨v10, ev10, hf⟩ := job hf
    refine g_iald (pc := 42) dX6_keepOff_42 ho.2.2.1 ev10 ?_
    refine g_max (pc := 43) [.int ((x3 + x5) + x2)] dX6_keepOff_43 ml_X6_117 (by omega) (Nat.le_of_ble_eq_true rfl) ?_
    refine g_icmp_le (pc := 46) 59 dX6_keepOff_46 rfl (fun hc12 => ?_) (fun hc12 => ?_)
    · replace hf := jifp hc12 hf
      obtain rfl := Option.some.inj hf
      exact g_vret (pc := 59) dX6_keepOff_59 rfl ⟨rfl, rfl⟩
    · replace hf := jifn hc12 hf
      refine g_aload_n (pc := 49) dX6_keepOff_49 rfl rfl ?_
      refine g_iload_n (pc := 50) dX6_keepOff_50 rfl rfl ?_
      refine g_iload (pc := 51) dX6_keepOff_51 rfl ?_
      refine g_iload (pc := 53) dX6_keepOff_53 rfl ?_
      refine g_isub (pc := 55) dX6_keepOff_55 ?_
      obtain ⟨M11, eM11, hf⟩ := job hf
      refine g_callV (pc := 56) [.int x1, .int (x4 - x5)] [] dX6_keepOff_56 ml_X6_78 ck_X6_lower cv_X6_lower ho.1 rfl (by decide) (Nat.le_of_ble_eq_true rfl) (c_X6_lower ho eM11) ?_
      show jGG μ_X6_keepOff 2 59 [some (.ref o), some (.int x1), some (.int x2), some (.int x3), some (.int x4), some (.int x5)] [] M11 (fun M' r' => M' = Mz ∧ r' = none)
      obtain rfl := Option.some.inj hf
      exact g_vret (pc := 59) dX6_keepOff_59 rfl ⟨rfl, rfl⟩
  refine g_icmp_le (pc := 17) 29 dX6_keepOff_17 rfl (fun hc8 => ?_) (fun hc8 => ?_)
  · replace hf := jifp hc8 hf
    obtain rfl := Option.some.inj hf
    exact g_weakK (K5) ⟨rfl, ⟨rfl, ⟨rfl, ⟨rfl, ⟨rfl, ⟨rfl, trivial⟩⟩⟩⟩⟩⟩
  · replace hf := jifn hc8 hf
    refine g_aload_n (pc := 20) dX6_keepOff_20 rfl rfl ?_
    refine g_iload_n (pc := 21) dX6_keepOff_21 rfl rfl ?_
    refine g_iload_n (pc := 22) dX6_keepOff_22 rfl rfl ?_
    refine g_iload (pc := 23) dX6_keepOff_23 rfl ?_
    refine g_iadd (pc := 25) dX6_keepOff_25 ?_
    obtain ⟨M7, eM7, hf⟩ := job hf
    refine g_callV (pc := 26) [.int x1, .int (x3 + x5)] [] dX6_keepOff_26 ml_X6_74 ck_X6_raise cv_X6_raise ho.1 rfl (by decide) (Nat.le_of_ble_eq_true rfl) (c_X6_raise ho eM7) ?_
    show jGG μ_X6_keepOff 2 29 [some (.ref o), some (.int x1), some (.int x2), some (.int x3), some (.int x4), some (.int x5)] [] M7 (fun M' r' => M' = Mz ∧ r' = none)
    obtain rfl := Option.some.inj hf
    exact g_weakK (K5) ⟨rfl, ⟨rfl, ⟨rfl, ⟨rfl, ⟨rfl, ⟨rfl, trivial⟩⟩⟩⟩⟩⟩
def f_X6_closeSet (N : Nat) (M : JMem) (o : Nat) (x2 : Int32) (x3 : Int32) (x4 : Int32) : Option (JMem) := ((jLp (σ := Int32 × Int32 × Int32) (ρ := Int32 × Int32) N (fun ((z7, z8, z9) : Int32 × Int32 × Int32) => (jrd M 32 8 x2).bind fun v12 => (if v12 ≤ z9 then some (Sum.inr (z7, z8)) else (jrw 23 8 x2).bind fun w13 => (jrd M w13 32 z9).bind fun v14 => (jrd M (o + 1) 32 v14).bind fun v15 => (((if v15 < x3 then some ((z7, z8)) else (jrd M (o + 2) 32 v14).bind fun v21 => (if x4 < v21 then some ((z7, z8)) else (jrd M 21 32 v14).bind fun v22 => some ((z7 ||| (jshl 1 v14), z8 + v22)))) : Option (Int32 × Int32)).bind fun (u25, u26) => some (Sum.inl (u25, u26, z9 + 1))))) (0, 0, 0)).bind fun (t10, t11) => (if t10 = 0 then some M else (if t11 ≤ (x4 - x3) then ((jLp (σ := Int32 × JMem) (ρ := JMem) N (fun ((z34, M35) : Int32 × JMem) => (jrd M35 32 8 x2).bind fun v37 => (if v37 ≤ z34 then some (Sum.inr M35) else (jrw 23 8 x2).bind fun w38 => (jrd M35 w38 32 z34).bind fun v39 => (((if ((jushr t10 v39) &&& 1) = 0 then (jrd M35 21 32 v39).bind fun v45 => (f_X6_keepOff M35 o v39 v45 x3 x4 t11).bind fun M46 => some (M46) else some (M35)) : Option (JMem)).bind fun M48 => some (Sum.inl (z34 + 1, M48))))) (0, M)).bind fun t36 => some t36) else (some (jup M o 5 1)).bind fun M50 => some M50)))
set_option maxHeartbeats 4000000 in
theorem c_X6_closeSet {N : Nat} {M : JMem} {o : Nat} {x2 : Int32} {x3 : Int32} {x4 : Int32} {Mz : JMem} (ho : isX6 o) (hf : f_X6_closeSet N M o x2 x3 x4 = some Mz) : jCo yX6_closeSet μ_X6_closeSet 3 M [.ref o, .ref 1, .int x2, .int x3, .int x4] Mz none := by
  refine jCt_of (by decide +kernel) rfl (by simp [Value.category]) (Nat.le_of_ble_eq_true rfl) ?_
  unfold f_X6_closeSet at hf
  show jGG μ_X6_closeSet 3 0 [some (.ref o), some (.ref 1), some (.int x2), some (.int x3), some (.int x4), none, none, none, none] [] M (fun M' r' => M' = Mz ∧ r' = none)
  refine g_iconst (pc := 0) 0 dX6_closeSet_0 rfl ?_
  refine g_istore (pc := 1) (lv' := [some (.ref o), some (.ref 1), some (.int x2), some (.int x3), some (.int x4), some (.int 0), none, none, none]) dX6_closeSet_1 (by decide) rfl ?_
  refine g_iconst (pc := 3) 0 dX6_closeSet_3 rfl ?_
  refine g_istore (pc := 4) (lv' := [some (.ref o), some (.ref 1), some (.int x2), some (.int x3), some (.int x4), some (.int 0), some (.int 0), none, none]) dX6_closeSet_4 (by decide) rfl ?_
  refine g_iconst (pc := 6) 0 dX6_closeSet_6 rfl ?_
  refine g_istore (pc := 7) (lv' := [some (.ref o), some (.ref 1), some (.int x2), some (.int x3), some (.int x4), some (.int 0), some (.int 0), some (.int 0), none]) dX6_closeSet_7 (by decide) rfl ?_
  obtain ⟨⟨t10, t11⟩, y2, hy1⟩ := job hf
  have K3 : jGG μ_X6_closeSet 3 81 [some (.ref o), some (.ref 1), some (.int x2), some (.int x3), some (.int x4), some (.int t10), some (.int t11), none, none] [] M (fun M' r' => M' = Mz ∧ r' = none) := by
    replace hf := hy1
    refine g_iload (pc := 81) dX6_closeSet_81 rfl ?_
    refine g_if_ne (pc := 83) 87 dX6_closeSet_83 rfl (fun hc52 => ?_) (fun hc52 => ?_)
    · replace hf := jifn hc52 hf
      refine g_iload (pc := 87) dX6_closeSet_87 rfl ?_
      refine g_iload (pc := 89) dX6_closeSet_89 rfl ?_
      refine g_iload_n (pc := 91) dX6_closeSet_91 rfl rfl ?_
      refine g_isub (pc := 92) dX6_closeSet_92 ?_
      refine g_icmp_le (pc := 93) 102 dX6_closeSet_93 rfl (fun hc51 => ?_) (fun hc51 => ?_)
      · replace hf := jifp hc51 hf
        refine g_iconst (pc := 102) 0 dX6_closeSet_102 rfl ?_
        refine g_istore (pc := 103) (lv' := [some (.ref o), some (.ref 1), some (.int x2), some (.int x3), some (.int x4), some (.int t10), some (.int t11), some (.int 0), none]) dX6_closeSet_103 (by decide) rfl ?_
        obtain ⟨t36, y29, hy28⟩ := job hf
        have K30 : jGG μ_X6_closeSet 3 161 [none, none, none, none, none, none, none, none, none] [] t36 (fun M' r' => M' = Mz ∧ r' = none) := by
          replace hf := hy28
          obtain rfl := Option.some.inj hf
          exact g_vret (pc := 161) dX6_closeSet_161 rfl ⟨rfl, rfl⟩
        refine g_weak (lv' := [some (.ref o), some (.ref 1), some (.int x2), some (.int x3), some (.int x4), some (.int t10), some (.int t11), some (.int 0), none]) ⟨rfl, ⟨rfl, ⟨rfl, ⟨rfl, ⟨rfl, ⟨rfl, ⟨rfl, ⟨rfl, trivial⟩⟩⟩⟩⟩⟩⟩⟩ ?_
        refine jLp_ind (P := fun ((z34, M35) : Int32 × JMem) => jGG μ_X6_closeSet 3 105 [some (.ref o), some (.ref 1), some (.int x2), some (.int x3), some (.int x4), some (.int t10), some (.int t11), some (.int z34), none] [] M35 (fun M' r' => M' = Mz ∧ r' = none)) ?_ N _ y29
        rintro ⟨z34, M35⟩ x_33 hf ih32 hx31
        show jGG μ_X6_closeSet 3 105 [some (.ref o), some (.ref 1), some (.int x2), some (.int x3), some (.int x4), some (.int t10), some (.int t11), some (.int z34), none] [] M35 (fun M' r' => M' = Mz ∧ r' = none)
        refine g_iload (pc := 105) dX6_closeSet_105 rfl ?_
        refine g_aload_n (pc := 107) dX6_closeSet_107 rfl rfl ?_
        refine g_getR (pc := 108) dX6_closeSet_108 fl_X6_87 sh_1 rfl ?_
        refine g_iload_n (pc := 111) dX6_closeSet_111 rfl rfl ?_
        obtain ⟨v37, ev37, hf⟩ := job hf
        refine g_iald (pc := 112) dX6_closeSet_112 sh_32 ev37 ?_
        refine g_icmp_ge (pc := 113) 161 dX6_closeSet_113 rfl (fun hc49 => ?_) (fun hc49 => ?_)
        · replace hf := jifp hc49 hf
          have hf := hx31 _ (Option.some.inj hf).symm
          obtain rfl := hf
          exact g_weakK K30 trivial
        · replace hf := jifn hc49 hf
          refine g_aload_n (pc := 116) dX6_closeSet_116 rfl rfl ?_
          refine g_getR (pc := 117) dX6_closeSet_117 fl_X6_90 sh_1 rfl ?_
          refine g_iload_n (pc := 120) dX6_closeSet_120 rfl rfl ?_
          obtain ⟨w38, ew38, hf⟩ := job hf
          refine g_aald (pc := 121) dX6_closeSet_121 sh_23 ew38 ?_
          refine g_iload (pc := 122) dX6_closeSet_122 rfl ?_
          obtain ⟨v39, ev39, hf⟩ := job hf
          refine g_iald (pc := 124) dX6_closeSet_124 (jrw_sh gr_23 ew38) ev39 ?_
          refine g_istore (pc := 125) (lv' := [some (.ref o), some (.ref 1), some (.int x2), some (.int x3), some (.int x4), some (.int t10), some (.int t11), some (.int z34), some (.int v39)]) dX6_closeSet_125 (by decide) rfl ?_
          refine g_iload (pc := 127) dX6_closeSet_127 rfl ?_
          refine g_iload (pc := 129) dX6_closeSet_129 rfl ?_
          refine g_iushr (pc := 131) dX6_closeSet_131 ?_
          refine g_iconst (pc := 132) 1 dX6_closeSet_132 rfl ?_
          refine g_iand (pc := 133) dX6_closeSet_133 ?_
          obtain ⟨M48, hf, hy41⟩ := job hf
          have K43 : jGG μ_X6_closeSet 3 155 [some (.ref o), some (.ref 1), some (.int x2), some (.int x3), some (.int x4), some (.int t10), some (.int t11), some (.int z34), none] [] M48 (fun M' r' => M' = Mz ∧ r' = none) := by
            replace hf := hy41
            refine g_iinc (pc := 155) (lv' := [some (.ref o), some (.ref 1), some (.int x2), some (.int x3), some (.int x4), some (.int t10), some (.int t11), some (.int (z34 + 1)), none]) (z34 + 1) dX6_closeSet_155 rfl rfl (by decide) rfl ?_
            refine g_goto (pc := 158) 105 dX6_closeSet_158 rfl ?_
            have hih : jGG μ_X6_closeSet 3 105 [some (.ref o), some (.ref 1), some (.int x2), some (.int x3), some (.int x4), some (.int t10), some (.int t11), some (.int (z34 + 1)), none] [] M48 (fun M' r' => M' = Mz ∧ r' = none) := ih32 (z34 + 1, M48) (Option.some.inj hf).symm
            exact g_weakK hih ⟨rfl, ⟨rfl, ⟨rfl, ⟨rfl, ⟨rfl, ⟨rfl, ⟨rfl, ⟨rfl, trivial⟩⟩⟩⟩⟩⟩⟩⟩
          refine g_if_ne (pc := 134) 155 dX6_closeSet_134 rfl (fun hc47 => ?_) (fun hc47 => ?_)
          · replace hf := jifn hc47 hf
            obtain rfl := Option.some.inj hf
            exact g_weakK (K43) ⟨rfl, ⟨rfl, ⟨rfl, ⟨rfl, ⟨rfl, ⟨rfl, ⟨rfl, ⟨rfl, trivial⟩⟩⟩⟩⟩⟩⟩⟩
          · replace hf := jifp hc47 hf
            refine g_aload_n (pc := 137) dX6_closeSet_137 rfl rfl ?_
            refine g_iload (pc := 138) dX6_closeSet_138 rfl ?_
            refine g_aload_n (pc := 140) dX6_closeSet_140 rfl rfl ?_
            refine g_getR (pc := 141) dX6_closeSet_141 fl_X6_61 sh_1 rfl ?_
            refine g_iload (pc := 144) dX6_closeSet_144 rfl ?_
            obtain ⟨v45, ev45, hf⟩ := job hf
            refine g_iald (pc := 146) dX6_closeSet_146 sh_21 ev45 ?_
            refine g_iload_n (pc := 147) dX6_closeSet_147 rfl rfl ?_
            refine g_iload (pc := 148) dX6_closeSet_148 rfl ?_
            refine g_iload (pc := 150) dX6_closeSet_150 rfl ?_
            obtain ⟨M46, eM46, hf⟩ := job hf
            refine g_callV (pc := 152) [.int v39, .int v45, .int x3, .int x4, .int t11] [] dX6_closeSet_152 ml_X6_107 ck_X6_keepOff cv_X6_keepOff ho.1 rfl (by decide) (Nat.le_of_ble_eq_true rfl) (c_X6_keepOff ho eM46) ?_
            show jGG μ_X6_closeSet 3 155 [some (.ref o), some (.ref 1), some (.int x2), some (.int x3), some (.int x4), some (.int t10), some (.int t11), some (.int z34), some (.int v39)] [] M46 (fun M' r' => M' = Mz ∧ r' = none)
            obtain rfl := Option.some.inj hf
            exact g_weakK (K43) ⟨rfl, ⟨rfl, ⟨rfl, ⟨rfl, ⟨rfl, ⟨rfl, ⟨rfl, ⟨rfl, trivial⟩⟩⟩⟩⟩⟩⟩⟩
      · replace hf := jifn hc51 hf
        refine g_aload_n (pc := 96) dX6_closeSet_96 rfl rfl ?_
        refine g_iconst (pc := 97) 1 dX6_closeSet_97 rfl ?_
        refine g_putZ (pc := 98) dX6_closeSet_98 fp_X6_34 (Or.inr rfl) ho.1 rfl ?_
        obtain ⟨M50, eM50, hf⟩ := job hf
        rw [Option.some.inj eM50]
        obtain rfl := Option.some.inj hf
        exact g_vret (pc := 101) dX6_closeSet_101 rfl ⟨rfl, rfl⟩
    · replace hf := jifp hc52 hf
      obtain rfl := Option.some.inj hf
      exact g_vret (pc := 86) dX6_closeSet_86 rfl ⟨rfl, rfl⟩
  refine g_weak (lv' := [some (.ref o), some (.ref 1), some (.int x2), some (.int x3), some (.int x4), some (.int 0), some (.int 0), some (.int 0), none]) ⟨rfl, ⟨rfl, ⟨rfl, ⟨rfl, ⟨rfl, ⟨rfl, ⟨rfl, ⟨rfl, trivial⟩⟩⟩⟩⟩⟩⟩⟩ ?_
  refine jLp_ind (P := fun ((z7, z8, z9) : Int32 × Int32 × Int32) => jGG μ_X6_closeSet 3 9 [some (.ref o), some (.ref 1), some (.int x2), some (.int x3), some (.int x4), some (.int z7), some (.int z8), some (.int z9), none] [] M (fun M' r' => M' = Mz ∧ r' = none)) ?_ N _ y2
  rintro ⟨z7, z8, z9⟩ x_6 hf ih5 hx4
  show jGG μ_X6_closeSet 3 9 [some (.ref o), some (.ref 1), some (.int x2), some (.int x3), some (.int x4), some (.int z7), some (.int z8), some (.int z9), none] [] M (fun M' r' => M' = Mz ∧ r' = none)
  refine g_iload (pc := 9) dX6_closeSet_9 rfl ?_
  refine g_aload_n (pc := 11) dX6_closeSet_11 rfl rfl ?_
  refine g_getR (pc := 12) dX6_closeSet_12 fl_X6_87 sh_1 rfl ?_
  refine g_iload_n (pc := 15) dX6_closeSet_15 rfl rfl ?_
  obtain ⟨v12, ev12, hf⟩ := job hf
  refine g_iald (pc := 16) dX6_closeSet_16 sh_32 ev12 ?_
  refine g_icmp_ge (pc := 17) 81 dX6_closeSet_17 rfl (fun hc27 => ?_) (fun hc27 => ?_)
  · replace hf := jifp hc27 hf
    have hf := hx4 _ (Option.some.inj hf).symm
    obtain ⟨rfl, rfl⟩ := jp2 hf
    exact g_weakK K3 ⟨rfl, ⟨rfl, ⟨rfl, ⟨rfl, ⟨rfl, ⟨rfl, ⟨rfl, trivial⟩⟩⟩⟩⟩⟩⟩
  · replace hf := jifn hc27 hf
    refine g_aload_n (pc := 20) dX6_closeSet_20 rfl rfl ?_
    refine g_getR (pc := 21) dX6_closeSet_21 fl_X6_90 sh_1 rfl ?_
    refine g_iload_n (pc := 24) dX6_closeSet_24 rfl rfl ?_
    obtain ⟨w13, ew13, hf⟩ := job hf
    refine g_aald (pc := 25) dX6_closeSet_25 sh_23 ew13 ?_
    refine g_iload (pc := 26) dX6_closeSet_26 rfl ?_
    obtain ⟨v14, ev14, hf⟩ := job hf
    refine g_iald (pc := 28) dX6_closeSet_28 (jrw_sh gr_23 ew13) ev14 ?_
    refine g_istore (pc := 29) (lv' := [some (.ref o), some (.ref 1), some (.int x2), some (.int x3), some (.int x4), some (.int z7), some (.int z8), some (.int z9), some (.int v14)]) dX6_closeSet_29 (by decide) rfl ?_
    refine g_aload_n (pc := 31) dX6_closeSet_31 rfl rfl ?_
    refine g_getR (pc := 32) dX6_closeSet_32 fl_X6_9 ho.1 rfl ?_
    refine g_iload (pc := 35) dX6_closeSet_35 rfl ?_
    obtain ⟨v15, ev15, hf⟩ := job hf
    refine g_iald (pc := 37) dX6_closeSet_37 ho.2.1 ev15 ?_
    refine g_iload_n (pc := 38) dX6_closeSet_38 rfl rfl ?_
    obtain ⟨⟨u25, u26⟩, hf, hy17⟩ := job hf
    have K19 : jGG μ_X6_closeSet 3 75 [some (.ref o), some (.ref 1), some (.int x2), some (.int x3), some (.int x4), some (.int u25), some (.int u26), some (.int z9), none] [] M (fun M' r' => M' = Mz ∧ r' = none) := by
      replace hf := hy17
      refine g_iinc (pc := 75) (lv' := [some (.ref o), some (.ref 1), some (.int x2), some (.int x3), some (.int x4), some (.int u25), some (.int u26), some (.int (z9 + 1)), none]) (z9 + 1) dX6_closeSet_75 rfl rfl (by decide) rfl ?_
      refine g_goto (pc := 78) 9 dX6_closeSet_78 rfl ?_
      have hih : jGG μ_X6_closeSet 3 9 [some (.ref o), some (.ref 1), some (.int x2), some (.int x3), some (.int x4), some (.int u25), some (.int u26), some (.int (z9 + 1)), none] [] M (fun M' r' => M' = Mz ∧ r' = none) := ih5 (u25, u26, z9 + 1) (Option.some.inj hf).symm
      exact g_weakK hih ⟨rfl, ⟨rfl, ⟨rfl, ⟨rfl, ⟨rfl, ⟨rfl, ⟨rfl, ⟨rfl, trivial⟩⟩⟩⟩⟩⟩⟩⟩
    refine g_icmp_lt (pc := 39) 75 dX6_closeSet_39 rfl (fun hc24 => ?_) (fun hc24 => ?_)
    · replace hf := jifp hc24 hf
      obtain ⟨rfl, rfl⟩ := jp2 (Option.some.inj hf)
      exact g_weakK (K19) ⟨rfl, ⟨rfl, ⟨rfl, ⟨rfl, ⟨rfl, ⟨rfl, ⟨rfl, ⟨rfl, trivial⟩⟩⟩⟩⟩⟩⟩⟩
    · replace hf := jifn hc24 hf
      refine g_aload_n (pc := 42) dX6_closeSet_42 rfl rfl ?_
      refine g_getR (pc := 43) dX6_closeSet_43 fl_X6_15 ho.1 rfl ?_
      refine g_iload (pc := 46) dX6_closeSet_46 rfl ?_
      obtain ⟨v21, ev21, hf⟩ := job hf
      refine g_iald (pc := 48) dX6_closeSet_48 ho.2.2.1 ev21 ?_
      refine g_iload (pc := 49) dX6_closeSet_49 rfl ?_
      refine g_icmp_gt (pc := 51) 75 dX6_closeSet_51 rfl (fun hc23 => ?_) (fun hc23 => ?_)
      · replace hf := jifp hc23 hf
        obtain ⟨rfl, rfl⟩ := jp2 (Option.some.inj hf)
        exact g_weakK (K19) ⟨rfl, ⟨rfl, ⟨rfl, ⟨rfl, ⟨rfl, ⟨rfl, ⟨rfl, ⟨rfl, trivial⟩⟩⟩⟩⟩⟩⟩⟩
      · replace hf := jifn hc23 hf
        refine g_iload (pc := 54) dX6_closeSet_54 rfl ?_
        refine g_iconst (pc := 56) 1 dX6_closeSet_56 rfl ?_
        refine g_iload (pc := 57) dX6_closeSet_57 rfl ?_
        refine g_ishl (pc := 59) dX6_closeSet_59 ?_
        refine g_ior (pc := 60) dX6_closeSet_60 ?_
        refine g_istore (pc := 61) (lv' := [some (.ref o), some (.ref 1), some (.int x2), some (.int x3), some (.int x4), some (.int (z7 ||| (jshl 1 v14))), some (.int z8), some (.int z9), some (.int v14)]) dX6_closeSet_61 (by decide) rfl ?_
        refine g_iload (pc := 63) dX6_closeSet_63 rfl ?_
        refine g_aload_n (pc := 65) dX6_closeSet_65 rfl rfl ?_
        refine g_getR (pc := 66) dX6_closeSet_66 fl_X6_61 sh_1 rfl ?_
        refine g_iload (pc := 69) dX6_closeSet_69 rfl ?_
        obtain ⟨v22, ev22, hf⟩ := job hf
        refine g_iald (pc := 71) dX6_closeSet_71 sh_21 ev22 ?_
        refine g_iadd (pc := 72) dX6_closeSet_72 ?_
        refine g_istore (pc := 73) (lv' := [some (.ref o), some (.ref 1), some (.int x2), some (.int x3), some (.int x4), some (.int (z7 ||| (jshl 1 v14))), some (.int (z8 + v22)), some (.int z9), some (.int v14)]) dX6_closeSet_73 (by decide) rfl ?_
        obtain ⟨rfl, rfl⟩ := jp2 (Option.some.inj hf)
        exact g_weakK (K19) ⟨rfl, ⟨rfl, ⟨rfl, ⟨rfl, ⟨rfl, ⟨rfl, ⟨rfl, ⟨rfl, trivial⟩⟩⟩⟩⟩⟩⟩⟩
def f_X6_closeSets (N : Nat) (M : JMem) (o : Nat) : Option (JMem) := ((jLp (σ := Int32 × JMem) (ρ := JMem) N (fun ((z7, M8) : Int32 × JMem) => (if (M8 1 0) ≤ z7 then some (Sum.inr M8) else (jrd M8 2 8 z7).bind fun v10 => (((if v10 = 0 then (jrd M8 32 8 z7).bind fun v16 => some (v16) else some (0)) : Option (Int32)).bind fun u18 => ((jLp (σ := Int32 × JMem) (ρ := JMem) N (fun ((z25, M26) : Int32 × JMem) => (if u18 ≤ z25 then some (Sum.inr M26) else ((jLp (σ := Int32 × JMem) (ρ := JMem) N (fun ((z34, M35) : Int32 × JMem) => (if u18 ≤ z34 then some (Sum.inr M35) else (if (M35 o 5) = 0 then (jrw 23 8 z7).bind fun w37 => (jrd M35 w37 32 z25).bind fun v38 => (jrd M35 (o + 1) 32 v38).bind fun v39 => (jrw 23 8 z7).bind fun w40 => (jrd M35 w40 32 z34).bind fun v41 => (jrd M35 (o + 2) 32 v41).bind fun v42 => (f_X6_closeSet N M35 o z7 v39 v42).bind fun M43 => some (Sum.inl (z34 + 1, M43)) else some (Sum.inr M35)))) (0, M26)).bind fun t36 => some (Sum.inl (z25 + 1, t36))))) (0, M8)).bind fun t27 => some (Sum.inl (z7 + 1, t27)))))) (0, M)).bind fun t9 => some t9)
set_option maxHeartbeats 4000000 in
theorem c_X6_closeSets {N : Nat} {M : JMem} {o : Nat} {Mz : JMem} (ho : isX6 o) (hf : f_X6_closeSets N M o = some Mz) : jCo yX6_closeSets μ_X6_closeSets 4 M [.ref o, .ref 1] Mz none := by
  refine jCt_of (by decide +kernel) rfl (by simp [Value.category]) (Nat.le_of_ble_eq_true rfl) ?_
  unfold f_X6_closeSets at hf
  show jGG μ_X6_closeSets 4 0 [some (.ref o), some (.ref 1), none, none, none, none] [] M (fun M' r' => M' = Mz ∧ r' = none)
  refine g_iconst (pc := 0) 0 dX6_closeSets_0 rfl ?_
  refine g_istore_n (pc := 1) (lv' := [some (.ref o), some (.ref 1), some (.int 0), none, none, none]) dX6_closeSets_1 rfl (by decide) rfl ?_
  obtain ⟨t9, y2, hy1⟩ := job hf
  have K3 : jGG μ_X6_closeSets 4 107 [none, none, none, none, none, none] [] t9 (fun M' r' => M' = Mz ∧ r' = none) := by
    replace hf := hy1
    obtain rfl := Option.some.inj hf
    exact g_vret (pc := 107) dX6_closeSets_107 rfl ⟨rfl, rfl⟩
  refine g_weak (lv' := [some (.ref o), some (.ref 1), some (.int 0), none, none, none]) ⟨rfl, ⟨rfl, ⟨rfl, trivial⟩⟩⟩ ?_
  refine jLp_ind (P := fun ((z7, M8) : Int32 × JMem) => jGG μ_X6_closeSets 4 2 [some (.ref o), some (.ref 1), some (.int z7), none, none, none] [] M8 (fun M' r' => M' = Mz ∧ r' = none)) ?_ N _ y2
  rintro ⟨z7, M8⟩ x_6 hf ih5 hx4
  show jGG μ_X6_closeSets 4 2 [some (.ref o), some (.ref 1), some (.int z7), none, none, none] [] M8 (fun M' r' => M' = Mz ∧ r' = none)
  refine g_iload_n (pc := 2) dX6_closeSets_2 rfl rfl ?_
  refine g_aload_n (pc := 3) dX6_closeSets_3 rfl rfl ?_
  refine g_getI (pc := 4) dX6_closeSets_4 fl_X6_81 sh_1 rfl ?_
  refine g_icmp_ge (pc := 7) 107 dX6_closeSets_7 rfl (fun hc47 => ?_) (fun hc47 => ?_)
  · replace hf := jifp hc47 hf
    have hf := hx4 _ (Option.some.inj hf).symm
    obtain rfl := hf
    exact g_weakK K3 trivial
  · replace hf := jifn hc47 hf
    refine g_aload_n (pc := 10) dX6_closeSets_10 rfl rfl ?_
    refine g_getR (pc := 11) dX6_closeSets_11 fl_X6_84 sh_1 rfl ?_
    refine g_iload_n (pc := 14) dX6_closeSets_14 rfl rfl ?_
    obtain ⟨v10, ev10, hf⟩ := job hf
    refine g_iald (pc := 15) dX6_closeSets_15 sh_2 ev10 ?_
    obtain ⟨u18, hf, hy12⟩ := job hf
    have K14 : jGG μ_X6_closeSets 4 29 [some (.ref o), some (.ref 1), some (.int z7), none, none, none] [.int u18] M8 (fun M' r' => M' = Mz ∧ r' = none) := by
      replace hf := hy12
      refine g_istore_n (pc := 29) (lv' := [some (.ref o), some (.ref 1), some (.int z7), some (.int u18), none, none]) dX6_closeSets_29 rfl (by decide) rfl ?_
      refine g_iconst (pc := 30) 0 dX6_closeSets_30 rfl ?_
      refine g_istore (pc := 31) (lv' := [some (.ref o), some (.ref 1), some (.int z7), some (.int u18), some (.int 0), none]) dX6_closeSets_31 (by decide) rfl ?_
      obtain ⟨t27, y20, hy19⟩ := job hf
      have K21 : jGG μ_X6_closeSets 4 101 [some (.ref o), some (.ref 1), some (.int z7), none, none, none] [] t27 (fun M' r' => M' = Mz ∧ r' = none) := by
        replace hf := hy19
        refine g_iinc (pc := 101) (lv' := [some (.ref o), some (.ref 1), some (.int (z7 + 1)), none, none, none]) (z7 + 1) dX6_closeSets_101 rfl rfl (by decide) rfl ?_
        refine g_goto (pc := 104) 2 dX6_closeSets_104 rfl ?_
        have hih : jGG μ_X6_closeSets 4 2 [some (.ref o), some (.ref 1), some (.int (z7 + 1)), none, none, none] [] t27 (fun M' r' => M' = Mz ∧ r' = none) := ih5 (z7 + 1, t27) (Option.some.inj hf).symm
        exact g_weakK hih ⟨rfl, ⟨rfl, ⟨rfl, trivial⟩⟩⟩
      refine g_weak (lv' := [some (.ref o), some (.ref 1), some (.int z7), some (.int u18), some (.int 0), none]) ⟨rfl, ⟨rfl, ⟨rfl, ⟨rfl, ⟨rfl, trivial⟩⟩⟩⟩⟩ ?_
      refine jLp_ind (P := fun ((z25, M26) : Int32 × JMem) => jGG μ_X6_closeSets 4 33 [some (.ref o), some (.ref 1), some (.int z7), some (.int u18), some (.int z25), none] [] M26 (fun M' r' => M' = Mz ∧ r' = none)) ?_ N _ y20
      rintro ⟨z25, M26⟩ x_24 hf ih23 hx22
      show jGG μ_X6_closeSets 4 33 [some (.ref o), some (.ref 1), some (.int z7), some (.int u18), some (.int z25), none] [] M26 (fun M' r' => M' = Mz ∧ r' = none)
      refine g_iload (pc := 33) dX6_closeSets_33 rfl ?_
      refine g_iload_n (pc := 35) dX6_closeSets_35 rfl rfl ?_
      refine g_icmp_ge (pc := 36) 101 dX6_closeSets_36 rfl (fun hc46 => ?_) (fun hc46 => ?_)
      · replace hf := jifp hc46 hf
        have hf := hx22 _ (Option.some.inj hf).symm
        obtain rfl := hf
        exact g_weakK K21 ⟨rfl, ⟨rfl, ⟨rfl, trivial⟩⟩⟩
      · replace hf := jifn hc46 hf
        refine g_iconst (pc := 39) 0 dX6_closeSets_39 rfl ?_
        refine g_istore (pc := 40) (lv' := [some (.ref o), some (.ref 1), some (.int z7), some (.int u18), some (.int z25), some (.int 0)]) dX6_closeSets_40 (by decide) rfl ?_
        obtain ⟨t36, y29, hy28⟩ := job hf
        have K30 : jGG μ_X6_closeSets 4 95 [some (.ref o), some (.ref 1), some (.int z7), some (.int u18), some (.int z25), none] [] t36 (fun M' r' => M' = Mz ∧ r' = none) := by
          replace hf := hy28
          refine g_iinc (pc := 95) (lv' := [some (.ref o), some (.ref 1), some (.int z7), some (.int u18), some (.int (z25 + 1)), none]) (z25 + 1) dX6_closeSets_95 rfl rfl (by decide) rfl ?_
          refine g_goto (pc := 98) 33 dX6_closeSets_98 rfl ?_
          have hih : jGG μ_X6_closeSets 4 33 [some (.ref o), some (.ref 1), some (.int z7), some (.int u18), some (.int (z25 + 1)), none] [] t36 (fun M' r' => M' = Mz ∧ r' = none) := ih23 (z25 + 1, t36) (Option.some.inj hf).symm
          exact g_weakK hih ⟨rfl, ⟨rfl, ⟨rfl, ⟨rfl, ⟨rfl, trivial⟩⟩⟩⟩⟩
        refine g_weak (lv' := [some (.ref o), some (.ref 1), some (.int z7), some (.int u18), some (.int z25), some (.int 0)]) ⟨rfl, ⟨rfl, ⟨rfl, ⟨rfl, ⟨rfl, ⟨rfl, trivial⟩⟩⟩⟩⟩⟩ ?_
        refine jLp_ind (P := fun ((z34, M35) : Int32 × JMem) => jGG μ_X6_closeSets 4 42 [some (.ref o), some (.ref 1), some (.int z7), some (.int u18), some (.int z25), some (.int z34)] [] M35 (fun M' r' => M' = Mz ∧ r' = none)) ?_ N _ y29
        rintro ⟨z34, M35⟩ x_33 hf ih32 hx31
        show jGG μ_X6_closeSets 4 42 [some (.ref o), some (.ref 1), some (.int z7), some (.int u18), some (.int z25), some (.int z34)] [] M35 (fun M' r' => M' = Mz ∧ r' = none)
        refine g_iload (pc := 42) dX6_closeSets_42 rfl ?_
        refine g_iload_n (pc := 44) dX6_closeSets_44 rfl rfl ?_
        refine g_icmp_ge (pc := 45) 95 dX6_closeSets_45 rfl (fun hc45 => ?_) (fun hc45 => ?_)
        · replace hf := jifp hc45 hf
          have hf := hx31 _ (Option.some.inj hf).symm
          obtain rfl := hf
          exact g_weakK K30 ⟨rfl, ⟨rfl, ⟨rfl, ⟨rfl, ⟨rfl, trivial⟩⟩⟩⟩⟩
        · replace hf := jifn hc45 hf
          refine g_aload_n (pc := 48) dX6_closeSets_48 rfl rfl ?_
          refine g_getI (pc := 49) dX6_closeSets_49 fl_X6_34 ho.1 rfl ?_
          refine g_if_ne (pc := 52) 95 dX6_closeSets_52 rfl (fun hc44 => ?_) (fun hc44 => ?_)
          · replace hf := jifn hc44 hf
            have hf := hx31 _ (Option.some.inj hf).symm
            obtain rfl := hf
            exact g_weakK K30 ⟨rfl, ⟨rfl, ⟨rfl, ⟨rfl, ⟨rfl, trivial⟩⟩⟩⟩⟩
          · replace hf := jifp hc44 hf
            refine g_aload_n (pc := 55) dX6_closeSets_55 rfl rfl ?_
            refine g_aload_n (pc := 56) dX6_closeSets_56 rfl rfl ?_
            refine g_iload_n (pc := 57) dX6_closeSets_57 rfl rfl ?_
            refine g_aload_n (pc := 58) dX6_closeSets_58 rfl rfl ?_
            refine g_getR (pc := 59) dX6_closeSets_59 fl_X6_9 ho.1 rfl ?_
            refine g_aload_n (pc := 62) dX6_closeSets_62 rfl rfl ?_
            refine g_getR (pc := 63) dX6_closeSets_63 fl_X6_90 sh_1 rfl ?_
            refine g_iload_n (pc := 66) dX6_closeSets_66 rfl rfl ?_
            obtain ⟨w37, ew37, hf⟩ := job hf
            refine g_aald (pc := 67) dX6_closeSets_67 sh_23 ew37 ?_
            refine g_iload (pc := 68) dX6_closeSets_68 rfl ?_
            obtain ⟨v38, ev38, hf⟩ := job hf
            refine g_iald (pc := 70) dX6_closeSets_70 (jrw_sh gr_23 ew37) ev38 ?_
            obtain ⟨v39, ev39, hf⟩ := job hf
            refine g_iald (pc := 71) dX6_closeSets_71 ho.2.1 ev39 ?_
            refine g_aload_n (pc := 72) dX6_closeSets_72 rfl rfl ?_
            refine g_getR (pc := 73) dX6_closeSets_73 fl_X6_15 ho.1 rfl ?_
            refine g_aload_n (pc := 76) dX6_closeSets_76 rfl rfl ?_
            refine g_getR (pc := 77) dX6_closeSets_77 fl_X6_90 sh_1 rfl ?_
            refine g_iload_n (pc := 80) dX6_closeSets_80 rfl rfl ?_
            obtain ⟨w40, ew40, hf⟩ := job hf
            refine g_aald (pc := 81) dX6_closeSets_81 sh_23 ew40 ?_
            refine g_iload (pc := 82) dX6_closeSets_82 rfl ?_
            obtain ⟨v41, ev41, hf⟩ := job hf
            refine g_iald (pc := 84) dX6_closeSets_84 (jrw_sh gr_23 ew40) ev41 ?_
            obtain ⟨v42, ev42, hf⟩ := job hf
            refine g_iald (pc := 85) dX6_closeSets_85 ho.2.2.1 ev42 ?_
            obtain ⟨M43, eM43, hf⟩ := job hf
            refine g_callV (pc := 86) [.ref 1, .int z7, .int v39, .int v42] [] dX6_closeSets_86 ml_X6_103 ck_X6_closeSet cv_X6_closeSet ho.1 rfl (by decide) (Nat.le_of_ble_eq_true rfl) (c_X6_closeSet ho eM43) ?_
            show jGG μ_X6_closeSets 4 89 [some (.ref o), some (.ref 1), some (.int z7), some (.int u18), some (.int z25), some (.int z34)] [] M43 (fun M' r' => M' = Mz ∧ r' = none)
            refine g_iinc (pc := 89) (lv' := [some (.ref o), some (.ref 1), some (.int z7), some (.int u18), some (.int z25), some (.int (z34 + 1))]) (z34 + 1) dX6_closeSets_89 rfl rfl (by decide) rfl ?_
            refine g_goto (pc := 92) 42 dX6_closeSets_92 rfl ?_
            have hih : jGG μ_X6_closeSets 4 42 [some (.ref o), some (.ref 1), some (.int z7), some (.int u18), some (.int z25), some (.int (z34 + 1))] [] M43 (fun M' r' => M' = Mz ∧ r' = none) := ih32 (z34 + 1, M43) (Option.some.inj hf).symm
            exact g_weakK hih ⟨rfl, ⟨rfl, ⟨rfl, ⟨rfl, ⟨rfl, ⟨rfl, trivial⟩⟩⟩⟩⟩⟩
    refine g_if_ne (pc := 16) 28 dX6_closeSets_16 rfl (fun hc17 => ?_) (fun hc17 => ?_)
    · replace hf := jifn hc17 hf
      refine g_iconst (pc := 28) 0 dX6_closeSets_28 rfl ?_
      obtain rfl := Option.some.inj hf
      exact g_weakK (K14) ⟨rfl, ⟨rfl, ⟨rfl, trivial⟩⟩⟩
    · replace hf := jifp hc17 hf
      refine g_aload_n (pc := 19) dX6_closeSets_19 rfl rfl ?_
      refine g_getR (pc := 20) dX6_closeSets_20 fl_X6_87 sh_1 rfl ?_
      refine g_iload_n (pc := 23) dX6_closeSets_23 rfl rfl ?_
      obtain ⟨v16, ev16, hf⟩ := job hf
      refine g_iald (pc := 24) dX6_closeSets_24 sh_32 ev16 ?_
      refine g_goto (pc := 25) 29 dX6_closeSets_25 rfl ?_
      obtain rfl := Option.some.inj hf
      exact g_weakK (K14) ⟨rfl, ⟨rfl, ⟨rfl, trivial⟩⟩⟩
def f_X6_narrow (N : Nat) (M : JMem) (o : Nat) (x2 : Int32) : Option (JMem × Int32) := (some (jup M o 3 (M 1 2))).bind fun M1 => (some (jfill M1 (o + 1) 32 0)).bind fun M2 => (some (jfill M2 (o + 2) 32 x2)).bind fun M3 => (some (jup M3 o 5 0)).bind fun M4 => (some (jup M4 o 4 1)).bind fun M5 => ((jLp (σ := Int32 × JMem) (ρ := JMem) N (fun ((z12, M13) : Int32 × JMem) => (if 20 ≤ z12 then some (Sum.inr M13) else (if (M13 o 4) = 0 then some (Sum.inr M13) else (if (M13 o 5) = 0 then (some (jup M13 o 4 0)).bind fun M15 => (f_X6_alongPieces N M15 o).bind fun M16 => (f_X6_lookForBurst N M16 o).bind fun M17 => (((if (M17 o 5) = 0 then (f_X6_alongPairs N M17 o).bind fun M23 => (f_X6_lookForBurst N M23 o).bind fun M24 => some (M24) else some (M17)) : Option (JMem)).bind fun M26 => (((if (M26 o 5) = 0 then (f_X6_tellPairs N M26 o).bind fun M32 => some (M32) else some (M26)) : Option (JMem)).bind fun M34 => (((if (M34 o 5) = 0 then (f_X6_closeSets N M34 o).bind fun M40 => (f_X6_lookForBurst N M40 o).bind fun M41 => some (M41) else some (M34)) : Option (JMem)).bind fun M43 => some (Sum.inl (z12 + 1, M43))))) else some (Sum.inr M13))))) (0, M5)).bind fun t14 => (if (t14 o 5) = 0 then some (t14, 1) else some (t14, 0)))
set_option maxHeartbeats 4000000 in
theorem c_X6_narrow {N : Nat} {M : JMem} {o : Nat} {x2 : Int32} {Mz : JMem} {r : Int32} (ho : isX6 o) (hf : f_X6_narrow N M o x2 = some (Mz, r)) : jCo yX6_narrow μ_X6_narrow 5 M [.ref o, .ref 1, .int x2] Mz (some (.int r)) := by
  refine jCt_of (by decide +kernel) rfl (by simp [Value.category]) (Nat.le_of_ble_eq_true rfl) ?_
  unfold f_X6_narrow at hf
  show jGG μ_X6_narrow 5 0 [some (.ref o), some (.ref 1), some (.int x2), none] [] M (fun M' r' => M' = Mz ∧ r' = some (.int r))
  refine g_aload_n (pc := 0) dX6_narrow_0 rfl rfl ?_
  refine g_aload_n (pc := 1) dX6_narrow_1 rfl rfl ?_
  refine g_getI (pc := 2) dX6_narrow_2 fl_X6_21 sh_1 rfl ?_
  refine g_putI (pc := 5) dX6_narrow_5 fp_X6_27 ho.1 rfl ?_
  obtain ⟨M1, eM1, hf⟩ := job hf
  rw [Option.some.inj eM1]
  refine g_aload_n (pc := 8) dX6_narrow_8 rfl rfl ?_
  refine g_getR (pc := 9) dX6_narrow_9 fl_X6_9 ho.1 rfl ?_
  refine g_iconst (pc := 12) 0 dX6_narrow_12 rfl ?_
  obtain ⟨M2, eM2, hf⟩ := job hf
  refine g_callS (pc := 13) [.ref (o + 1), .int 0] [] dX6_narrow_13 ml_X6_28 ck_J7_fill_53178 cs_J7_fill_53178 rfl (by decide) (Nat.le_of_ble_eq_true rfl) (c_fill ho.2.1 (by decide)) ?_
  rw [Option.some.inj eM2]
  show jGG μ_X6_narrow 5 16 [some (.ref o), some (.ref 1), some (.int x2), none] [] M2 (fun M' r' => M' = Mz ∧ r' = some (.int r))
  refine g_aload_n (pc := 16) dX6_narrow_16 rfl rfl ?_
  refine g_getR (pc := 17) dX6_narrow_17 fl_X6_15 ho.1 rfl ?_
  refine g_iload_n (pc := 20) dX6_narrow_20 rfl rfl ?_
  obtain ⟨M3, eM3, hf⟩ := job hf
  refine g_callS (pc := 21) [.ref (o + 2), .int x2] [] dX6_narrow_21 ml_X6_28 ck_J7_fill_53178 cs_J7_fill_53178 rfl (by decide) (Nat.le_of_ble_eq_true rfl) (c_fill ho.2.2.1 (by decide)) ?_
  rw [Option.some.inj eM3]
  show jGG μ_X6_narrow 5 24 [some (.ref o), some (.ref 1), some (.int x2), none] [] M3 (fun M' r' => M' = Mz ∧ r' = some (.int r))
  refine g_aload_n (pc := 24) dX6_narrow_24 rfl rfl ?_
  refine g_iconst (pc := 25) 0 dX6_narrow_25 rfl ?_
  refine g_putZ (pc := 26) dX6_narrow_26 fp_X6_34 (Or.inl rfl) ho.1 rfl ?_
  obtain ⟨M4, eM4, hf⟩ := job hf
  rw [Option.some.inj eM4]
  refine g_aload_n (pc := 29) dX6_narrow_29 rfl rfl ?_
  refine g_iconst (pc := 30) 1 dX6_narrow_30 rfl ?_
  refine g_putZ (pc := 31) dX6_narrow_31 fp_X6_38 (Or.inr rfl) ho.1 rfl ?_
  obtain ⟨M5, eM5, hf⟩ := job hf
  rw [Option.some.inj eM5]
  refine g_iconst (pc := 34) 0 dX6_narrow_34 rfl ?_
  refine g_istore_n (pc := 35) (lv' := [some (.ref o), some (.ref 1), some (.int x2), some (.int 0)]) dX6_narrow_35 rfl (by decide) rfl ?_
  obtain ⟨t14, y7, hy6⟩ := job hf
  have K8 : jGG μ_X6_narrow 5 123 [some (.ref o), none, none, none] [] t14 (fun M' r' => M' = Mz ∧ r' = some (.int r)) := by
    replace hf := hy6
    refine g_aload_n (pc := 123) dX6_narrow_123 rfl rfl ?_
    refine g_getI (pc := 124) dX6_narrow_124 fl_X6_34 ho.1 rfl ?_
    refine g_if_ne (pc := 127) 134 dX6_narrow_127 rfl (fun hc47 => ?_) (fun hc47 => ?_)
    · replace hf := jifn hc47 hf
      refine g_iconst (pc := 134) 0 dX6_narrow_134 rfl ?_
      obtain ⟨rfl, rfl⟩ := Prod.mk.inj (Option.some.inj hf)
      exact g_zret (pc := 135) dX6_narrow_135 rfl (Or.inl rfl) ⟨rfl, rfl⟩
    · replace hf := jifp hc47 hf
      refine g_iconst (pc := 130) 1 dX6_narrow_130 rfl ?_
      refine g_goto (pc := 131) 135 dX6_narrow_131 rfl ?_
      obtain ⟨rfl, rfl⟩ := Prod.mk.inj (Option.some.inj hf)
      exact g_zret (pc := 135) dX6_narrow_135 rfl (Or.inr rfl) ⟨rfl, rfl⟩
  refine g_weak (lv' := [some (.ref o), some (.ref 1), none, some (.int 0)]) ⟨rfl, ⟨rfl, ⟨rfl, trivial⟩⟩⟩ ?_
  refine jLp_ind (P := fun ((z12, M13) : Int32 × JMem) => jGG μ_X6_narrow 5 36 [some (.ref o), some (.ref 1), none, some (.int z12)] [] M13 (fun M' r' => M' = Mz ∧ r' = some (.int r))) ?_ N _ y7
  rintro ⟨z12, M13⟩ x_11 hf ih10 hx9
  show jGG μ_X6_narrow 5 36 [some (.ref o), some (.ref 1), none, some (.int z12)] [] M13 (fun M' r' => M' = Mz ∧ r' = some (.int r))
  refine g_iload_n (pc := 36) dX6_narrow_36 rfl rfl ?_
  refine g_bipush (pc := 37) 20 dX6_narrow_37 rfl ?_
  refine g_icmp_ge (pc := 39) 123 dX6_narrow_39 rfl (fun hc46 => ?_) (fun hc46 => ?_)
  · replace hf := jifp hc46 hf
    have hf := hx9 _ (Option.some.inj hf).symm
    obtain rfl := hf
    exact g_weakK K8 ⟨rfl, trivial⟩
  · replace hf := jifn hc46 hf
    refine g_aload_n (pc := 42) dX6_narrow_42 rfl rfl ?_
    refine g_getI (pc := 43) dX6_narrow_43 fl_X6_38 ho.1 rfl ?_
    refine g_if_eq (pc := 46) 123 dX6_narrow_46 rfl (fun hc45 => ?_) (fun hc45 => ?_)
    · replace hf := jifp hc45 hf
      have hf := hx9 _ (Option.some.inj hf).symm
      obtain rfl := hf
      exact g_weakK K8 ⟨rfl, trivial⟩
    · replace hf := jifn hc45 hf
      refine g_aload_n (pc := 49) dX6_narrow_49 rfl rfl ?_
      refine g_getI (pc := 50) dX6_narrow_50 fl_X6_34 ho.1 rfl ?_
      refine g_if_ne (pc := 53) 123 dX6_narrow_53 rfl (fun hc44 => ?_) (fun hc44 => ?_)
      · replace hf := jifn hc44 hf
        have hf := hx9 _ (Option.some.inj hf).symm
        obtain rfl := hf
        exact g_weakK K8 ⟨rfl, trivial⟩
      · replace hf := jifp hc44 hf
        refine g_aload_n (pc := 56) dX6_narrow_56 rfl rfl ?_
        refine g_iconst (pc := 57) 0 dX6_narrow_57 rfl ?_
        refine g_putZ (pc := 58) dX6_narrow_58 fp_X6_38 (Or.inl rfl) ho.1 rfl ?_
        obtain ⟨M15, eM15, hf⟩ := job hf
        rw [Option.some.inj eM15]
        refine g_aload_n (pc := 61) dX6_narrow_61 rfl rfl ?_
        refine g_aload_n (pc := 62) dX6_narrow_62 rfl rfl ?_
        obtain ⟨M16, eM16, hf⟩ := job hf
        refine g_callV (pc := 63) [.ref 1] [] dX6_narrow_63 ml_X6_41 ck_X6_alongPieces cv_X6_alongPieces ho.1 rfl (by decide) (Nat.le_of_ble_eq_true rfl) (c_X6_alongPieces ho eM16) ?_
        show jGG μ_X6_narrow 5 66 [some (.ref o), some (.ref 1), none, some (.int z12)] [] M16 (fun M' r' => M' = Mz ∧ r' = some (.int r))
        refine g_aload_n (pc := 66) dX6_narrow_66 rfl rfl ?_
        refine g_aload_n (pc := 67) dX6_narrow_67 rfl rfl ?_
        obtain ⟨M17, eM17, hf⟩ := job hf
        refine g_callV (pc := 68) [.ref 1] [] dX6_narrow_68 ml_X6_45 ck_X6_lookForBurst cv_X6_lookForBurst ho.1 rfl (by decide) (Nat.le_of_ble_eq_true rfl) (c_X6_lookForBurst ho eM17) ?_
        show jGG μ_X6_narrow 5 71 [some (.ref o), some (.ref 1), none, some (.int z12)] [] M17 (fun M' r' => M' = Mz ∧ r' = some (.int r))
        refine g_aload_n (pc := 71) dX6_narrow_71 rfl rfl ?_
        refine g_getI (pc := 72) dX6_narrow_72 fl_X6_34 ho.1 rfl ?_
        obtain ⟨M26, hf, hy19⟩ := job hf
        have K21 : jGG μ_X6_narrow 5 88 [some (.ref o), some (.ref 1), none, some (.int z12)] [] M26 (fun M' r' => M' = Mz ∧ r' = some (.int r)) := by
          replace hf := hy19
          refine g_aload_n (pc := 88) dX6_narrow_88 rfl rfl ?_
          refine g_getI (pc := 89) dX6_narrow_89 fl_X6_34 ho.1 rfl ?_
          obtain ⟨M34, hf, hy28⟩ := job hf
          have K30 : jGG μ_X6_narrow 5 100 [some (.ref o), some (.ref 1), none, some (.int z12)] [] M34 (fun M' r' => M' = Mz ∧ r' = some (.int r)) := by
            replace hf := hy28
            refine g_aload_n (pc := 100) dX6_narrow_100 rfl rfl ?_
            refine g_getI (pc := 101) dX6_narrow_101 fl_X6_34 ho.1 rfl ?_
            obtain ⟨M43, hf, hy36⟩ := job hf
            have K38 : jGG μ_X6_narrow 5 117 [some (.ref o), some (.ref 1), none, some (.int z12)] [] M43 (fun M' r' => M' = Mz ∧ r' = some (.int r)) := by
              replace hf := hy36
              refine g_iinc (pc := 117) (lv' := [some (.ref o), some (.ref 1), none, some (.int (z12 + 1))]) (z12 + 1) dX6_narrow_117 rfl rfl (by decide) rfl ?_
              refine g_goto (pc := 120) 36 dX6_narrow_120 rfl ?_
              have hih : jGG μ_X6_narrow 5 36 [some (.ref o), some (.ref 1), none, some (.int (z12 + 1))] [] M43 (fun M' r' => M' = Mz ∧ r' = some (.int r)) := ih10 (z12 + 1, M43) (Option.some.inj hf).symm
              exact g_weakK hih ⟨rfl, ⟨rfl, ⟨rfl, trivial⟩⟩⟩
            refine g_if_ne (pc := 104) 117 dX6_narrow_104 rfl (fun hc42 => ?_) (fun hc42 => ?_)
            · replace hf := jifn hc42 hf
              obtain rfl := Option.some.inj hf
              exact g_weakK (K38) ⟨rfl, ⟨rfl, ⟨rfl, trivial⟩⟩⟩
            · replace hf := jifp hc42 hf
              refine g_aload_n (pc := 107) dX6_narrow_107 rfl rfl ?_
              refine g_aload_n (pc := 108) dX6_narrow_108 rfl rfl ?_
              obtain ⟨M40, eM40, hf⟩ := job hf
              refine g_callV (pc := 109) [.ref 1] [] dX6_narrow_109 ml_X6_54 ck_X6_closeSets cv_X6_closeSets ho.1 rfl (by decide) (Nat.le_of_ble_eq_true rfl) (c_X6_closeSets ho eM40) ?_
              show jGG μ_X6_narrow 5 112 [some (.ref o), some (.ref 1), none, some (.int z12)] [] M40 (fun M' r' => M' = Mz ∧ r' = some (.int r))
              refine g_aload_n (pc := 112) dX6_narrow_112 rfl rfl ?_
              refine g_aload_n (pc := 113) dX6_narrow_113 rfl rfl ?_
              obtain ⟨M41, eM41, hf⟩ := job hf
              refine g_callV (pc := 114) [.ref 1] [] dX6_narrow_114 ml_X6_45 ck_X6_lookForBurst cv_X6_lookForBurst ho.1 rfl (by decide) (Nat.le_of_ble_eq_true rfl) (c_X6_lookForBurst ho eM41) ?_
              show jGG μ_X6_narrow 5 117 [some (.ref o), some (.ref 1), none, some (.int z12)] [] M41 (fun M' r' => M' = Mz ∧ r' = some (.int r))
              obtain rfl := Option.some.inj hf
              exact g_weakK (K38) ⟨rfl, ⟨rfl, ⟨rfl, trivial⟩⟩⟩
          refine g_if_ne (pc := 92) 100 dX6_narrow_92 rfl (fun hc33 => ?_) (fun hc33 => ?_)
          · replace hf := jifn hc33 hf
            obtain rfl := Option.some.inj hf
            exact g_weakK (K30) ⟨rfl, ⟨rfl, ⟨rfl, trivial⟩⟩⟩
          · replace hf := jifp hc33 hf
            refine g_aload_n (pc := 95) dX6_narrow_95 rfl rfl ?_
            refine g_aload_n (pc := 96) dX6_narrow_96 rfl rfl ?_
            obtain ⟨M32, eM32, hf⟩ := job hf
            refine g_callV (pc := 97) [.ref 1] [] dX6_narrow_97 ml_X6_51 ck_X6_tellPairs cv_X6_tellPairs ho.1 rfl (by decide) (Nat.le_of_ble_eq_true rfl) (c_X6_tellPairs ho eM32) ?_
            show jGG μ_X6_narrow 5 100 [some (.ref o), some (.ref 1), none, some (.int z12)] [] M32 (fun M' r' => M' = Mz ∧ r' = some (.int r))
            obtain rfl := Option.some.inj hf
            exact g_weakK (K30) ⟨rfl, ⟨rfl, ⟨rfl, trivial⟩⟩⟩
        refine g_if_ne (pc := 75) 88 dX6_narrow_75 rfl (fun hc25 => ?_) (fun hc25 => ?_)
        · replace hf := jifn hc25 hf
          obtain rfl := Option.some.inj hf
          exact g_weakK (K21) ⟨rfl, ⟨rfl, ⟨rfl, trivial⟩⟩⟩
        · replace hf := jifp hc25 hf
          refine g_aload_n (pc := 78) dX6_narrow_78 rfl rfl ?_
          refine g_aload_n (pc := 79) dX6_narrow_79 rfl rfl ?_
          obtain ⟨M23, eM23, hf⟩ := job hf
          refine g_callV (pc := 80) [.ref 1] [] dX6_narrow_80 ml_X6_48 ck_X6_alongPairs cv_X6_alongPairs ho.1 rfl (by decide) (Nat.le_of_ble_eq_true rfl) (c_X6_alongPairs ho eM23) ?_
          show jGG μ_X6_narrow 5 83 [some (.ref o), some (.ref 1), none, some (.int z12)] [] M23 (fun M' r' => M' = Mz ∧ r' = some (.int r))
          refine g_aload_n (pc := 83) dX6_narrow_83 rfl rfl ?_
          refine g_aload_n (pc := 84) dX6_narrow_84 rfl rfl ?_
          obtain ⟨M24, eM24, hf⟩ := job hf
          refine g_callV (pc := 85) [.ref 1] [] dX6_narrow_85 ml_X6_45 ck_X6_lookForBurst cv_X6_lookForBurst ho.1 rfl (by decide) (Nat.le_of_ble_eq_true rfl) (c_X6_lookForBurst ho eM24) ?_
          show jGG μ_X6_narrow 5 88 [some (.ref o), some (.ref 1), none, some (.int z12)] [] M24 (fun M' r' => M' = Mz ∧ r' = some (.int r))
          obtain rfl := Option.some.inj hf
          exact g_weakK (K21) ⟨rfl, ⟨rfl, ⟨rfl, trivial⟩⟩⟩
