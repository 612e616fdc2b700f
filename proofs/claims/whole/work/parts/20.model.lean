def f_X8_machine (M : JMem) (x1 : Int32) (x2 : Int32) : Option (JMem × Int32) := (if (jin3 x1.toInt64 0 3) = 0 then some (M, (-100002)) else (jcase (α := JMem × Int32) (β := Unit) (if x1 = 2 then (if (jin3 x2.toInt64 0 100) = 0 then some (Sum.inl (M, (-100002))) else some (Sum.inr ())) else some (Sum.inr ())) fun _ => (jcase (α := JMem × Int32) (β := Unit) (if x1 = 3 then (if (jin3 x2.toInt64 1 4) = 0 then some (Sum.inl (M, (-100002))) else some (Sum.inr ())) else some (Sum.inr ())) fun _ => (if (M 221 2) = 8 then some (M, (-100004)) else (jwr M 222 8 (M 221 2) x1).bind fun M15 => (jwr M15 223 8 (M15 221 2) x2).bind fun M16 => (some (jup M16 221 2 ((M16 221 2) + 1))).bind fun M17 => some (M17, (M17 221 2) - 1)))))
set_option maxHeartbeats 4000000 in
theorem c_X8_machine {M : JMem} {x1 : Int32} {x2 : Int32} {Mz : JMem} {r : Int32} (hf : f_X8_machine M x1 x2 = some (Mz, r)) : jCo yX8_machine μ_X8_machine 2 M [.ref 221, .int x1, .int x2] Mz (some (.int r)) := by
  refine jCt_of (by decide +kernel) rfl (by simp [Value.category]) (Nat.le_of_ble_eq_true rfl) ?_
  unfold f_X8_machine at hf
  show jGG μ_X8_machine 2 0 [some (.ref 221), some (.int x1), some (.int x2)] [] M (fun M' r' => M' = Mz ∧ r' = some (.int r))
  refine g_iload_n (pc := 0) dX8_machine_0 rfl rfl ?_
  refine g_i2l (pc := 1) dX8_machine_1 ?_
  refine g_lconst (pc := 2) 0 dX8_machine_2 rfl ?_
  refine g_ldc2 (pc := 3) 3 dX8_machine_3 lcl_X8_122 ?_
  refine g_callS (pc := 6) [.long x1.toInt64, .long 0, .long 3] [] dX8_machine_6 ml_X8_124 ck_X8_in cs_X8_in rfl (by decide) (Nat.le_of_ble_eq_true rfl) c_in ?_
  show jGG μ_X8_machine 2 9 [some (.ref 221), some (.int x1), some (.int x2)] [.int (jin3 x1.toInt64 0 3)] M (fun M' r' => M' = Mz ∧ r' = some (.int r))
  refine g_if_eq (pc := 9) 46 dX8_machine_9 rfl (fun hc19 => ?_) (fun hc19 => ?_)
  · replace hf := jifp hc19 hf
    refine g_ldc (pc := 46) (-100002) dX8_machine_46 lc_X8_132 ?_
    obtain ⟨rfl, rfl⟩ := Prod.mk.inj (Option.some.inj hf)
    exact g_iret (pc := 48) dX8_machine_48 rfl ⟨rfl, rfl⟩
  · replace hf := jifn hc19 hf
    refine g_iload_n (pc := 12) dX8_machine_12 rfl rfl ?_
    refine g_iconst (pc := 13) 2 dX8_machine_13 rfl ?_
    obtain ⟨y3, hf, hy2⟩ := jcb hf
    have K4 : y3 = Sum.inr () → jGG μ_X8_machine 2 29 [some (.ref 221), some (.int x1), some (.int x2)] [] M (fun M' r' => M' = Mz ∧ r' = some (.int r)) := by
      intro hyy
      subst hyy
      replace hf := hy2
      refine g_iload_n (pc := 29) dX8_machine_29 rfl rfl ?_
      refine g_iconst (pc := 30) 3 dX8_machine_30 rfl ?_
      obtain ⟨y10, hf, hy9⟩ := jcb hf
      have K11 : y10 = Sum.inr () → jGG μ_X8_machine 2 49 [some (.ref 221), some (.int x1), some (.int x2)] [] M (fun M' r' => M' = Mz ∧ r' = some (.int r)) := by
        intro hyy
        subst hyy
        replace hf := hy9
        refine g_aload_n (pc := 49) dX8_machine_49 rfl rfl ?_
        refine g_getI (pc := 50) dX8_machine_50 fl_X8_133 sh_221 rfl ?_
        refine g_bipush (pc := 53) 8 dX8_machine_53 rfl ?_
        refine g_icmp_ne (pc := 55) 61 dX8_machine_55 rfl (fun hc18 => ?_) (fun hc18 => ?_)
        · replace hf := jifn hc18 hf
          refine g_aload_n (pc := 61) dX8_machine_61 rfl rfl ?_
          refine g_getR (pc := 62) dX8_machine_62 fl_X8_7 sh_221 rfl ?_
          refine g_aload_n (pc := 65) dX8_machine_65 rfl rfl ?_
          refine g_getI (pc := 66) dX8_machine_66 fl_X8_133 sh_221 rfl ?_
          refine g_iload_n (pc := 69) dX8_machine_69 rfl rfl ?_
          obtain ⟨M15, eM15, hf⟩ := job hf
          refine g_iast (pc := 70) dX8_machine_70 sh_222 eM15 ?_
          refine g_aload_n (pc := 71) dX8_machine_71 rfl rfl ?_
          refine g_getR (pc := 72) dX8_machine_72 fl_X8_13 sh_221 rfl ?_
          refine g_aload_n (pc := 75) dX8_machine_75 rfl rfl ?_
          refine g_getI (pc := 76) dX8_machine_76 fl_X8_133 sh_221 rfl ?_
          refine g_iload_n (pc := 79) dX8_machine_79 rfl rfl ?_
          obtain ⟨M16, eM16, hf⟩ := job hf
          refine g_iast (pc := 80) dX8_machine_80 sh_223 eM16 ?_
          refine g_aload_n (pc := 81) dX8_machine_81 rfl rfl ?_
          refine g_dup (pc := 82) dX8_machine_82 rfl ?_
          refine g_getI (pc := 83) dX8_machine_83 fl_X8_133 sh_221 rfl ?_
          refine g_iconst (pc := 86) 1 dX8_machine_86 rfl ?_
          refine g_iadd (pc := 87) dX8_machine_87 ?_
          refine g_putI (pc := 88) dX8_machine_88 fp_X8_133 sh_221 rfl ?_
          obtain ⟨M17, eM17, hf⟩ := job hf
          rw [Option.some.inj eM17]
          refine g_aload_n (pc := 91) dX8_machine_91 rfl rfl ?_
          refine g_getI (pc := 92) dX8_machine_92 fl_X8_133 sh_221 rfl ?_
          refine g_iconst (pc := 95) 1 dX8_machine_95 rfl ?_
          refine g_isub (pc := 96) dX8_machine_96 ?_
          obtain ⟨rfl, rfl⟩ := Prod.mk.inj (Option.some.inj hf)
          exact g_iret (pc := 97) dX8_machine_97 rfl ⟨rfl, rfl⟩
        · replace hf := jifp hc18 hf
          refine g_ldc (pc := 58) (-100004) dX8_machine_58 lc_X8_137 ?_
          obtain ⟨rfl, rfl⟩ := Prod.mk.inj (Option.some.inj hf)
          exact g_iret (pc := 60) dX8_machine_60 rfl ⟨rfl, rfl⟩
      refine g_icmp_ne (pc := 31) 49 dX8_machine_31 rfl (fun hc14 => ?_) (fun hc14 => ?_)
      · replace hf := jifn hc14 hf
        exact g_weakK (K11 (Option.some.inj hf).symm) ⟨rfl, ⟨rfl, ⟨rfl, trivial⟩⟩⟩
      · replace hf := jifp hc14 hf
        refine g_iload_n (pc := 34) dX8_machine_34 rfl rfl ?_
        refine g_i2l (pc := 35) dX8_machine_35 ?_
        refine g_lconst (pc := 36) 1 dX8_machine_36 rfl ?_
        refine g_ldc2 (pc := 37) 4 dX8_machine_37 lcl_X8_130 ?_
        refine g_callS (pc := 40) [.long x2.toInt64, .long 1, .long 4] [] dX8_machine_40 ml_X8_124 ck_X8_in cs_X8_in rfl (by decide) (Nat.le_of_ble_eq_true rfl) c_in ?_
        show jGG μ_X8_machine 2 43 [some (.ref 221), some (.int x1), some (.int x2)] [.int (jin3 x2.toInt64 1 4)] M (fun M' r' => M' = Mz ∧ r' = some (.int r))
        refine g_if_ne (pc := 43) 49 dX8_machine_43 rfl (fun hc13 => ?_) (fun hc13 => ?_)
        · replace hf := jifn hc13 hf
          exact g_weakK (K11 (Option.some.inj hf).symm) ⟨rfl, ⟨rfl, ⟨rfl, trivial⟩⟩⟩
        · replace hf := jifp hc13 hf
          refine g_ldc (pc := 46) (-100002) dX8_machine_46 lc_X8_132 ?_
          obtain rfl := Option.some.inj hf
          replace hf := hy9
          obtain ⟨rfl, rfl⟩ := Prod.mk.inj (Option.some.inj hf)
          exact g_iret (pc := 48) dX8_machine_48 rfl ⟨rfl, rfl⟩
    refine g_icmp_ne (pc := 14) 29 dX8_machine_14 rfl (fun hc7 => ?_) (fun hc7 => ?_)
    · replace hf := jifn hc7 hf
      exact g_weakK (K4 (Option.some.inj hf).symm) ⟨rfl, ⟨rfl, ⟨rfl, trivial⟩⟩⟩
    · replace hf := jifp hc7 hf
      refine g_iload_n (pc := 17) dX8_machine_17 rfl rfl ?_
      refine g_i2l (pc := 18) dX8_machine_18 ?_
      refine g_lconst (pc := 19) 0 dX8_machine_19 rfl ?_
      refine g_ldc2 (pc := 20) 100 dX8_machine_20 lcl_X8_128 ?_
      refine g_callS (pc := 23) [.long x2.toInt64, .long 0, .long 100] [] dX8_machine_23 ml_X8_124 ck_X8_in cs_X8_in rfl (by decide) (Nat.le_of_ble_eq_true rfl) c_in ?_
      show jGG μ_X8_machine 2 26 [some (.ref 221), some (.int x1), some (.int x2)] [.int (jin3 x2.toInt64 0 100)] M (fun M' r' => M' = Mz ∧ r' = some (.int r))
      refine g_if_eq (pc := 26) 46 dX8_machine_26 rfl (fun hc6 => ?_) (fun hc6 => ?_)
      · replace hf := jifp hc6 hf
        refine g_ldc (pc := 46) (-100002) dX8_machine_46 lc_X8_132 ?_
        obtain rfl := Option.some.inj hf
        replace hf := hy2
        obtain ⟨rfl, rfl⟩ := Prod.mk.inj (Option.some.inj hf)
        exact g_iret (pc := 48) dX8_machine_48 rfl ⟨rfl, rfl⟩
      · replace hf := jifn hc6 hf
        exact g_weakK (K4 (Option.some.inj hf).symm) ⟨rfl, ⟨rfl, ⟨rfl, trivial⟩⟩⟩
def f_X8_piece (M : JMem) (x1 : Int32) : Option (JMem × Int32) := (if (jin3 x1.toInt64 0 9) = 0 then some (M, (-100002)) else (if (M 221 6) = 12 then some (M, (-100004)) else (jwr M 224 12 (M 221 6) x1).bind fun M1 => (jwr M1 225 12 (M1 221 6) 0).bind fun M2 => (some (jup M2 221 6 ((M2 221 6) + 1))).bind fun M3 => some (M3, (M3 221 6) - 1)))
set_option maxHeartbeats 4000000 in
theorem c_X8_piece {M : JMem} {x1 : Int32} {Mz : JMem} {r : Int32} (hf : f_X8_piece M x1 = some (Mz, r)) : jCo yX8_piece μ_X8_piece 2 M [.ref 221, .int x1] Mz (some (.int r)) := by
  refine jCt_of (by decide +kernel) rfl (by simp [Value.category]) (Nat.le_of_ble_eq_true rfl) ?_
  unfold f_X8_piece at hf
  show jGG μ_X8_piece 2 0 [some (.ref 221), some (.int x1)] [] M (fun M' r' => M' = Mz ∧ r' = some (.int r))
  refine g_iload_n (pc := 0) dX8_piece_0 rfl rfl ?_
  refine g_i2l (pc := 1) dX8_piece_1 ?_
  refine g_lconst (pc := 2) 0 dX8_piece_2 rfl ?_
  refine g_ldc2 (pc := 3) 9 dX8_piece_3 lcl_X8_138 ?_
  refine g_callS (pc := 6) [.long x1.toInt64, .long 0, .long 9] [] dX8_piece_6 ml_X8_124 ck_X8_in cs_X8_in rfl (by decide) (Nat.le_of_ble_eq_true rfl) c_in ?_
  show jGG μ_X8_piece 2 9 [some (.ref 221), some (.int x1)] [.int (jin3 x1.toInt64 0 9)] M (fun M' r' => M' = Mz ∧ r' = some (.int r))
  refine g_if_ne (pc := 9) 15 dX8_piece_9 rfl (fun hc5 => ?_) (fun hc5 => ?_)
  · replace hf := jifn hc5 hf
    refine g_aload_n (pc := 15) dX8_piece_15 rfl rfl ?_
    refine g_getI (pc := 16) dX8_piece_16 fl_X8_140 sh_221 rfl ?_
    refine g_bipush (pc := 19) 12 dX8_piece_19 rfl ?_
    refine g_icmp_ne (pc := 21) 27 dX8_piece_21 rfl (fun hc4 => ?_) (fun hc4 => ?_)
    · replace hf := jifn hc4 hf
      refine g_aload_n (pc := 27) dX8_piece_27 rfl rfl ?_
      refine g_getR (pc := 28) dX8_piece_28 fl_X8_16 sh_221 rfl ?_
      refine g_aload_n (pc := 31) dX8_piece_31 rfl rfl ?_
      refine g_getI (pc := 32) dX8_piece_32 fl_X8_140 sh_221 rfl ?_
      refine g_iload_n (pc := 35) dX8_piece_35 rfl rfl ?_
      obtain ⟨M1, eM1, hf⟩ := job hf
      refine g_iast (pc := 36) dX8_piece_36 sh_224 eM1 ?_
      refine g_aload_n (pc := 37) dX8_piece_37 rfl rfl ?_
      refine g_getR (pc := 38) dX8_piece_38 fl_X8_19 sh_221 rfl ?_
      refine g_aload_n (pc := 41) dX8_piece_41 rfl rfl ?_
      refine g_getI (pc := 42) dX8_piece_42 fl_X8_140 sh_221 rfl ?_
      refine g_iconst (pc := 45) 0 dX8_piece_45 rfl ?_
      obtain ⟨M2, eM2, hf⟩ := job hf
      refine g_iast (pc := 46) dX8_piece_46 sh_225 eM2 ?_
      refine g_aload_n (pc := 47) dX8_piece_47 rfl rfl ?_
      refine g_dup (pc := 48) dX8_piece_48 rfl ?_
      refine g_getI (pc := 49) dX8_piece_49 fl_X8_140 sh_221 rfl ?_
      refine g_iconst (pc := 52) 1 dX8_piece_52 rfl ?_
      refine g_iadd (pc := 53) dX8_piece_53 ?_
      refine g_putI (pc := 54) dX8_piece_54 fp_X8_140 sh_221 rfl ?_
      obtain ⟨M3, eM3, hf⟩ := job hf
      rw [Option.some.inj eM3]
      refine g_aload_n (pc := 57) dX8_piece_57 rfl rfl ?_
      refine g_getI (pc := 58) dX8_piece_58 fl_X8_140 sh_221 rfl ?_
      refine g_iconst (pc := 61) 1 dX8_piece_61 rfl ?_
      refine g_isub (pc := 62) dX8_piece_62 ?_
      obtain ⟨rfl, rfl⟩ := Prod.mk.inj (Option.some.inj hf)
      exact g_iret (pc := 63) dX8_piece_63 rfl ⟨rfl, rfl⟩
    · replace hf := jifp hc4 hf
      refine g_ldc (pc := 24) (-100004) dX8_piece_24 lc_X8_137 ?_
      obtain ⟨rfl, rfl⟩ := Prod.mk.inj (Option.some.inj hf)
      exact g_iret (pc := 26) dX8_piece_26 rfl ⟨rfl, rfl⟩
  · replace hf := jifp hc5 hf
    refine g_ldc (pc := 12) (-100002) dX8_piece_12 lc_X8_132 ?_
    obtain ⟨rfl, rfl⟩ := Prod.mk.inj (Option.some.inj hf)
    exact g_iret (pc := 14) dX8_piece_14 rfl ⟨rfl, rfl⟩
def f_X8_more (M : JMem) (x1 : Int32) (x2 : Int32) (x3 : Int32) : Option (JMem × Int32) := (jwr M 227 32 (M 221 11) x1).bind fun M1 => (jwr M1 228 32 (M 221 11) x2).bind fun M2 => (jwr M2 229 32 (M 221 11) x3).bind fun M3 => (jrd M3 225 12 x1).bind fun v4 => (jwr M3 230 32 (M 221 11) v4).bind fun M5 => (jrd M5 225 12 x1).bind fun v6 => (jwr M5 226 96 ((8 * x1) + v6) (M 221 11)).bind fun M7 => (jrd M7 225 12 x1).bind fun v8 => (jwr M7 225 12 x1 (v8 + 1)).bind fun M9 => (jrd M9 232 8 x2).bind fun v10 => (jwr M9 231 256 ((32 * x2) + v10) (M 221 11)).bind fun M11 => (jrd M11 232 8 x2).bind fun v12 => (jwr M11 232 8 x2 (v12 + 1)).bind fun M13 => (some (jup M13 221 11 ((M13 221 11) + 1))).bind fun M14 => some (M14, M 221 11)
set_option maxHeartbeats 4000000 in
theorem c_X8_more {M : JMem} {x1 : Int32} {x2 : Int32} {x3 : Int32} {Mz : JMem} {r : Int32} (hf : f_X8_more M x1 x2 x3 = some (Mz, r)) : jCo yX8_more μ_X8_more 1 M [.ref 221, .int x1, .int x2, .int x3] Mz (some (.int r)) := by
  refine jCt_of (by decide +kernel) rfl (by simp [Value.category]) (Nat.le_of_ble_eq_true rfl) ?_
  unfold f_X8_more at hf
  show jGG μ_X8_more 1 0 [some (.ref 221), some (.int x1), some (.int x2), some (.int x3), none] [] M (fun M' r' => M' = Mz ∧ r' = some (.int r))
  refine g_aload_n (pc := 0) dX8_more_0 rfl rfl ?_
  refine g_getI (pc := 1) dX8_more_1 fl_X8_143 sh_221 rfl ?_
  refine g_istore (pc := 4) (lv' := [some (.ref 221), some (.int x1), some (.int x2), some (.int x3), some (.int (M 221 11))]) dX8_more_4 (by decide) rfl ?_
  refine g_aload_n (pc := 6) dX8_more_6 rfl rfl ?_
  refine g_getR (pc := 7) dX8_more_7 fl_X8_25 sh_221 rfl ?_
  refine g_iload (pc := 10) dX8_more_10 rfl ?_
  refine g_iload_n (pc := 12) dX8_more_12 rfl rfl ?_
  obtain ⟨M1, eM1, hf⟩ := job hf
  refine g_iast (pc := 13) dX8_more_13 sh_227 eM1 ?_
  refine g_aload_n (pc := 14) dX8_more_14 rfl rfl ?_
  refine g_getR (pc := 15) dX8_more_15 fl_X8_28 sh_221 rfl ?_
  refine g_iload (pc := 18) dX8_more_18 rfl ?_
  refine g_iload_n (pc := 20) dX8_more_20 rfl rfl ?_
  obtain ⟨M2, eM2, hf⟩ := job hf
  refine g_iast (pc := 21) dX8_more_21 sh_228 eM2 ?_
  refine g_aload_n (pc := 22) dX8_more_22 rfl rfl ?_
  refine g_getR (pc := 23) dX8_more_23 fl_X8_31 sh_221 rfl ?_
  refine g_iload (pc := 26) dX8_more_26 rfl ?_
  refine g_iload_n (pc := 28) dX8_more_28 rfl rfl ?_
  obtain ⟨M3, eM3, hf⟩ := job hf
  refine g_iast (pc := 29) dX8_more_29 sh_229 eM3 ?_
  refine g_aload_n (pc := 30) dX8_more_30 rfl rfl ?_
  refine g_getR (pc := 31) dX8_more_31 fl_X8_34 sh_221 rfl ?_
  refine g_iload (pc := 34) dX8_more_34 rfl ?_
  refine g_aload_n (pc := 36) dX8_more_36 rfl rfl ?_
  refine g_getR (pc := 37) dX8_more_37 fl_X8_19 sh_221 rfl ?_
  refine g_iload_n (pc := 40) dX8_more_40 rfl rfl ?_
  obtain ⟨v4, ev4, hf⟩ := job hf
  refine g_iald (pc := 41) dX8_more_41 sh_225 ev4 ?_
  obtain ⟨M5, eM5, hf⟩ := job hf
  refine g_iast (pc := 42) dX8_more_42 sh_230 eM5 ?_
  refine g_aload_n (pc := 43) dX8_more_43 rfl rfl ?_
  refine g_getR (pc := 44) dX8_more_44 fl_X8_22 sh_221 rfl ?_
  refine g_bipush (pc := 47) 8 dX8_more_47 rfl ?_
  refine g_iload_n (pc := 49) dX8_more_49 rfl rfl ?_
  refine g_imul (pc := 50) dX8_more_50 ?_
  refine g_aload_n (pc := 51) dX8_more_51 rfl rfl ?_
  refine g_getR (pc := 52) dX8_more_52 fl_X8_19 sh_221 rfl ?_
  refine g_iload_n (pc := 55) dX8_more_55 rfl rfl ?_
  obtain ⟨v6, ev6, hf⟩ := job hf
  refine g_iald (pc := 56) dX8_more_56 sh_225 ev6 ?_
  refine g_iadd (pc := 57) dX8_more_57 ?_
  refine g_iload (pc := 58) dX8_more_58 rfl ?_
  obtain ⟨M7, eM7, hf⟩ := job hf
  refine g_iast (pc := 60) dX8_more_60 sh_226 eM7 ?_
  refine g_aload_n (pc := 61) dX8_more_61 rfl rfl ?_
  refine g_getR (pc := 62) dX8_more_62 fl_X8_19 sh_221 rfl ?_
  refine g_iload_n (pc := 65) dX8_more_65 rfl rfl ?_
  refine g_dup2 (pc := 66) dX8_more_66 rfl rfl ?_
  obtain ⟨v8, ev8, hf⟩ := job hf
  refine g_iald (pc := 67) dX8_more_67 sh_225 ev8 ?_
  refine g_iconst (pc := 68) 1 dX8_more_68 rfl ?_
  refine g_iadd (pc := 69) dX8_more_69 ?_
  obtain ⟨M9, eM9, hf⟩ := job hf
  refine g_iast (pc := 70) dX8_more_70 sh_225 eM9 ?_
  refine g_aload_n (pc := 71) dX8_more_71 rfl rfl ?_
  refine g_getR (pc := 72) dX8_more_72 fl_X8_37 sh_221 rfl ?_
  refine g_bipush (pc := 75) 32 dX8_more_75 rfl ?_
  refine g_iload_n (pc := 77) dX8_more_77 rfl rfl ?_
  refine g_imul (pc := 78) dX8_more_78 ?_
  refine g_aload_n (pc := 79) dX8_more_79 rfl rfl ?_
  refine g_getR (pc := 80) dX8_more_80 fl_X8_40 sh_221 rfl ?_
  refine g_iload_n (pc := 83) dX8_more_83 rfl rfl ?_
  obtain ⟨v10, ev10, hf⟩ := job hf
  refine g_iald (pc := 84) dX8_more_84 sh_232 ev10 ?_
  refine g_iadd (pc := 85) dX8_more_85 ?_
  refine g_iload (pc := 86) dX8_more_86 rfl ?_
  obtain ⟨M11, eM11, hf⟩ := job hf
  refine g_iast (pc := 88) dX8_more_88 sh_231 eM11 ?_
  refine g_aload_n (pc := 89) dX8_more_89 rfl rfl ?_
  refine g_getR (pc := 90) dX8_more_90 fl_X8_40 sh_221 rfl ?_
  refine g_iload_n (pc := 93) dX8_more_93 rfl rfl ?_
  refine g_dup2 (pc := 94) dX8_more_94 rfl rfl ?_
  obtain ⟨v12, ev12, hf⟩ := job hf
  refine g_iald (pc := 95) dX8_more_95 sh_232 ev12 ?_
  refine g_iconst (pc := 96) 1 dX8_more_96 rfl ?_
  refine g_iadd (pc := 97) dX8_more_97 ?_
  obtain ⟨M13, eM13, hf⟩ := job hf
  refine g_iast (pc := 98) dX8_more_98 sh_232 eM13 ?_
  refine g_aload_n (pc := 99) dX8_more_99 rfl rfl ?_
  refine g_dup (pc := 100) dX8_more_100 rfl ?_
  refine g_getI (pc := 101) dX8_more_101 fl_X8_143 sh_221 rfl ?_
  refine g_iconst (pc := 104) 1 dX8_more_104 rfl ?_
  refine g_iadd (pc := 105) dX8_more_105 ?_
  refine g_putI (pc := 106) dX8_more_106 fp_X8_143 sh_221 rfl ?_
  obtain ⟨M14, eM14, hf⟩ := job hf
  rw [Option.some.inj eM14]
  refine g_iload (pc := 109) dX8_more_109 rfl ?_
  obtain ⟨rfl, rfl⟩ := Prod.mk.inj (Option.some.inj hf)
  exact g_iret (pc := 111) dX8_more_111 rfl ⟨rfl, rfl⟩
def f_X8_step (M : JMem) (x1 : Int32) (x2 : Int32) (x3 : Int32) : Option (JMem × Int32) := (if (jin3 x1.toInt64 0 (((M 221 6) - 1).toInt64)) = 0 then some (M, (-100001)) else (if (jin3 x2.toInt64 0 (((M 221 2) - 1).toInt64)) = 0 then some (M, (-100001)) else (if (jin3 x3.toInt64 1 1000) = 0 then some (M, (-100002)) else (jrd M 225 12 x1).bind fun v1 => (jcase (α := JMem × Int32) (β := Unit) (if v1 = 8 then some (Sum.inr ()) else (if (M 221 11) = 32 then some (Sum.inr ()) else (f_X8_more M x1 x2 x3).bind fun (M7, v8) => some (Sum.inl (M7, v8)))) fun _ => some (M, (-100004))))))
set_option maxHeartbeats 4000000 in
theorem c_X8_step {M : JMem} {x1 : Int32} {x2 : Int32} {x3 : Int32} {Mz : JMem} {r : Int32} (hf : f_X8_step M x1 x2 x3 = some (Mz, r)) : jCo yX8_step μ_X8_step 2 M [.ref 221, .int x1, .int x2, .int x3] Mz (some (.int r)) := by
  refine jCt_of (by decide +kernel) rfl (by simp [Value.category]) (Nat.le_of_ble_eq_true rfl) ?_
  unfold f_X8_step at hf
  show jGG μ_X8_step 2 0 [some (.ref 221), some (.int x1), some (.int x2), some (.int x3)] [] M (fun M' r' => M' = Mz ∧ r' = some (.int r))
  refine g_iload_n (pc := 0) dX8_step_0 rfl rfl ?_
  refine g_i2l (pc := 1) dX8_step_1 ?_
  refine g_lconst (pc := 2) 0 dX8_step_2 rfl ?_
  refine g_aload_n (pc := 3) dX8_step_3 rfl rfl ?_
  refine g_getI (pc := 4) dX8_step_4 fl_X8_140 sh_221 rfl ?_
  refine g_iconst (pc := 7) 1 dX8_step_7 rfl ?_
  refine g_isub (pc := 8) dX8_step_8 ?_
  refine g_i2l (pc := 9) dX8_step_9 ?_
  refine g_callS (pc := 10) [.long x1.toInt64, .long 0, .long (((M 221 6) - 1).toInt64)] [] dX8_step_10 ml_X8_124 ck_X8_in cs_X8_in rfl (by decide) (Nat.le_of_ble_eq_true rfl) c_in ?_
  show jGG μ_X8_step 2 13 [some (.ref 221), some (.int x1), some (.int x2), some (.int x3)] [.int (jin3 x1.toInt64 0 (((M 221 6) - 1).toInt64))] M (fun M' r' => M' = Mz ∧ r' = some (.int r))
  refine g_if_eq (pc := 13) 32 dX8_step_13 rfl (fun hc13 => ?_) (fun hc13 => ?_)
  · replace hf := jifp hc13 hf
    refine g_ldc (pc := 32) (-100001) dX8_step_32 lc_X8_146 ?_
    obtain ⟨rfl, rfl⟩ := Prod.mk.inj (Option.some.inj hf)
    exact g_iret (pc := 34) dX8_step_34 rfl ⟨rfl, rfl⟩
  · replace hf := jifn hc13 hf
    refine g_iload_n (pc := 16) dX8_step_16 rfl rfl ?_
    refine g_i2l (pc := 17) dX8_step_17 ?_
    refine g_lconst (pc := 18) 0 dX8_step_18 rfl ?_
    refine g_aload_n (pc := 19) dX8_step_19 rfl rfl ?_
    refine g_getI (pc := 20) dX8_step_20 fl_X8_133 sh_221 rfl ?_
    refine g_iconst (pc := 23) 1 dX8_step_23 rfl ?_
    refine g_isub (pc := 24) dX8_step_24 ?_
    refine g_i2l (pc := 25) dX8_step_25 ?_
    refine g_callS (pc := 26) [.long x2.toInt64, .long 0, .long (((M 221 2) - 1).toInt64)] [] dX8_step_26 ml_X8_124 ck_X8_in cs_X8_in rfl (by decide) (Nat.le_of_ble_eq_true rfl) c_in ?_
    show jGG μ_X8_step 2 29 [some (.ref 221), some (.int x1), some (.int x2), some (.int x3)] [.int (jin3 x2.toInt64 0 (((M 221 2) - 1).toInt64))] M (fun M' r' => M' = Mz ∧ r' = some (.int r))
    refine g_if_ne (pc := 29) 35 dX8_step_29 rfl (fun hc12 => ?_) (fun hc12 => ?_)
    · replace hf := jifn hc12 hf
      refine g_iload_n (pc := 35) dX8_step_35 rfl rfl ?_
      refine g_i2l (pc := 36) dX8_step_36 ?_
      refine g_lconst (pc := 37) 1 dX8_step_37 rfl ?_
      refine g_ldc2 (pc := 38) 1000 dX8_step_38 lcl_X8_147 ?_
      refine g_callS (pc := 41) [.long x3.toInt64, .long 1, .long 1000] [] dX8_step_41 ml_X8_124 ck_X8_in cs_X8_in rfl (by decide) (Nat.le_of_ble_eq_true rfl) c_in ?_
      show jGG μ_X8_step 2 44 [some (.ref 221), some (.int x1), some (.int x2), some (.int x3)] [.int (jin3 x3.toInt64 1 1000)] M (fun M' r' => M' = Mz ∧ r' = some (.int r))
      refine g_if_ne (pc := 44) 50 dX8_step_44 rfl (fun hc11 => ?_) (fun hc11 => ?_)
      · replace hf := jifn hc11 hf
        refine g_aload_n (pc := 50) dX8_step_50 rfl rfl ?_
        refine g_getR (pc := 51) dX8_step_51 fl_X8_19 sh_221 rfl ?_
        refine g_iload_n (pc := 54) dX8_step_54 rfl rfl ?_
        obtain ⟨v1, ev1, hf⟩ := job hf
        refine g_iald (pc := 55) dX8_step_55 sh_225 ev1 ?_
        refine g_bipush (pc := 56) 8 dX8_step_56 rfl ?_
        obtain ⟨y4, hf, hy3⟩ := jcb hf
        have K5 : y4 = Sum.inr () → jGG μ_X8_step 2 70 [none, none, none, none] [] M (fun M' r' => M' = Mz ∧ r' = some (.int r)) := by
          intro hyy
          subst hyy
          replace hf := hy3
          refine g_ldc (pc := 70) (-100004) dX8_step_70 lc_X8_137 ?_
          refine g_goto (pc := 72) 82 dX8_step_72 rfl ?_
          obtain ⟨rfl, rfl⟩ := Prod.mk.inj (Option.some.inj hf)
          exact g_iret (pc := 82) dX8_step_82 rfl ⟨rfl, rfl⟩
        refine g_icmp_eq (pc := 58) 70 dX8_step_58 rfl (fun hc10 => ?_) (fun hc10 => ?_)
        · replace hf := jifp hc10 hf
          exact g_weakK (K5 (Option.some.inj hf).symm) trivial
        · replace hf := jifn hc10 hf
          refine g_aload_n (pc := 61) dX8_step_61 rfl rfl ?_
          refine g_getI (pc := 62) dX8_step_62 fl_X8_143 sh_221 rfl ?_
          refine g_bipush (pc := 65) 32 dX8_step_65 rfl ?_
          refine g_icmp_ne (pc := 67) 75 dX8_step_67 rfl (fun hc9 => ?_) (fun hc9 => ?_)
          · replace hf := jifn hc9 hf
            refine g_aload_n (pc := 75) dX8_step_75 rfl rfl ?_
            refine g_iload_n (pc := 76) dX8_step_76 rfl rfl ?_
            refine g_iload_n (pc := 77) dX8_step_77 rfl rfl ?_
            refine g_iload_n (pc := 78) dX8_step_78 rfl rfl ?_
            obtain ⟨⟨M7, v8⟩, ev8, hf⟩ := job hf
            refine g_callV (pc := 79) [.int x1, .int x2, .int x3] [] dX8_step_79 ml_X8_149 ck_X8_more cv_X8_more sh_221 rfl (by decide) (Nat.le_of_ble_eq_true rfl) (c_X8_more ev8) ?_
            show jGG μ_X8_step 2 82 [some (.ref 221), some (.int x1), some (.int x2), some (.int x3)] [.int v8] M7 (fun M' r' => M' = Mz ∧ r' = some (.int r))
            obtain rfl := Option.some.inj hf
            replace hf := hy3
            obtain ⟨rfl, rfl⟩ := Prod.mk.inj (Option.some.inj hf)
            exact g_iret (pc := 82) dX8_step_82 rfl ⟨rfl, rfl⟩
          · replace hf := jifp hc9 hf
            exact g_weakK (K5 (Option.some.inj hf).symm) trivial
      · replace hf := jifp hc11 hf
        refine g_ldc (pc := 47) (-100002) dX8_step_47 lc_X8_132 ?_
        obtain ⟨rfl, rfl⟩ := Prod.mk.inj (Option.some.inj hf)
        exact g_iret (pc := 49) dX8_step_49 rfl ⟨rfl, rfl⟩
    · replace hf := jifp hc12 hf
      refine g_ldc (pc := 32) (-100001) dX8_step_32 lc_X8_146 ?_
      obtain ⟨rfl, rfl⟩ := Prod.mk.inj (Option.some.inj hf)
      exact g_iret (pc := 34) dX8_step_34 rfl ⟨rfl, rfl⟩
def f_X8_isStep (M : JMem) (x1 : Int32) : Option (Int32) := some (jin3 x1.toInt64 0 (((M 221 11) - 1).toInt64))
set_option maxHeartbeats 4000000 in
theorem c_X8_isStep {M : JMem} {x1 : Int32} {r : Int32} (hf : f_X8_isStep M x1 = some r) : jCo yX8_isStep μ_X8_isStep 2 M [.ref 221, .int x1] M (some (.int r)) := by
  refine jCt_of (by decide +kernel) rfl (by simp [Value.category]) (Nat.le_of_ble_eq_true rfl) ?_
  unfold f_X8_isStep at hf
  show jGG μ_X8_isStep 2 0 [some (.ref 221), some (.int x1)] [] M (fun M' r' => M' = M ∧ r' = some (.int r))
  refine g_iload_n (pc := 0) dX8_isStep_0 rfl rfl ?_
  refine g_i2l (pc := 1) dX8_isStep_1 ?_
  refine g_lconst (pc := 2) 0 dX8_isStep_2 rfl ?_
  refine g_aload_n (pc := 3) dX8_isStep_3 rfl rfl ?_
  refine g_getI (pc := 4) dX8_isStep_4 fl_X8_143 sh_221 rfl ?_
  refine g_iconst (pc := 7) 1 dX8_isStep_7 rfl ?_
  refine g_isub (pc := 8) dX8_isStep_8 ?_
  refine g_i2l (pc := 9) dX8_isStep_9 ?_
  refine g_callS (pc := 10) [.long x1.toInt64, .long 0, .long (((M 221 11) - 1).toInt64)] [] dX8_isStep_10 ml_X8_124 ck_X8_in cs_X8_in rfl (by decide) (Nat.le_of_ble_eq_true rfl) c_in ?_
  show jGG μ_X8_isStep 2 13 [some (.ref 221), some (.int x1)] [.int (jin3 x1.toInt64 0 (((M 221 11) - 1).toInt64))] M (fun M' r' => M' = M ∧ r' = some (.int r))
  obtain rfl := Option.some.inj hf
  exact g_zret (pc := 13) dX8_isStep_13 rfl (jin3_b _ _ _) ⟨rfl, rfl⟩
def f_X8_placeOf (N : Nat) (M : JMem) (x1 : Int32) : Option (Int32) := (jrd M 228 32 x1).bind fun v1 => ((jLp (σ := Int32) (ρ := Int32) N (fun (z8 : Int32) => (jrd M 231 256 ((32 * v1) + z8)).bind fun v10 => (if v10 = x1 then some (Sum.inr z8) else some (Sum.inl (z8 + 1)))) 0).bind fun t9 => some t9)
set_option maxHeartbeats 4000000 in
theorem c_X8_placeOf {N : Nat} {M : JMem} {x1 : Int32} {r : Int32} (hf : f_X8_placeOf N M x1 = some r) : jCo yX8_placeOf μ_X8_placeOf 1 M [.ref 221, .int x1] M (some (.int r)) := by
  refine jCt_of (by decide +kernel) rfl (by simp [Value.category]) (Nat.le_of_ble_eq_true rfl) ?_
  unfold f_X8_placeOf at hf
  show jGG μ_X8_placeOf 1 0 [some (.ref 221), some (.int x1), none, none] [] M (fun M' r' => M' = M ∧ r' = some (.int r))
  refine g_aload_n (pc := 0) dX8_placeOf_0 rfl rfl ?_
  refine g_getR (pc := 1) dX8_placeOf_1 fl_X8_28 sh_221 rfl ?_
  refine g_iload_n (pc := 4) dX8_placeOf_4 rfl rfl ?_
  obtain ⟨v1, ev1, hf⟩ := job hf
  refine g_iald (pc := 5) dX8_placeOf_5 sh_228 ev1 ?_
  refine g_istore_n (pc := 6) (lv' := [some (.ref 221), some (.int x1), some (.int v1), none]) dX8_placeOf_6 rfl (by decide) rfl ?_
  refine g_iconst (pc := 7) 0 dX8_placeOf_7 rfl ?_
  refine g_istore_n (pc := 8) (lv' := [some (.ref 221), some (.int x1), some (.int v1), some (.int 0)]) dX8_placeOf_8 rfl (by decide) rfl ?_
  obtain ⟨t9, y3, hy2⟩ := job hf
  have K4 : jGG μ_X8_placeOf 1 30 [none, none, none, some (.int t9)] [] M (fun M' r' => M' = M ∧ r' = some (.int r)) := by
    replace hf := hy2
    refine g_iload_n (pc := 30) dX8_placeOf_30 rfl rfl ?_
    obtain rfl := Option.some.inj hf
    exact g_iret (pc := 31) dX8_placeOf_31 rfl ⟨rfl, rfl⟩
  refine g_weak (lv' := [some (.ref 221), some (.int x1), some (.int v1), some (.int 0)]) ⟨rfl, ⟨rfl, ⟨rfl, ⟨rfl, trivial⟩⟩⟩⟩ ?_
  refine jLp_ind (P := fun (z8 : Int32) => jGG μ_X8_placeOf 1 9 [some (.ref 221), some (.int x1), some (.int v1), some (.int z8)] [] M (fun M' r' => M' = M ∧ r' = some (.int r))) ?_ N _ y3
  rintro z8 x_7 hf ih6 hx5
  show jGG μ_X8_placeOf 1 9 [some (.ref 221), some (.int x1), some (.int v1), some (.int z8)] [] M (fun M' r' => M' = M ∧ r' = some (.int r))
  refine g_aload_n (pc := 9) dX8_placeOf_9 rfl rfl ?_
  refine g_getR (pc := 10) dX8_placeOf_10 fl_X8_37 sh_221 rfl ?_
  refine g_bipush (pc := 13) 32 dX8_placeOf_13 rfl ?_
  refine g_iload_n (pc := 15) dX8_placeOf_15 rfl rfl ?_
  refine g_imul (pc := 16) dX8_placeOf_16 ?_
  refine g_iload_n (pc := 17) dX8_placeOf_17 rfl rfl ?_
  refine g_iadd (pc := 18) dX8_placeOf_18 ?_
  obtain ⟨v10, ev10, hf⟩ := job hf
  refine g_iald (pc := 19) dX8_placeOf_19 sh_231 ev10 ?_
  refine g_iload_n (pc := 20) dX8_placeOf_20 rfl rfl ?_
  refine g_icmp_eq (pc := 21) 30 dX8_placeOf_21 rfl (fun hc11 => ?_) (fun hc11 => ?_)
  · replace hf := jifp hc11 hf
    have hf := hx5 _ (Option.some.inj hf).symm
    obtain rfl := hf
    exact g_weakK K4 ⟨rfl, trivial⟩
  · replace hf := jifn hc11 hf
    refine g_iinc (pc := 24) (lv' := [some (.ref 221), some (.int x1), some (.int v1), some (.int (z8 + 1))]) (z8 + 1) dX8_placeOf_24 rfl rfl (by decide) rfl ?_
    refine g_goto (pc := 27) 9 dX8_placeOf_27 rfl ?_
    have hih : jGG μ_X8_placeOf 1 9 [some (.ref 221), some (.int x1), some (.int v1), some (.int (z8 + 1))] [] M (fun M' r' => M' = M ∧ r' = some (.int r)) := ih6 (z8 + 1) (Option.some.inj hf).symm
    exact g_weakK hih ⟨rfl, ⟨rfl, ⟨rfl, ⟨rfl, trivial⟩⟩⟩⟩
def f_X8_told (N : Nat) (M : JMem) (x1 : Int32) (x2 : Int32) : Option (Int32) := (f_X8_isStep M x1).bind fun v1 => (if v1 = 0 then some (-100001) else (if x2 = 0 then (jrd M 227 32 x1).bind fun v2 => some v2 else (if x2 = 1 then (jrd M 228 32 x1).bind fun v3 => some v3 else (if x2 = 2 then (jrd M 229 32 x1).bind fun v4 => some v4 else (if x2 = 3 then (jrd M 230 32 x1).bind fun v5 => some v5 else (if x2 = 4 then (f_X8_placeOf N M x1).bind fun v6 => some v6 else some (-100002)))))))
set_option maxHeartbeats 4000000 in
theorem c_X8_told {N : Nat} {M : JMem} {x1 : Int32} {x2 : Int32} {r : Int32} (hf : f_X8_told N M x1 x2 = some r) : jCo yX8_told μ_X8_told 3 M [.ref 221, .int x1, .int x2] M (some (.int r)) := by
  refine jCt_of (by decide +kernel) rfl (by simp [Value.category]) (Nat.le_of_ble_eq_true rfl) ?_
  unfold f_X8_told at hf
  show jGG μ_X8_told 3 0 [some (.ref 221), some (.int x1), some (.int x2)] [] M (fun M' r' => M' = M ∧ r' = some (.int r))
  refine g_aload_n (pc := 0) dX8_told_0 rfl rfl ?_
  refine g_iload_n (pc := 1) dX8_told_1 rfl rfl ?_
  obtain ⟨v1, ev1, hf⟩ := job hf
  refine g_callV (pc := 2) [.int x1] [] dX8_told_2 ml_X8_153 ck_X8_isStep cv_X8_isStep sh_221 rfl (by decide) (Nat.le_of_ble_eq_true rfl) (c_X8_isStep ev1) ?_
  show jGG μ_X8_told 3 5 [some (.ref 221), some (.int x1), some (.int x2)] [.int v1] M (fun M' r' => M' = M ∧ r' = some (.int r))
  refine g_if_ne (pc := 5) 11 dX8_told_5 rfl (fun hc12 => ?_) (fun hc12 => ?_)
  · replace hf := jifn hc12 hf
    refine g_iload_n (pc := 11) dX8_told_11 rfl rfl ?_
    by_cases hc7 : x2 = 0
    · replace hf := jifp hc7 hf
      refine g_tswEq (pc := 12) 0 48 dX8_told_12 hc7 (by decide) (by decide) rfl rfl ?_
      refine g_aload_n (pc := 48) dX8_told_48 rfl rfl ?_
      refine g_getR (pc := 49) dX8_told_49 fl_X8_25 sh_221 rfl ?_
      refine g_iload_n (pc := 52) dX8_told_52 rfl rfl ?_
      obtain ⟨v2, ev2, hf⟩ := job hf
      refine g_iald (pc := 53) dX8_told_53 sh_227 ev2 ?_
      obtain rfl := Option.some.inj hf
      exact g_iret (pc := 54) dX8_told_54 rfl ⟨rfl, rfl⟩
    · replace hf := jifn hc7 hf
      by_cases hc8 : x2 = 1
      · replace hf := jifp hc8 hf
        refine g_tswEq (pc := 12) 1 55 dX8_told_12 hc8 (by decide) (by decide) rfl rfl ?_
        refine g_aload_n (pc := 55) dX8_told_55 rfl rfl ?_
        refine g_getR (pc := 56) dX8_told_56 fl_X8_28 sh_221 rfl ?_
        refine g_iload_n (pc := 59) dX8_told_59 rfl rfl ?_
        obtain ⟨v3, ev3, hf⟩ := job hf
        refine g_iald (pc := 60) dX8_told_60 sh_228 ev3 ?_
        obtain rfl := Option.some.inj hf
        exact g_iret (pc := 61) dX8_told_61 rfl ⟨rfl, rfl⟩
      · replace hf := jifn hc8 hf
        by_cases hc9 : x2 = 2
        · replace hf := jifp hc9 hf
          refine g_tswEq (pc := 12) 2 62 dX8_told_12 hc9 (by decide) (by decide) rfl rfl ?_
          refine g_aload_n (pc := 62) dX8_told_62 rfl rfl ?_
          refine g_getR (pc := 63) dX8_told_63 fl_X8_31 sh_221 rfl ?_
          refine g_iload_n (pc := 66) dX8_told_66 rfl rfl ?_
          obtain ⟨v4, ev4, hf⟩ := job hf
          refine g_iald (pc := 67) dX8_told_67 sh_229 ev4 ?_
          obtain rfl := Option.some.inj hf
          exact g_iret (pc := 68) dX8_told_68 rfl ⟨rfl, rfl⟩
        · replace hf := jifn hc9 hf
          by_cases hc10 : x2 = 3
          · replace hf := jifp hc10 hf
            refine g_tswEq (pc := 12) 3 69 dX8_told_12 hc10 (by decide) (by decide) rfl rfl ?_
            refine g_aload_n (pc := 69) dX8_told_69 rfl rfl ?_
            refine g_getR (pc := 70) dX8_told_70 fl_X8_34 sh_221 rfl ?_
            refine g_iload_n (pc := 73) dX8_told_73 rfl rfl ?_
            obtain ⟨v5, ev5, hf⟩ := job hf
            refine g_iald (pc := 74) dX8_told_74 sh_230 ev5 ?_
            obtain rfl := Option.some.inj hf
            exact g_iret (pc := 75) dX8_told_75 rfl ⟨rfl, rfl⟩
          · replace hf := jifn hc10 hf
            by_cases hc11 : x2 = 4
            · replace hf := jifp hc11 hf
              refine g_tswEq (pc := 12) 4 76 dX8_told_12 hc11 (by decide) (by decide) rfl rfl ?_
              refine g_aload_n (pc := 76) dX8_told_76 rfl rfl ?_
              refine g_iload_n (pc := 77) dX8_told_77 rfl rfl ?_
              obtain ⟨v6, ev6, hf⟩ := job hf
              refine g_callV (pc := 78) [.int x1] [] dX8_told_78 ml_X8_157 ck_X8_placeOf cv_X8_placeOf sh_221 rfl (by decide) (Nat.le_of_ble_eq_true rfl) (c_X8_placeOf ev6) ?_
              show jGG μ_X8_told 3 81 [some (.ref 221), some (.int x1), some (.int x2)] [.int v6] M (fun M' r' => M' = M ∧ r' = some (.int r))
              obtain rfl := Option.some.inj hf
              exact g_iret (pc := 81) dX8_told_81 rfl ⟨rfl, rfl⟩
            · replace hf := jifn hc11 hf
              refine g_tswOut (pc := 12) 82 dX8_told_12 (jsw5 hc7 hc8 hc9 hc10 hc11) rfl ?_
              refine g_ldc (pc := 82) (-100002) dX8_told_82 lc_X8_132 ?_
              obtain rfl := Option.some.inj hf
              exact g_iret (pc := 84) dX8_told_84 rfl ⟨rfl, rfl⟩
  · replace hf := jifp hc12 hf
    refine g_ldc (pc := 8) (-100001) dX8_told_8 lc_X8_146 ?_
    obtain rfl := Option.some.inj hf
    exact g_iret (pc := 10) dX8_told_10 rfl ⟨rfl, rfl⟩
def f_X8_isSimple (N : Nat) (M : JMem) : Option (Int32) := ((jLp (σ := Int32 × Int32) (ρ := Int32) N (fun ((z7, z8) : Int32 × Int32) => (if (M 221 11) ≤ z8 then some (Sum.inr z7) else (((jcase (α := Int32) (β := Unit) (if z7 = 0 then some (Sum.inr ()) else (jrd M 228 32 z8).bind fun v20 => (jrd M 222 8 v20).bind fun v21 => (if 1 < v21 then some (Sum.inr ()) else some (Sum.inl (1)))) fun _ => some (0)) : Option (Int32)).bind fun u24 => some (Sum.inl (u24, z8 + 1))))) (1, 0)).bind fun t9 => (if jb01 t9 = true then some () else none).bind fun _ => some t9)
set_option maxHeartbeats 4000000 in
theorem c_X8_isSimple {N : Nat} {M : JMem} {r : Int32} (hf : f_X8_isSimple N M = some r) : jCo yX8_isSimple μ_X8_isSimple 1 M [.ref 221] M (some (.int r)) := by
  refine jCt_of (by decide +kernel) rfl (by simp [Value.category]) (Nat.le_of_ble_eq_true rfl) ?_
  unfold f_X8_isSimple at hf
  show jGG μ_X8_isSimple 1 0 [some (.ref 221), none, none] [] M (fun M' r' => M' = M ∧ r' = some (.int r))
  refine g_iconst (pc := 0) 1 dX8_isSimple_0 rfl ?_
  refine g_istore_n (pc := 1) (lv' := [some (.ref 221), some (.int 1), none]) dX8_isSimple_1 rfl (by decide) rfl ?_
  refine g_iconst (pc := 2) 0 dX8_isSimple_2 rfl ?_
  refine g_istore_n (pc := 3) (lv' := [some (.ref 221), some (.int 1), some (.int 0)]) dX8_isSimple_3 rfl (by decide) rfl ?_
  obtain ⟨t9, y2, hy1⟩ := job hf
  have K3 : jGG μ_X8_isSimple 1 43 [none, some (.int t9), none] [] M (fun M' r' => M' = M ∧ r' = some (.int r)) := by
    replace hf := hy1
    refine g_iload_n (pc := 43) dX8_isSimple_43 rfl rfl ?_
    obtain ⟨_, ehb26, hf⟩ := job hf
    have hb26 := jb01_of (jgd ehb26)
    obtain rfl := Option.some.inj hf
    exact g_zret (pc := 44) dX8_isSimple_44 rfl hb26 ⟨rfl, rfl⟩
  refine g_weak (lv' := [some (.ref 221), some (.int 1), some (.int 0)]) ⟨rfl, ⟨rfl, ⟨rfl, trivial⟩⟩⟩ ?_
  refine jLp_ind (P := fun ((z7, z8) : Int32 × Int32) => jGG μ_X8_isSimple 1 4 [some (.ref 221), some (.int z7), some (.int z8)] [] M (fun M' r' => M' = M ∧ r' = some (.int r))) ?_ N _ y2
  rintro ⟨z7, z8⟩ x_6 hf ih5 hx4
  show jGG μ_X8_isSimple 1 4 [some (.ref 221), some (.int z7), some (.int z8)] [] M (fun M' r' => M' = M ∧ r' = some (.int r))
  refine g_iload_n (pc := 4) dX8_isSimple_4 rfl rfl ?_
  refine g_aload_n (pc := 5) dX8_isSimple_5 rfl rfl ?_
  refine g_getI (pc := 6) dX8_isSimple_6 fl_X8_143 sh_221 rfl ?_
  refine g_icmp_ge (pc := 9) 43 dX8_isSimple_9 rfl (fun hc25 => ?_) (fun hc25 => ?_)
  · replace hf := jifp hc25 hf
    have hf := hx4 _ (Option.some.inj hf).symm
    obtain rfl := hf
    exact g_weakK K3 ⟨rfl, trivial⟩
  · replace hf := jifn hc25 hf
    refine g_iload_n (pc := 12) dX8_isSimple_12 rfl rfl ?_
    obtain ⟨u24, hf, hy11⟩ := job hf
    have K13 : (hbu24 : u24 = 0 ∨ u24 = 1) → jGG μ_X8_isSimple 1 36 [some (.ref 221), none, some (.int z8)] [.int u24] M (fun M' r' => M' = M ∧ r' = some (.int r)) := by
      intro hbu24
      replace hf := hy11
      refine g_istore_n (pc := 36) (lv' := [some (.ref 221), some (.int u24), some (.int z8)]) dX8_isSimple_36 rfl (by decide) rfl ?_
      refine g_iinc (pc := 37) (lv' := [some (.ref 221), some (.int u24), some (.int (z8 + 1))]) (z8 + 1) dX8_isSimple_37 rfl rfl (by decide) rfl ?_
      refine g_goto (pc := 40) 4 dX8_isSimple_40 rfl ?_
      have hih : jGG μ_X8_isSimple 1 4 [some (.ref 221), some (.int u24), some (.int (z8 + 1))] [] M (fun M' r' => M' = M ∧ r' = some (.int r)) := ih5 (u24, z8 + 1) (Option.some.inj hf).symm
      exact g_weakK hih ⟨rfl, ⟨rfl, ⟨rfl, trivial⟩⟩⟩
    obtain ⟨y17, hf, hy16⟩ := jcb hf
    have K18 : y17 = Sum.inr () → jGG μ_X8_isSimple 1 35 [some (.ref 221), none, some (.int z8)] [] M (fun M' r' => M' = M ∧ r' = some (.int r)) := by
      intro hyy
      subst hyy
      replace hf := hy16
      refine g_iconst (pc := 35) 0 dX8_isSimple_35 rfl ?_
      obtain rfl := Option.some.inj hf
      exact g_weakK (K13 (Or.inl rfl)) ⟨rfl, ⟨rfl, trivial⟩⟩
    refine g_if_eq (pc := 13) 35 dX8_isSimple_13 rfl (fun hc23 => ?_) (fun hc23 => ?_)
    · replace hf := jifp hc23 hf
      exact g_weakK (K18 (Option.some.inj hf).symm) ⟨rfl, ⟨rfl, trivial⟩⟩
    · replace hf := jifn hc23 hf
      refine g_aload_n (pc := 16) dX8_isSimple_16 rfl rfl ?_
      refine g_getR (pc := 17) dX8_isSimple_17 fl_X8_7 sh_221 rfl ?_
      refine g_aload_n (pc := 20) dX8_isSimple_20 rfl rfl ?_
      refine g_getR (pc := 21) dX8_isSimple_21 fl_X8_28 sh_221 rfl ?_
      refine g_iload_n (pc := 24) dX8_isSimple_24 rfl rfl ?_
      obtain ⟨v20, ev20, hf⟩ := job hf
      refine g_iald (pc := 25) dX8_isSimple_25 sh_228 ev20 ?_
      obtain ⟨v21, ev21, hf⟩ := job hf
      refine g_iald (pc := 26) dX8_isSimple_26 sh_222 ev21 ?_
      refine g_iconst (pc := 27) 1 dX8_isSimple_27 rfl ?_
      refine g_icmp_gt (pc := 28) 35 dX8_isSimple_28 rfl (fun hc22 => ?_) (fun hc22 => ?_)
      · replace hf := jifp hc22 hf
        exact g_weakK (K18 (Option.some.inj hf).symm) ⟨rfl, ⟨rfl, trivial⟩⟩
      · replace hf := jifn hc22 hf
        refine g_iconst (pc := 31) 1 dX8_isSimple_31 rfl ?_
        refine g_goto (pc := 32) 36 dX8_isSimple_32 rfl ?_
        obtain rfl := Option.some.inj hf
        replace hf := hy16
        obtain rfl := Option.some.inj hf
        exact g_weakK (K13 (Or.inr rfl)) ⟨rfl, ⟨rfl, trivial⟩⟩
def f_X8_sumOfSpans (N : Nat) (M : JMem) : Option (Int32) := ((jLp (σ := Int32 × Int32) (ρ := Int32) N (fun ((z7, z8) : Int32 × Int32) => (if (M 221 11) ≤ z8 then some (Sum.inr z7) else (jrd M 229 32 z8).bind fun v10 => some (Sum.inl (z7 + v10, z8 + 1)))) (0, 0)).bind fun t9 => some t9)
set_option maxHeartbeats 4000000 in
theorem c_X8_sumOfSpans {N : Nat} {M : JMem} {r : Int32} (hf : f_X8_sumOfSpans N M = some r) : jCo yX8_sumOfSpans μ_X8_sumOfSpans 1 M [.ref 221] M (some (.int r)) := by
  refine jCt_of (by decide +kernel) rfl (by simp [Value.category]) (Nat.le_of_ble_eq_true rfl) ?_
  unfold f_X8_sumOfSpans at hf
  show jGG μ_X8_sumOfSpans 1 0 [some (.ref 221), none, none] [] M (fun M' r' => M' = M ∧ r' = some (.int r))
  refine g_iconst (pc := 0) 0 dX8_sumOfSpans_0 rfl ?_
  refine g_istore_n (pc := 1) (lv' := [some (.ref 221), some (.int 0), none]) dX8_sumOfSpans_1 rfl (by decide) rfl ?_
  refine g_iconst (pc := 2) 0 dX8_sumOfSpans_2 rfl ?_
  refine g_istore_n (pc := 3) (lv' := [some (.ref 221), some (.int 0), some (.int 0)]) dX8_sumOfSpans_3 rfl (by decide) rfl ?_
  obtain ⟨t9, y2, hy1⟩ := job hf
  have K3 : jGG μ_X8_sumOfSpans 1 27 [none, some (.int t9), none] [] M (fun M' r' => M' = M ∧ r' = some (.int r)) := by
    replace hf := hy1
    refine g_iload_n (pc := 27) dX8_sumOfSpans_27 rfl rfl ?_
    obtain rfl := Option.some.inj hf
    exact g_iret (pc := 28) dX8_sumOfSpans_28 rfl ⟨rfl, rfl⟩
  refine g_weak (lv' := [some (.ref 221), some (.int 0), some (.int 0)]) ⟨rfl, ⟨rfl, ⟨rfl, trivial⟩⟩⟩ ?_
  refine jLp_ind (P := fun ((z7, z8) : Int32 × Int32) => jGG μ_X8_sumOfSpans 1 4 [some (.ref 221), some (.int z7), some (.int z8)] [] M (fun M' r' => M' = M ∧ r' = some (.int r))) ?_ N _ y2
  rintro ⟨z7, z8⟩ x_6 hf ih5 hx4
  show jGG μ_X8_sumOfSpans 1 4 [some (.ref 221), some (.int z7), some (.int z8)] [] M (fun M' r' => M' = M ∧ r' = some (.int r))
  refine g_iload_n (pc := 4) dX8_sumOfSpans_4 rfl rfl ?_
  refine g_aload_n (pc := 5) dX8_sumOfSpans_5 rfl rfl ?_
  refine g_getI (pc := 6) dX8_sumOfSpans_6 fl_X8_143 sh_221 rfl ?_
  refine g_icmp_ge (pc := 9) 27 dX8_sumOfSpans_9 rfl (fun hc11 => ?_) (fun hc11 => ?_)
  · replace hf := jifp hc11 hf
    have hf := hx4 _ (Option.some.inj hf).symm
    obtain rfl := hf
    exact g_weakK K3 ⟨rfl, trivial⟩
  · replace hf := jifn hc11 hf
    refine g_iload_n (pc := 12) dX8_sumOfSpans_12 rfl rfl ?_
    refine g_aload_n (pc := 13) dX8_sumOfSpans_13 rfl rfl ?_
    refine g_getR (pc := 14) dX8_sumOfSpans_14 fl_X8_31 sh_221 rfl ?_
    refine g_iload_n (pc := 17) dX8_sumOfSpans_17 rfl rfl ?_
    obtain ⟨v10, ev10, hf⟩ := job hf
    refine g_iald (pc := 18) dX8_sumOfSpans_18 sh_229 ev10 ?_
    refine g_iadd (pc := 19) dX8_sumOfSpans_19 ?_
    refine g_istore_n (pc := 20) (lv' := [some (.ref 221), some (.int (z7 + v10)), some (.int z8)]) dX8_sumOfSpans_20 rfl (by decide) rfl ?_
    refine g_iinc (pc := 21) (lv' := [some (.ref 221), some (.int (z7 + v10)), some (.int (z8 + 1))]) (z8 + 1) dX8_sumOfSpans_21 rfl rfl (by decide) rfl ?_
    refine g_goto (pc := 24) 4 dX8_sumOfSpans_24 rfl ?_
    have hih : jGG μ_X8_sumOfSpans 1 4 [some (.ref 221), some (.int (z7 + v10)), some (.int (z8 + 1))] [] M (fun M' r' => M' = M ∧ r' = some (.int r)) := ih5 (z7 + v10, z8 + 1) (Option.some.inj hf).symm
    exact g_weakK hih ⟨rfl, ⟨rfl, ⟨rfl, trivial⟩⟩⟩
def f_X8_count (N : Nat) (M : JMem) (x1 : Int32) : Option (Int32) := (if x1 = 0 then some (M 221 2) else (if x1 = 1 then some (M 221 6) else (if x1 = 2 then some (M 221 11) else (if x1 = 3 then (f_X8_isSimple N M).bind fun v3 => (if v3 = 0 then some 0 else some 1) else (if x1 = 4 then (f_X8_sumOfSpans N M).bind fun v1 => some v1 else some (-100002))))))
set_option maxHeartbeats 4000000 in
theorem c_X8_count {N : Nat} {M : JMem} {x1 : Int32} {r : Int32} (hf : f_X8_count N M x1 = some r) : jCo yX8_count μ_X8_count 2 M [.ref 221, .int x1] M (some (.int r)) := by
  refine jCt_of (by decide +kernel) rfl (by simp [Value.category]) (Nat.le_of_ble_eq_true rfl) ?_
  unfold f_X8_count at hf
  show jGG μ_X8_count 2 0 [some (.ref 221), some (.int x1)] [] M (fun M' r' => M' = M ∧ r' = some (.int r))
  refine g_iload_n (pc := 0) dX8_count_0 rfl rfl ?_
  refine g_if_ne (pc := 1) 11 dX8_count_1 rfl (fun hc8 => ?_) (fun hc8 => ?_)
  · replace hf := jifn hc8 hf
    refine g_iload_n (pc := 11) dX8_count_11 rfl rfl ?_
    refine g_iconst (pc := 12) 1 dX8_count_12 rfl ?_
    refine g_icmp_ne (pc := 13) 23 dX8_count_13 rfl (fun hc7 => ?_) (fun hc7 => ?_)
    · replace hf := jifn hc7 hf
      refine g_iload_n (pc := 23) dX8_count_23 rfl rfl ?_
      refine g_iconst (pc := 24) 2 dX8_count_24 rfl ?_
      refine g_icmp_ne (pc := 25) 35 dX8_count_25 rfl (fun hc6 => ?_) (fun hc6 => ?_)
      · replace hf := jifn hc6 hf
        refine g_iload_n (pc := 35) dX8_count_35 rfl rfl ?_
        refine g_iconst (pc := 36) 3 dX8_count_36 rfl ?_
        refine g_icmp_ne (pc := 37) 55 dX8_count_37 rfl (fun hc5 => ?_) (fun hc5 => ?_)
        · replace hf := jifn hc5 hf
          refine g_iload_n (pc := 55) dX8_count_55 rfl rfl ?_
          refine g_iconst (pc := 56) 4 dX8_count_56 rfl ?_
          refine g_icmp_ne (pc := 57) 67 dX8_count_57 rfl (fun hc2 => ?_) (fun hc2 => ?_)
          · replace hf := jifn hc2 hf
            refine g_ldc (pc := 67) (-100002) dX8_count_67 lc_X8_132 ?_
            obtain rfl := Option.some.inj hf
            exact g_iret (pc := 69) dX8_count_69 rfl ⟨rfl, rfl⟩
          · replace hf := jifp hc2 hf
            refine g_aload_n (pc := 60) dX8_count_60 rfl rfl ?_
            obtain ⟨v1, ev1, hf⟩ := job hf
            refine g_callV (pc := 61) [] [] dX8_count_61 ml_X8_165 ck_X8_sumOfSpans cv_X8_sumOfSpans sh_221 rfl (by decide) (Nat.le_of_ble_eq_true rfl) (c_X8_sumOfSpans ev1) ?_
            show jGG μ_X8_count 2 64 [some (.ref 221), some (.int x1)] [.int v1] M (fun M' r' => M' = M ∧ r' = some (.int r))
            refine g_goto (pc := 64) 69 dX8_count_64 rfl ?_
            obtain rfl := Option.some.inj hf
            exact g_iret (pc := 69) dX8_count_69 rfl ⟨rfl, rfl⟩
        · replace hf := jifp hc5 hf
          refine g_aload_n (pc := 40) dX8_count_40 rfl rfl ?_
          obtain ⟨v3, ev3, hf⟩ := job hf
          refine g_callV (pc := 41) [] [] dX8_count_41 ml_X8_161 ck_X8_isSimple cv_X8_isSimple sh_221 rfl (by decide) (Nat.le_of_ble_eq_true rfl) (c_X8_isSimple ev3) ?_
          show jGG μ_X8_count 2 44 [some (.ref 221), some (.int x1)] [.int v3] M (fun M' r' => M' = M ∧ r' = some (.int r))
          refine g_if_eq (pc := 44) 51 dX8_count_44 rfl (fun hc4 => ?_) (fun hc4 => ?_)
          · replace hf := jifp hc4 hf
            refine g_iconst (pc := 51) 0 dX8_count_51 rfl ?_
            refine g_goto (pc := 52) 69 dX8_count_52 rfl ?_
            obtain rfl := Option.some.inj hf
            exact g_iret (pc := 69) dX8_count_69 rfl ⟨rfl, rfl⟩
          · replace hf := jifn hc4 hf
            refine g_iconst (pc := 47) 1 dX8_count_47 rfl ?_
            refine g_goto (pc := 48) 69 dX8_count_48 rfl ?_
            obtain rfl := Option.some.inj hf
            exact g_iret (pc := 69) dX8_count_69 rfl ⟨rfl, rfl⟩
      · replace hf := jifp hc6 hf
        refine g_aload_n (pc := 28) dX8_count_28 rfl rfl ?_
        refine g_getI (pc := 29) dX8_count_29 fl_X8_143 sh_221 rfl ?_
        refine g_goto (pc := 32) 69 dX8_count_32 rfl ?_
        obtain rfl := Option.some.inj hf
        exact g_iret (pc := 69) dX8_count_69 rfl ⟨rfl, rfl⟩
    · replace hf := jifp hc7 hf
      refine g_aload_n (pc := 16) dX8_count_16 rfl rfl ?_
      refine g_getI (pc := 17) dX8_count_17 fl_X8_140 sh_221 rfl ?_
      refine g_goto (pc := 20) 69 dX8_count_20 rfl ?_
      obtain rfl := Option.some.inj hf
      exact g_iret (pc := 69) dX8_count_69 rfl ⟨rfl, rfl⟩
  · replace hf := jifp hc8 hf
    refine g_aload_n (pc := 4) dX8_count_4 rfl rfl ?_
    refine g_getI (pc := 5) dX8_count_5 fl_X8_133 sh_221 rfl ?_
    refine g_goto (pc := 8) 69 dX8_count_8 rfl ?_
    obtain rfl := Option.some.inj hf
    exact g_iret (pc := 69) dX8_count_69 rfl ⟨rfl, rfl⟩
def f_X8_isSheet (M : JMem) (x0 : Int32) : Option (Int32) := some (jin3 x0.toInt64 0 5)
set_option maxHeartbeats 4000000 in
theorem c_X8_isSheet {M : JMem} {x0 : Int32} {r : Int32} (hf : f_X8_isSheet M x0 = some r) : jCo yX8_isSheet μ_X8_isSheet 2 M [.int x0] M (some (.int r)) := by
  refine jCt_of (by decide +kernel) rfl (by simp [Value.category]) (Nat.le_of_ble_eq_true rfl) ?_
  unfold f_X8_isSheet at hf
  show jGG μ_X8_isSheet 2 0 [some (.int x0)] [] M (fun M' r' => M' = M ∧ r' = some (.int r))
  refine g_iload_n (pc := 0) dX8_isSheet_0 rfl rfl ?_
  refine g_i2l (pc := 1) dX8_isSheet_1 ?_
  refine g_lconst (pc := 2) 0 dX8_isSheet_2 rfl ?_
  refine g_ldc2 (pc := 3) 5 dX8_isSheet_3 lcl_X8_169 ?_
  refine g_callS (pc := 6) [.long x0.toInt64, .long 0, .long 5] [] dX8_isSheet_6 ml_X8_124 ck_X8_in cs_X8_in rfl (by decide) (Nat.le_of_ble_eq_true rfl) c_in ?_
  show jGG μ_X8_isSheet 2 9 [some (.int x0)] [.int (jin3 x0.toInt64 0 5)] M (fun M' r' => M' = M ∧ r' = some (.int r))
  obtain rfl := Option.some.inj hf
  exact g_zret (pc := 9) dX8_isSheet_9 rfl (jin3_b _ _ _) ⟨rfl, rfl⟩
def f_X8_sheet (N : Nat) (M : JMem) (x1 : Int32) (x2 : Int32) (x3 : Int32) : Option (JMem × Int32) := (f_X8_isSheet M x1).bind fun v1 => (if v1 = 0 then some (M, (-100001)) else (if (jin3 x2.toInt64 0 2) = 0 then some (M, (-100002)) else (if x3 ≤ 40 then (((if 0 ≤ x3 then some (0) else some (4)) : Option (Int32)).bind fun u8 => (some (jup M 221 14 u8)).bind fun M9 => (if (M9 221 14) ≤ 0 then (jwr M9 234 6 x1 x2).bind fun M10 => (jwr M10 233 6 x1 x3).bind fun M11 => ((jLp (σ := Int32 × JMem) (ρ := JMem) N (fun ((z18, M19) : Int32 × JMem) => (if x3 ≤ z18 then some (Sum.inr M19) else (jwr M19 235 240 ((40 * x1) + z18) 0).bind fun M21 => some (Sum.inl (z18 + 1, M21)))) (0, M11)).bind fun t20 => some (t20, x3)) else some (M9, 0))) else some (M, (-100002)))))
set_option maxHeartbeats 4000000 in
theorem c_X8_sheet {N : Nat} {M : JMem} {x1 : Int32} {x2 : Int32} {x3 : Int32} {Mz : JMem} {r : Int32} (hf : f_X8_sheet N M x1 x2 x3 = some (Mz, r)) : jCo yX8_sheet μ_X8_sheet 3 M [.ref 221, .int x1, .int x2, .int x3] Mz (some (.int r)) := by
  refine jCt_of (by decide +kernel) rfl (by simp [Value.category]) (Nat.le_of_ble_eq_true rfl) ?_
  unfold f_X8_sheet at hf
  show jGG μ_X8_sheet 3 0 [some (.ref 221), some (.int x1), some (.int x2), some (.int x3), none] [] M (fun M' r' => M' = Mz ∧ r' = some (.int r))
  refine g_iload_n (pc := 0) dX8_sheet_0 rfl rfl ?_
  obtain ⟨v1, ev1, hf⟩ := job hf
  refine g_callS (pc := 1) [.int x1] [] dX8_sheet_1 ml_X8_171 ck_X8_isSheet cs_X8_isSheet rfl (by decide) (Nat.le_of_ble_eq_true rfl) (c_X8_isSheet ev1) ?_
  show jGG μ_X8_sheet 3 4 [some (.ref 221), some (.int x1), some (.int x2), some (.int x3), none] [.int v1] M (fun M' r' => M' = Mz ∧ r' = some (.int r))
  refine g_if_ne (pc := 4) 10 dX8_sheet_4 rfl (fun hc26 => ?_) (fun hc26 => ?_)
  · replace hf := jifn hc26 hf
    refine g_iload_n (pc := 10) dX8_sheet_10 rfl rfl ?_
    refine g_i2l (pc := 11) dX8_sheet_11 ?_
    refine g_lconst (pc := 12) 0 dX8_sheet_12 rfl ?_
    refine g_ldc2 (pc := 13) 2 dX8_sheet_13 lcl_X8_174 ?_
    refine g_callS (pc := 16) [.long x2.toInt64, .long 0, .long 2] [] dX8_sheet_16 ml_X8_124 ck_X8_in cs_X8_in rfl (by decide) (Nat.le_of_ble_eq_true rfl) c_in ?_
    show jGG μ_X8_sheet 3 19 [some (.ref 221), some (.int x1), some (.int x2), some (.int x3), none] [.int (jin3 x2.toInt64 0 2)] M (fun M' r' => M' = Mz ∧ r' = some (.int r))
    refine g_if_eq (pc := 19) 28 dX8_sheet_19 rfl (fun hc25 => ?_) (fun hc25 => ?_)
    · replace hf := jifp hc25 hf
      refine g_ldc (pc := 28) (-100002) dX8_sheet_28 lc_X8_132 ?_
      obtain ⟨rfl, rfl⟩ := Prod.mk.inj (Option.some.inj hf)
      exact g_iret (pc := 30) dX8_sheet_30 rfl ⟨rfl, rfl⟩
    · replace hf := jifn hc25 hf
      refine g_iload_n (pc := 22) dX8_sheet_22 rfl rfl ?_
      refine g_bipush (pc := 23) 40 dX8_sheet_23 rfl ?_
      refine g_icmp_le (pc := 25) 31 dX8_sheet_25 rfl (fun hc24 => ?_) (fun hc24 => ?_)
      · replace hf := jifp hc24 hf
        refine g_aload_n (pc := 31) dX8_sheet_31 rfl rfl ?_
        refine g_iload_n (pc := 32) dX8_sheet_32 rfl rfl ?_
        obtain ⟨u8, hf, hy3⟩ := job hf
        have K5 : jGG μ_X8_sheet 3 41 [some (.ref 221), some (.int x1), some (.int x2), some (.int x3), none] [.int u8, .ref 221] M (fun M' r' => M' = Mz ∧ r' = some (.int r)) := by
          replace hf := hy3
          refine g_putI (pc := 41) dX8_sheet_41 fp_X8_176 sh_221 rfl ?_
          obtain ⟨M9, eM9, hf⟩ := job hf
          rw [Option.some.inj eM9]
          refine g_aload_n (pc := 44) dX8_sheet_44 rfl rfl ?_
          refine g_getI (pc := 45) dX8_sheet_45 fl_X8_176 sh_221 rfl ?_
          refine g_if_le (pc := 48) 53 dX8_sheet_48 rfl (fun hc23 => ?_) (fun hc23 => ?_)
          · replace hf := jifp hc23 hf
            refine g_aload_n (pc := 53) dX8_sheet_53 rfl rfl ?_
            refine g_getR (pc := 54) dX8_sheet_54 fl_X8_46 sh_221 rfl ?_
            refine g_iload_n (pc := 57) dX8_sheet_57 rfl rfl ?_
            refine g_iload_n (pc := 58) dX8_sheet_58 rfl rfl ?_
            obtain ⟨M10, eM10, hf⟩ := job hf
            refine g_iast (pc := 59) dX8_sheet_59 sh_234 eM10 ?_
            refine g_aload_n (pc := 60) dX8_sheet_60 rfl rfl ?_
            refine g_getR (pc := 61) dX8_sheet_61 fl_X8_43 sh_221 rfl ?_
            refine g_iload_n (pc := 64) dX8_sheet_64 rfl rfl ?_
            refine g_iload_n (pc := 65) dX8_sheet_65 rfl rfl ?_
            obtain ⟨M11, eM11, hf⟩ := job hf
            refine g_iast (pc := 66) dX8_sheet_66 sh_233 eM11 ?_
            refine g_iconst (pc := 67) 0 dX8_sheet_67 rfl ?_
            refine g_istore (pc := 68) (lv' := [some (.ref 221), some (.int x1), some (.int x2), some (.int x3), some (.int 0)]) dX8_sheet_68 (by decide) rfl ?_
            obtain ⟨t20, y13, hy12⟩ := job hf
            have K14 : jGG μ_X8_sheet 3 95 [none, none, none, some (.int x3), none] [] t20 (fun M' r' => M' = Mz ∧ r' = some (.int r)) := by
              replace hf := hy12
              refine g_iload_n (pc := 95) dX8_sheet_95 rfl rfl ?_
              obtain ⟨rfl, rfl⟩ := Prod.mk.inj (Option.some.inj hf)
              exact g_iret (pc := 96) dX8_sheet_96 rfl ⟨rfl, rfl⟩
            refine g_weak (lv' := [some (.ref 221), some (.int x1), none, some (.int x3), some (.int 0)]) ⟨rfl, ⟨rfl, ⟨rfl, ⟨rfl, trivial⟩⟩⟩⟩ ?_
            refine jLp_ind (P := fun ((z18, M19) : Int32 × JMem) => jGG μ_X8_sheet 3 70 [some (.ref 221), some (.int x1), none, some (.int x3), some (.int z18)] [] M19 (fun M' r' => M' = Mz ∧ r' = some (.int r))) ?_ N _ y13
            rintro ⟨z18, M19⟩ x_17 hf ih16 hx15
            show jGG μ_X8_sheet 3 70 [some (.ref 221), some (.int x1), none, some (.int x3), some (.int z18)] [] M19 (fun M' r' => M' = Mz ∧ r' = some (.int r))
            refine g_iload (pc := 70) dX8_sheet_70 rfl ?_
            refine g_iload_n (pc := 72) dX8_sheet_72 rfl rfl ?_
            refine g_icmp_ge (pc := 73) 95 dX8_sheet_73 rfl (fun hc22 => ?_) (fun hc22 => ?_)
            · replace hf := jifp hc22 hf
              have hf := hx15 _ (Option.some.inj hf).symm
              obtain rfl := hf
              exact g_weakK K14 ⟨rfl, trivial⟩
            · replace hf := jifn hc22 hf
              refine g_aload_n (pc := 76) dX8_sheet_76 rfl rfl ?_
              refine g_getR (pc := 77) dX8_sheet_77 fl_X8_49 sh_221 rfl ?_
              refine g_bipush (pc := 80) 40 dX8_sheet_80 rfl ?_
              refine g_iload_n (pc := 82) dX8_sheet_82 rfl rfl ?_
              refine g_imul (pc := 83) dX8_sheet_83 ?_
              refine g_iload (pc := 84) dX8_sheet_84 rfl ?_
              refine g_iadd (pc := 86) dX8_sheet_86 ?_
              refine g_iconst (pc := 87) 0 dX8_sheet_87 rfl ?_
              obtain ⟨M21, eM21, hf⟩ := job hf
              refine g_iast (pc := 88) dX8_sheet_88 sh_235 eM21 ?_
              refine g_iinc (pc := 89) (lv' := [some (.ref 221), some (.int x1), none, some (.int x3), some (.int (z18 + 1))]) (z18 + 1) dX8_sheet_89 rfl rfl (by decide) rfl ?_
              refine g_goto (pc := 92) 70 dX8_sheet_92 rfl ?_
              have hih : jGG μ_X8_sheet 3 70 [some (.ref 221), some (.int x1), none, some (.int x3), some (.int (z18 + 1))] [] M21 (fun M' r' => M' = Mz ∧ r' = some (.int r)) := ih16 (z18 + 1, M21) (Option.some.inj hf).symm
              exact g_weakK hih ⟨rfl, ⟨rfl, ⟨rfl, ⟨rfl, trivial⟩⟩⟩⟩
          · replace hf := jifn hc23 hf
            refine g_iconst (pc := 51) 0 dX8_sheet_51 rfl ?_
            obtain ⟨rfl, rfl⟩ := Prod.mk.inj (Option.some.inj hf)
            exact g_iret (pc := 52) dX8_sheet_52 rfl ⟨rfl, rfl⟩
        refine g_if_ge (pc := 33) 40 dX8_sheet_33 rfl (fun hc7 => ?_) (fun hc7 => ?_)
        · replace hf := jifp hc7 hf
          refine g_iconst (pc := 40) 0 dX8_sheet_40 rfl ?_
          obtain rfl := Option.some.inj hf
          exact g_weakK (K5) ⟨rfl, ⟨rfl, ⟨rfl, ⟨rfl, trivial⟩⟩⟩⟩
        · replace hf := jifn hc7 hf
          refine g_iconst (pc := 36) 4 dX8_sheet_36 rfl ?_
          refine g_goto (pc := 37) 41 dX8_sheet_37 rfl ?_
          obtain rfl := Option.some.inj hf
          exact g_weakK (K5) ⟨rfl, ⟨rfl, ⟨rfl, ⟨rfl, trivial⟩⟩⟩⟩
      · replace hf := jifn hc24 hf
        refine g_ldc (pc := 28) (-100002) dX8_sheet_28 lc_X8_132 ?_
        obtain ⟨rfl, rfl⟩ := Prod.mk.inj (Option.some.inj hf)
        exact g_iret (pc := 30) dX8_sheet_30 rfl ⟨rfl, rfl⟩
  · replace hf := jifp hc26 hf
    refine g_ldc (pc := 7) (-100001) dX8_sheet_7 lc_X8_146 ?_
    obtain ⟨rfl, rfl⟩ := Prod.mk.inj (Option.some.inj hf)
    exact g_iret (pc := 9) dX8_sheet_9 rfl ⟨rfl, rfl⟩
def f_X8_tear (M : JMem) (x1 : Int32) : Option (JMem × Int32) := (f_X8_isSheet M x1).bind fun v1 => (if v1 = 0 then some (M, (-100001)) else (jrd M 233 6 x1).bind fun v2 => (((if 0 ≤ v2 then some (1) else some (0)) : Option (Int32)).bind fun u9 => (jwr M 233 6 x1 ((-1))).bind fun M10 => some (M10, u9)))
set_option maxHeartbeats 4000000 in
theorem c_X8_tear {M : JMem} {x1 : Int32} {Mz : JMem} {r : Int32} (hf : f_X8_tear M x1 = some (Mz, r)) : jCo yX8_tear μ_X8_tear 3 M [.ref 221, .int x1] Mz (some (.int r)) := by
  refine jCt_of (by decide +kernel) rfl (by simp [Value.category]) (Nat.le_of_ble_eq_true rfl) ?_
  unfold f_X8_tear at hf
  show jGG μ_X8_tear 3 0 [some (.ref 221), some (.int x1), none] [] M (fun M' r' => M' = Mz ∧ r' = some (.int r))
  refine g_iload_n (pc := 0) dX8_tear_0 rfl rfl ?_
  obtain ⟨v1, ev1, hf⟩ := job hf
  refine g_callS (pc := 1) [.int x1] [] dX8_tear_1 ml_X8_171 ck_X8_isSheet cs_X8_isSheet rfl (by decide) (Nat.le_of_ble_eq_true rfl) (c_X8_isSheet ev1) ?_
  show jGG μ_X8_tear 3 4 [some (.ref 221), some (.int x1), none] [.int v1] M (fun M' r' => M' = Mz ∧ r' = some (.int r))
  refine g_if_ne (pc := 4) 10 dX8_tear_4 rfl (fun hc11 => ?_) (fun hc11 => ?_)
  · replace hf := jifn hc11 hf
    refine g_aload_n (pc := 10) dX8_tear_10 rfl rfl ?_
    refine g_getR (pc := 11) dX8_tear_11 fl_X8_43 sh_221 rfl ?_
    refine g_iload_n (pc := 14) dX8_tear_14 rfl rfl ?_
    obtain ⟨v2, ev2, hf⟩ := job hf
    refine g_iald (pc := 15) dX8_tear_15 sh_233 ev2 ?_
    obtain ⟨u9, hf, hy4⟩ := job hf
    have K6 : (hbu9 : u9 = 0 ∨ u9 = 1) → jGG μ_X8_tear 3 24 [some (.ref 221), some (.int x1), none] [.int u9] M (fun M' r' => M' = Mz ∧ r' = some (.int r)) := by
      intro hbu9
      replace hf := hy4
      refine g_istore_n (pc := 24) (lv' := [some (.ref 221), some (.int x1), some (.int u9)]) dX8_tear_24 rfl (by decide) rfl ?_
      refine g_aload_n (pc := 25) dX8_tear_25 rfl rfl ?_
      refine g_getR (pc := 26) dX8_tear_26 fl_X8_43 sh_221 rfl ?_
      refine g_iload_n (pc := 29) dX8_tear_29 rfl rfl ?_
      refine g_iconst (pc := 30) (-1) dX8_tear_30 rfl ?_
      obtain ⟨M10, eM10, hf⟩ := job hf
      refine g_iast (pc := 31) dX8_tear_31 sh_233 eM10 ?_
      refine g_iload_n (pc := 32) dX8_tear_32 rfl rfl ?_
      obtain ⟨rfl, rfl⟩ := Prod.mk.inj (Option.some.inj hf)
      exact g_iret (pc := 33) dX8_tear_33 rfl ⟨rfl, rfl⟩
    refine g_if_ge (pc := 16) 23 dX8_tear_16 rfl (fun hc8 => ?_) (fun hc8 => ?_)
    · replace hf := jifp hc8 hf
      refine g_iconst (pc := 23) 1 dX8_tear_23 rfl ?_
      obtain rfl := Option.some.inj hf
      exact g_weakK (K6 (Or.inr rfl)) ⟨rfl, ⟨rfl, trivial⟩⟩
    · replace hf := jifn hc8 hf
      refine g_iconst (pc := 19) 0 dX8_tear_19 rfl ?_
      refine g_goto (pc := 20) 24 dX8_tear_20 rfl ?_
      obtain rfl := Option.some.inj hf
      exact g_weakK (K6 (Or.inl rfl)) ⟨rfl, ⟨rfl, trivial⟩⟩
  · replace hf := jifp hc11 hf
    refine g_ldc (pc := 7) (-100001) dX8_tear_7 lc_X8_146 ?_
    obtain ⟨rfl, rfl⟩ := Prod.mk.inj (Option.some.inj hf)
    exact g_iret (pc := 9) dX8_tear_9 rfl ⟨rfl, rfl⟩
def f_X8_put (M : JMem) (x1 : Int32) (x2 : Int32) (x3 : Int32) (x4 : Int32) : Option (JMem × Int32) := (f_X8_isSheet M x1).bind fun v1 => (if v1 = 0 then some (M, (-100001)) else (if (jin3 x2.toInt64 0 2) = 0 then some (M, (-100002)) else (jrd M 233 6 x1).bind fun v2 => (((if 0 ≤ v2 then (jrd M 234 6 x1).bind fun v8 => (if v8 = x2 then (jrd M 233 6 x1).bind fun v9 => (if (jin3 x3.toInt64 0 ((v9 - 1).toInt64)) = 0 then some (3) else some (0)) else some (2)) else some (1)) : Option (Int32)).bind fun u13 => (some (jup M 221 14 u13)).bind fun M14 => (if (M14 221 14) ≤ 0 then (((if x2 = 0 then some (x4.toInt8.toInt32) else (if x2 = 1 then some (x4.toInt16.toInt32) else some (x4))) : Option (Int32)).bind fun u22 => (jwr M14 235 240 ((40 * x1) + x3) u22).bind fun M23 => (jrd M23 235 240 ((40 * x1) + x3)).bind fun v24 => some (M23, v24)) else some (M14, 0)))))
set_option maxHeartbeats 4000000 in
theorem c_X8_put {M : JMem} {x1 : Int32} {x2 : Int32} {x3 : Int32} {x4 : Int32} {Mz : JMem} {r : Int32} (hf : f_X8_put M x1 x2 x3 x4 = some (Mz, r)) : jCo yX8_put μ_X8_put 3 M [.ref 221, .int x1, .int x2, .int x3, .int x4] Mz (some (.int r)) := by
  refine jCt_of (by decide +kernel) rfl (by simp [Value.category]) (Nat.le_of_ble_eq_true rfl) ?_
  unfold f_X8_put at hf
  show jGG μ_X8_put 3 0 [some (.ref 221), some (.int x1), some (.int x2), some (.int x3), some (.int x4)] [] M (fun M' r' => M' = Mz ∧ r' = some (.int r))
  refine g_iload_n (pc := 0) dX8_put_0 rfl rfl ?_
  obtain ⟨v1, ev1, hf⟩ := job hf
  refine g_callS (pc := 1) [.int x1] [] dX8_put_1 ml_X8_171 ck_X8_isSheet cs_X8_isSheet rfl (by decide) (Nat.le_of_ble_eq_true rfl) (c_X8_isSheet ev1) ?_
  show jGG μ_X8_put 3 4 [some (.ref 221), some (.int x1), some (.int x2), some (.int x3), some (.int x4)] [.int v1] M (fun M' r' => M' = Mz ∧ r' = some (.int r))
  refine g_if_ne (pc := 4) 10 dX8_put_4 rfl (fun hc27 => ?_) (fun hc27 => ?_)
  · replace hf := jifn hc27 hf
    refine g_iload_n (pc := 10) dX8_put_10 rfl rfl ?_
    refine g_i2l (pc := 11) dX8_put_11 ?_
    refine g_lconst (pc := 12) 0 dX8_put_12 rfl ?_
    refine g_ldc2 (pc := 13) 2 dX8_put_13 lcl_X8_174 ?_
    refine g_callS (pc := 16) [.long x2.toInt64, .long 0, .long 2] [] dX8_put_16 ml_X8_124 ck_X8_in cs_X8_in rfl (by decide) (Nat.le_of_ble_eq_true rfl) c_in ?_
    show jGG μ_X8_put 3 19 [some (.ref 221), some (.int x1), some (.int x2), some (.int x3), some (.int x4)] [.int (jin3 x2.toInt64 0 2)] M (fun M' r' => M' = Mz ∧ r' = some (.int r))
    refine g_if_ne (pc := 19) 25 dX8_put_19 rfl (fun hc26 => ?_) (fun hc26 => ?_)
    · replace hf := jifn hc26 hf
      refine g_aload_n (pc := 25) dX8_put_25 rfl rfl ?_
      refine g_aload_n (pc := 26) dX8_put_26 rfl rfl ?_
      refine g_getR (pc := 27) dX8_put_27 fl_X8_43 sh_221 rfl ?_
      refine g_iload_n (pc := 30) dX8_put_30 rfl rfl ?_
      obtain ⟨v2, ev2, hf⟩ := job hf
      refine g_iald (pc := 31) dX8_put_31 sh_233 ev2 ?_
      obtain ⟨u13, hf, hy4⟩ := job hf
      have K6 : jGG μ_X8_put 3 76 [some (.ref 221), some (.int x1), some (.int x2), some (.int x3), some (.int x4)] [.int u13, .ref 221] M (fun M' r' => M' = Mz ∧ r' = some (.int r)) := by
        replace hf := hy4
        refine g_putI (pc := 76) dX8_put_76 fp_X8_176 sh_221 rfl ?_
        obtain ⟨M14, eM14, hf⟩ := job hf
        rw [Option.some.inj eM14]
        refine g_aload_n (pc := 79) dX8_put_79 rfl rfl ?_
        refine g_getI (pc := 80) dX8_put_80 fl_X8_176 sh_221 rfl ?_
        refine g_if_le (pc := 83) 88 dX8_put_83 rfl (fun hc25 => ?_) (fun hc25 => ?_)
        · replace hf := jifp hc25 hf
          refine g_aload_n (pc := 88) dX8_put_88 rfl rfl ?_
          refine g_getR (pc := 89) dX8_put_89 fl_X8_49 sh_221 rfl ?_
          refine g_bipush (pc := 92) 40 dX8_put_92 rfl ?_
          refine g_iload_n (pc := 94) dX8_put_94 rfl rfl ?_
          refine g_imul (pc := 95) dX8_put_95 ?_
          refine g_iload_n (pc := 96) dX8_put_96 rfl rfl ?_
          refine g_iadd (pc := 97) dX8_put_97 ?_
          refine g_iload_n (pc := 98) dX8_put_98 rfl rfl ?_
          obtain ⟨u22, hf, hy16⟩ := job hf
          have K18 : jGG μ_X8_put 3 121 [some (.ref 221), some (.int x1), none, some (.int x3), none] [.int u22, .int ((40 * x1) + x3), .ref 235] M14 (fun M' r' => M' = Mz ∧ r' = some (.int r)) := by
            replace hf := hy16
            obtain ⟨M23, eM23, hf⟩ := job hf
            refine g_iast (pc := 121) dX8_put_121 sh_235 eM23 ?_
            refine g_aload_n (pc := 122) dX8_put_122 rfl rfl ?_
            refine g_getR (pc := 123) dX8_put_123 fl_X8_49 sh_221 rfl ?_
            refine g_bipush (pc := 126) 40 dX8_put_126 rfl ?_
            refine g_iload_n (pc := 128) dX8_put_128 rfl rfl ?_
            refine g_imul (pc := 129) dX8_put_129 ?_
            refine g_iload_n (pc := 130) dX8_put_130 rfl rfl ?_
            refine g_iadd (pc := 131) dX8_put_131 ?_
            obtain ⟨v24, ev24, hf⟩ := job hf
            refine g_iald (pc := 132) dX8_put_132 sh_235 ev24 ?_
            obtain ⟨rfl, rfl⟩ := Prod.mk.inj (Option.some.inj hf)
            exact g_iret (pc := 133) dX8_put_133 rfl ⟨rfl, rfl⟩
          refine g_if_ne (pc := 99) 108 dX8_put_99 rfl (fun hc21 => ?_) (fun hc21 => ?_)
          · replace hf := jifn hc21 hf
            refine g_iload_n (pc := 108) dX8_put_108 rfl rfl ?_
            refine g_iconst (pc := 109) 1 dX8_put_109 rfl ?_
            refine g_icmp_ne (pc := 110) 119 dX8_put_110 rfl (fun hc20 => ?_) (fun hc20 => ?_)
            · replace hf := jifn hc20 hf
              refine g_iload (pc := 119) dX8_put_119 rfl ?_
              obtain rfl := Option.some.inj hf
              exact g_weakK (K18) ⟨rfl, ⟨rfl, ⟨rfl, trivial⟩⟩⟩
            · replace hf := jifp hc20 hf
              refine g_iload (pc := 113) dX8_put_113 rfl ?_
              refine g_i2s (pc := 115) dX8_put_115 ?_
              refine g_goto (pc := 116) 121 dX8_put_116 rfl ?_
              obtain rfl := Option.some.inj hf
              exact g_weakK (K18) ⟨rfl, ⟨rfl, ⟨rfl, trivial⟩⟩⟩
          · replace hf := jifp hc21 hf
            refine g_iload (pc := 102) dX8_put_102 rfl ?_
            refine g_i2b (pc := 104) dX8_put_104 ?_
            refine g_goto (pc := 105) 121 dX8_put_105 rfl ?_
            obtain rfl := Option.some.inj hf
            exact g_weakK (K18) ⟨rfl, ⟨rfl, ⟨rfl, trivial⟩⟩⟩
        · replace hf := jifn hc25 hf
          refine g_iconst (pc := 86) 0 dX8_put_86 rfl ?_
          obtain ⟨rfl, rfl⟩ := Prod.mk.inj (Option.some.inj hf)
          exact g_iret (pc := 87) dX8_put_87 rfl ⟨rfl, rfl⟩
      refine g_if_ge (pc := 32) 39 dX8_put_32 rfl (fun hc12 => ?_) (fun hc12 => ?_)
      · replace hf := jifp hc12 hf
        refine g_aload_n (pc := 39) dX8_put_39 rfl rfl ?_
        refine g_getR (pc := 40) dX8_put_40 fl_X8_46 sh_221 rfl ?_
        refine g_iload_n (pc := 43) dX8_put_43 rfl rfl ?_
        obtain ⟨v8, ev8, hf⟩ := job hf
        refine g_iald (pc := 44) dX8_put_44 sh_234 ev8 ?_
        refine g_iload_n (pc := 45) dX8_put_45 rfl rfl ?_
        refine g_icmp_eq (pc := 46) 53 dX8_put_46 rfl (fun hc11 => ?_) (fun hc11 => ?_)
        · replace hf := jifp hc11 hf
          refine g_iload_n (pc := 53) dX8_put_53 rfl rfl ?_
          refine g_i2l (pc := 54) dX8_put_54 ?_
          refine g_lconst (pc := 55) 0 dX8_put_55 rfl ?_
          refine g_aload_n (pc := 56) dX8_put_56 rfl rfl ?_
          refine g_getR (pc := 57) dX8_put_57 fl_X8_43 sh_221 rfl ?_
          refine g_iload_n (pc := 60) dX8_put_60 rfl rfl ?_
          obtain ⟨v9, ev9, hf⟩ := job hf
          refine g_iald (pc := 61) dX8_put_61 sh_233 ev9 ?_
          refine g_iconst (pc := 62) 1 dX8_put_62 rfl ?_
          refine g_isub (pc := 63) dX8_put_63 ?_
          refine g_i2l (pc := 64) dX8_put_64 ?_
          refine g_callS (pc := 65) [.long x3.toInt64, .long 0, .long ((v9 - 1).toInt64)] [.ref 221] dX8_put_65 ml_X8_124 ck_X8_in cs_X8_in rfl (by decide) (Nat.le_of_ble_eq_true rfl) c_in ?_
          show jGG μ_X8_put 3 68 [some (.ref 221), some (.int x1), some (.int x2), some (.int x3), some (.int x4)] [.int (jin3 x3.toInt64 0 ((v9 - 1).toInt64)), .ref 221] M (fun M' r' => M' = Mz ∧ r' = some (.int r))
          refine g_if_ne (pc := 68) 75 dX8_put_68 rfl (fun hc10 => ?_) (fun hc10 => ?_)
          · replace hf := jifn hc10 hf
            refine g_iconst (pc := 75) 0 dX8_put_75 rfl ?_
            obtain rfl := Option.some.inj hf
            exact g_weakK (K6) ⟨rfl, ⟨rfl, ⟨rfl, ⟨rfl, ⟨rfl, trivial⟩⟩⟩⟩⟩
          · replace hf := jifp hc10 hf
            refine g_iconst (pc := 71) 3 dX8_put_71 rfl ?_
            refine g_goto (pc := 72) 76 dX8_put_72 rfl ?_
            obtain rfl := Option.some.inj hf
            exact g_weakK (K6) ⟨rfl, ⟨rfl, ⟨rfl, ⟨rfl, ⟨rfl, trivial⟩⟩⟩⟩⟩
        · replace hf := jifn hc11 hf
          refine g_iconst (pc := 49) 2 dX8_put_49 rfl ?_
          refine g_goto (pc := 50) 76 dX8_put_50 rfl ?_
          obtain rfl := Option.some.inj hf
          exact g_weakK (K6) ⟨rfl, ⟨rfl, ⟨rfl, ⟨rfl, ⟨rfl, trivial⟩⟩⟩⟩⟩
      · replace hf := jifn hc12 hf
        refine g_iconst (pc := 35) 1 dX8_put_35 rfl ?_
        refine g_goto (pc := 36) 76 dX8_put_36 rfl ?_
        obtain rfl := Option.some.inj hf
        exact g_weakK (K6) ⟨rfl, ⟨rfl, ⟨rfl, ⟨rfl, ⟨rfl, trivial⟩⟩⟩⟩⟩
    · replace hf := jifp hc26 hf
      refine g_ldc (pc := 22) (-100002) dX8_put_22 lc_X8_132 ?_
      obtain ⟨rfl, rfl⟩ := Prod.mk.inj (Option.some.inj hf)
      exact g_iret (pc := 24) dX8_put_24 rfl ⟨rfl, rfl⟩
  · replace hf := jifp hc27 hf
    refine g_ldc (pc := 7) (-100001) dX8_put_7 lc_X8_146 ?_
    obtain ⟨rfl, rfl⟩ := Prod.mk.inj (Option.some.inj hf)
    exact g_iret (pc := 9) dX8_put_9 rfl ⟨rfl, rfl⟩
def f_X8_at (M : JMem) (x1 : Int32) (x2 : Int32) : Option (JMem × Int32) := (f_X8_isSheet M x1).bind fun v1 => (if v1 = 0 then some (M, (-100001)) else (jrd M 233 6 x1).bind fun v2 => (((if 0 ≤ v2 then (jrd M 233 6 x1).bind fun v8 => (if (jin3 x2.toInt64 0 ((v8 - 1).toInt64)) = 0 then some (3) else some (0)) else some (1)) : Option (Int32)).bind fun u11 => (some (jup M 221 14 u11)).bind fun M12 => (if (M12 221 14) ≤ 0 then (jrd M12 235 240 ((40 * x1) + x2)).bind fun v13 => some (M12, v13) else some (M12, 0))))
set_option maxHeartbeats 4000000 in
theorem c_X8_at {M : JMem} {x1 : Int32} {x2 : Int32} {Mz : JMem} {r : Int32} (hf : f_X8_at M x1 x2 = some (Mz, r)) : jCo yX8_at μ_X8_at 3 M [.ref 221, .int x1, .int x2] Mz (some (.int r)) := by
  refine jCt_of (by decide +kernel) rfl (by simp [Value.category]) (Nat.le_of_ble_eq_true rfl) ?_
  unfold f_X8_at at hf
  show jGG μ_X8_at 3 0 [some (.ref 221), some (.int x1), some (.int x2)] [] M (fun M' r' => M' = Mz ∧ r' = some (.int r))
  refine g_iload_n (pc := 0) dX8_at_0 rfl rfl ?_
  obtain ⟨v1, ev1, hf⟩ := job hf
  refine g_callS (pc := 1) [.int x1] [] dX8_at_1 ml_X8_171 ck_X8_isSheet cs_X8_isSheet rfl (by decide) (Nat.le_of_ble_eq_true rfl) (c_X8_isSheet ev1) ?_
  show jGG μ_X8_at 3 4 [some (.ref 221), some (.int x1), some (.int x2)] [.int v1] M (fun M' r' => M' = Mz ∧ r' = some (.int r))
  refine g_if_ne (pc := 4) 10 dX8_at_4 rfl (fun hc15 => ?_) (fun hc15 => ?_)
  · replace hf := jifn hc15 hf
    refine g_aload_n (pc := 10) dX8_at_10 rfl rfl ?_
    refine g_aload_n (pc := 11) dX8_at_11 rfl rfl ?_
    refine g_getR (pc := 12) dX8_at_12 fl_X8_43 sh_221 rfl ?_
    refine g_iload_n (pc := 15) dX8_at_15 rfl rfl ?_
    obtain ⟨v2, ev2, hf⟩ := job hf
    refine g_iald (pc := 16) dX8_at_16 sh_233 ev2 ?_
    obtain ⟨u11, hf, hy4⟩ := job hf
    have K6 : jGG μ_X8_at 3 47 [some (.ref 221), some (.int x1), some (.int x2)] [.int u11, .ref 221] M (fun M' r' => M' = Mz ∧ r' = some (.int r)) := by
      replace hf := hy4
      refine g_putI (pc := 47) dX8_at_47 fp_X8_176 sh_221 rfl ?_
      obtain ⟨M12, eM12, hf⟩ := job hf
      rw [Option.some.inj eM12]
      refine g_aload_n (pc := 50) dX8_at_50 rfl rfl ?_
      refine g_getI (pc := 51) dX8_at_51 fl_X8_176 sh_221 rfl ?_
      refine g_if_le (pc := 54) 61 dX8_at_54 rfl (fun hc14 => ?_) (fun hc14 => ?_)
      · replace hf := jifp hc14 hf
        refine g_aload_n (pc := 61) dX8_at_61 rfl rfl ?_
        refine g_getR (pc := 62) dX8_at_62 fl_X8_49 sh_221 rfl ?_
        refine g_bipush (pc := 65) 40 dX8_at_65 rfl ?_
        refine g_iload_n (pc := 67) dX8_at_67 rfl rfl ?_
        refine g_imul (pc := 68) dX8_at_68 ?_
        refine g_iload_n (pc := 69) dX8_at_69 rfl rfl ?_
        refine g_iadd (pc := 70) dX8_at_70 ?_
        obtain ⟨v13, ev13, hf⟩ := job hf
        refine g_iald (pc := 71) dX8_at_71 sh_235 ev13 ?_
        obtain ⟨rfl, rfl⟩ := Prod.mk.inj (Option.some.inj hf)
        exact g_iret (pc := 72) dX8_at_72 rfl ⟨rfl, rfl⟩
      · replace hf := jifn hc14 hf
        refine g_iconst (pc := 57) 0 dX8_at_57 rfl ?_
        refine g_goto (pc := 58) 72 dX8_at_58 rfl ?_
        obtain ⟨rfl, rfl⟩ := Prod.mk.inj (Option.some.inj hf)
        exact g_iret (pc := 72) dX8_at_72 rfl ⟨rfl, rfl⟩
    refine g_if_ge (pc := 17) 24 dX8_at_17 rfl (fun hc10 => ?_) (fun hc10 => ?_)
    · replace hf := jifp hc10 hf
      refine g_iload_n (pc := 24) dX8_at_24 rfl rfl ?_
      refine g_i2l (pc := 25) dX8_at_25 ?_
      refine g_lconst (pc := 26) 0 dX8_at_26 rfl ?_
      refine g_aload_n (pc := 27) dX8_at_27 rfl rfl ?_
      refine g_getR (pc := 28) dX8_at_28 fl_X8_43 sh_221 rfl ?_
      refine g_iload_n (pc := 31) dX8_at_31 rfl rfl ?_
      obtain ⟨v8, ev8, hf⟩ := job hf
      refine g_iald (pc := 32) dX8_at_32 sh_233 ev8 ?_
      refine g_iconst (pc := 33) 1 dX8_at_33 rfl ?_
      refine g_isub (pc := 34) dX8_at_34 ?_
      refine g_i2l (pc := 35) dX8_at_35 ?_
      refine g_callS (pc := 36) [.long x2.toInt64, .long 0, .long ((v8 - 1).toInt64)] [.ref 221] dX8_at_36 ml_X8_124 ck_X8_in cs_X8_in rfl (by decide) (Nat.le_of_ble_eq_true rfl) c_in ?_
      show jGG μ_X8_at 3 39 [some (.ref 221), some (.int x1), some (.int x2)] [.int (jin3 x2.toInt64 0 ((v8 - 1).toInt64)), .ref 221] M (fun M' r' => M' = Mz ∧ r' = some (.int r))
      refine g_if_ne (pc := 39) 46 dX8_at_39 rfl (fun hc9 => ?_) (fun hc9 => ?_)
      · replace hf := jifn hc9 hf
        refine g_iconst (pc := 46) 0 dX8_at_46 rfl ?_
        obtain rfl := Option.some.inj hf
        exact g_weakK (K6) ⟨rfl, ⟨rfl, ⟨rfl, trivial⟩⟩⟩
      · replace hf := jifp hc9 hf
        refine g_iconst (pc := 42) 3 dX8_at_42 rfl ?_
        refine g_goto (pc := 43) 47 dX8_at_43 rfl ?_
        obtain rfl := Option.some.inj hf
        exact g_weakK (K6) ⟨rfl, ⟨rfl, ⟨rfl, trivial⟩⟩⟩
    · replace hf := jifn hc10 hf
      refine g_iconst (pc := 20) 1 dX8_at_20 rfl ?_
      refine g_goto (pc := 21) 47 dX8_at_21 rfl ?_
      obtain rfl := Option.some.inj hf
      exact g_weakK (K6) ⟨rfl, ⟨rfl, ⟨rfl, trivial⟩⟩⟩
  · replace hf := jifp hc15 hf
    refine g_ldc (pc := 7) (-100001) dX8_at_7 lc_X8_146 ?_
    obtain ⟨rfl, rfl⟩ := Prod.mk.inj (Option.some.inj hf)
    exact g_iret (pc := 9) dX8_at_9 rfl ⟨rfl, rfl⟩
def f_X8_copy (N : Nat) (M : JMem) (x1 : Int32) (x2 : Int32) (x3 : Int32) (x4 : Int32) (x5 : Int32) : Option (JMem × Int32) := (f_X8_isSheet M x1).bind fun v1 => (if v1 = 0 then some (M, (-100001)) else (f_X8_isSheet M x3).bind fun v2 => (if v2 = 0 then some (M, (-100001)) else (((jcase (α := Int32) (β := Unit) (if x2 < 0 then some (Sum.inr ()) else (if x4 < 0 then some (Sum.inr ()) else (if x5 < 0 then some (Sum.inr ()) else (jrd M 233 6 x1).bind fun v13 => (if 0 < (lg_cmp (x2.toInt64 + x5.toInt64) v13.toInt64) then some (Sum.inr ()) else (jrd M 233 6 x3).bind fun v14 => (if 0 < (lg_cmp (x4.toInt64 + x5.toInt64) v14.toInt64) then some (Sum.inr ()) else some (Sum.inl (1))))))) fun _ => some (0)) : Option (Int32)).bind fun u20 => (jrd M 233 6 x1).bind fun v21 => (((jcase (α := Int32) (β := Unit) (if v21 < 0 then some (Sum.inr ()) else (jrd M 233 6 x3).bind fun v32 => (if 0 ≤ v32 then (jrd M 234 6 x1).bind fun v33 => (jrd M 234 6 x3).bind fun v34 => (if v33 = v34 then (if u20 = 0 then some (Sum.inl (3)) else some (Sum.inl (0))) else some (Sum.inl (2))) else some (Sum.inr ()))) fun _ => some (1)) : Option (Int32)).bind fun u39 => (some (jup M 221 14 u39)).bind fun M40 => (if (M40 221 14) ≤ 0 then ((jLp (σ := Int32 × JMem) (ρ := JMem) N (fun ((z47, M48) : Int32 × JMem) => (if x5 ≤ z47 then some (Sum.inr M48) else (jrd M48 235 240 (((40 * x1) + x2) + z47)).bind fun v50 => (jwr M48 236 40 z47 v50).bind fun M51 => some (Sum.inl (z47 + 1, M51)))) (0, M40)).bind fun t49 => ((jLp (σ := Int32 × JMem) (ρ := JMem) N (fun ((z59, M60) : Int32 × JMem) => (if x5 ≤ z59 then some (Sum.inr M60) else (jrd M60 236 40 z59).bind fun v62 => (jwr M60 235 240 (((40 * x3) + x4) + z59) v62).bind fun M63 => some (Sum.inl (z59 + 1, M63)))) (0, t49)).bind fun t61 => some (t61, 1))) else some (M40, 0))))))
set_option maxHeartbeats 4000000 in
theorem c_X8_copy {N : Nat} {M : JMem} {x1 : Int32} {x2 : Int32} {x3 : Int32} {x4 : Int32} {x5 : Int32} {Mz : JMem} {r : Int32} (hf : f_X8_copy N M x1 x2 x3 x4 x5 = some (Mz, r)) : jCo yX8_copy μ_X8_copy 3 M [.ref 221, .int x1, .int x2, .int x3, .int x4, .int x5] Mz (some (.int r)) := by
  refine jCt_of (by decide +kernel) rfl (by simp [Value.category]) (Nat.le_of_ble_eq_true rfl) ?_
  unfold f_X8_copy at hf
  show jGG μ_X8_copy 3 0 [some (.ref 221), some (.int x1), some (.int x2), some (.int x3), some (.int x4), some (.int x5), none, none] [] M (fun M' r' => M' = Mz ∧ r' = some (.int r))
  refine g_iload_n (pc := 0) dX8_copy_0 rfl rfl ?_
  obtain ⟨v1, ev1, hf⟩ := job hf
  refine g_callS (pc := 1) [.int x1] [] dX8_copy_1 ml_X8_171 ck_X8_isSheet cs_X8_isSheet rfl (by decide) (Nat.le_of_ble_eq_true rfl) (c_X8_isSheet ev1) ?_
  show jGG μ_X8_copy 3 4 [some (.ref 221), some (.int x1), some (.int x2), some (.int x3), some (.int x4), some (.int x5), none, none] [.int v1] M (fun M' r' => M' = Mz ∧ r' = some (.int r))
  refine g_if_eq (pc := 4) 14 dX8_copy_4 rfl (fun hc67 => ?_) (fun hc67 => ?_)
  · replace hf := jifp hc67 hf
    refine g_ldc (pc := 14) (-100001) dX8_copy_14 lc_X8_146 ?_
    obtain ⟨rfl, rfl⟩ := Prod.mk.inj (Option.some.inj hf)
    exact g_iret (pc := 16) dX8_copy_16 rfl ⟨rfl, rfl⟩
  · replace hf := jifn hc67 hf
    refine g_iload_n (pc := 7) dX8_copy_7 rfl rfl ?_
    obtain ⟨v2, ev2, hf⟩ := job hf
    refine g_callS (pc := 8) [.int x3] [] dX8_copy_8 ml_X8_171 ck_X8_isSheet cs_X8_isSheet rfl (by decide) (Nat.le_of_ble_eq_true rfl) (c_X8_isSheet ev2) ?_
    show jGG μ_X8_copy 3 11 [some (.ref 221), some (.int x1), some (.int x2), some (.int x3), some (.int x4), some (.int x5), none, none] [.int v2] M (fun M' r' => M' = Mz ∧ r' = some (.int r))
    refine g_if_ne (pc := 11) 17 dX8_copy_11 rfl (fun hc66 => ?_) (fun hc66 => ?_)
    · replace hf := jifn hc66 hf
      refine g_iload_n (pc := 17) dX8_copy_17 rfl rfl ?_
      obtain ⟨u20, hf, hy4⟩ := job hf
      have K6 : (hbu20 : u20 = 0 ∨ u20 = 1) → jGG μ_X8_copy 3 71 [some (.ref 221), some (.int x1), some (.int x2), some (.int x3), some (.int x4), some (.int x5), none, none] [.int u20] M (fun M' r' => M' = Mz ∧ r' = some (.int r)) := by
        intro hbu20
        replace hf := hy4
        refine g_istore (pc := 71) (lv' := [some (.ref 221), some (.int x1), some (.int x2), some (.int x3), some (.int x4), some (.int x5), some (.int u20), none]) dX8_copy_71 (by decide) rfl ?_
        refine g_aload_n (pc := 73) dX8_copy_73 rfl rfl ?_
        refine g_aload_n (pc := 74) dX8_copy_74 rfl rfl ?_
        refine g_getR (pc := 75) dX8_copy_75 fl_X8_43 sh_221 rfl ?_
        refine g_iload_n (pc := 78) dX8_copy_78 rfl rfl ?_
        obtain ⟨v21, ev21, hf⟩ := job hf
        refine g_iald (pc := 79) dX8_copy_79 sh_233 ev21 ?_
        obtain ⟨u39, hf, hy23⟩ := job hf
        have K25 : jGG μ_X8_copy 3 125 [some (.ref 221), some (.int x1), some (.int x2), some (.int x3), some (.int x4), some (.int x5), none, none] [.int u39, .ref 221] M (fun M' r' => M' = Mz ∧ r' = some (.int r)) := by
          replace hf := hy23
          refine g_putI (pc := 125) dX8_copy_125 fp_X8_176 sh_221 rfl ?_
          obtain ⟨M40, eM40, hf⟩ := job hf
          rw [Option.some.inj eM40]
          refine g_aload_n (pc := 128) dX8_copy_128 rfl rfl ?_
          refine g_getI (pc := 129) dX8_copy_129 fl_X8_176 sh_221 rfl ?_
          refine g_if_le (pc := 132) 137 dX8_copy_132 rfl (fun hc65 => ?_) (fun hc65 => ?_)
          · replace hf := jifp hc65 hf
            refine g_iconst (pc := 137) 0 dX8_copy_137 rfl ?_
            refine g_istore (pc := 138) (lv' := [some (.ref 221), some (.int x1), some (.int x2), some (.int x3), some (.int x4), some (.int x5), none, some (.int 0)]) dX8_copy_138 (by decide) rfl ?_
            obtain ⟨t49, y42, hy41⟩ := job hf
            have K43 : jGG μ_X8_copy 3 174 [some (.ref 221), none, none, some (.int x3), some (.int x4), some (.int x5), none, none] [] t49 (fun M' r' => M' = Mz ∧ r' = some (.int r)) := by
              replace hf := hy41
              refine g_iconst (pc := 174) 0 dX8_copy_174 rfl ?_
              refine g_istore (pc := 175) (lv' := [some (.ref 221), none, none, some (.int x3), some (.int x4), some (.int x5), none, some (.int 0)]) dX8_copy_175 (by decide) rfl ?_
              obtain ⟨t61, y54, hy53⟩ := job hf
              have K55 : jGG μ_X8_copy 3 212 [none, none, none, none, none, none, none, none] [] t61 (fun M' r' => M' = Mz ∧ r' = some (.int r)) := by
                replace hf := hy53
                refine g_iconst (pc := 212) 1 dX8_copy_212 rfl ?_
                obtain ⟨rfl, rfl⟩ := Prod.mk.inj (Option.some.inj hf)
                exact g_iret (pc := 213) dX8_copy_213 rfl ⟨rfl, rfl⟩
              refine g_weak (lv' := [some (.ref 221), none, none, some (.int x3), some (.int x4), some (.int x5), none, some (.int 0)]) ⟨rfl, ⟨rfl, ⟨rfl, ⟨rfl, ⟨rfl, trivial⟩⟩⟩⟩⟩ ?_
              refine jLp_ind (P := fun ((z59, M60) : Int32 × JMem) => jGG μ_X8_copy 3 177 [some (.ref 221), none, none, some (.int x3), some (.int x4), some (.int x5), none, some (.int z59)] [] M60 (fun M' r' => M' = Mz ∧ r' = some (.int r))) ?_ N _ y54
              rintro ⟨z59, M60⟩ x_58 hf ih57 hx56
              show jGG μ_X8_copy 3 177 [some (.ref 221), none, none, some (.int x3), some (.int x4), some (.int x5), none, some (.int z59)] [] M60 (fun M' r' => M' = Mz ∧ r' = some (.int r))
              refine g_iload (pc := 177) dX8_copy_177 rfl ?_
              refine g_iload (pc := 179) dX8_copy_179 rfl ?_
              refine g_icmp_ge (pc := 181) 212 dX8_copy_181 rfl (fun hc64 => ?_) (fun hc64 => ?_)
              · replace hf := jifp hc64 hf
                have hf := hx56 _ (Option.some.inj hf).symm
                obtain rfl := hf
                exact g_weakK K55 trivial
              · replace hf := jifn hc64 hf
                refine g_aload_n (pc := 184) dX8_copy_184 rfl rfl ?_
                refine g_getR (pc := 185) dX8_copy_185 fl_X8_49 sh_221 rfl ?_
                refine g_bipush (pc := 188) 40 dX8_copy_188 rfl ?_
                refine g_iload_n (pc := 190) dX8_copy_190 rfl rfl ?_
                refine g_imul (pc := 191) dX8_copy_191 ?_
                refine g_iload (pc := 192) dX8_copy_192 rfl ?_
                refine g_iadd (pc := 194) dX8_copy_194 ?_
                refine g_iload (pc := 195) dX8_copy_195 rfl ?_
                refine g_iadd (pc := 197) dX8_copy_197 ?_
                refine g_aload_n (pc := 198) dX8_copy_198 rfl rfl ?_
                refine g_getR (pc := 199) dX8_copy_199 fl_X8_52 sh_221 rfl ?_
                refine g_iload (pc := 202) dX8_copy_202 rfl ?_
                obtain ⟨v62, ev62, hf⟩ := job hf
                refine g_iald (pc := 204) dX8_copy_204 sh_236 ev62 ?_
                obtain ⟨M63, eM63, hf⟩ := job hf
                refine g_iast (pc := 205) dX8_copy_205 sh_235 eM63 ?_
                refine g_iinc (pc := 206) (lv' := [some (.ref 221), none, none, some (.int x3), some (.int x4), some (.int x5), none, some (.int (z59 + 1))]) (z59 + 1) dX8_copy_206 rfl rfl (by decide) rfl ?_
                refine g_goto (pc := 209) 177 dX8_copy_209 rfl ?_
                have hih : jGG μ_X8_copy 3 177 [some (.ref 221), none, none, some (.int x3), some (.int x4), some (.int x5), none, some (.int (z59 + 1))] [] M63 (fun M' r' => M' = Mz ∧ r' = some (.int r)) := ih57 (z59 + 1, M63) (Option.some.inj hf).symm
                exact g_weakK hih ⟨rfl, ⟨rfl, ⟨rfl, ⟨rfl, ⟨rfl, trivial⟩⟩⟩⟩⟩
            refine g_weak (lv' := [some (.ref 221), some (.int x1), some (.int x2), some (.int x3), some (.int x4), some (.int x5), none, some (.int 0)]) ⟨rfl, ⟨rfl, ⟨rfl, ⟨rfl, ⟨rfl, ⟨rfl, ⟨rfl, trivial⟩⟩⟩⟩⟩⟩⟩ ?_
            refine jLp_ind (P := fun ((z47, M48) : Int32 × JMem) => jGG μ_X8_copy 3 140 [some (.ref 221), some (.int x1), some (.int x2), some (.int x3), some (.int x4), some (.int x5), none, some (.int z47)] [] M48 (fun M' r' => M' = Mz ∧ r' = some (.int r))) ?_ N _ y42
            rintro ⟨z47, M48⟩ x_46 hf ih45 hx44
            show jGG μ_X8_copy 3 140 [some (.ref 221), some (.int x1), some (.int x2), some (.int x3), some (.int x4), some (.int x5), none, some (.int z47)] [] M48 (fun M' r' => M' = Mz ∧ r' = some (.int r))
            refine g_iload (pc := 140) dX8_copy_140 rfl ?_
            refine g_iload (pc := 142) dX8_copy_142 rfl ?_
            refine g_icmp_ge (pc := 144) 174 dX8_copy_144 rfl (fun hc52 => ?_) (fun hc52 => ?_)
            · replace hf := jifp hc52 hf
              have hf := hx44 _ (Option.some.inj hf).symm
              obtain rfl := hf
              exact g_weakK K43 ⟨rfl, ⟨rfl, ⟨rfl, ⟨rfl, trivial⟩⟩⟩⟩
            · replace hf := jifn hc52 hf
              refine g_aload_n (pc := 147) dX8_copy_147 rfl rfl ?_
              refine g_getR (pc := 148) dX8_copy_148 fl_X8_52 sh_221 rfl ?_
              refine g_iload (pc := 151) dX8_copy_151 rfl ?_
              refine g_aload_n (pc := 153) dX8_copy_153 rfl rfl ?_
              refine g_getR (pc := 154) dX8_copy_154 fl_X8_49 sh_221 rfl ?_
              refine g_bipush (pc := 157) 40 dX8_copy_157 rfl ?_
              refine g_iload_n (pc := 159) dX8_copy_159 rfl rfl ?_
              refine g_imul (pc := 160) dX8_copy_160 ?_
              refine g_iload_n (pc := 161) dX8_copy_161 rfl rfl ?_
              refine g_iadd (pc := 162) dX8_copy_162 ?_
              refine g_iload (pc := 163) dX8_copy_163 rfl ?_
              refine g_iadd (pc := 165) dX8_copy_165 ?_
              obtain ⟨v50, ev50, hf⟩ := job hf
              refine g_iald (pc := 166) dX8_copy_166 sh_235 ev50 ?_
              obtain ⟨M51, eM51, hf⟩ := job hf
              refine g_iast (pc := 167) dX8_copy_167 sh_236 eM51 ?_
              refine g_iinc (pc := 168) (lv' := [some (.ref 221), some (.int x1), some (.int x2), some (.int x3), some (.int x4), some (.int x5), none, some (.int (z47 + 1))]) (z47 + 1) dX8_copy_168 rfl rfl (by decide) rfl ?_
              refine g_goto (pc := 171) 140 dX8_copy_171 rfl ?_
              have hih : jGG μ_X8_copy 3 140 [some (.ref 221), some (.int x1), some (.int x2), some (.int x3), some (.int x4), some (.int x5), none, some (.int (z47 + 1))] [] M51 (fun M' r' => M' = Mz ∧ r' = some (.int r)) := ih45 (z47 + 1, M51) (Option.some.inj hf).symm
              exact g_weakK hih ⟨rfl, ⟨rfl, ⟨rfl, ⟨rfl, ⟨rfl, ⟨rfl, ⟨rfl, trivial⟩⟩⟩⟩⟩⟩⟩
          · replace hf := jifn hc65 hf
            refine g_iconst (pc := 135) 0 dX8_copy_135 rfl ?_
            obtain ⟨rfl, rfl⟩ := Prod.mk.inj (Option.some.inj hf)
            exact g_iret (pc := 136) dX8_copy_136 rfl ⟨rfl, rfl⟩
        obtain ⟨y29, hf, hy28⟩ := jcb hf
        have K30 : y29 = Sum.inr () → jGG μ_X8_copy 3 92 [some (.ref 221), some (.int x1), some (.int x2), some (.int x3), some (.int x4), some (.int x5), none, none] [.ref 221] M (fun M' r' => M' = Mz ∧ r' = some (.int r)) := by
          intro hyy
          subst hyy
          replace hf := hy28
          refine g_iconst (pc := 92) 1 dX8_copy_92 rfl ?_
          refine g_goto (pc := 93) 125 dX8_copy_93 rfl ?_
          obtain rfl := Option.some.inj hf
          exact g_weakK (K25) ⟨rfl, ⟨rfl, ⟨rfl, ⟨rfl, ⟨rfl, ⟨rfl, trivial⟩⟩⟩⟩⟩⟩
        refine g_if_lt (pc := 80) 92 dX8_copy_80 rfl (fun hc38 => ?_) (fun hc38 => ?_)
        · replace hf := jifp hc38 hf
          exact g_weakK (K30 (Option.some.inj hf).symm) ⟨rfl, ⟨rfl, ⟨rfl, ⟨rfl, ⟨rfl, ⟨rfl, trivial⟩⟩⟩⟩⟩⟩
        · replace hf := jifn hc38 hf
          refine g_aload_n (pc := 83) dX8_copy_83 rfl rfl ?_
          refine g_getR (pc := 84) dX8_copy_84 fl_X8_43 sh_221 rfl ?_
          refine g_iload_n (pc := 87) dX8_copy_87 rfl rfl ?_
          obtain ⟨v32, ev32, hf⟩ := job hf
          refine g_iald (pc := 88) dX8_copy_88 sh_233 ev32 ?_
          refine g_if_ge (pc := 89) 96 dX8_copy_89 rfl (fun hc37 => ?_) (fun hc37 => ?_)
          · replace hf := jifp hc37 hf
            refine g_aload_n (pc := 96) dX8_copy_96 rfl rfl ?_
            refine g_getR (pc := 97) dX8_copy_97 fl_X8_46 sh_221 rfl ?_
            refine g_iload_n (pc := 100) dX8_copy_100 rfl rfl ?_
            obtain ⟨v33, ev33, hf⟩ := job hf
            refine g_iald (pc := 101) dX8_copy_101 sh_234 ev33 ?_
            refine g_aload_n (pc := 102) dX8_copy_102 rfl rfl ?_
            refine g_getR (pc := 103) dX8_copy_103 fl_X8_46 sh_221 rfl ?_
            refine g_iload_n (pc := 106) dX8_copy_106 rfl rfl ?_
            obtain ⟨v34, ev34, hf⟩ := job hf
            refine g_iald (pc := 107) dX8_copy_107 sh_234 ev34 ?_
            refine g_icmp_eq (pc := 108) 115 dX8_copy_108 rfl (fun hc36 => ?_) (fun hc36 => ?_)
            · replace hf := jifp hc36 hf
              refine g_iload (pc := 115) dX8_copy_115 rfl ?_
              refine g_if_ne (pc := 117) 124 dX8_copy_117 rfl (fun hc35 => ?_) (fun hc35 => ?_)
              · replace hf := jifn hc35 hf
                refine g_iconst (pc := 124) 0 dX8_copy_124 rfl ?_
                obtain rfl := Option.some.inj hf
                replace hf := hy28
                obtain rfl := Option.some.inj hf
                exact g_weakK (K25) ⟨rfl, ⟨rfl, ⟨rfl, ⟨rfl, ⟨rfl, ⟨rfl, trivial⟩⟩⟩⟩⟩⟩
              · replace hf := jifp hc35 hf
                refine g_iconst (pc := 120) 3 dX8_copy_120 rfl ?_
                refine g_goto (pc := 121) 125 dX8_copy_121 rfl ?_
                obtain rfl := Option.some.inj hf
                replace hf := hy28
                obtain rfl := Option.some.inj hf
                exact g_weakK (K25) ⟨rfl, ⟨rfl, ⟨rfl, ⟨rfl, ⟨rfl, ⟨rfl, trivial⟩⟩⟩⟩⟩⟩
            · replace hf := jifn hc36 hf
              refine g_iconst (pc := 111) 2 dX8_copy_111 rfl ?_
              refine g_goto (pc := 112) 125 dX8_copy_112 rfl ?_
              obtain rfl := Option.some.inj hf
              replace hf := hy28
              obtain rfl := Option.some.inj hf
              exact g_weakK (K25) ⟨rfl, ⟨rfl, ⟨rfl, ⟨rfl, ⟨rfl, ⟨rfl, trivial⟩⟩⟩⟩⟩⟩
          · replace hf := jifn hc37 hf
            exact g_weakK (K30 (Option.some.inj hf).symm) ⟨rfl, ⟨rfl, ⟨rfl, ⟨rfl, ⟨rfl, ⟨rfl, trivial⟩⟩⟩⟩⟩⟩
      obtain ⟨y10, hf, hy9⟩ := jcb hf
      have K11 : y10 = Sum.inr () → jGG μ_X8_copy 3 70 [some (.ref 221), some (.int x1), some (.int x2), some (.int x3), some (.int x4), some (.int x5), none, none] [] M (fun M' r' => M' = Mz ∧ r' = some (.int r)) := by
        intro hyy
        subst hyy
        replace hf := hy9
        refine g_iconst (pc := 70) 0 dX8_copy_70 rfl ?_
        obtain rfl := Option.some.inj hf
        exact g_weakK (K6 (Or.inl rfl)) ⟨rfl, ⟨rfl, ⟨rfl, ⟨rfl, ⟨rfl, ⟨rfl, trivial⟩⟩⟩⟩⟩⟩
      refine g_if_lt (pc := 18) 70 dX8_copy_18 rfl (fun hc19 => ?_) (fun hc19 => ?_)
      · replace hf := jifp hc19 hf
        exact g_weakK (K11 (Option.some.inj hf).symm) ⟨rfl, ⟨rfl, ⟨rfl, ⟨rfl, ⟨rfl, ⟨rfl, trivial⟩⟩⟩⟩⟩⟩
      · replace hf := jifn hc19 hf
        refine g_iload (pc := 21) dX8_copy_21 rfl ?_
        refine g_if_lt (pc := 23) 70 dX8_copy_23 rfl (fun hc18 => ?_) (fun hc18 => ?_)
        · replace hf := jifp hc18 hf
          exact g_weakK (K11 (Option.some.inj hf).symm) ⟨rfl, ⟨rfl, ⟨rfl, ⟨rfl, ⟨rfl, ⟨rfl, trivial⟩⟩⟩⟩⟩⟩
        · replace hf := jifn hc18 hf
          refine g_iload (pc := 26) dX8_copy_26 rfl ?_
          refine g_if_lt (pc := 28) 70 dX8_copy_28 rfl (fun hc17 => ?_) (fun hc17 => ?_)
          · replace hf := jifp hc17 hf
            exact g_weakK (K11 (Option.some.inj hf).symm) ⟨rfl, ⟨rfl, ⟨rfl, ⟨rfl, ⟨rfl, ⟨rfl, trivial⟩⟩⟩⟩⟩⟩
          · replace hf := jifn hc17 hf
            refine g_iload_n (pc := 31) dX8_copy_31 rfl rfl ?_
            refine g_i2l (pc := 32) dX8_copy_32 ?_
            refine g_iload (pc := 33) dX8_copy_33 rfl ?_
            refine g_i2l (pc := 35) dX8_copy_35 ?_
            refine g_ladd (pc := 36) dX8_copy_36 ?_
            refine g_aload_n (pc := 37) dX8_copy_37 rfl rfl ?_
            refine g_getR (pc := 38) dX8_copy_38 fl_X8_43 sh_221 rfl ?_
            refine g_iload_n (pc := 41) dX8_copy_41 rfl rfl ?_
            obtain ⟨v13, ev13, hf⟩ := job hf
            refine g_iald (pc := 42) dX8_copy_42 sh_233 ev13 ?_
            refine g_i2l (pc := 43) dX8_copy_43 ?_
            refine g_lcmp (pc := 44) dX8_copy_44 ?_
            refine g_if_gt (pc := 45) 70 dX8_copy_45 rfl (fun hc16 => ?_) (fun hc16 => ?_)
            · replace hf := jifp hc16 hf
              exact g_weakK (K11 (Option.some.inj hf).symm) ⟨rfl, ⟨rfl, ⟨rfl, ⟨rfl, ⟨rfl, ⟨rfl, trivial⟩⟩⟩⟩⟩⟩
            · replace hf := jifn hc16 hf
              refine g_iload (pc := 48) dX8_copy_48 rfl ?_
              refine g_i2l (pc := 50) dX8_copy_50 ?_
              refine g_iload (pc := 51) dX8_copy_51 rfl ?_
              refine g_i2l (pc := 53) dX8_copy_53 ?_
              refine g_ladd (pc := 54) dX8_copy_54 ?_
              refine g_aload_n (pc := 55) dX8_copy_55 rfl rfl ?_
              refine g_getR (pc := 56) dX8_copy_56 fl_X8_43 sh_221 rfl ?_
              refine g_iload_n (pc := 59) dX8_copy_59 rfl rfl ?_
              obtain ⟨v14, ev14, hf⟩ := job hf
              refine g_iald (pc := 60) dX8_copy_60 sh_233 ev14 ?_
              refine g_i2l (pc := 61) dX8_copy_61 ?_
              refine g_lcmp (pc := 62) dX8_copy_62 ?_
              refine g_if_gt (pc := 63) 70 dX8_copy_63 rfl (fun hc15 => ?_) (fun hc15 => ?_)
              · replace hf := jifp hc15 hf
                exact g_weakK (K11 (Option.some.inj hf).symm) ⟨rfl, ⟨rfl, ⟨rfl, ⟨rfl, ⟨rfl, ⟨rfl, trivial⟩⟩⟩⟩⟩⟩
              · replace hf := jifn hc15 hf
                refine g_iconst (pc := 66) 1 dX8_copy_66 rfl ?_
                refine g_goto (pc := 67) 71 dX8_copy_67 rfl ?_
                obtain rfl := Option.some.inj hf
                replace hf := hy9
                obtain rfl := Option.some.inj hf
                exact g_weakK (K6 (Or.inr rfl)) ⟨rfl, ⟨rfl, ⟨rfl, ⟨rfl, ⟨rfl, ⟨rfl, trivial⟩⟩⟩⟩⟩⟩
    · replace hf := jifp hc66 hf
      refine g_ldc (pc := 14) (-100001) dX8_copy_14 lc_X8_146 ?_
      obtain ⟨rfl, rfl⟩ := Prod.mk.inj (Option.some.inj hf)
      exact g_iret (pc := 16) dX8_copy_16 rfl ⟨rfl, rfl⟩
def f_X8_read (N : Nat) (M : JMem) (x1 : Int32) (x2 : Int32) : Option (JMem × Int32) := (f_X8_isSheet M x1).bind fun v1 => (if v1 = 0 then some (M, (-100001)) else (if (jin3 x2.toInt64 0 9) = 0 then some (M, (-100002)) else (jrd M 233 6 x1).bind fun v2 => (((if 0 ≤ v2 then (jrd M 233 6 x1).bind fun v8 => (if (v8 - v8 / 2 * 2) = 0 then some (0) else some (3)) else some (1)) : Option (Int32)).bind fun u11 => (if u11 ≤ 0 then (jrd M 233 6 x1).bind fun v12 => ((jLp (σ := Int32 × Int32) (ρ := Int32) N (fun ((z19, z20) : Int32 × Int32) => (if (v12 / 2) ≤ z20 then some (Sum.inr z19) else (((jcase (α := Int32) (β := Unit) (if z19 = 0 then some (Sum.inr ()) else (jrd M 235 240 ((40 * x1) + (2 * z20))).bind fun v32 => (if (jin3 v32.toInt64 0 (((M 221 2) - 1).toInt64)) = 0 then some (Sum.inr ()) else (jrd M 235 240 (((40 * x1) + (2 * z20)) + 1)).bind fun v33 => (if (jin3 v33.toInt64 1 1000) = 0 then some (Sum.inr ()) else some (Sum.inl (1))))) fun _ => some (0)) : Option (Int32)).bind fun u37 => some (Sum.inl (u37, z20 + 1))))) (1, 0)).bind fun t21 => (if t21 = 0 then some (M, (-100003)) else (if (M 221 6) = 12 then some (M, (-100004)) else (if 8 < (v12 / 2) then some (M, (-100004)) else (if ((M 221 11) + (v12 / 2)) ≤ 32 then (some (jup M 221 14 0)).bind fun M39 => (jwr M39 224 12 (M39 221 6) x2).bind fun M40 => (jwr M40 225 12 (M40 221 6) 0).bind fun M41 => (some (jup M41 221 6 ((M41 221 6) + 1))).bind fun M42 => ((jLp (σ := Int32 × JMem) (ρ := JMem) N (fun ((z49, M50) : Int32 × JMem) => (if (v12 / 2) ≤ z49 then some (Sum.inr M50) else (jrd M50 235 240 ((40 * x1) + (2 * z49))).bind fun v52 => (jrd M50 235 240 (((40 * x1) + (2 * z49)) + 1)).bind fun v53 => (f_X8_more M50 ((M50 221 6) - 1) v52 v53).bind fun (M54, v55) => some (Sum.inl (z49 + 1, M54)))) (0, M42)).bind fun t51 => some (t51, (t51 221 6) - 1)) else some (M, (-100004))))))) else (some (jup M 221 14 u11)).bind fun M61 => some (M61, 0)))))
set_option maxHeartbeats 4000000 in
theorem c_X8_read {N : Nat} {M : JMem} {x1 : Int32} {x2 : Int32} {Mz : JMem} {r : Int32} (hf : f_X8_read N M x1 x2 = some (Mz, r)) : jCo yX8_read μ_X8_read 3 M [.ref 221, .int x1, .int x2] Mz (some (.int r)) := by
  refine jCt_of (by decide +kernel) rfl (by simp [Value.category]) (Nat.le_of_ble_eq_true rfl) ?_
  unfold f_X8_read at hf
  show jGG μ_X8_read 3 0 [some (.ref 221), some (.int x1), some (.int x2), none, none, none, none, none] [] M (fun M' r' => M' = Mz ∧ r' = some (.int r))
  refine g_iload_n (pc := 0) dX8_read_0 rfl rfl ?_
  obtain ⟨v1, ev1, hf⟩ := job hf
  refine g_callS (pc := 1) [.int x1] [] dX8_read_1 ml_X8_171 ck_X8_isSheet cs_X8_isSheet rfl (by decide) (Nat.le_of_ble_eq_true rfl) (c_X8_isSheet ev1) ?_
  show jGG μ_X8_read 3 4 [some (.ref 221), some (.int x1), some (.int x2), none, none, none, none, none] [.int v1] M (fun M' r' => M' = Mz ∧ r' = some (.int r))
  refine g_if_ne (pc := 4) 10 dX8_read_4 rfl (fun hc64 => ?_) (fun hc64 => ?_)
  · replace hf := jifn hc64 hf
    refine g_iload_n (pc := 10) dX8_read_10 rfl rfl ?_
    refine g_i2l (pc := 11) dX8_read_11 ?_
    refine g_lconst (pc := 12) 0 dX8_read_12 rfl ?_
    refine g_ldc2 (pc := 13) 9 dX8_read_13 lcl_X8_138 ?_
    refine g_callS (pc := 16) [.long x2.toInt64, .long 0, .long 9] [] dX8_read_16 ml_X8_124 ck_X8_in cs_X8_in rfl (by decide) (Nat.le_of_ble_eq_true rfl) c_in ?_
    show jGG μ_X8_read 3 19 [some (.ref 221), some (.int x1), some (.int x2), none, none, none, none, none] [.int (jin3 x2.toInt64 0 9)] M (fun M' r' => M' = Mz ∧ r' = some (.int r))
    refine g_if_ne (pc := 19) 25 dX8_read_19 rfl (fun hc63 => ?_) (fun hc63 => ?_)
    · replace hf := jifn hc63 hf
      refine g_aload_n (pc := 25) dX8_read_25 rfl rfl ?_
      refine g_getR (pc := 26) dX8_read_26 fl_X8_43 sh_221 rfl ?_
      refine g_iload_n (pc := 29) dX8_read_29 rfl rfl ?_
      obtain ⟨v2, ev2, hf⟩ := job hf
      refine g_iald (pc := 30) dX8_read_30 sh_233 ev2 ?_
      obtain ⟨u11, hf, hy4⟩ := job hf
      have K6 : jGG μ_X8_read 3 54 [some (.ref 221), some (.int x1), some (.int x2), none, none, none, none, none] [.int u11] M (fun M' r' => M' = Mz ∧ r' = some (.int r)) := by
        replace hf := hy4
        refine g_istore_n (pc := 54) (lv' := [some (.ref 221), some (.int x1), some (.int x2), some (.int u11), none, none, none, none]) dX8_read_54 rfl (by decide) rfl ?_
        refine g_iload_n (pc := 55) dX8_read_55 rfl rfl ?_
        refine g_if_le (pc := 56) 66 dX8_read_56 rfl (fun hc62 => ?_) (fun hc62 => ?_)
        · replace hf := jifp hc62 hf
          refine g_aload_n (pc := 66) dX8_read_66 rfl rfl ?_
          refine g_getR (pc := 67) dX8_read_67 fl_X8_43 sh_221 rfl ?_
          refine g_iload_n (pc := 70) dX8_read_70 rfl rfl ?_
          obtain ⟨v12, ev12, hf⟩ := job hf
          refine g_iald (pc := 71) dX8_read_71 sh_233 ev12 ?_
          refine g_iconst (pc := 72) 2 dX8_read_72 rfl ?_
          refine g_idiv (pc := 73) dX8_read_73 (by decide) ?_
          refine g_istore (pc := 74) (lv' := [some (.ref 221), some (.int x1), some (.int x2), some (.int u11), some (.int (v12 / 2)), none, none, none]) dX8_read_74 (by decide) rfl ?_
          refine g_iconst (pc := 76) 1 dX8_read_76 rfl ?_
          refine g_istore (pc := 77) (lv' := [some (.ref 221), some (.int x1), some (.int x2), some (.int u11), some (.int (v12 / 2)), some (.int 1), none, none]) dX8_read_77 (by decide) rfl ?_
          refine g_iconst (pc := 79) 0 dX8_read_79 rfl ?_
          refine g_istore (pc := 80) (lv' := [some (.ref 221), some (.int x1), some (.int x2), some (.int u11), some (.int (v12 / 2)), some (.int 1), some (.int 0), none]) dX8_read_80 (by decide) rfl ?_
          obtain ⟨t21, y14, hy13⟩ := job hf
          have K15 : jGG μ_X8_read 3 163 [some (.ref 221), some (.int x1), some (.int x2), none, some (.int (v12 / 2)), some (.int t21), none, none] [] M (fun M' r' => M' = Mz ∧ r' = some (.int r)) := by
            replace hf := hy13
            refine g_iload (pc := 163) dX8_read_163 rfl ?_
            refine g_if_ne (pc := 165) 171 dX8_read_165 rfl (fun hc60 => ?_) (fun hc60 => ?_)
            · replace hf := jifn hc60 hf
              refine g_aload_n (pc := 171) dX8_read_171 rfl rfl ?_
              refine g_getI (pc := 172) dX8_read_172 fl_X8_140 sh_221 rfl ?_
              refine g_bipush (pc := 175) 12 dX8_read_175 rfl ?_
              refine g_icmp_eq (pc := 177) 199 dX8_read_177 rfl (fun hc59 => ?_) (fun hc59 => ?_)
              · replace hf := jifp hc59 hf
                refine g_ldc (pc := 199) (-100004) dX8_read_199 lc_X8_137 ?_
                obtain ⟨rfl, rfl⟩ := Prod.mk.inj (Option.some.inj hf)
                exact g_iret (pc := 201) dX8_read_201 rfl ⟨rfl, rfl⟩
              · replace hf := jifn hc59 hf
                refine g_iload (pc := 180) dX8_read_180 rfl ?_
                refine g_bipush (pc := 182) 8 dX8_read_182 rfl ?_
                refine g_icmp_gt (pc := 184) 199 dX8_read_184 rfl (fun hc58 => ?_) (fun hc58 => ?_)
                · replace hf := jifp hc58 hf
                  refine g_ldc (pc := 199) (-100004) dX8_read_199 lc_X8_137 ?_
                  obtain ⟨rfl, rfl⟩ := Prod.mk.inj (Option.some.inj hf)
                  exact g_iret (pc := 201) dX8_read_201 rfl ⟨rfl, rfl⟩
                · replace hf := jifn hc58 hf
                  refine g_aload_n (pc := 187) dX8_read_187 rfl rfl ?_
                  refine g_getI (pc := 188) dX8_read_188 fl_X8_143 sh_221 rfl ?_
                  refine g_iload (pc := 191) dX8_read_191 rfl ?_
                  refine g_iadd (pc := 193) dX8_read_193 ?_
                  refine g_bipush (pc := 194) 32 dX8_read_194 rfl ?_
                  refine g_icmp_le (pc := 196) 202 dX8_read_196 rfl (fun hc57 => ?_) (fun hc57 => ?_)
                  · replace hf := jifp hc57 hf
                    refine g_aload_n (pc := 202) dX8_read_202 rfl rfl ?_
                    refine g_iconst (pc := 203) 0 dX8_read_203 rfl ?_
                    refine g_putI (pc := 204) dX8_read_204 fp_X8_176 sh_221 rfl ?_
                    obtain ⟨M39, eM39, hf⟩ := job hf
                    rw [Option.some.inj eM39]
                    refine g_aload_n (pc := 207) dX8_read_207 rfl rfl ?_
                    refine g_getR (pc := 208) dX8_read_208 fl_X8_16 sh_221 rfl ?_
                    refine g_aload_n (pc := 211) dX8_read_211 rfl rfl ?_
                    refine g_getI (pc := 212) dX8_read_212 fl_X8_140 sh_221 rfl ?_
                    refine g_iload_n (pc := 215) dX8_read_215 rfl rfl ?_
                    obtain ⟨M40, eM40, hf⟩ := job hf
                    refine g_iast (pc := 216) dX8_read_216 sh_224 eM40 ?_
                    refine g_aload_n (pc := 217) dX8_read_217 rfl rfl ?_
                    refine g_getR (pc := 218) dX8_read_218 fl_X8_19 sh_221 rfl ?_
                    refine g_aload_n (pc := 221) dX8_read_221 rfl rfl ?_
                    refine g_getI (pc := 222) dX8_read_222 fl_X8_140 sh_221 rfl ?_
                    refine g_iconst (pc := 225) 0 dX8_read_225 rfl ?_
                    obtain ⟨M41, eM41, hf⟩ := job hf
                    refine g_iast (pc := 226) dX8_read_226 sh_225 eM41 ?_
                    refine g_aload_n (pc := 227) dX8_read_227 rfl rfl ?_
                    refine g_dup (pc := 228) dX8_read_228 rfl ?_
                    refine g_getI (pc := 229) dX8_read_229 fl_X8_140 sh_221 rfl ?_
                    refine g_iconst (pc := 232) 1 dX8_read_232 rfl ?_
                    refine g_iadd (pc := 233) dX8_read_233 ?_
                    refine g_putI (pc := 234) dX8_read_234 fp_X8_140 sh_221 rfl ?_
                    obtain ⟨M42, eM42, hf⟩ := job hf
                    rw [Option.some.inj eM42]
                    refine g_iconst (pc := 237) 0 dX8_read_237 rfl ?_
                    refine g_istore (pc := 238) (lv' := [some (.ref 221), some (.int x1), some (.int x2), none, some (.int (v12 / 2)), some (.int t21), some (.int 0), none]) dX8_read_238 (by decide) rfl ?_
                    obtain ⟨t51, y44, hy43⟩ := job hf
                    have K45 : jGG μ_X8_read 3 295 [some (.ref 221), none, none, none, none, none, none, none] [] t51 (fun M' r' => M' = Mz ∧ r' = some (.int r)) := by
                      replace hf := hy43
                      refine g_aload_n (pc := 295) dX8_read_295 rfl rfl ?_
                      refine g_getI (pc := 296) dX8_read_296 fl_X8_140 sh_221 rfl ?_
                      refine g_iconst (pc := 299) 1 dX8_read_299 rfl ?_
                      refine g_isub (pc := 300) dX8_read_300 ?_
                      obtain ⟨rfl, rfl⟩ := Prod.mk.inj (Option.some.inj hf)
                      exact g_iret (pc := 301) dX8_read_301 rfl ⟨rfl, rfl⟩
                    refine g_weak (lv' := [some (.ref 221), some (.int x1), none, none, some (.int (v12 / 2)), none, some (.int 0), none]) ⟨rfl, ⟨rfl, ⟨rfl, ⟨rfl, trivial⟩⟩⟩⟩ ?_
                    refine jLp_ind (P := fun ((z49, M50) : Int32 × JMem) => jGG μ_X8_read 3 240 [some (.ref 221), some (.int x1), none, none, some (.int (v12 / 2)), none, some (.int z49), none] [] M50 (fun M' r' => M' = Mz ∧ r' = some (.int r))) ?_ N _ y44
                    rintro ⟨z49, M50⟩ x_48 hf ih47 hx46
                    show jGG μ_X8_read 3 240 [some (.ref 221), some (.int x1), none, none, some (.int (v12 / 2)), none, some (.int z49), none] [] M50 (fun M' r' => M' = Mz ∧ r' = some (.int r))
                    refine g_iload (pc := 240) dX8_read_240 rfl ?_
                    refine g_iload (pc := 242) dX8_read_242 rfl ?_
                    refine g_icmp_ge (pc := 244) 295 dX8_read_244 rfl (fun hc56 => ?_) (fun hc56 => ?_)
                    · replace hf := jifp hc56 hf
                      have hf := hx46 _ (Option.some.inj hf).symm
                      obtain rfl := hf
                      exact g_weakK K45 ⟨rfl, trivial⟩
                    · replace hf := jifn hc56 hf
                      refine g_aload_n (pc := 247) dX8_read_247 rfl rfl ?_
                      refine g_aload_n (pc := 248) dX8_read_248 rfl rfl ?_
                      refine g_getI (pc := 249) dX8_read_249 fl_X8_140 sh_221 rfl ?_
                      refine g_iconst (pc := 252) 1 dX8_read_252 rfl ?_
                      refine g_isub (pc := 253) dX8_read_253 ?_
                      refine g_aload_n (pc := 254) dX8_read_254 rfl rfl ?_
                      refine g_getR (pc := 255) dX8_read_255 fl_X8_49 sh_221 rfl ?_
                      refine g_bipush (pc := 258) 40 dX8_read_258 rfl ?_
                      refine g_iload_n (pc := 260) dX8_read_260 rfl rfl ?_
                      refine g_imul (pc := 261) dX8_read_261 ?_
                      refine g_iconst (pc := 262) 2 dX8_read_262 rfl ?_
                      refine g_iload (pc := 263) dX8_read_263 rfl ?_
                      refine g_imul (pc := 265) dX8_read_265 ?_
                      refine g_iadd (pc := 266) dX8_read_266 ?_
                      obtain ⟨v52, ev52, hf⟩ := job hf
                      refine g_iald (pc := 267) dX8_read_267 sh_235 ev52 ?_
                      refine g_aload_n (pc := 268) dX8_read_268 rfl rfl ?_
                      refine g_getR (pc := 269) dX8_read_269 fl_X8_49 sh_221 rfl ?_
                      refine g_bipush (pc := 272) 40 dX8_read_272 rfl ?_
                      refine g_iload_n (pc := 274) dX8_read_274 rfl rfl ?_
                      refine g_imul (pc := 275) dX8_read_275 ?_
                      refine g_iconst (pc := 276) 2 dX8_read_276 rfl ?_
                      refine g_iload (pc := 277) dX8_read_277 rfl ?_
                      refine g_imul (pc := 279) dX8_read_279 ?_
                      refine g_iadd (pc := 280) dX8_read_280 ?_
                      refine g_iconst (pc := 281) 1 dX8_read_281 rfl ?_
                      refine g_iadd (pc := 282) dX8_read_282 ?_
                      obtain ⟨v53, ev53, hf⟩ := job hf
                      refine g_iald (pc := 283) dX8_read_283 sh_235 ev53 ?_
                      obtain ⟨⟨M54, v55⟩, ev55, hf⟩ := job hf
                      refine g_callV (pc := 284) [.int ((M50 221 6) - 1), .int v52, .int v53] [] dX8_read_284 ml_X8_149 ck_X8_more cv_X8_more sh_221 rfl (by decide) (Nat.le_of_ble_eq_true rfl) (c_X8_more ev55) ?_
                      show jGG μ_X8_read 3 287 [some (.ref 221), some (.int x1), none, none, some (.int (v12 / 2)), none, some (.int z49), none] [.int v55] M54 (fun M' r' => M' = Mz ∧ r' = some (.int r))
                      refine g_istore (pc := 287) (lv' := [some (.ref 221), some (.int x1), none, none, some (.int (v12 / 2)), none, some (.int z49), some (.int v55)]) dX8_read_287 (by decide) rfl ?_
                      refine g_iinc (pc := 289) (lv' := [some (.ref 221), some (.int x1), none, none, some (.int (v12 / 2)), none, some (.int (z49 + 1)), some (.int v55)]) (z49 + 1) dX8_read_289 rfl rfl (by decide) rfl ?_
                      refine g_goto (pc := 292) 240 dX8_read_292 rfl ?_
                      have hih : jGG μ_X8_read 3 240 [some (.ref 221), some (.int x1), none, none, some (.int (v12 / 2)), none, some (.int (z49 + 1)), none] [] M54 (fun M' r' => M' = Mz ∧ r' = some (.int r)) := ih47 (z49 + 1, M54) (Option.some.inj hf).symm
                      exact g_weakK hih ⟨rfl, ⟨rfl, ⟨rfl, ⟨rfl, trivial⟩⟩⟩⟩
                  · replace hf := jifn hc57 hf
                    refine g_ldc (pc := 199) (-100004) dX8_read_199 lc_X8_137 ?_
                    obtain ⟨rfl, rfl⟩ := Prod.mk.inj (Option.some.inj hf)
                    exact g_iret (pc := 201) dX8_read_201 rfl ⟨rfl, rfl⟩
            · replace hf := jifp hc60 hf
              refine g_ldc (pc := 168) (-100003) dX8_read_168 lc_X8_179 ?_
              obtain ⟨rfl, rfl⟩ := Prod.mk.inj (Option.some.inj hf)
              exact g_iret (pc := 170) dX8_read_170 rfl ⟨rfl, rfl⟩
          refine g_weak (lv' := [some (.ref 221), some (.int x1), some (.int x2), none, some (.int (v12 / 2)), some (.int 1), some (.int 0), none]) ⟨rfl, ⟨rfl, ⟨rfl, ⟨rfl, ⟨rfl, ⟨rfl, trivial⟩⟩⟩⟩⟩⟩ ?_
          refine jLp_ind (P := fun ((z19, z20) : Int32 × Int32) => jGG μ_X8_read 3 82 [some (.ref 221), some (.int x1), some (.int x2), none, some (.int (v12 / 2)), some (.int z19), some (.int z20), none] [] M (fun M' r' => M' = Mz ∧ r' = some (.int r))) ?_ N _ y14
          rintro ⟨z19, z20⟩ x_18 hf ih17 hx16
          show jGG μ_X8_read 3 82 [some (.ref 221), some (.int x1), some (.int x2), none, some (.int (v12 / 2)), some (.int z19), some (.int z20), none] [] M (fun M' r' => M' = Mz ∧ r' = some (.int r))
          refine g_iload (pc := 82) dX8_read_82 rfl ?_
          refine g_iload (pc := 84) dX8_read_84 rfl ?_
          refine g_icmp_ge (pc := 86) 163 dX8_read_86 rfl (fun hc38 => ?_) (fun hc38 => ?_)
          · replace hf := jifp hc38 hf
            have hf := hx16 _ (Option.some.inj hf).symm
            obtain rfl := hf
            exact g_weakK K15 ⟨rfl, ⟨rfl, ⟨rfl, ⟨rfl, ⟨rfl, trivial⟩⟩⟩⟩⟩
          · replace hf := jifn hc38 hf
            refine g_iload (pc := 89) dX8_read_89 rfl ?_
            obtain ⟨u37, hf, hy23⟩ := job hf
            have K25 : (hbu37 : u37 = 0 ∨ u37 = 1) → jGG μ_X8_read 3 155 [some (.ref 221), some (.int x1), some (.int x2), none, some (.int (v12 / 2)), none, some (.int z20), none] [.int u37] M (fun M' r' => M' = Mz ∧ r' = some (.int r)) := by
              intro hbu37
              replace hf := hy23
              refine g_istore (pc := 155) (lv' := [some (.ref 221), some (.int x1), some (.int x2), none, some (.int (v12 / 2)), some (.int u37), some (.int z20), none]) dX8_read_155 (by decide) rfl ?_
              refine g_iinc (pc := 157) (lv' := [some (.ref 221), some (.int x1), some (.int x2), none, some (.int (v12 / 2)), some (.int u37), some (.int (z20 + 1)), none]) (z20 + 1) dX8_read_157 rfl rfl (by decide) rfl ?_
              refine g_goto (pc := 160) 82 dX8_read_160 rfl ?_
              have hih : jGG μ_X8_read 3 82 [some (.ref 221), some (.int x1), some (.int x2), none, some (.int (v12 / 2)), some (.int u37), some (.int (z20 + 1)), none] [] M (fun M' r' => M' = Mz ∧ r' = some (.int r)) := ih17 (u37, z20 + 1) (Option.some.inj hf).symm
              exact g_weakK hih ⟨rfl, ⟨rfl, ⟨rfl, ⟨rfl, ⟨rfl, ⟨rfl, trivial⟩⟩⟩⟩⟩⟩
            obtain ⟨y29, hf, hy28⟩ := jcb hf
            have K30 : y29 = Sum.inr () → jGG μ_X8_read 3 154 [some (.ref 221), some (.int x1), some (.int x2), none, some (.int (v12 / 2)), none, some (.int z20), none] [] M (fun M' r' => M' = Mz ∧ r' = some (.int r)) := by
              intro hyy
              subst hyy
              replace hf := hy28
              refine g_iconst (pc := 154) 0 dX8_read_154 rfl ?_
              obtain rfl := Option.some.inj hf
              exact g_weakK (K25 (Or.inl rfl)) ⟨rfl, ⟨rfl, ⟨rfl, ⟨rfl, ⟨rfl, trivial⟩⟩⟩⟩⟩
            refine g_if_eq (pc := 91) 154 dX8_read_91 rfl (fun hc36 => ?_) (fun hc36 => ?_)
            · replace hf := jifp hc36 hf
              exact g_weakK (K30 (Option.some.inj hf).symm) ⟨rfl, ⟨rfl, ⟨rfl, ⟨rfl, ⟨rfl, trivial⟩⟩⟩⟩⟩
            · replace hf := jifn hc36 hf
              refine g_aload_n (pc := 94) dX8_read_94 rfl rfl ?_
              refine g_getR (pc := 95) dX8_read_95 fl_X8_49 sh_221 rfl ?_
              refine g_bipush (pc := 98) 40 dX8_read_98 rfl ?_
              refine g_iload_n (pc := 100) dX8_read_100 rfl rfl ?_
              refine g_imul (pc := 101) dX8_read_101 ?_
              refine g_iconst (pc := 102) 2 dX8_read_102 rfl ?_
              refine g_iload (pc := 103) dX8_read_103 rfl ?_
              refine g_imul (pc := 105) dX8_read_105 ?_
              refine g_iadd (pc := 106) dX8_read_106 ?_
              obtain ⟨v32, ev32, hf⟩ := job hf
              refine g_iald (pc := 107) dX8_read_107 sh_235 ev32 ?_
              refine g_i2l (pc := 108) dX8_read_108 ?_
              refine g_lconst (pc := 109) 0 dX8_read_109 rfl ?_
              refine g_aload_n (pc := 110) dX8_read_110 rfl rfl ?_
              refine g_getI (pc := 111) dX8_read_111 fl_X8_133 sh_221 rfl ?_
              refine g_iconst (pc := 114) 1 dX8_read_114 rfl ?_
              refine g_isub (pc := 115) dX8_read_115 ?_
              refine g_i2l (pc := 116) dX8_read_116 ?_
              refine g_callS (pc := 117) [.long v32.toInt64, .long 0, .long (((M 221 2) - 1).toInt64)] [] dX8_read_117 ml_X8_124 ck_X8_in cs_X8_in rfl (by decide) (Nat.le_of_ble_eq_true rfl) c_in ?_
              show jGG μ_X8_read 3 120 [some (.ref 221), some (.int x1), some (.int x2), none, some (.int (v12 / 2)), some (.int z19), some (.int z20), none] [.int (jin3 v32.toInt64 0 (((M 221 2) - 1).toInt64))] M (fun M' r' => M' = Mz ∧ r' = some (.int r))
              refine g_if_eq (pc := 120) 154 dX8_read_120 rfl (fun hc35 => ?_) (fun hc35 => ?_)
              · replace hf := jifp hc35 hf
                exact g_weakK (K30 (Option.some.inj hf).symm) ⟨rfl, ⟨rfl, ⟨rfl, ⟨rfl, ⟨rfl, trivial⟩⟩⟩⟩⟩
              · replace hf := jifn hc35 hf
                refine g_aload_n (pc := 123) dX8_read_123 rfl rfl ?_
                refine g_getR (pc := 124) dX8_read_124 fl_X8_49 sh_221 rfl ?_
                refine g_bipush (pc := 127) 40 dX8_read_127 rfl ?_
                refine g_iload_n (pc := 129) dX8_read_129 rfl rfl ?_
                refine g_imul (pc := 130) dX8_read_130 ?_
                refine g_iconst (pc := 131) 2 dX8_read_131 rfl ?_
                refine g_iload (pc := 132) dX8_read_132 rfl ?_
                refine g_imul (pc := 134) dX8_read_134 ?_
                refine g_iadd (pc := 135) dX8_read_135 ?_
                refine g_iconst (pc := 136) 1 dX8_read_136 rfl ?_
                refine g_iadd (pc := 137) dX8_read_137 ?_
                obtain ⟨v33, ev33, hf⟩ := job hf
                refine g_iald (pc := 138) dX8_read_138 sh_235 ev33 ?_
                refine g_i2l (pc := 139) dX8_read_139 ?_
                refine g_lconst (pc := 140) 1 dX8_read_140 rfl ?_
                refine g_ldc2 (pc := 141) 1000 dX8_read_141 lcl_X8_147 ?_
                refine g_callS (pc := 144) [.long v33.toInt64, .long 1, .long 1000] [] dX8_read_144 ml_X8_124 ck_X8_in cs_X8_in rfl (by decide) (Nat.le_of_ble_eq_true rfl) c_in ?_
                show jGG μ_X8_read 3 147 [some (.ref 221), some (.int x1), some (.int x2), none, some (.int (v12 / 2)), some (.int z19), some (.int z20), none] [.int (jin3 v33.toInt64 1 1000)] M (fun M' r' => M' = Mz ∧ r' = some (.int r))
                refine g_if_eq (pc := 147) 154 dX8_read_147 rfl (fun hc34 => ?_) (fun hc34 => ?_)
                · replace hf := jifp hc34 hf
                  exact g_weakK (K30 (Option.some.inj hf).symm) ⟨rfl, ⟨rfl, ⟨rfl, ⟨rfl, ⟨rfl, trivial⟩⟩⟩⟩⟩
                · replace hf := jifn hc34 hf
                  refine g_iconst (pc := 150) 1 dX8_read_150 rfl ?_
                  refine g_goto (pc := 151) 155 dX8_read_151 rfl ?_
                  obtain rfl := Option.some.inj hf
                  replace hf := hy28
                  obtain rfl := Option.some.inj hf
                  exact g_weakK (K25 (Or.inr rfl)) ⟨rfl, ⟨rfl, ⟨rfl, ⟨rfl, ⟨rfl, trivial⟩⟩⟩⟩⟩
        · replace hf := jifn hc62 hf
          refine g_aload_n (pc := 59) dX8_read_59 rfl rfl ?_
          refine g_iload_n (pc := 60) dX8_read_60 rfl rfl ?_
          refine g_putI (pc := 61) dX8_read_61 fp_X8_176 sh_221 rfl ?_
          obtain ⟨M61, eM61, hf⟩ := job hf
          rw [Option.some.inj eM61]
          refine g_iconst (pc := 64) 0 dX8_read_64 rfl ?_
          obtain ⟨rfl, rfl⟩ := Prod.mk.inj (Option.some.inj hf)
          exact g_iret (pc := 65) dX8_read_65 rfl ⟨rfl, rfl⟩
      refine g_if_ge (pc := 31) 38 dX8_read_31 rfl (fun hc10 => ?_) (fun hc10 => ?_)
      · replace hf := jifp hc10 hf
        refine g_aload_n (pc := 38) dX8_read_38 rfl rfl ?_
        refine g_getR (pc := 39) dX8_read_39 fl_X8_43 sh_221 rfl ?_
        refine g_iload_n (pc := 42) dX8_read_42 rfl rfl ?_
        obtain ⟨v8, ev8, hf⟩ := job hf
        refine g_iald (pc := 43) dX8_read_43 sh_233 ev8 ?_
        refine g_iconst (pc := 44) 2 dX8_read_44 rfl ?_
        refine g_irem (pc := 45) dX8_read_45 (by decide) ?_
        refine g_if_eq (pc := 46) 53 dX8_read_46 rfl (fun hc9 => ?_) (fun hc9 => ?_)
        · replace hf := jifp hc9 hf
          refine g_iconst (pc := 53) 0 dX8_read_53 rfl ?_
          obtain rfl := Option.some.inj hf
          exact g_weakK (K6) ⟨rfl, ⟨rfl, ⟨rfl, trivial⟩⟩⟩
        · replace hf := jifn hc9 hf
          refine g_iconst (pc := 49) 3 dX8_read_49 rfl ?_
          refine g_goto (pc := 50) 54 dX8_read_50 rfl ?_
          obtain rfl := Option.some.inj hf
          exact g_weakK (K6) ⟨rfl, ⟨rfl, ⟨rfl, trivial⟩⟩⟩
      · replace hf := jifn hc10 hf
        refine g_iconst (pc := 34) 1 dX8_read_34 rfl ?_
        refine g_goto (pc := 35) 54 dX8_read_35 rfl ?_
        obtain rfl := Option.some.inj hf
        exact g_weakK (K6) ⟨rfl, ⟨rfl, ⟨rfl, trivial⟩⟩⟩
    · replace hf := jifp hc63 hf
      refine g_ldc (pc := 22) (-100002) dX8_read_22 lc_X8_132 ?_
      obtain ⟨rfl, rfl⟩ := Prod.mk.inj (Option.some.inj hf)
      exact g_iret (pc := 24) dX8_read_24 rfl ⟨rfl, rfl⟩
  · replace hf := jifp hc64 hf
    refine g_ldc (pc := 7) (-100001) dX8_read_7 lc_X8_146 ?_
    obtain ⟨rfl, rfl⟩ := Prod.mk.inj (Option.some.inj hf)
    exact g_iret (pc := 9) dX8_read_9 rfl ⟨rfl, rfl⟩
