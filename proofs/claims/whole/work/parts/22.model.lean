def f_X8_slack (M : JMem) (x1 : Int32) : Option (Int32) := (jrd M 237 32 x1).bind fun v1 => (jrd M 229 32 x1).bind fun v2 => (jrd M 240 32 x1).bind fun v3 => some ((((M 221 21) - v1) - v2) - v3)
set_option maxHeartbeats 4000000 in
theorem c_X8_slack {M : JMem} {x1 : Int32} {r : Int32} (hf : f_X8_slack M x1 = some r) : jCo yX8_slack μ_X8_slack 1 M [.ref 221, .int x1] M (some (.int r)) := by
  refine jCt_of (by decide +kernel) rfl (by simp [Value.category]) (Nat.le_of_ble_eq_true rfl) ?_
  unfold f_X8_slack at hf
  show jGG μ_X8_slack 1 0 [some (.ref 221), some (.int x1)] [] M (fun M' r' => M' = M ∧ r' = some (.int r))
  refine g_aload_n (pc := 0) dX8_slack_0 rfl rfl ?_
  refine g_getI (pc := 1) dX8_slack_1 fl_X8_183 sh_221 rfl ?_
  refine g_aload_n (pc := 4) dX8_slack_4 rfl rfl ?_
  refine g_getR (pc := 5) dX8_slack_5 fl_X8_55 sh_221 rfl ?_
  refine g_iload_n (pc := 8) dX8_slack_8 rfl rfl ?_
  obtain ⟨v1, ev1, hf⟩ := job hf
  refine g_iald (pc := 9) dX8_slack_9 sh_237 ev1 ?_
  refine g_isub (pc := 10) dX8_slack_10 ?_
  refine g_aload_n (pc := 11) dX8_slack_11 rfl rfl ?_
  refine g_getR (pc := 12) dX8_slack_12 fl_X8_31 sh_221 rfl ?_
  refine g_iload_n (pc := 15) dX8_slack_15 rfl rfl ?_
  obtain ⟨v2, ev2, hf⟩ := job hf
  refine g_iald (pc := 16) dX8_slack_16 sh_229 ev2 ?_
  refine g_isub (pc := 17) dX8_slack_17 ?_
  refine g_aload_n (pc := 18) dX8_slack_18 rfl rfl ?_
  refine g_getR (pc := 19) dX8_slack_19 fl_X8_65 sh_221 rfl ?_
  refine g_iload_n (pc := 22) dX8_slack_22 rfl rfl ?_
  obtain ⟨v3, ev3, hf⟩ := job hf
  refine g_iald (pc := 23) dX8_slack_23 sh_240 ev3 ?_
  refine g_isub (pc := 24) dX8_slack_24 ?_
  obtain rfl := Option.some.inj hf
  exact g_iret (pc := 25) dX8_slack_25 rfl ⟨rfl, rfl⟩
def f_X8_tail (N : Nat) (M : JMem) (x1 : Int32) (x2 : Int32) : Option (JMem × Int32) := (f_X8_isStep M x1).bind fun v1 => (if v1 = 0 then some (M, (-100001)) else (if (jin3 x2.toInt64 0 1) = 0 then some (M, (-100002)) else (f_X8_hasTails N M).bind fun (M2, v3) => (if v3 = 0 then some (M2, (-100003)) else (if x2 = 0 then (jrd M2 240 32 x1).bind fun v5 => some (M2, v5) else (f_X8_slack M2 x1).bind fun v4 => some (M2, v4)))))
set_option maxHeartbeats 4000000 in
theorem c_X8_tail {N : Nat} {M : JMem} {x1 : Int32} {x2 : Int32} {Mz : JMem} {r : Int32} (hf : f_X8_tail N M x1 x2 = some (Mz, r)) : jCo yX8_tail μ_X8_tail 5 M [.ref 221, .int x1, .int x2] Mz (some (.int r)) := by
  refine jCt_of (by decide +kernel) rfl (by simp [Value.category]) (Nat.le_of_ble_eq_true rfl) ?_
  unfold f_X8_tail at hf
  show jGG μ_X8_tail 5 0 [some (.ref 221), some (.int x1), some (.int x2)] [] M (fun M' r' => M' = Mz ∧ r' = some (.int r))
  refine g_aload_n (pc := 0) dX8_tail_0 rfl rfl ?_
  refine g_iload_n (pc := 1) dX8_tail_1 rfl rfl ?_
  obtain ⟨v1, ev1, hf⟩ := job hf
  refine g_callV (pc := 2) [.int x1] [] dX8_tail_2 ml_X8_153 ck_X8_isStep cv_X8_isStep sh_221 rfl (by decide) (Nat.le_of_ble_eq_true rfl) (c_X8_isStep ev1) ?_
  show jGG μ_X8_tail 5 5 [some (.ref 221), some (.int x1), some (.int x2)] [.int v1] M (fun M' r' => M' = Mz ∧ r' = some (.int r))
  refine g_if_ne (pc := 5) 11 dX8_tail_5 rfl (fun hc9 => ?_) (fun hc9 => ?_)
  · replace hf := jifn hc9 hf
    refine g_iload_n (pc := 11) dX8_tail_11 rfl rfl ?_
    refine g_i2l (pc := 12) dX8_tail_12 ?_
    refine g_lconst (pc := 13) 0 dX8_tail_13 rfl ?_
    refine g_lconst (pc := 14) 1 dX8_tail_14 rfl ?_
    refine g_callS (pc := 15) [.long x2.toInt64, .long 0, .long 1] [] dX8_tail_15 ml_X8_124 ck_X8_in cs_X8_in rfl (by decide) (Nat.le_of_ble_eq_true rfl) c_in ?_
    show jGG μ_X8_tail 5 18 [some (.ref 221), some (.int x1), some (.int x2)] [.int (jin3 x2.toInt64 0 1)] M (fun M' r' => M' = Mz ∧ r' = some (.int r))
    refine g_if_ne (pc := 18) 24 dX8_tail_18 rfl (fun hc8 => ?_) (fun hc8 => ?_)
    · replace hf := jifn hc8 hf
      refine g_aload_n (pc := 24) dX8_tail_24 rfl rfl ?_
      obtain ⟨⟨M2, v3⟩, ev3, hf⟩ := job hf
      refine g_callV (pc := 25) [] [] dX8_tail_25 ml_X8_208 ck_X8_hasTails cv_X8_hasTails sh_221 rfl (by decide) (Nat.le_of_ble_eq_true rfl) (c_X8_hasTails ev3) ?_
      show jGG μ_X8_tail 5 28 [some (.ref 221), some (.int x1), some (.int x2)] [.int v3] M2 (fun M' r' => M' = Mz ∧ r' = some (.int r))
      refine g_if_ne (pc := 28) 36 dX8_tail_28 rfl (fun hc7 => ?_) (fun hc7 => ?_)
      · replace hf := jifn hc7 hf
        refine g_iload_n (pc := 36) dX8_tail_36 rfl rfl ?_
        refine g_if_ne (pc := 37) 49 dX8_tail_37 rfl (fun hc6 => ?_) (fun hc6 => ?_)
        · replace hf := jifn hc6 hf
          refine g_aload_n (pc := 49) dX8_tail_49 rfl rfl ?_
          refine g_iload_n (pc := 50) dX8_tail_50 rfl rfl ?_
          obtain ⟨v4, ev4, hf⟩ := job hf
          refine g_callV (pc := 51) [.int x1] [] dX8_tail_51 ml_X8_211 ck_X8_slack cv_X8_slack sh_221 rfl (by decide) (Nat.le_of_ble_eq_true rfl) (c_X8_slack ev4) ?_
          show jGG μ_X8_tail 5 54 [some (.ref 221), some (.int x1), some (.int x2)] [.int v4] M2 (fun M' r' => M' = Mz ∧ r' = some (.int r))
          obtain ⟨rfl, rfl⟩ := Prod.mk.inj (Option.some.inj hf)
          exact g_iret (pc := 54) dX8_tail_54 rfl ⟨rfl, rfl⟩
        · replace hf := jifp hc6 hf
          refine g_aload_n (pc := 40) dX8_tail_40 rfl rfl ?_
          refine g_getR (pc := 41) dX8_tail_41 fl_X8_65 sh_221 rfl ?_
          refine g_iload_n (pc := 44) dX8_tail_44 rfl rfl ?_
          obtain ⟨v5, ev5, hf⟩ := job hf
          refine g_iald (pc := 45) dX8_tail_45 sh_240 ev5 ?_
          refine g_goto (pc := 46) 54 dX8_tail_46 rfl ?_
          obtain ⟨rfl, rfl⟩ := Prod.mk.inj (Option.some.inj hf)
          exact g_iret (pc := 54) dX8_tail_54 rfl ⟨rfl, rfl⟩
      · replace hf := jifp hc7 hf
        refine g_ldc (pc := 31) (-100003) dX8_tail_31 lc_X8_179 ?_
        refine g_goto (pc := 33) 54 dX8_tail_33 rfl ?_
        obtain ⟨rfl, rfl⟩ := Prod.mk.inj (Option.some.inj hf)
        exact g_iret (pc := 54) dX8_tail_54 rfl ⟨rfl, rfl⟩
    · replace hf := jifp hc8 hf
      refine g_ldc (pc := 21) (-100002) dX8_tail_21 lc_X8_132 ?_
      obtain ⟨rfl, rfl⟩ := Prod.mk.inj (Option.some.inj hf)
      exact g_iret (pc := 23) dX8_tail_23 rfl ⟨rfl, rfl⟩
  · replace hf := jifp hc9 hf
    refine g_ldc (pc := 8) (-100001) dX8_tail_8 lc_X8_146 ?_
    obtain ⟨rfl, rfl⟩ := Prod.mk.inj (Option.some.inj hf)
    exact g_iret (pc := 10) dX8_tail_10 rfl ⟨rfl, rfl⟩
def f_X8_isNext (M : JMem) (x1 : Int32) (x2 : Int32) : Option (Int32) := (if x1 < 0 then some 0 else (jrd M 237 32 x1).bind fun v1 => (jrd M 237 32 x2).bind fun v2 => (jrd M 229 32 x2).bind fun v3 => (if v1 = (v2 + v3) then (f_X8_slack M x1).bind fun v4 => (if v4 = 0 then some 1 else some 0) else some 0))
set_option maxHeartbeats 4000000 in
theorem c_X8_isNext {M : JMem} {x1 : Int32} {x2 : Int32} {r : Int32} (hf : f_X8_isNext M x1 x2 = some r) : jCo yX8_isNext μ_X8_isNext 2 M [.ref 221, .int x1, .int x2] M (some (.int r)) := by
  refine jCt_of (by decide +kernel) rfl (by simp [Value.category]) (Nat.le_of_ble_eq_true rfl) ?_
  unfold f_X8_isNext at hf
  show jGG μ_X8_isNext 2 0 [some (.ref 221), some (.int x1), some (.int x2)] [] M (fun M' r' => M' = M ∧ r' = some (.int r))
  refine g_iload_n (pc := 0) dX8_isNext_0 rfl rfl ?_
  refine g_if_lt (pc := 1) 38 dX8_isNext_1 rfl (fun hc7 => ?_) (fun hc7 => ?_)
  · replace hf := jifp hc7 hf
    refine g_iconst (pc := 38) 0 dX8_isNext_38 rfl ?_
    obtain rfl := Option.some.inj hf
    exact g_zret (pc := 39) dX8_isNext_39 rfl (Or.inl rfl) ⟨rfl, rfl⟩
  · replace hf := jifn hc7 hf
    refine g_aload_n (pc := 4) dX8_isNext_4 rfl rfl ?_
    refine g_getR (pc := 5) dX8_isNext_5 fl_X8_55 sh_221 rfl ?_
    refine g_iload_n (pc := 8) dX8_isNext_8 rfl rfl ?_
    obtain ⟨v1, ev1, hf⟩ := job hf
    refine g_iald (pc := 9) dX8_isNext_9 sh_237 ev1 ?_
    refine g_aload_n (pc := 10) dX8_isNext_10 rfl rfl ?_
    refine g_getR (pc := 11) dX8_isNext_11 fl_X8_55 sh_221 rfl ?_
    refine g_iload_n (pc := 14) dX8_isNext_14 rfl rfl ?_
    obtain ⟨v2, ev2, hf⟩ := job hf
    refine g_iald (pc := 15) dX8_isNext_15 sh_237 ev2 ?_
    refine g_aload_n (pc := 16) dX8_isNext_16 rfl rfl ?_
    refine g_getR (pc := 17) dX8_isNext_17 fl_X8_31 sh_221 rfl ?_
    refine g_iload_n (pc := 20) dX8_isNext_20 rfl rfl ?_
    obtain ⟨v3, ev3, hf⟩ := job hf
    refine g_iald (pc := 21) dX8_isNext_21 sh_229 ev3 ?_
    refine g_iadd (pc := 22) dX8_isNext_22 ?_
    refine g_icmp_ne (pc := 23) 38 dX8_isNext_23 rfl (fun hc6 => ?_) (fun hc6 => ?_)
    · replace hf := jifn hc6 hf
      refine g_iconst (pc := 38) 0 dX8_isNext_38 rfl ?_
      obtain rfl := Option.some.inj hf
      exact g_zret (pc := 39) dX8_isNext_39 rfl (Or.inl rfl) ⟨rfl, rfl⟩
    · replace hf := jifp hc6 hf
      refine g_aload_n (pc := 26) dX8_isNext_26 rfl rfl ?_
      refine g_iload_n (pc := 27) dX8_isNext_27 rfl rfl ?_
      obtain ⟨v4, ev4, hf⟩ := job hf
      refine g_callV (pc := 28) [.int x1] [] dX8_isNext_28 ml_X8_211 ck_X8_slack cv_X8_slack sh_221 rfl (by decide) (Nat.le_of_ble_eq_true rfl) (c_X8_slack ev4) ?_
      show jGG μ_X8_isNext 2 31 [some (.ref 221), some (.int x1), some (.int x2)] [.int v4] M (fun M' r' => M' = M ∧ r' = some (.int r))
      refine g_if_ne (pc := 31) 38 dX8_isNext_31 rfl (fun hc5 => ?_) (fun hc5 => ?_)
      · replace hf := jifn hc5 hf
        refine g_iconst (pc := 38) 0 dX8_isNext_38 rfl ?_
        obtain rfl := Option.some.inj hf
        exact g_zret (pc := 39) dX8_isNext_39 rfl (Or.inl rfl) ⟨rfl, rfl⟩
      · replace hf := jifp hc5 hf
        refine g_iconst (pc := 34) 1 dX8_isNext_34 rfl ?_
        refine g_goto (pc := 35) 39 dX8_isNext_35 rfl ?_
        obtain rfl := Option.some.inj hf
        exact g_zret (pc := 39) dX8_isNext_39 rfl (Or.inr rfl) ⟨rfl, rfl⟩
def f_X8_row (N : Nat) (M : JMem) (x1 : Int32) : Option (JMem × Int32) := (f_X8_hasTails N M).bind fun (M1, v2) => (if v2 = 0 then some (M1, (-100003)) else ((jLp (σ := Int32) (ρ := Int32) N (fun (z9 : Int32) => (if (M1 221 11) ≤ z9 then some (Sum.inr z9) else (jrd M1 237 32 z9).bind fun v11 => (jcase (α := (Int32) ⊕ (Int32)) (β := Unit) (if v11 = 0 then (f_X8_slack M1 z9).bind fun v17 => (if v17 = 0 then some (Sum.inl (Sum.inr z9)) else some (Sum.inr ())) else some (Sum.inr ())) fun _ => some (Sum.inl (z9 + 1))))) 0).bind fun t10 => (if t10 = (M1 221 11) then some (M1, (-1)) else (if 0 ≤ x1 then ((jLp (σ := Int32 × Int32) (ρ := Int32) N (fun ((z27, z28) : Int32 × Int32) => (if x1 ≤ z28 then some (Sum.inr z27) else (if z27 < 0 then some (Sum.inr z27) else (f_X8_behind M1 z27).bind fun v30 => (f_X8_next N M1 z27).bind fun v31 => (f_X8_isNext M1 v30 z27).bind fun v32 => (((if v32 = 0 then (f_X8_isNext M1 v31 z27).bind fun v38 => (if v38 = 0 then some (((-1))) else some (v31)) else some (v30)) : Option (Int32)).bind fun u41 => some (Sum.inl (u41, z28 + 1)))))) (t10, 0)).bind fun t29 => some (M1, t29)) else some (M1, (-1))))))
set_option maxHeartbeats 4000000 in
theorem c_X8_row {N : Nat} {M : JMem} {x1 : Int32} {Mz : JMem} {r : Int32} (hf : f_X8_row N M x1 = some (Mz, r)) : jCo yX8_row μ_X8_row 5 M [.ref 221, .int x1] Mz (some (.int r)) := by
  refine jCt_of (by decide +kernel) rfl (by simp [Value.category]) (Nat.le_of_ble_eq_true rfl) ?_
  unfold f_X8_row at hf
  show jGG μ_X8_row 5 0 [some (.ref 221), some (.int x1), none, none, none, none] [] M (fun M' r' => M' = Mz ∧ r' = some (.int r))
  refine g_aload_n (pc := 0) dX8_row_0 rfl rfl ?_
  obtain ⟨⟨M1, v2⟩, ev2, hf⟩ := job hf
  refine g_callV (pc := 1) [] [] dX8_row_1 ml_X8_208 ck_X8_hasTails cv_X8_hasTails sh_221 rfl (by decide) (Nat.le_of_ble_eq_true rfl) (c_X8_hasTails ev2) ?_
  show jGG μ_X8_row 5 4 [some (.ref 221), some (.int x1), none, none, none, none] [.int v2] M1 (fun M' r' => M' = Mz ∧ r' = some (.int r))
  refine g_if_ne (pc := 4) 10 dX8_row_4 rfl (fun hc46 => ?_) (fun hc46 => ?_)
  · replace hf := jifn hc46 hf
    refine g_iconst (pc := 10) 0 dX8_row_10 rfl ?_
    refine g_istore_n (pc := 11) (lv' := [some (.ref 221), some (.int x1), some (.int 0), none, none, none]) dX8_row_11 rfl (by decide) rfl ?_
    obtain ⟨t10, y4, hy3⟩ := job hf
    have K5 : jGG μ_X8_row 5 43 [some (.ref 221), some (.int x1), some (.int t10), none, none, none] [] M1 (fun M' r' => M' = Mz ∧ r' = some (.int r)) := by
      replace hf := hy3
      refine g_iload_n (pc := 43) dX8_row_43 rfl rfl ?_
      refine g_aload_n (pc := 44) dX8_row_44 rfl rfl ?_
      refine g_getI (pc := 45) dX8_row_45 fl_X8_143 sh_221 rfl ?_
      refine g_icmp_eq (pc := 48) 55 dX8_row_48 rfl (fun hc45 => ?_) (fun hc45 => ?_)
      · replace hf := jifp hc45 hf
        refine g_iconst (pc := 55) (-1) dX8_row_55 rfl ?_
        obtain ⟨rfl, rfl⟩ := Prod.mk.inj (Option.some.inj hf)
        exact g_iret (pc := 56) dX8_row_56 rfl ⟨rfl, rfl⟩
      · replace hf := jifn hc45 hf
        refine g_iload_n (pc := 51) dX8_row_51 rfl rfl ?_
        refine g_if_ge (pc := 52) 57 dX8_row_52 rfl (fun hc44 => ?_) (fun hc44 => ?_)
        · replace hf := jifp hc44 hf
          refine g_iconst (pc := 57) 0 dX8_row_57 rfl ?_
          refine g_istore_n (pc := 58) (lv' := [some (.ref 221), some (.int x1), some (.int t10), some (.int 0), none, none]) dX8_row_58 rfl (by decide) rfl ?_
          obtain ⟨t29, y22, hy21⟩ := job hf
          have K23 : jGG μ_X8_row 5 120 [none, none, some (.int t29), none, none, none] [] M1 (fun M' r' => M' = Mz ∧ r' = some (.int r)) := by
            replace hf := hy21
            refine g_iload_n (pc := 120) dX8_row_120 rfl rfl ?_
            obtain ⟨rfl, rfl⟩ := Prod.mk.inj (Option.some.inj hf)
            exact g_iret (pc := 121) dX8_row_121 rfl ⟨rfl, rfl⟩
          refine g_weak (lv' := [some (.ref 221), some (.int x1), some (.int t10), some (.int 0), none, none]) ⟨rfl, ⟨rfl, ⟨rfl, ⟨rfl, trivial⟩⟩⟩⟩ ?_
          refine jLp_ind (P := fun ((z27, z28) : Int32 × Int32) => jGG μ_X8_row 5 59 [some (.ref 221), some (.int x1), some (.int z27), some (.int z28), none, none] [] M1 (fun M' r' => M' = Mz ∧ r' = some (.int r))) ?_ N _ y22
          rintro ⟨z27, z28⟩ x_26 hf ih25 hx24
          show jGG μ_X8_row 5 59 [some (.ref 221), some (.int x1), some (.int z27), some (.int z28), none, none] [] M1 (fun M' r' => M' = Mz ∧ r' = some (.int r))
          refine g_iload_n (pc := 59) dX8_row_59 rfl rfl ?_
          refine g_iload_n (pc := 60) dX8_row_60 rfl rfl ?_
          refine g_icmp_ge (pc := 61) 120 dX8_row_61 rfl (fun hc43 => ?_) (fun hc43 => ?_)
          · replace hf := jifp hc43 hf
            have hf := hx24 _ (Option.some.inj hf).symm
            obtain rfl := hf
            exact g_weakK K23 ⟨rfl, trivial⟩
          · replace hf := jifn hc43 hf
            refine g_iload_n (pc := 64) dX8_row_64 rfl rfl ?_
            refine g_if_lt (pc := 65) 120 dX8_row_65 rfl (fun hc42 => ?_) (fun hc42 => ?_)
            · replace hf := jifp hc42 hf
              have hf := hx24 _ (Option.some.inj hf).symm
              obtain rfl := hf
              exact g_weakK K23 ⟨rfl, trivial⟩
            · replace hf := jifn hc42 hf
              refine g_aload_n (pc := 68) dX8_row_68 rfl rfl ?_
              refine g_iload_n (pc := 69) dX8_row_69 rfl rfl ?_
              obtain ⟨v30, ev30, hf⟩ := job hf
              refine g_callV (pc := 70) [.int z27] [] dX8_row_70 ml_X8_199 ck_X8_behind cv_X8_behind sh_221 rfl (by decide) (Nat.le_of_ble_eq_true rfl) (c_X8_behind ev30) ?_
              show jGG μ_X8_row 5 73 [some (.ref 221), some (.int x1), some (.int z27), some (.int z28), none, none] [.int v30] M1 (fun M' r' => M' = Mz ∧ r' = some (.int r))
              refine g_istore (pc := 73) (lv' := [some (.ref 221), some (.int x1), some (.int z27), some (.int z28), some (.int v30), none]) dX8_row_73 (by decide) rfl ?_
              refine g_aload_n (pc := 75) dX8_row_75 rfl rfl ?_
              refine g_iload_n (pc := 76) dX8_row_76 rfl rfl ?_
              obtain ⟨v31, ev31, hf⟩ := job hf
              refine g_callV (pc := 77) [.int z27] [] dX8_row_77 ml_X8_202 ck_X8_next cv_X8_next sh_221 rfl (by decide) (Nat.le_of_ble_eq_true rfl) (c_X8_next ev31) ?_
              show jGG μ_X8_row 5 80 [some (.ref 221), some (.int x1), some (.int z27), some (.int z28), some (.int v30), none] [.int v31] M1 (fun M' r' => M' = Mz ∧ r' = some (.int r))
              refine g_istore (pc := 80) (lv' := [some (.ref 221), some (.int x1), some (.int z27), some (.int z28), some (.int v30), some (.int v31)]) dX8_row_80 (by decide) rfl ?_
              refine g_aload_n (pc := 82) dX8_row_82 rfl rfl ?_
              refine g_iload (pc := 83) dX8_row_83 rfl ?_
              refine g_iload_n (pc := 85) dX8_row_85 rfl rfl ?_
              obtain ⟨v32, ev32, hf⟩ := job hf
              refine g_callV (pc := 86) [.int v30, .int z27] [] dX8_row_86 ml_X8_214 ck_X8_isNext cv_X8_isNext sh_221 rfl (by decide) (Nat.le_of_ble_eq_true rfl) (c_X8_isNext ev32) ?_
              show jGG μ_X8_row 5 89 [some (.ref 221), some (.int x1), some (.int z27), some (.int z28), some (.int v30), some (.int v31)] [.int v32] M1 (fun M' r' => M' = Mz ∧ r' = some (.int r))
              obtain ⟨u41, hf, hy34⟩ := job hf
              have K36 : jGG μ_X8_row 5 113 [some (.ref 221), some (.int x1), none, some (.int z28), none, none] [.int u41] M1 (fun M' r' => M' = Mz ∧ r' = some (.int r)) := by
                replace hf := hy34
                refine g_istore_n (pc := 113) (lv' := [some (.ref 221), some (.int x1), some (.int u41), some (.int z28), none, none]) dX8_row_113 rfl (by decide) rfl ?_
                refine g_iinc (pc := 114) (lv' := [some (.ref 221), some (.int x1), some (.int u41), some (.int (z28 + 1)), none, none]) (z28 + 1) dX8_row_114 rfl rfl (by decide) rfl ?_
                refine g_goto (pc := 117) 59 dX8_row_117 rfl ?_
                have hih : jGG μ_X8_row 5 59 [some (.ref 221), some (.int x1), some (.int u41), some (.int (z28 + 1)), none, none] [] M1 (fun M' r' => M' = Mz ∧ r' = some (.int r)) := ih25 (u41, z28 + 1) (Option.some.inj hf).symm
                exact g_weakK hih ⟨rfl, ⟨rfl, ⟨rfl, ⟨rfl, trivial⟩⟩⟩⟩
              refine g_if_eq (pc := 89) 97 dX8_row_89 rfl (fun hc40 => ?_) (fun hc40 => ?_)
              · replace hf := jifp hc40 hf
                refine g_aload_n (pc := 97) dX8_row_97 rfl rfl ?_
                refine g_iload (pc := 98) dX8_row_98 rfl ?_
                refine g_iload_n (pc := 100) dX8_row_100 rfl rfl ?_
                obtain ⟨v38, ev38, hf⟩ := job hf
                refine g_callV (pc := 101) [.int v31, .int z27] [] dX8_row_101 ml_X8_214 ck_X8_isNext cv_X8_isNext sh_221 rfl (by decide) (Nat.le_of_ble_eq_true rfl) (c_X8_isNext ev38) ?_
                show jGG μ_X8_row 5 104 [some (.ref 221), some (.int x1), some (.int z27), some (.int z28), some (.int v30), some (.int v31)] [.int v38] M1 (fun M' r' => M' = Mz ∧ r' = some (.int r))
                refine g_if_eq (pc := 104) 112 dX8_row_104 rfl (fun hc39 => ?_) (fun hc39 => ?_)
                · replace hf := jifp hc39 hf
                  refine g_iconst (pc := 112) (-1) dX8_row_112 rfl ?_
                  obtain rfl := Option.some.inj hf
                  exact g_weakK (K36) ⟨rfl, ⟨rfl, ⟨rfl, trivial⟩⟩⟩
                · replace hf := jifn hc39 hf
                  refine g_iload (pc := 107) dX8_row_107 rfl ?_
                  refine g_goto (pc := 109) 113 dX8_row_109 rfl ?_
                  obtain rfl := Option.some.inj hf
                  exact g_weakK (K36) ⟨rfl, ⟨rfl, ⟨rfl, trivial⟩⟩⟩
              · replace hf := jifn hc40 hf
                refine g_iload (pc := 92) dX8_row_92 rfl ?_
                refine g_goto (pc := 94) 113 dX8_row_94 rfl ?_
                obtain rfl := Option.some.inj hf
                exact g_weakK (K36) ⟨rfl, ⟨rfl, ⟨rfl, trivial⟩⟩⟩
        · replace hf := jifn hc44 hf
          refine g_iconst (pc := 55) (-1) dX8_row_55 rfl ?_
          obtain ⟨rfl, rfl⟩ := Prod.mk.inj (Option.some.inj hf)
          exact g_iret (pc := 56) dX8_row_56 rfl ⟨rfl, rfl⟩
    refine g_weak (lv' := [some (.ref 221), some (.int x1), some (.int 0), none, none, none]) ⟨rfl, ⟨rfl, ⟨rfl, trivial⟩⟩⟩ ?_
    refine jLp_ind (P := fun (z9 : Int32) => jGG μ_X8_row 5 12 [some (.ref 221), some (.int x1), some (.int z9), none, none, none] [] M1 (fun M' r' => M' = Mz ∧ r' = some (.int r))) ?_ N _ y4
    rintro z9 x_8 hf ih7 hx6
    show jGG μ_X8_row 5 12 [some (.ref 221), some (.int x1), some (.int z9), none, none, none] [] M1 (fun M' r' => M' = Mz ∧ r' = some (.int r))
    refine g_iload_n (pc := 12) dX8_row_12 rfl rfl ?_
    refine g_aload_n (pc := 13) dX8_row_13 rfl rfl ?_
    refine g_getI (pc := 14) dX8_row_14 fl_X8_143 sh_221 rfl ?_
    refine g_icmp_ge (pc := 17) 43 dX8_row_17 rfl (fun hc20 => ?_) (fun hc20 => ?_)
    · replace hf := jifp hc20 hf
      have hf := hx6 _ (Option.some.inj hf).symm
      obtain rfl := hf
      exact g_weakK K5 ⟨rfl, ⟨rfl, ⟨rfl, trivial⟩⟩⟩
    · replace hf := jifn hc20 hf
      refine g_aload_n (pc := 20) dX8_row_20 rfl rfl ?_
      refine g_getR (pc := 21) dX8_row_21 fl_X8_55 sh_221 rfl ?_
      refine g_iload_n (pc := 24) dX8_row_24 rfl rfl ?_
      obtain ⟨v11, ev11, hf⟩ := job hf
      refine g_iald (pc := 25) dX8_row_25 sh_237 ev11 ?_
      obtain ⟨y14, hf, hy13⟩ := jcb hf
      have K15 : y14 = Sum.inr () → jGG μ_X8_row 5 37 [some (.ref 221), some (.int x1), some (.int z9), none, none, none] [] M1 (fun M' r' => M' = Mz ∧ r' = some (.int r)) := by
        intro hyy
        subst hyy
        replace hf := hy13
        refine g_iinc (pc := 37) (lv' := [some (.ref 221), some (.int x1), some (.int (z9 + 1)), none, none, none]) (z9 + 1) dX8_row_37 rfl rfl (by decide) rfl ?_
        refine g_goto (pc := 40) 12 dX8_row_40 rfl ?_
        have hih : jGG μ_X8_row 5 12 [some (.ref 221), some (.int x1), some (.int (z9 + 1)), none, none, none] [] M1 (fun M' r' => M' = Mz ∧ r' = some (.int r)) := ih7 (z9 + 1) (Option.some.inj hf).symm
        exact g_weakK hih ⟨rfl, ⟨rfl, ⟨rfl, trivial⟩⟩⟩
      refine g_if_ne (pc := 26) 37 dX8_row_26 rfl (fun hc19 => ?_) (fun hc19 => ?_)
      · replace hf := jifn hc19 hf
        exact g_weakK (K15 (Option.some.inj hf).symm) ⟨rfl, ⟨rfl, ⟨rfl, trivial⟩⟩⟩
      · replace hf := jifp hc19 hf
        refine g_aload_n (pc := 29) dX8_row_29 rfl rfl ?_
        refine g_iload_n (pc := 30) dX8_row_30 rfl rfl ?_
        obtain ⟨v17, ev17, hf⟩ := job hf
        refine g_callV (pc := 31) [.int z9] [] dX8_row_31 ml_X8_211 ck_X8_slack cv_X8_slack sh_221 rfl (by decide) (Nat.le_of_ble_eq_true rfl) (c_X8_slack ev17) ?_
        show jGG μ_X8_row 5 34 [some (.ref 221), some (.int x1), some (.int z9), none, none, none] [.int v17] M1 (fun M' r' => M' = Mz ∧ r' = some (.int r))
        refine g_if_eq (pc := 34) 43 dX8_row_34 rfl (fun hc18 => ?_) (fun hc18 => ?_)
        · replace hf := jifp hc18 hf
          obtain rfl := Option.some.inj hf
          replace hf := hy13
          have hf := hx6 _ (Option.some.inj hf).symm
          obtain rfl := hf
          exact g_weakK K5 ⟨rfl, ⟨rfl, ⟨rfl, trivial⟩⟩⟩
        · replace hf := jifn hc18 hf
          exact g_weakK (K15 (Option.some.inj hf).symm) ⟨rfl, ⟨rfl, ⟨rfl, trivial⟩⟩⟩
  · replace hf := jifp hc46 hf
    refine g_ldc (pc := 7) (-100003) dX8_row_7 lc_X8_179 ?_
    obtain ⟨rfl, rfl⟩ := Prod.mk.inj (Option.some.inj hf)
    exact g_iret (pc := 9) dX8_row_9 rfl ⟨rfl, rfl⟩
def f_X8_first (N : Nat) (M : JMem) (x1 : Int32) : Option (Int32) := (jcase (α := Int32) (β := Unit) (jLp (σ := Int32) (ρ := (Int32) ⊕ (Unit)) N (fun (z7 : Int32) => (jrd M 225 12 x1).bind fun v8 => (if v8 ≤ z7 then some (Sum.inr (Sum.inr ())) else (jrd M 226 96 ((8 * x1) + z7)).bind fun v9 => (jrd M 238 32 v9).bind fun v10 => (if v10 = 0 then (jrd M 226 96 ((8 * x1) + z7)).bind fun v11 => some (Sum.inr (Sum.inl v11)) else some (Sum.inl (z7 + 1))))) 0) fun _ => some (-1))
set_option maxHeartbeats 4000000 in
theorem c_X8_first {N : Nat} {M : JMem} {x1 : Int32} {r : Int32} (hf : f_X8_first N M x1 = some r) : jCo yX8_first μ_X8_first 1 M [.ref 221, .int x1] M (some (.int r)) := by
  refine jCt_of (by decide +kernel) rfl (by simp [Value.category]) (Nat.le_of_ble_eq_true rfl) ?_
  unfold f_X8_first at hf
  show jGG μ_X8_first 1 0 [some (.ref 221), some (.int x1), none] [] M (fun M' r' => M' = M ∧ r' = some (.int r))
  refine g_iconst (pc := 0) 0 dX8_first_0 rfl ?_
  refine g_istore_n (pc := 1) (lv' := [some (.ref 221), some (.int x1), some (.int 0)]) dX8_first_1 rfl (by decide) rfl ?_
  obtain ⟨y2, hr14, hy1⟩ := jcb hf
  have K3 : y2 = Sum.inr () → jGG μ_X8_first 1 49 [none, none, none] [] M (fun M' r' => M' = M ∧ r' = some (.int r)) := by
    intro hyy
    subst hyy
    replace hf := hy1
    refine g_iconst (pc := 49) (-1) dX8_first_49 rfl ?_
    obtain rfl := Option.some.inj hf
    exact g_iret (pc := 50) dX8_first_50 rfl ⟨rfl, rfl⟩
  refine g_weak (lv' := [some (.ref 221), some (.int x1), some (.int 0)]) ⟨rfl, ⟨rfl, ⟨rfl, trivial⟩⟩⟩ ?_
  refine jLp_ind (P := fun (z7 : Int32) => jGG μ_X8_first 1 2 [some (.ref 221), some (.int x1), some (.int z7)] [] M (fun M' r' => M' = M ∧ r' = some (.int r))) ?_ N _ hr14
  rintro z7 x_6 hf ih5 hx4
  show jGG μ_X8_first 1 2 [some (.ref 221), some (.int x1), some (.int z7)] [] M (fun M' r' => M' = M ∧ r' = some (.int r))
  refine g_iload_n (pc := 2) dX8_first_2 rfl rfl ?_
  refine g_aload_n (pc := 3) dX8_first_3 rfl rfl ?_
  refine g_getR (pc := 4) dX8_first_4 fl_X8_19 sh_221 rfl ?_
  refine g_iload_n (pc := 7) dX8_first_7 rfl rfl ?_
  obtain ⟨v8, ev8, hf⟩ := job hf
  refine g_iald (pc := 8) dX8_first_8 sh_225 ev8 ?_
  refine g_icmp_ge (pc := 9) 49 dX8_first_9 rfl (fun hc13 => ?_) (fun hc13 => ?_)
  · replace hf := jifp hc13 hf
    have hf := hx4 _ (Option.some.inj hf).symm
    exact g_weakK (K3 hf.symm) trivial
  · replace hf := jifn hc13 hf
    refine g_aload_n (pc := 12) dX8_first_12 rfl rfl ?_
    refine g_getR (pc := 13) dX8_first_13 fl_X8_58 sh_221 rfl ?_
    refine g_aload_n (pc := 16) dX8_first_16 rfl rfl ?_
    refine g_getR (pc := 17) dX8_first_17 fl_X8_22 sh_221 rfl ?_
    refine g_bipush (pc := 20) 8 dX8_first_20 rfl ?_
    refine g_iload_n (pc := 22) dX8_first_22 rfl rfl ?_
    refine g_imul (pc := 23) dX8_first_23 ?_
    refine g_iload_n (pc := 24) dX8_first_24 rfl rfl ?_
    refine g_iadd (pc := 25) dX8_first_25 ?_
    obtain ⟨v9, ev9, hf⟩ := job hf
    refine g_iald (pc := 26) dX8_first_26 sh_226 ev9 ?_
    obtain ⟨v10, ev10, hf⟩ := job hf
    refine g_bald (pc := 27) dX8_first_27 sh_238 ev10 ?_
    refine g_if_ne (pc := 28) 43 dX8_first_28 rfl (fun hc12 => ?_) (fun hc12 => ?_)
    · replace hf := jifn hc12 hf
      refine g_iinc (pc := 43) (lv' := [some (.ref 221), some (.int x1), some (.int (z7 + 1))]) (z7 + 1) dX8_first_43 rfl rfl (by decide) rfl ?_
      refine g_goto (pc := 46) 2 dX8_first_46 rfl ?_
      have hih : jGG μ_X8_first 1 2 [some (.ref 221), some (.int x1), some (.int (z7 + 1))] [] M (fun M' r' => M' = M ∧ r' = some (.int r)) := ih5 (z7 + 1) (Option.some.inj hf).symm
      exact g_weakK hih ⟨rfl, ⟨rfl, ⟨rfl, trivial⟩⟩⟩
    · replace hf := jifp hc12 hf
      refine g_aload_n (pc := 31) dX8_first_31 rfl rfl ?_
      refine g_getR (pc := 32) dX8_first_32 fl_X8_22 sh_221 rfl ?_
      refine g_bipush (pc := 35) 8 dX8_first_35 rfl ?_
      refine g_iload_n (pc := 37) dX8_first_37 rfl rfl ?_
      refine g_imul (pc := 38) dX8_first_38 ?_
      refine g_iload_n (pc := 39) dX8_first_39 rfl rfl ?_
      refine g_iadd (pc := 40) dX8_first_40 ?_
      obtain ⟨v11, ev11, hf⟩ := job hf
      refine g_iald (pc := 41) dX8_first_41 sh_226 ev11 ?_
      have hf := hx4 _ (Option.some.inj hf).symm
      subst hf
      replace hf := hy1
      obtain rfl := Option.some.inj hf
      exact g_iret (pc := 42) dX8_first_42 rfl ⟨rfl, rfl⟩
def f_X8_early (N : Nat) (M : JMem) (x1 : Int32) : Option (JMem × Int32) := (f_X8_ahead M x1).bind fun v1 => (((if 0 ≤ v1 then (jrd M 237 32 v1).bind fun v7 => (jrd M 229 32 v1).bind fun v8 => some ((v7 + v8)) else some (0)) : Option (Int32)).bind fun u10 => (jrd M 228 32 x1).bind fun v11 => (jrd M 228 32 x1).bind fun v12 => (jrd M 232 8 v12).bind fun v13 => (f_X8_fromOrder N M v11 v13 x1).bind fun (M14, v15) => (if u10 ≤ v15 then some (M14, v15) else some (M14, u10)))
set_option maxHeartbeats 4000000 in
theorem c_X8_early {N : Nat} {M : JMem} {x1 : Int32} {Mz : JMem} {r : Int32} (hf : f_X8_early N M x1 = some (Mz, r)) : jCo yX8_early μ_X8_early 2 M [.ref 221, .int x1] Mz (some (.int r)) := by
  refine jCt_of (by decide +kernel) rfl (by simp [Value.category]) (Nat.le_of_ble_eq_true rfl) ?_
  unfold f_X8_early at hf
  show jGG μ_X8_early 2 0 [some (.ref 221), some (.int x1), none, none, none] [] M (fun M' r' => M' = Mz ∧ r' = some (.int r))
  refine g_aload_n (pc := 0) dX8_early_0 rfl rfl ?_
  refine g_iload_n (pc := 1) dX8_early_1 rfl rfl ?_
  obtain ⟨v1, ev1, hf⟩ := job hf
  refine g_callV (pc := 2) [.int x1] [] dX8_early_2 ml_X8_180 ck_X8_ahead cv_X8_ahead sh_221 rfl (by decide) (Nat.le_of_ble_eq_true rfl) (c_X8_ahead ev1) ?_
  show jGG μ_X8_early 2 5 [some (.ref 221), some (.int x1), none, none, none] [.int v1] M (fun M' r' => M' = Mz ∧ r' = some (.int r))
  refine g_istore_n (pc := 5) (lv' := [some (.ref 221), some (.int x1), some (.int v1), none, none]) dX8_early_5 rfl (by decide) rfl ?_
  refine g_iload_n (pc := 6) dX8_early_6 rfl rfl ?_
  obtain ⟨u10, hf, hy3⟩ := job hf
  have K5 : jGG μ_X8_early 2 27 [some (.ref 221), some (.int x1), none, none, none] [.int u10] M (fun M' r' => M' = Mz ∧ r' = some (.int r)) := by
    replace hf := hy3
    refine g_istore_n (pc := 27) (lv' := [some (.ref 221), some (.int x1), none, some (.int u10), none]) dX8_early_27 rfl (by decide) rfl ?_
    refine g_aload_n (pc := 28) dX8_early_28 rfl rfl ?_
    refine g_aload_n (pc := 29) dX8_early_29 rfl rfl ?_
    refine g_getR (pc := 30) dX8_early_30 fl_X8_28 sh_221 rfl ?_
    refine g_iload_n (pc := 33) dX8_early_33 rfl rfl ?_
    obtain ⟨v11, ev11, hf⟩ := job hf
    refine g_iald (pc := 34) dX8_early_34 sh_228 ev11 ?_
    refine g_aload_n (pc := 35) dX8_early_35 rfl rfl ?_
    refine g_getR (pc := 36) dX8_early_36 fl_X8_40 sh_221 rfl ?_
    refine g_aload_n (pc := 39) dX8_early_39 rfl rfl ?_
    refine g_getR (pc := 40) dX8_early_40 fl_X8_28 sh_221 rfl ?_
    refine g_iload_n (pc := 43) dX8_early_43 rfl rfl ?_
    obtain ⟨v12, ev12, hf⟩ := job hf
    refine g_iald (pc := 44) dX8_early_44 sh_228 ev12 ?_
    obtain ⟨v13, ev13, hf⟩ := job hf
    refine g_iald (pc := 45) dX8_early_45 sh_232 ev13 ?_
    refine g_iload_n (pc := 46) dX8_early_46 rfl rfl ?_
    obtain ⟨⟨M14, v15⟩, ev15, hf⟩ := job hf
    refine g_callV (pc := 47) [.int v11, .int v13, .int x1] [] dX8_early_47 ml_X8_189 ck_X8_fromOrder cv_X8_fromOrder sh_221 rfl (by decide) (Nat.le_of_ble_eq_true rfl) (c_X8_fromOrder ev15) ?_
    show jGG μ_X8_early 2 50 [some (.ref 221), some (.int x1), none, some (.int u10), none] [.int v15] M14 (fun M' r' => M' = Mz ∧ r' = some (.int r))
    refine g_istore (pc := 50) (lv' := [some (.ref 221), some (.int x1), none, some (.int u10), some (.int v15)]) dX8_early_50 (by decide) rfl ?_
    refine g_iload_n (pc := 52) dX8_early_52 rfl rfl ?_
    refine g_iload (pc := 53) dX8_early_53 rfl ?_
    refine g_icmp_le (pc := 55) 62 dX8_early_55 rfl (fun hc16 => ?_) (fun hc16 => ?_)
    · replace hf := jifp hc16 hf
      refine g_iload (pc := 62) dX8_early_62 rfl ?_
      obtain ⟨rfl, rfl⟩ := Prod.mk.inj (Option.some.inj hf)
      exact g_iret (pc := 64) dX8_early_64 rfl ⟨rfl, rfl⟩
    · replace hf := jifn hc16 hf
      refine g_iload_n (pc := 58) dX8_early_58 rfl rfl ?_
      refine g_goto (pc := 59) 64 dX8_early_59 rfl ?_
      obtain ⟨rfl, rfl⟩ := Prod.mk.inj (Option.some.inj hf)
      exact g_iret (pc := 64) dX8_early_64 rfl ⟨rfl, rfl⟩
  refine g_if_ge (pc := 7) 14 dX8_early_7 rfl (fun hc9 => ?_) (fun hc9 => ?_)
  · replace hf := jifp hc9 hf
    refine g_aload_n (pc := 14) dX8_early_14 rfl rfl ?_
    refine g_getR (pc := 15) dX8_early_15 fl_X8_55 sh_221 rfl ?_
    refine g_iload_n (pc := 18) dX8_early_18 rfl rfl ?_
    obtain ⟨v7, ev7, hf⟩ := job hf
    refine g_iald (pc := 19) dX8_early_19 sh_237 ev7 ?_
    refine g_aload_n (pc := 20) dX8_early_20 rfl rfl ?_
    refine g_getR (pc := 21) dX8_early_21 fl_X8_31 sh_221 rfl ?_
    refine g_iload_n (pc := 24) dX8_early_24 rfl rfl ?_
    obtain ⟨v8, ev8, hf⟩ := job hf
    refine g_iald (pc := 25) dX8_early_25 sh_229 ev8 ?_
    refine g_iadd (pc := 26) dX8_early_26 ?_
    obtain rfl := Option.some.inj hf
    exact g_weakK (K5) ⟨rfl, ⟨rfl, trivial⟩⟩
  · replace hf := jifn hc9 hf
    refine g_iconst (pc := 10) 0 dX8_early_10 rfl ?_
    refine g_goto (pc := 11) 27 dX8_early_11 rfl ?_
    obtain rfl := Option.some.inj hf
    exact g_weakK (K5) ⟨rfl, ⟨rfl, trivial⟩⟩
def f_X8_rest (N : Nat) (M : JMem) (x1 : Int32) : Option (Int32) := (jrd M 230 32 x1).bind fun v1 => ((jLp (σ := Int32 × Int32) (ρ := Int32) N (fun ((z8, z9) : Int32 × Int32) => (jrd M 227 32 x1).bind fun v11 => (jrd M 225 12 v11).bind fun v12 => (if v12 ≤ z9 then some (Sum.inr z8) else (jrd M 227 32 x1).bind fun v13 => (jrd M 226 96 ((8 * v13) + z9)).bind fun v14 => (jrd M 229 32 v14).bind fun v15 => some (Sum.inl (z8 + v15, z9 + 1)))) (0, v1)).bind fun t10 => some t10)
set_option maxHeartbeats 4000000 in
theorem c_X8_rest {N : Nat} {M : JMem} {x1 : Int32} {r : Int32} (hf : f_X8_rest N M x1 = some r) : jCo yX8_rest μ_X8_rest 1 M [.ref 221, .int x1] M (some (.int r)) := by
  refine jCt_of (by decide +kernel) rfl (by simp [Value.category]) (Nat.le_of_ble_eq_true rfl) ?_
  unfold f_X8_rest at hf
  show jGG μ_X8_rest 1 0 [some (.ref 221), some (.int x1), none, none] [] M (fun M' r' => M' = M ∧ r' = some (.int r))
  refine g_iconst (pc := 0) 0 dX8_rest_0 rfl ?_
  refine g_istore_n (pc := 1) (lv' := [some (.ref 221), some (.int x1), some (.int 0), none]) dX8_rest_1 rfl (by decide) rfl ?_
  refine g_aload_n (pc := 2) dX8_rest_2 rfl rfl ?_
  refine g_getR (pc := 3) dX8_rest_3 fl_X8_34 sh_221 rfl ?_
  refine g_iload_n (pc := 6) dX8_rest_6 rfl rfl ?_
  obtain ⟨v1, ev1, hf⟩ := job hf
  refine g_iald (pc := 7) dX8_rest_7 sh_230 ev1 ?_
  refine g_istore_n (pc := 8) (lv' := [some (.ref 221), some (.int x1), some (.int 0), some (.int v1)]) dX8_rest_8 rfl (by decide) rfl ?_
  obtain ⟨t10, y3, hy2⟩ := job hf
  have K4 : jGG μ_X8_rest 1 54 [none, none, some (.int t10), none] [] M (fun M' r' => M' = M ∧ r' = some (.int r)) := by
    replace hf := hy2
    refine g_iload_n (pc := 54) dX8_rest_54 rfl rfl ?_
    obtain rfl := Option.some.inj hf
    exact g_iret (pc := 55) dX8_rest_55 rfl ⟨rfl, rfl⟩
  refine g_weak (lv' := [some (.ref 221), some (.int x1), some (.int 0), some (.int v1)]) ⟨rfl, ⟨rfl, ⟨rfl, ⟨rfl, trivial⟩⟩⟩⟩ ?_
  refine jLp_ind (P := fun ((z8, z9) : Int32 × Int32) => jGG μ_X8_rest 1 9 [some (.ref 221), some (.int x1), some (.int z8), some (.int z9)] [] M (fun M' r' => M' = M ∧ r' = some (.int r))) ?_ N _ y3
  rintro ⟨z8, z9⟩ x_7 hf ih6 hx5
  show jGG μ_X8_rest 1 9 [some (.ref 221), some (.int x1), some (.int z8), some (.int z9)] [] M (fun M' r' => M' = M ∧ r' = some (.int r))
  refine g_iload_n (pc := 9) dX8_rest_9 rfl rfl ?_
  refine g_aload_n (pc := 10) dX8_rest_10 rfl rfl ?_
  refine g_getR (pc := 11) dX8_rest_11 fl_X8_19 sh_221 rfl ?_
  refine g_aload_n (pc := 14) dX8_rest_14 rfl rfl ?_
  refine g_getR (pc := 15) dX8_rest_15 fl_X8_25 sh_221 rfl ?_
  refine g_iload_n (pc := 18) dX8_rest_18 rfl rfl ?_
  obtain ⟨v11, ev11, hf⟩ := job hf
  refine g_iald (pc := 19) dX8_rest_19 sh_227 ev11 ?_
  obtain ⟨v12, ev12, hf⟩ := job hf
  refine g_iald (pc := 20) dX8_rest_20 sh_225 ev12 ?_
  refine g_icmp_ge (pc := 21) 54 dX8_rest_21 rfl (fun hc16 => ?_) (fun hc16 => ?_)
  · replace hf := jifp hc16 hf
    have hf := hx5 _ (Option.some.inj hf).symm
    obtain rfl := hf
    exact g_weakK K4 ⟨rfl, trivial⟩
  · replace hf := jifn hc16 hf
    refine g_iload_n (pc := 24) dX8_rest_24 rfl rfl ?_
    refine g_aload_n (pc := 25) dX8_rest_25 rfl rfl ?_
    refine g_getR (pc := 26) dX8_rest_26 fl_X8_31 sh_221 rfl ?_
    refine g_aload_n (pc := 29) dX8_rest_29 rfl rfl ?_
    refine g_getR (pc := 30) dX8_rest_30 fl_X8_22 sh_221 rfl ?_
    refine g_bipush (pc := 33) 8 dX8_rest_33 rfl ?_
    refine g_aload_n (pc := 35) dX8_rest_35 rfl rfl ?_
    refine g_getR (pc := 36) dX8_rest_36 fl_X8_25 sh_221 rfl ?_
    refine g_iload_n (pc := 39) dX8_rest_39 rfl rfl ?_
    obtain ⟨v13, ev13, hf⟩ := job hf
    refine g_iald (pc := 40) dX8_rest_40 sh_227 ev13 ?_
    refine g_imul (pc := 41) dX8_rest_41 ?_
    refine g_iload_n (pc := 42) dX8_rest_42 rfl rfl ?_
    refine g_iadd (pc := 43) dX8_rest_43 ?_
    obtain ⟨v14, ev14, hf⟩ := job hf
    refine g_iald (pc := 44) dX8_rest_44 sh_226 ev14 ?_
    obtain ⟨v15, ev15, hf⟩ := job hf
    refine g_iald (pc := 45) dX8_rest_45 sh_229 ev15 ?_
    refine g_iadd (pc := 46) dX8_rest_46 ?_
    refine g_istore_n (pc := 47) (lv' := [some (.ref 221), some (.int x1), some (.int (z8 + v15)), some (.int z9)]) dX8_rest_47 rfl (by decide) rfl ?_
    refine g_iinc (pc := 48) (lv' := [some (.ref 221), some (.int x1), some (.int (z8 + v15)), some (.int (z9 + 1))]) (z9 + 1) dX8_rest_48 rfl rfl (by decide) rfl ?_
    refine g_goto (pc := 51) 9 dX8_rest_51 rfl ?_
    have hih : jGG μ_X8_rest 1 9 [some (.ref 221), some (.int x1), some (.int (z8 + v15)), some (.int (z9 + 1))] [] M (fun M' r' => M' = M ∧ r' = some (.int r)) := ih6 (z8 + v15, z9 + 1) (Option.some.inj hf).symm
    exact g_weakK hih ⟨rfl, ⟨rfl, ⟨rfl, ⟨rfl, trivial⟩⟩⟩⟩
def f_X8_rule (N : Nat) (M : JMem) (x1 : Int32) : Option (JMem × Int32) := (if (jin3 x1.toInt64 0 2) = 0 then some (M, (-100002)) else ((jLp (σ := Int32 × JMem) (ρ := JMem) N (fun ((z7, M8) : Int32 × JMem) => (if 8 ≤ z7 then some (Sum.inr M8) else (jwr M8 232 8 z7 0).bind fun M10 => some (Sum.inl (z7 + 1, M10)))) (0, M)).bind fun t9 => ((jLp (σ := Int32 × JMem) (ρ := JMem) N (fun ((z18, M19) : Int32 × JMem) => (if (M19 221 11) ≤ z18 then some (Sum.inr M19) else (jwr M19 238 32 z18 0).bind fun M21 => some (Sum.inl (z18 + 1, M21)))) (0, t9)).bind fun t20 => (some (jup t20 221 21 0)).bind fun M23 => ((jLp (σ := Int32 × JMem) (ρ := JMem) N (fun ((z30, M31) : Int32 × JMem) => (if (M31 221 11) ≤ z30 then some (Sum.inr M31) else ((jLp (σ := Int32 × Int32 × Int32 × Int32 × JMem) (ρ := Int32 × Int32 × JMem) N (fun ((z39, z40, z41, z42, M43) : Int32 × Int32 × Int32 × Int32 × JMem) => (if (M43 221 6) ≤ z42 then some (Sum.inr (z39, z40, M43)) else (f_X8_first N M43 z42).bind fun v47 => (((if 0 ≤ v47 then (f_X8_early N M43 v47).bind fun (M53, v54) => (((if x1 = 0 then (jrd M53 229 32 v47).bind fun v62 => some (v62) else (if x1 = 1 then (f_X8_rest N M53 v47).bind fun v60 => some ((-v60)) else some (0))) : Option (Int32)).bind fun u64 => (jcase (α := Int32 × Int32 × Int32 × JMem) (β := Unit) (if z39 < 0 then some (Sum.inr ()) else (if v54 < z40 then some (Sum.inr ()) else (if v54 = z40 then (if z41 ≤ u64 then some (Sum.inl ((z39, z40, z41, M53))) else some (Sum.inr ())) else some (Sum.inl ((z39, z40, z41, M53)))))) fun _ => some ((v47, v54, u64, M53)))) else some ((z39, z40, z41, M43))) : Option (Int32 × Int32 × Int32 × JMem)).bind fun (u75, u76, u77, M78) => some (Sum.inl (u75, u76, u77, z42 + 1, M78))))) ((-1), 0, 0, 0, M31)).bind fun (t44, t45, t46) => (jrd t46 228 32 t44).bind fun v80 => (jrd t46 232 8 v80).bind fun v81 => (jwr t46 231 256 ((32 * v80) + v81) t44).bind fun M82 => (jrd M82 232 8 v80).bind fun v83 => (jwr M82 232 8 v80 (v83 + 1)).bind fun M84 => (jwr M84 237 32 t44 t45).bind fun M85 => (jwr M85 238 32 t44 1).bind fun M86 => (jrd M86 229 32 t44).bind fun v87 => (((if (t45 + v87) ≤ (M86 221 21) then some ((M86 221 21)) else (jrd M86 229 32 t44).bind fun v93 => some ((t45 + v93))) : Option (Int32)).bind fun u95 => (some (jup M86 221 21 u95)).bind fun M96 => some (Sum.inl (z30 + 1, M96)))))) (0, M23)).bind fun t32 => some (t32, t32 221 21)))))
set_option maxHeartbeats 4000000 in
theorem c_X8_rule {N : Nat} {M : JMem} {x1 : Int32} {Mz : JMem} {r : Int32} (hf : f_X8_rule N M x1 = some (Mz, r)) : jCo yX8_rule μ_X8_rule 3 M [.ref 221, .int x1] Mz (some (.int r)) := by
  refine jCt_of (by decide +kernel) rfl (by simp [Value.category]) (Nat.le_of_ble_eq_true rfl) ?_
  unfold f_X8_rule at hf
  show jGG μ_X8_rule 3 0 [some (.ref 221), some (.int x1), none, none, none, none, none, none, none, none] [] M (fun M' r' => M' = Mz ∧ r' = some (.int r))
  refine g_iload_n (pc := 0) dX8_rule_0 rfl rfl ?_
  refine g_i2l (pc := 1) dX8_rule_1 ?_
  refine g_lconst (pc := 2) 0 dX8_rule_2 rfl ?_
  refine g_ldc2 (pc := 3) 2 dX8_rule_3 lcl_X8_174 ?_
  refine g_callS (pc := 6) [.long x1.toInt64, .long 0, .long 2] [] dX8_rule_6 ml_X8_124 ck_X8_in cs_X8_in rfl (by decide) (Nat.le_of_ble_eq_true rfl) c_in ?_
  show jGG μ_X8_rule 3 9 [some (.ref 221), some (.int x1), none, none, none, none, none, none, none, none] [.int (jin3 x1.toInt64 0 2)] M (fun M' r' => M' = Mz ∧ r' = some (.int r))
  refine g_if_ne (pc := 9) 15 dX8_rule_9 rfl (fun hc98 => ?_) (fun hc98 => ?_)
  · replace hf := jifn hc98 hf
    refine g_iconst (pc := 15) 0 dX8_rule_15 rfl ?_
    refine g_istore_n (pc := 16) (lv' := [some (.ref 221), some (.int x1), some (.int 0), none, none, none, none, none, none, none]) dX8_rule_16 rfl (by decide) rfl ?_
    obtain ⟨t9, y2, hy1⟩ := job hf
    have K3 : jGG μ_X8_rule 3 36 [some (.ref 221), some (.int x1), none, none, none, none, none, none, none, none] [] t9 (fun M' r' => M' = Mz ∧ r' = some (.int r)) := by
      replace hf := hy1
      refine g_iconst (pc := 36) 0 dX8_rule_36 rfl ?_
      refine g_istore_n (pc := 37) (lv' := [some (.ref 221), some (.int x1), some (.int 0), none, none, none, none, none, none, none]) dX8_rule_37 rfl (by decide) rfl ?_
      obtain ⟨t20, y13, hy12⟩ := job hf
      have K14 : jGG μ_X8_rule 3 59 [some (.ref 221), some (.int x1), none, none, none, none, none, none, none, none] [] t20 (fun M' r' => M' = Mz ∧ r' = some (.int r)) := by
        replace hf := hy12
        refine g_aload_n (pc := 59) dX8_rule_59 rfl rfl ?_
        refine g_iconst (pc := 60) 0 dX8_rule_60 rfl ?_
        refine g_putI (pc := 61) dX8_rule_61 fp_X8_183 sh_221 rfl ?_
        obtain ⟨M23, eM23, hf⟩ := job hf
        rw [Option.some.inj eM23]
        refine g_iconst (pc := 64) 0 dX8_rule_64 rfl ?_
        refine g_istore_n (pc := 65) (lv' := [some (.ref 221), some (.int x1), some (.int 0), none, none, none, none, none, none, none]) dX8_rule_65 rfl (by decide) rfl ?_
        obtain ⟨t32, y25, hy24⟩ := job hf
        have K26 : jGG μ_X8_rule 3 287 [some (.ref 221), none, none, none, none, none, none, none, none, none] [] t32 (fun M' r' => M' = Mz ∧ r' = some (.int r)) := by
          replace hf := hy24
          refine g_aload_n (pc := 287) dX8_rule_287 rfl rfl ?_
          refine g_getI (pc := 288) dX8_rule_288 fl_X8_183 sh_221 rfl ?_
          obtain ⟨rfl, rfl⟩ := Prod.mk.inj (Option.some.inj hf)
          exact g_iret (pc := 291) dX8_rule_291 rfl ⟨rfl, rfl⟩
        refine g_weak (lv' := [some (.ref 221), some (.int x1), some (.int 0), none, none, none, none, none, none, none]) ⟨rfl, ⟨rfl, ⟨rfl, trivial⟩⟩⟩ ?_
        refine jLp_ind (P := fun ((z30, M31) : Int32 × JMem) => jGG μ_X8_rule 3 66 [some (.ref 221), some (.int x1), some (.int z30), none, none, none, none, none, none, none] [] M31 (fun M' r' => M' = Mz ∧ r' = some (.int r))) ?_ N _ y25
        rintro ⟨z30, M31⟩ x_29 hf ih28 hx27
        show jGG μ_X8_rule 3 66 [some (.ref 221), some (.int x1), some (.int z30), none, none, none, none, none, none, none] [] M31 (fun M' r' => M' = Mz ∧ r' = some (.int r))
        refine g_iload_n (pc := 66) dX8_rule_66 rfl rfl ?_
        refine g_aload_n (pc := 67) dX8_rule_67 rfl rfl ?_
        refine g_getI (pc := 68) dX8_rule_68 fl_X8_143 sh_221 rfl ?_
        refine g_icmp_ge (pc := 71) 287 dX8_rule_71 rfl (fun hc97 => ?_) (fun hc97 => ?_)
        · replace hf := jifp hc97 hf
          have hf := hx27 _ (Option.some.inj hf).symm
          obtain rfl := hf
          exact g_weakK K26 ⟨rfl, trivial⟩
        · replace hf := jifn hc97 hf
          refine g_iconst (pc := 74) (-1) dX8_rule_74 rfl ?_
          refine g_istore_n (pc := 75) (lv' := [some (.ref 221), some (.int x1), some (.int z30), some (.int ((-1))), none, none, none, none, none, none]) dX8_rule_75 rfl (by decide) rfl ?_
          refine g_iconst (pc := 76) 0 dX8_rule_76 rfl ?_
          refine g_istore (pc := 77) (lv' := [some (.ref 221), some (.int x1), some (.int z30), some (.int ((-1))), some (.int 0), none, none, none, none, none]) dX8_rule_77 (by decide) rfl ?_
          refine g_iconst (pc := 79) 0 dX8_rule_79 rfl ?_
          refine g_istore (pc := 80) (lv' := [some (.ref 221), some (.int x1), some (.int z30), some (.int ((-1))), some (.int 0), some (.int 0), none, none, none, none]) dX8_rule_80 (by decide) rfl ?_
          refine g_iconst (pc := 82) 0 dX8_rule_82 rfl ?_
          refine g_istore (pc := 83) (lv' := [some (.ref 221), some (.int x1), some (.int z30), some (.int ((-1))), some (.int 0), some (.int 0), some (.int 0), none, none, none]) dX8_rule_83 (by decide) rfl ?_
          obtain ⟨⟨t44, t45, t46⟩, y34, hy33⟩ := job hf
          have K35 : jGG μ_X8_rule 3 192 [some (.ref 221), some (.int x1), some (.int z30), some (.int t44), some (.int t45), none, none, none, none, none] [] t46 (fun M' r' => M' = Mz ∧ r' = some (.int r)) := by
            replace hf := hy33
            refine g_aload_n (pc := 192) dX8_rule_192 rfl rfl ?_
            refine g_getR (pc := 193) dX8_rule_193 fl_X8_28 sh_221 rfl ?_
            refine g_iload_n (pc := 196) dX8_rule_196 rfl rfl ?_
            obtain ⟨v80, ev80, hf⟩ := job hf
            refine g_iald (pc := 197) dX8_rule_197 sh_228 ev80 ?_
            refine g_istore (pc := 198) (lv' := [some (.ref 221), some (.int x1), some (.int z30), some (.int t44), some (.int t45), none, some (.int v80), none, none, none]) dX8_rule_198 (by decide) rfl ?_
            refine g_aload_n (pc := 200) dX8_rule_200 rfl rfl ?_
            refine g_getR (pc := 201) dX8_rule_201 fl_X8_37 sh_221 rfl ?_
            refine g_bipush (pc := 204) 32 dX8_rule_204 rfl ?_
            refine g_iload (pc := 206) dX8_rule_206 rfl ?_
            refine g_imul (pc := 208) dX8_rule_208 ?_
            refine g_aload_n (pc := 209) dX8_rule_209 rfl rfl ?_
            refine g_getR (pc := 210) dX8_rule_210 fl_X8_40 sh_221 rfl ?_
            refine g_iload (pc := 213) dX8_rule_213 rfl ?_
            obtain ⟨v81, ev81, hf⟩ := job hf
            refine g_iald (pc := 215) dX8_rule_215 sh_232 ev81 ?_
            refine g_iadd (pc := 216) dX8_rule_216 ?_
            refine g_iload_n (pc := 217) dX8_rule_217 rfl rfl ?_
            obtain ⟨M82, eM82, hf⟩ := job hf
            refine g_iast (pc := 218) dX8_rule_218 sh_231 eM82 ?_
            refine g_aload_n (pc := 219) dX8_rule_219 rfl rfl ?_
            refine g_getR (pc := 220) dX8_rule_220 fl_X8_40 sh_221 rfl ?_
            refine g_iload (pc := 223) dX8_rule_223 rfl ?_
            refine g_dup2 (pc := 225) dX8_rule_225 rfl rfl ?_
            obtain ⟨v83, ev83, hf⟩ := job hf
            refine g_iald (pc := 226) dX8_rule_226 sh_232 ev83 ?_
            refine g_iconst (pc := 227) 1 dX8_rule_227 rfl ?_
            refine g_iadd (pc := 228) dX8_rule_228 ?_
            obtain ⟨M84, eM84, hf⟩ := job hf
            refine g_iast (pc := 229) dX8_rule_229 sh_232 eM84 ?_
            refine g_aload_n (pc := 230) dX8_rule_230 rfl rfl ?_
            refine g_getR (pc := 231) dX8_rule_231 fl_X8_55 sh_221 rfl ?_
            refine g_iload_n (pc := 234) dX8_rule_234 rfl rfl ?_
            refine g_iload (pc := 235) dX8_rule_235 rfl ?_
            obtain ⟨M85, eM85, hf⟩ := job hf
            refine g_iast (pc := 237) dX8_rule_237 sh_237 eM85 ?_
            refine g_aload_n (pc := 238) dX8_rule_238 rfl rfl ?_
            refine g_getR (pc := 239) dX8_rule_239 fl_X8_58 sh_221 rfl ?_
            refine g_iload_n (pc := 242) dX8_rule_242 rfl rfl ?_
            refine g_iconst (pc := 243) 1 dX8_rule_243 rfl ?_
            obtain ⟨M86, eM86, hf⟩ := job hf
            refine g_bast (pc := 244) dX8_rule_244 sh_238 (Or.inr rfl) eM86 ?_
            refine g_aload_n (pc := 245) dX8_rule_245 rfl rfl ?_
            refine g_iload (pc := 246) dX8_rule_246 rfl ?_
            refine g_aload_n (pc := 248) dX8_rule_248 rfl rfl ?_
            refine g_getR (pc := 249) dX8_rule_249 fl_X8_31 sh_221 rfl ?_
            refine g_iload_n (pc := 252) dX8_rule_252 rfl rfl ?_
            obtain ⟨v87, ev87, hf⟩ := job hf
            refine g_iald (pc := 253) dX8_rule_253 sh_229 ev87 ?_
            refine g_iadd (pc := 254) dX8_rule_254 ?_
            refine g_aload_n (pc := 255) dX8_rule_255 rfl rfl ?_
            refine g_getI (pc := 256) dX8_rule_256 fl_X8_183 sh_221 rfl ?_
            obtain ⟨u95, hf, hy89⟩ := job hf
            have K91 : jGG μ_X8_rule 3 278 [some (.ref 221), some (.int x1), some (.int z30), none, none, none, none, none, none, none] [.int u95, .ref 221] M86 (fun M' r' => M' = Mz ∧ r' = some (.int r)) := by
              replace hf := hy89
              refine g_putI (pc := 278) dX8_rule_278 fp_X8_183 sh_221 rfl ?_
              obtain ⟨M96, eM96, hf⟩ := job hf
              rw [Option.some.inj eM96]
              refine g_iinc (pc := 281) (lv' := [some (.ref 221), some (.int x1), some (.int (z30 + 1)), none, none, none, none, none, none, none]) (z30 + 1) dX8_rule_281 rfl rfl (by decide) rfl ?_
              refine g_goto (pc := 284) 66 dX8_rule_284 rfl ?_
              have hih : jGG μ_X8_rule 3 66 [some (.ref 221), some (.int x1), some (.int (z30 + 1)), none, none, none, none, none, none, none] [] M96 (fun M' r' => M' = Mz ∧ r' = some (.int r)) := ih28 (z30 + 1, M96) (Option.some.inj hf).symm
              exact g_weakK hih ⟨rfl, ⟨rfl, ⟨rfl, trivial⟩⟩⟩
            refine g_icmp_le (pc := 259) 274 dX8_rule_259 rfl (fun hc94 => ?_) (fun hc94 => ?_)
            · replace hf := jifp hc94 hf
              refine g_aload_n (pc := 274) dX8_rule_274 rfl rfl ?_
              refine g_getI (pc := 275) dX8_rule_275 fl_X8_183 sh_221 rfl ?_
              obtain rfl := Option.some.inj hf
              exact g_weakK (K91) ⟨rfl, ⟨rfl, ⟨rfl, trivial⟩⟩⟩
            · replace hf := jifn hc94 hf
              refine g_iload (pc := 262) dX8_rule_262 rfl ?_
              refine g_aload_n (pc := 264) dX8_rule_264 rfl rfl ?_
              refine g_getR (pc := 265) dX8_rule_265 fl_X8_31 sh_221 rfl ?_
              refine g_iload_n (pc := 268) dX8_rule_268 rfl rfl ?_
              obtain ⟨v93, ev93, hf⟩ := job hf
              refine g_iald (pc := 269) dX8_rule_269 sh_229 ev93 ?_
              refine g_iadd (pc := 270) dX8_rule_270 ?_
              refine g_goto (pc := 271) 278 dX8_rule_271 rfl ?_
              obtain rfl := Option.some.inj hf
              exact g_weakK (K91) ⟨rfl, ⟨rfl, ⟨rfl, trivial⟩⟩⟩
          refine g_weak (lv' := [some (.ref 221), some (.int x1), some (.int z30), some (.int ((-1))), some (.int 0), some (.int 0), some (.int 0), none, none, none]) ⟨rfl, ⟨rfl, ⟨rfl, ⟨rfl, ⟨rfl, ⟨rfl, ⟨rfl, trivial⟩⟩⟩⟩⟩⟩⟩ ?_
          refine jLp_ind (P := fun ((z39, z40, z41, z42, M43) : Int32 × Int32 × Int32 × Int32 × JMem) => jGG μ_X8_rule 3 85 [some (.ref 221), some (.int x1), some (.int z30), some (.int z39), some (.int z40), some (.int z41), some (.int z42), none, none, none] [] M43 (fun M' r' => M' = Mz ∧ r' = some (.int r))) ?_ N _ y34
          rintro ⟨z39, z40, z41, z42, M43⟩ x_38 hf ih37 hx36
          show jGG μ_X8_rule 3 85 [some (.ref 221), some (.int x1), some (.int z30), some (.int z39), some (.int z40), some (.int z41), some (.int z42), none, none, none] [] M43 (fun M' r' => M' = Mz ∧ r' = some (.int r))
          refine g_iload (pc := 85) dX8_rule_85 rfl ?_
          refine g_aload_n (pc := 87) dX8_rule_87 rfl rfl ?_
          refine g_getI (pc := 88) dX8_rule_88 fl_X8_140 sh_221 rfl ?_
          refine g_icmp_ge (pc := 91) 192 dX8_rule_91 rfl (fun hc79 => ?_) (fun hc79 => ?_)
          · replace hf := jifp hc79 hf
            have hf := hx36 _ (Option.some.inj hf).symm
            obtain ⟨rfl, rfl, rfl⟩ := jp3 hf
            exact g_weakK K35 ⟨rfl, ⟨rfl, ⟨rfl, ⟨rfl, ⟨rfl, trivial⟩⟩⟩⟩⟩
          · replace hf := jifn hc79 hf
            refine g_aload_n (pc := 94) dX8_rule_94 rfl rfl ?_
            refine g_iload (pc := 95) dX8_rule_95 rfl ?_
            obtain ⟨v47, ev47, hf⟩ := job hf
            refine g_callV (pc := 97) [.int z42] [] dX8_rule_97 ml_X8_218 ck_X8_first cv_X8_first sh_221 rfl (by decide) (Nat.le_of_ble_eq_true rfl) (c_X8_first ev47) ?_
            show jGG μ_X8_rule 3 100 [some (.ref 221), some (.int x1), some (.int z30), some (.int z39), some (.int z40), some (.int z41), some (.int z42), none, none, none] [.int v47] M43 (fun M' r' => M' = Mz ∧ r' = some (.int r))
            refine g_istore (pc := 100) (lv' := [some (.ref 221), some (.int x1), some (.int z30), some (.int z39), some (.int z40), some (.int z41), some (.int z42), some (.int v47), none, none]) dX8_rule_100 (by decide) rfl ?_
            refine g_iload (pc := 102) dX8_rule_102 rfl ?_
            obtain ⟨⟨u75, u76, u77, M78⟩, hf, hy49⟩ := job hf
            have K51 : jGG μ_X8_rule 3 186 [some (.ref 221), some (.int x1), some (.int z30), some (.int u75), some (.int u76), some (.int u77), some (.int z42), none, none, none] [] M78 (fun M' r' => M' = Mz ∧ r' = some (.int r)) := by
              replace hf := hy49
              refine g_iinc (pc := 186) (lv' := [some (.ref 221), some (.int x1), some (.int z30), some (.int u75), some (.int u76), some (.int u77), some (.int (z42 + 1)), none, none, none]) (z42 + 1) dX8_rule_186 rfl rfl (by decide) rfl ?_
              refine g_goto (pc := 189) 85 dX8_rule_189 rfl ?_
              have hih : jGG μ_X8_rule 3 85 [some (.ref 221), some (.int x1), some (.int z30), some (.int u75), some (.int u76), some (.int u77), some (.int (z42 + 1)), none, none, none] [] M78 (fun M' r' => M' = Mz ∧ r' = some (.int r)) := ih37 (u75, u76, u77, z42 + 1, M78) (Option.some.inj hf).symm
              exact g_weakK hih ⟨rfl, ⟨rfl, ⟨rfl, ⟨rfl, ⟨rfl, ⟨rfl, ⟨rfl, trivial⟩⟩⟩⟩⟩⟩⟩
            refine g_if_ge (pc := 104) 110 dX8_rule_104 rfl (fun hc74 => ?_) (fun hc74 => ?_)
            · replace hf := jifp hc74 hf
              refine g_aload_n (pc := 110) dX8_rule_110 rfl rfl ?_
              refine g_iload (pc := 111) dX8_rule_111 rfl ?_
              obtain ⟨⟨M53, v54⟩, ev54, hf⟩ := job hf
              refine g_callV (pc := 113) [.int v47] [] dX8_rule_113 ml_X8_221 ck_X8_early cv_X8_early sh_221 rfl (by decide) (Nat.le_of_ble_eq_true rfl) (c_X8_early ev54) ?_
              show jGG μ_X8_rule 3 116 [some (.ref 221), some (.int x1), some (.int z30), some (.int z39), some (.int z40), some (.int z41), some (.int z42), some (.int v47), none, none] [.int v54] M53 (fun M' r' => M' = Mz ∧ r' = some (.int r))
              refine g_istore (pc := 116) (lv' := [some (.ref 221), some (.int x1), some (.int z30), some (.int z39), some (.int z40), some (.int z41), some (.int z42), some (.int v47), some (.int v54), none]) dX8_rule_116 (by decide) rfl ?_
              refine g_iload_n (pc := 118) dX8_rule_118 rfl rfl ?_
              obtain ⟨u64, hf, hy56⟩ := job hf
              have K58 : jGG μ_X8_rule 3 148 [some (.ref 221), some (.int x1), some (.int z30), some (.int z39), some (.int z40), some (.int z41), some (.int z42), some (.int v47), some (.int v54), none] [.int u64] M53 (fun M' r' => M' = Mz ∧ r' = some (.int r)) := by
                replace hf := hy56
                refine g_istore (pc := 148) (lv' := [some (.ref 221), some (.int x1), some (.int z30), some (.int z39), some (.int z40), some (.int z41), some (.int z42), some (.int v47), some (.int v54), some (.int u64)]) dX8_rule_148 (by decide) rfl ?_
                refine g_iload_n (pc := 150) dX8_rule_150 rfl rfl ?_
                obtain ⟨y67, hf, hy66⟩ := jcb hf
                have K68 : y67 = Sum.inr () → jGG μ_X8_rule 3 175 [some (.ref 221), some (.int x1), some (.int z30), none, none, none, some (.int z42), some (.int v47), some (.int v54), some (.int u64)] [] M53 (fun M' r' => M' = Mz ∧ r' = some (.int r)) := by
                  intro hyy
                  subst hyy
                  replace hf := hy66
                  refine g_iload (pc := 175) dX8_rule_175 rfl ?_
                  refine g_istore_n (pc := 177) (lv' := [some (.ref 221), some (.int x1), some (.int z30), some (.int v47), none, none, some (.int z42), some (.int v47), some (.int v54), some (.int u64)]) dX8_rule_177 rfl (by decide) rfl ?_
                  refine g_iload (pc := 178) dX8_rule_178 rfl ?_
                  refine g_istore (pc := 180) (lv' := [some (.ref 221), some (.int x1), some (.int z30), some (.int v47), some (.int v54), none, some (.int z42), some (.int v47), some (.int v54), some (.int u64)]) dX8_rule_180 (by decide) rfl ?_
                  refine g_iload (pc := 182) dX8_rule_182 rfl ?_
                  refine g_istore (pc := 184) (lv' := [some (.ref 221), some (.int x1), some (.int z30), some (.int v47), some (.int v54), some (.int u64), some (.int z42), some (.int v47), some (.int v54), some (.int u64)]) dX8_rule_184 (by decide) rfl ?_
                  obtain ⟨rfl, rfl, rfl, rfl⟩ := jp4 (Option.some.inj hf)
                  exact g_weakK (K51) ⟨rfl, ⟨rfl, ⟨rfl, ⟨rfl, ⟨rfl, ⟨rfl, ⟨rfl, trivial⟩⟩⟩⟩⟩⟩⟩
                refine g_if_lt (pc := 151) 175 dX8_rule_151 rfl (fun hc73 => ?_) (fun hc73 => ?_)
                · replace hf := jifp hc73 hf
                  exact g_weakK (K68 (Option.some.inj hf).symm) ⟨rfl, ⟨rfl, ⟨rfl, ⟨rfl, ⟨rfl, ⟨rfl, ⟨rfl, trivial⟩⟩⟩⟩⟩⟩⟩
                · replace hf := jifn hc73 hf
                  refine g_iload (pc := 154) dX8_rule_154 rfl ?_
                  refine g_iload (pc := 156) dX8_rule_156 rfl ?_
                  refine g_icmp_lt (pc := 158) 175 dX8_rule_158 rfl (fun hc72 => ?_) (fun hc72 => ?_)
                  · replace hf := jifp hc72 hf
                    exact g_weakK (K68 (Option.some.inj hf).symm) ⟨rfl, ⟨rfl, ⟨rfl, ⟨rfl, ⟨rfl, ⟨rfl, ⟨rfl, trivial⟩⟩⟩⟩⟩⟩⟩
                  · replace hf := jifn hc72 hf
                    refine g_iload (pc := 161) dX8_rule_161 rfl ?_
                    refine g_iload (pc := 163) dX8_rule_163 rfl ?_
                    refine g_icmp_ne (pc := 165) 186 dX8_rule_165 rfl (fun hc71 => ?_) (fun hc71 => ?_)
                    · replace hf := jifn hc71 hf
                      obtain rfl := Option.some.inj hf
                      replace hf := hy66
                      obtain ⟨rfl, rfl, rfl, rfl⟩ := jp4 (Option.some.inj hf)
                      exact g_weakK (K51) ⟨rfl, ⟨rfl, ⟨rfl, ⟨rfl, ⟨rfl, ⟨rfl, ⟨rfl, trivial⟩⟩⟩⟩⟩⟩⟩
                    · replace hf := jifp hc71 hf
                      refine g_iload (pc := 168) dX8_rule_168 rfl ?_
                      refine g_iload (pc := 170) dX8_rule_170 rfl ?_
                      refine g_icmp_ge (pc := 172) 186 dX8_rule_172 rfl (fun hc70 => ?_) (fun hc70 => ?_)
                      · replace hf := jifp hc70 hf
                        obtain rfl := Option.some.inj hf
                        replace hf := hy66
                        obtain ⟨rfl, rfl, rfl, rfl⟩ := jp4 (Option.some.inj hf)
                        exact g_weakK (K51) ⟨rfl, ⟨rfl, ⟨rfl, ⟨rfl, ⟨rfl, ⟨rfl, ⟨rfl, trivial⟩⟩⟩⟩⟩⟩⟩
                      · replace hf := jifn hc70 hf
                        exact g_weakK (K68 (Option.some.inj hf).symm) ⟨rfl, ⟨rfl, ⟨rfl, ⟨rfl, ⟨rfl, ⟨rfl, ⟨rfl, trivial⟩⟩⟩⟩⟩⟩⟩
              refine g_if_ne (pc := 119) 132 dX8_rule_119 rfl (fun hc63 => ?_) (fun hc63 => ?_)
              · replace hf := jifn hc63 hf
                refine g_iload_n (pc := 132) dX8_rule_132 rfl rfl ?_
                refine g_iconst (pc := 133) 1 dX8_rule_133 rfl ?_
                refine g_icmp_ne (pc := 134) 147 dX8_rule_134 rfl (fun hc61 => ?_) (fun hc61 => ?_)
                · replace hf := jifn hc61 hf
                  refine g_iconst (pc := 147) 0 dX8_rule_147 rfl ?_
                  obtain rfl := Option.some.inj hf
                  exact g_weakK (K58) ⟨rfl, ⟨rfl, ⟨rfl, ⟨rfl, ⟨rfl, ⟨rfl, ⟨rfl, ⟨rfl, ⟨rfl, trivial⟩⟩⟩⟩⟩⟩⟩⟩⟩
                · replace hf := jifp hc61 hf
                  refine g_aload_n (pc := 137) dX8_rule_137 rfl rfl ?_
                  refine g_iload (pc := 138) dX8_rule_138 rfl ?_
                  obtain ⟨v60, ev60, hf⟩ := job hf
                  refine g_callV (pc := 140) [.int v47] [] dX8_rule_140 ml_X8_224 ck_X8_rest cv_X8_rest sh_221 rfl (by decide) (Nat.le_of_ble_eq_true rfl) (c_X8_rest ev60) ?_
                  show jGG μ_X8_rule 3 143 [some (.ref 221), some (.int x1), some (.int z30), some (.int z39), some (.int z40), some (.int z41), some (.int z42), some (.int v47), some (.int v54), none] [.int v60] M53 (fun M' r' => M' = Mz ∧ r' = some (.int r))
                  refine g_ineg (pc := 143) dX8_rule_143 ?_
                  refine g_goto (pc := 144) 148 dX8_rule_144 rfl ?_
                  obtain rfl := Option.some.inj hf
                  exact g_weakK (K58) ⟨rfl, ⟨rfl, ⟨rfl, ⟨rfl, ⟨rfl, ⟨rfl, ⟨rfl, ⟨rfl, ⟨rfl, trivial⟩⟩⟩⟩⟩⟩⟩⟩⟩
              · replace hf := jifp hc63 hf
                refine g_aload_n (pc := 122) dX8_rule_122 rfl rfl ?_
                refine g_getR (pc := 123) dX8_rule_123 fl_X8_31 sh_221 rfl ?_
                refine g_iload (pc := 126) dX8_rule_126 rfl ?_
                obtain ⟨v62, ev62, hf⟩ := job hf
                refine g_iald (pc := 128) dX8_rule_128 sh_229 ev62 ?_
                refine g_goto (pc := 129) 148 dX8_rule_129 rfl ?_
                obtain rfl := Option.some.inj hf
                exact g_weakK (K58) ⟨rfl, ⟨rfl, ⟨rfl, ⟨rfl, ⟨rfl, ⟨rfl, ⟨rfl, ⟨rfl, ⟨rfl, trivial⟩⟩⟩⟩⟩⟩⟩⟩⟩
            · replace hf := jifn hc74 hf
              refine g_goto (pc := 107) 186 dX8_rule_107 rfl ?_
              obtain ⟨rfl, rfl, rfl, rfl⟩ := jp4 (Option.some.inj hf)
              exact g_weakK (K51) ⟨rfl, ⟨rfl, ⟨rfl, ⟨rfl, ⟨rfl, ⟨rfl, ⟨rfl, trivial⟩⟩⟩⟩⟩⟩⟩
      refine g_weak (lv' := [some (.ref 221), some (.int x1), some (.int 0), none, none, none, none, none, none, none]) ⟨rfl, ⟨rfl, ⟨rfl, trivial⟩⟩⟩ ?_
      refine jLp_ind (P := fun ((z18, M19) : Int32 × JMem) => jGG μ_X8_rule 3 38 [some (.ref 221), some (.int x1), some (.int z18), none, none, none, none, none, none, none] [] M19 (fun M' r' => M' = Mz ∧ r' = some (.int r))) ?_ N _ y13
      rintro ⟨z18, M19⟩ x_17 hf ih16 hx15
      show jGG μ_X8_rule 3 38 [some (.ref 221), some (.int x1), some (.int z18), none, none, none, none, none, none, none] [] M19 (fun M' r' => M' = Mz ∧ r' = some (.int r))
      refine g_iload_n (pc := 38) dX8_rule_38 rfl rfl ?_
      refine g_aload_n (pc := 39) dX8_rule_39 rfl rfl ?_
      refine g_getI (pc := 40) dX8_rule_40 fl_X8_143 sh_221 rfl ?_
      refine g_icmp_ge (pc := 43) 59 dX8_rule_43 rfl (fun hc22 => ?_) (fun hc22 => ?_)
      · replace hf := jifp hc22 hf
        have hf := hx15 _ (Option.some.inj hf).symm
        obtain rfl := hf
        exact g_weakK K14 ⟨rfl, ⟨rfl, trivial⟩⟩
      · replace hf := jifn hc22 hf
        refine g_aload_n (pc := 46) dX8_rule_46 rfl rfl ?_
        refine g_getR (pc := 47) dX8_rule_47 fl_X8_58 sh_221 rfl ?_
        refine g_iload_n (pc := 50) dX8_rule_50 rfl rfl ?_
        refine g_iconst (pc := 51) 0 dX8_rule_51 rfl ?_
        obtain ⟨M21, eM21, hf⟩ := job hf
        refine g_bast (pc := 52) dX8_rule_52 sh_238 (Or.inl rfl) eM21 ?_
        refine g_iinc (pc := 53) (lv' := [some (.ref 221), some (.int x1), some (.int (z18 + 1)), none, none, none, none, none, none, none]) (z18 + 1) dX8_rule_53 rfl rfl (by decide) rfl ?_
        refine g_goto (pc := 56) 38 dX8_rule_56 rfl ?_
        have hih : jGG μ_X8_rule 3 38 [some (.ref 221), some (.int x1), some (.int (z18 + 1)), none, none, none, none, none, none, none] [] M21 (fun M' r' => M' = Mz ∧ r' = some (.int r)) := ih16 (z18 + 1, M21) (Option.some.inj hf).symm
        exact g_weakK hih ⟨rfl, ⟨rfl, ⟨rfl, trivial⟩⟩⟩
    refine g_weak (lv' := [some (.ref 221), some (.int x1), some (.int 0), none, none, none, none, none, none, none]) ⟨rfl, ⟨rfl, ⟨rfl, trivial⟩⟩⟩ ?_
    refine jLp_ind (P := fun ((z7, M8) : Int32 × JMem) => jGG μ_X8_rule 3 17 [some (.ref 221), some (.int x1), some (.int z7), none, none, none, none, none, none, none] [] M8 (fun M' r' => M' = Mz ∧ r' = some (.int r))) ?_ N _ y2
    rintro ⟨z7, M8⟩ x_6 hf ih5 hx4
    show jGG μ_X8_rule 3 17 [some (.ref 221), some (.int x1), some (.int z7), none, none, none, none, none, none, none] [] M8 (fun M' r' => M' = Mz ∧ r' = some (.int r))
    refine g_iload_n (pc := 17) dX8_rule_17 rfl rfl ?_
    refine g_bipush (pc := 18) 8 dX8_rule_18 rfl ?_
    refine g_icmp_ge (pc := 20) 36 dX8_rule_20 rfl (fun hc11 => ?_) (fun hc11 => ?_)
    · replace hf := jifp hc11 hf
      have hf := hx4 _ (Option.some.inj hf).symm
      obtain rfl := hf
      exact g_weakK K3 ⟨rfl, ⟨rfl, trivial⟩⟩
    · replace hf := jifn hc11 hf
      refine g_aload_n (pc := 23) dX8_rule_23 rfl rfl ?_
      refine g_getR (pc := 24) dX8_rule_24 fl_X8_40 sh_221 rfl ?_
      refine g_iload_n (pc := 27) dX8_rule_27 rfl rfl ?_
      refine g_iconst (pc := 28) 0 dX8_rule_28 rfl ?_
      obtain ⟨M10, eM10, hf⟩ := job hf
      refine g_iast (pc := 29) dX8_rule_29 sh_232 eM10 ?_
      refine g_iinc (pc := 30) (lv' := [some (.ref 221), some (.int x1), some (.int (z7 + 1)), none, none, none, none, none, none, none]) (z7 + 1) dX8_rule_30 rfl rfl (by decide) rfl ?_
      refine g_goto (pc := 33) 17 dX8_rule_33 rfl ?_
      have hih : jGG μ_X8_rule 3 17 [some (.ref 221), some (.int x1), some (.int (z7 + 1)), none, none, none, none, none, none, none] [] M10 (fun M' r' => M' = Mz ∧ r' = some (.int r)) := ih5 (z7 + 1, M10) (Option.some.inj hf).symm
      exact g_weakK hih ⟨rfl, ⟨rfl, ⟨rfl, trivial⟩⟩⟩
  · replace hf := jifp hc98 hf
    refine g_ldc (pc := 12) (-100002) dX8_rule_12 lc_X8_132 ?_
    obtain ⟨rfl, rfl⟩ := Prod.mk.inj (Option.some.inj hf)
    exact g_iret (pc := 14) dX8_rule_14 rfl ⟨rfl, rfl⟩
def f_X8_swapBest (N : Nat) (M : JMem) : Option (JMem × Int32) := (f_X8_hasTails N M).bind fun (M1, v2) => ((jLp (σ := Int32 × JMem) (ρ := JMem) N (fun ((z9, M10) : Int32 × JMem) => (if 256 ≤ z9 then some (Sum.inr M10) else (jwr M10 241 256 z9 0).bind fun M12 => (((if (M12 221 2) ≤ (z9 / 32) then some (M12) else (jrd M12 222 8 (z9 / 32)).bind fun v18 => (if v18 = 0 then (jrd M12 232 8 (z9 / 32)).bind fun v19 => (if v19 ≤ ((z9 - z9 / 32 * 32) + 1) then some (M12) else (jrd M12 231 256 z9).bind fun v20 => (jrd M12 231 256 (z9 + 1)).bind fun v21 => (f_X8_slack M12 v20).bind fun v22 => (((jcase (α := Int32) (β := Unit) (if v22 = 0 then (f_X8_slack M12 v21).bind fun v33 => (if v33 = 0 then (jrd M12 237 32 v21).bind fun v34 => (jrd M12 237 32 v20).bind fun v35 => (jrd M12 229 32 v20).bind fun v36 => (if v34 = (v35 + v36) then some (Sum.inl (1)) else some (Sum.inr ())) else some (Sum.inr ())) else some (Sum.inr ())) fun _ => some (0)) : Option (Int32)).bind fun u40 => (jwr M12 241 256 z9 u40).bind fun M41 => some (M41))) else some (M12))) : Option (JMem)).bind fun M45 => some (Sum.inl (z9 + 1, M45))))) (0, M1)).bind fun t11 => ((jLp (σ := Int32 × Int32 × Int32 × JMem) (ρ := Int32 × JMem) N (fun ((z53, z54, z55, M56) : Int32 × Int32 × Int32 × JMem) => (if 256 ≤ z55 then some (Sum.inr (z53, M56)) else (jrd M56 241 256 z55).bind fun v59 => (((if v59 = 0 then some ((z53, z54, M56)) else (f_X8_exchange M56 (z55 / 32) (z55 - z55 / 32 * 32)).bind fun M65 => (f_X8_work N M65).bind fun (M66, v67) => (((if v67 = 0 then some ((z53, z54)) else (if z54 ≤ (M66 221 21) then some ((z53, z54)) else some ((z55, M66 221 21)))) : Option (Int32 × Int32)).bind fun (u75, u76) => (f_X8_exchange M66 (z55 / 32) (z55 - z55 / 32 * 32)).bind fun M77 => some ((u75, u76, M77)))) : Option (Int32 × Int32 × JMem)).bind fun (u79, u80, M81) => some (Sum.inl (u79, u80, z55 + 1, M81))))) ((-1), M1 221 21, 0, t11)).bind fun (t57, t58) => (if 0 ≤ t57 then (f_X8_exchange t58 (t57 / 32) (t57 - t57 / 32 * 32)).bind fun M83 => some (M83, 1) else some (t58, 0))))
set_option maxHeartbeats 4000000 in
theorem c_X8_swapBest {N : Nat} {M : JMem} {Mz : JMem} {r : Int32} (hf : f_X8_swapBest N M = some (Mz, r)) : jCo yX8_swapBest μ_X8_swapBest 5 M [.ref 221] Mz (some (.int r)) := by
  refine jCt_of (by decide +kernel) rfl (by simp [Value.category]) (Nat.le_of_ble_eq_true rfl) ?_
  unfold f_X8_swapBest at hf
  show jGG μ_X8_swapBest 5 0 [some (.ref 221), none, none, none, none, none, none, none] [] M (fun M' r' => M' = Mz ∧ r' = some (.int r))
  refine g_aload_n (pc := 0) dX8_swapBest_0 rfl rfl ?_
  obtain ⟨⟨M1, v2⟩, ev2, hf⟩ := job hf
  refine g_callV (pc := 1) [] [] dX8_swapBest_1 ml_X8_208 ck_X8_hasTails cv_X8_hasTails sh_221 rfl (by decide) (Nat.le_of_ble_eq_true rfl) (c_X8_hasTails ev2) ?_
  show jGG μ_X8_swapBest 5 4 [some (.ref 221), none, none, none, none, none, none, none] [.int v2] M1 (fun M' r' => M' = Mz ∧ r' = some (.int r))
  refine g_istore_n (pc := 4) (lv' := [some (.ref 221), some (.int v2), none, none, none, none, none, none]) dX8_swapBest_4 rfl (by decide) rfl ?_
  refine g_aload_n (pc := 5) dX8_swapBest_5 rfl rfl ?_
  refine g_getI (pc := 6) dX8_swapBest_6 fl_X8_183 sh_221 rfl ?_
  refine g_istore_n (pc := 9) (lv' := [some (.ref 221), some (.int v2), some (.int (M1 221 21)), none, none, none, none, none]) dX8_swapBest_9 rfl (by decide) rfl ?_
  refine g_iconst (pc := 10) 0 dX8_swapBest_10 rfl ?_
  refine g_istore_n (pc := 11) (lv' := [some (.ref 221), some (.int v2), some (.int (M1 221 21)), some (.int 0), none, none, none, none]) dX8_swapBest_11 rfl (by decide) rfl ?_
  obtain ⟨t11, y4, hy3⟩ := job hf
  have K5 : jGG μ_X8_swapBest 5 149 [some (.ref 221), none, some (.int (M1 221 21)), none, none, none, none, none] [] t11 (fun M' r' => M' = Mz ∧ r' = some (.int r)) := by
    replace hf := hy3
    refine g_iconst (pc := 149) (-1) dX8_swapBest_149 rfl ?_
    refine g_istore_n (pc := 150) (lv' := [some (.ref 221), none, some (.int (M1 221 21)), some (.int ((-1))), none, none, none, none]) dX8_swapBest_150 rfl (by decide) rfl ?_
    refine g_iload_n (pc := 151) dX8_swapBest_151 rfl rfl ?_
    refine g_istore (pc := 152) (lv' := [some (.ref 221), none, some (.int (M1 221 21)), some (.int ((-1))), some (.int (M1 221 21)), none, none, none]) dX8_swapBest_152 (by decide) rfl ?_
    refine g_iconst (pc := 154) 0 dX8_swapBest_154 rfl ?_
    refine g_istore (pc := 155) (lv' := [some (.ref 221), none, some (.int (M1 221 21)), some (.int ((-1))), some (.int (M1 221 21)), some (.int 0), none, none]) dX8_swapBest_155 (by decide) rfl ?_
    obtain ⟨⟨t57, t58⟩, y48, hy47⟩ := job hf
    have K49 : jGG μ_X8_swapBest 5 234 [some (.ref 221), none, none, some (.int t57), none, none, none, none] [] t58 (fun M' r' => M' = Mz ∧ r' = some (.int r)) := by
      replace hf := hy47
      refine g_iload_n (pc := 234) dX8_swapBest_234 rfl rfl ?_
      refine g_if_ge (pc := 235) 240 dX8_swapBest_235 rfl (fun hc84 => ?_) (fun hc84 => ?_)
      · replace hf := jifp hc84 hf
        refine g_aload_n (pc := 240) dX8_swapBest_240 rfl rfl ?_
        refine g_iload_n (pc := 241) dX8_swapBest_241 rfl rfl ?_
        refine g_bipush (pc := 242) 32 dX8_swapBest_242 rfl ?_
        refine g_idiv (pc := 244) dX8_swapBest_244 (by decide) ?_
        refine g_iload_n (pc := 245) dX8_swapBest_245 rfl rfl ?_
        refine g_bipush (pc := 246) 32 dX8_swapBest_246 rfl ?_
        refine g_irem (pc := 248) dX8_swapBest_248 (by decide) ?_
        obtain ⟨M83, eM83, hf⟩ := job hf
        refine g_callV (pc := 249) [.int (t57 / 32), .int (t57 - t57 / 32 * 32)] [] dX8_swapBest_249 ml_X8_195 ck_X8_exchange cv_X8_exchange sh_221 rfl (by decide) (Nat.le_of_ble_eq_true rfl) (c_X8_exchange eM83) ?_
        show jGG μ_X8_swapBest 5 252 [some (.ref 221), none, none, some (.int t57), none, none, none, none] [] M83 (fun M' r' => M' = Mz ∧ r' = some (.int r))
        refine g_iconst (pc := 252) 1 dX8_swapBest_252 rfl ?_
        obtain ⟨rfl, rfl⟩ := Prod.mk.inj (Option.some.inj hf)
        exact g_zret (pc := 253) dX8_swapBest_253 rfl (Or.inr rfl) ⟨rfl, rfl⟩
      · replace hf := jifn hc84 hf
        refine g_iconst (pc := 238) 0 dX8_swapBest_238 rfl ?_
        obtain ⟨rfl, rfl⟩ := Prod.mk.inj (Option.some.inj hf)
        exact g_zret (pc := 239) dX8_swapBest_239 rfl (Or.inl rfl) ⟨rfl, rfl⟩
    refine g_weak (lv' := [some (.ref 221), none, none, some (.int ((-1))), some (.int (M1 221 21)), some (.int 0), none, none]) ⟨rfl, ⟨rfl, ⟨rfl, ⟨rfl, trivial⟩⟩⟩⟩ ?_
    refine jLp_ind (P := fun ((z53, z54, z55, M56) : Int32 × Int32 × Int32 × JMem) => jGG μ_X8_swapBest 5 157 [some (.ref 221), none, none, some (.int z53), some (.int z54), some (.int z55), none, none] [] M56 (fun M' r' => M' = Mz ∧ r' = some (.int r))) ?_ N _ y48
    rintro ⟨z53, z54, z55, M56⟩ x_52 hf ih51 hx50
    show jGG μ_X8_swapBest 5 157 [some (.ref 221), none, none, some (.int z53), some (.int z54), some (.int z55), none, none] [] M56 (fun M' r' => M' = Mz ∧ r' = some (.int r))
    refine g_iload (pc := 157) dX8_swapBest_157 rfl ?_
    refine g_sipush (pc := 159) 256 dX8_swapBest_159 rfl ?_
    refine g_icmp_ge (pc := 162) 234 dX8_swapBest_162 rfl (fun hc82 => ?_) (fun hc82 => ?_)
    · replace hf := jifp hc82 hf
      have hf := hx50 _ (Option.some.inj hf).symm
      obtain ⟨rfl, rfl⟩ := jp2 hf
      exact g_weakK K49 ⟨rfl, ⟨rfl, trivial⟩⟩
    · replace hf := jifn hc82 hf
      refine g_aload_n (pc := 165) dX8_swapBest_165 rfl rfl ?_
      refine g_getR (pc := 166) dX8_swapBest_166 fl_X8_68 sh_221 rfl ?_
      refine g_iload (pc := 169) dX8_swapBest_169 rfl ?_
      obtain ⟨v59, ev59, hf⟩ := job hf
      refine g_bald (pc := 171) dX8_swapBest_171 sh_241 ev59 ?_
      obtain ⟨⟨u79, u80, M81⟩, hf, hy61⟩ := job hf
      have K63 : jGG μ_X8_swapBest 5 228 [some (.ref 221), none, none, some (.int u79), some (.int u80), some (.int z55), none, none] [] M81 (fun M' r' => M' = Mz ∧ r' = some (.int r)) := by
        replace hf := hy61
        refine g_iinc (pc := 228) (lv' := [some (.ref 221), none, none, some (.int u79), some (.int u80), some (.int (z55 + 1)), none, none]) (z55 + 1) dX8_swapBest_228 rfl rfl (by decide) rfl ?_
        refine g_goto (pc := 231) 157 dX8_swapBest_231 rfl ?_
        have hih : jGG μ_X8_swapBest 5 157 [some (.ref 221), none, none, some (.int u79), some (.int u80), some (.int (z55 + 1)), none, none] [] M81 (fun M' r' => M' = Mz ∧ r' = some (.int r)) := ih51 (u79, u80, z55 + 1, M81) (Option.some.inj hf).symm
        exact g_weakK hih ⟨rfl, ⟨rfl, ⟨rfl, ⟨rfl, trivial⟩⟩⟩⟩
      refine g_if_eq (pc := 172) 228 dX8_swapBest_172 rfl (fun hc78 => ?_) (fun hc78 => ?_)
      · replace hf := jifp hc78 hf
        obtain ⟨rfl, rfl, rfl⟩ := jp3 (Option.some.inj hf)
        exact g_weakK (K63) ⟨rfl, ⟨rfl, ⟨rfl, ⟨rfl, trivial⟩⟩⟩⟩
      · replace hf := jifn hc78 hf
        refine g_aload_n (pc := 175) dX8_swapBest_175 rfl rfl ?_
        refine g_iload (pc := 176) dX8_swapBest_176 rfl ?_
        refine g_bipush (pc := 178) 32 dX8_swapBest_178 rfl ?_
        refine g_idiv (pc := 180) dX8_swapBest_180 (by decide) ?_
        refine g_iload (pc := 181) dX8_swapBest_181 rfl ?_
        refine g_bipush (pc := 183) 32 dX8_swapBest_183 rfl ?_
        refine g_irem (pc := 185) dX8_swapBest_185 (by decide) ?_
        obtain ⟨M65, eM65, hf⟩ := job hf
        refine g_callV (pc := 186) [.int (z55 / 32), .int (z55 - z55 / 32 * 32)] [] dX8_swapBest_186 ml_X8_195 ck_X8_exchange cv_X8_exchange sh_221 rfl (by decide) (Nat.le_of_ble_eq_true rfl) (c_X8_exchange eM65) ?_
        show jGG μ_X8_swapBest 5 189 [some (.ref 221), none, none, some (.int z53), some (.int z54), some (.int z55), none, none] [] M65 (fun M' r' => M' = Mz ∧ r' = some (.int r))
        refine g_aload_n (pc := 189) dX8_swapBest_189 rfl rfl ?_
        obtain ⟨⟨M66, v67⟩, ev67, hf⟩ := job hf
        refine g_callV (pc := 190) [] [] dX8_swapBest_190 ml_X8_192 ck_X8_work cv_X8_work sh_221 rfl (by decide) (Nat.le_of_ble_eq_true rfl) (c_X8_work ev67) ?_
        show jGG μ_X8_swapBest 5 193 [some (.ref 221), none, none, some (.int z53), some (.int z54), some (.int z55), none, none] [.int v67] M66 (fun M' r' => M' = Mz ∧ r' = some (.int r))
        obtain ⟨⟨u75, u76⟩, hf, hy69⟩ := job hf
        have K71 : jGG μ_X8_swapBest 5 214 [some (.ref 221), none, none, some (.int u75), some (.int u76), some (.int z55), none, none] [] M66 (fun M' r' => M' = Mz ∧ r' = some (.int r)) := by
          replace hf := hy69
          refine g_aload_n (pc := 214) dX8_swapBest_214 rfl rfl ?_
          refine g_iload (pc := 215) dX8_swapBest_215 rfl ?_
          refine g_bipush (pc := 217) 32 dX8_swapBest_217 rfl ?_
          refine g_idiv (pc := 219) dX8_swapBest_219 (by decide) ?_
          refine g_iload (pc := 220) dX8_swapBest_220 rfl ?_
          refine g_bipush (pc := 222) 32 dX8_swapBest_222 rfl ?_
          refine g_irem (pc := 224) dX8_swapBest_224 (by decide) ?_
          obtain ⟨M77, eM77, hf⟩ := job hf
          refine g_callV (pc := 225) [.int (z55 / 32), .int (z55 - z55 / 32 * 32)] [] dX8_swapBest_225 ml_X8_195 ck_X8_exchange cv_X8_exchange sh_221 rfl (by decide) (Nat.le_of_ble_eq_true rfl) (c_X8_exchange eM77) ?_
          show jGG μ_X8_swapBest 5 228 [some (.ref 221), none, none, some (.int u75), some (.int u76), some (.int z55), none, none] [] M77 (fun M' r' => M' = Mz ∧ r' = some (.int r))
          obtain ⟨rfl, rfl, rfl⟩ := jp3 (Option.some.inj hf)
          exact g_weakK (K63) ⟨rfl, ⟨rfl, ⟨rfl, ⟨rfl, trivial⟩⟩⟩⟩
        refine g_if_eq (pc := 193) 214 dX8_swapBest_193 rfl (fun hc74 => ?_) (fun hc74 => ?_)
        · replace hf := jifp hc74 hf
          obtain ⟨rfl, rfl⟩ := jp2 (Option.some.inj hf)
          exact g_weakK (K71) ⟨rfl, ⟨rfl, ⟨rfl, ⟨rfl, trivial⟩⟩⟩⟩
        · replace hf := jifn hc74 hf
          refine g_aload_n (pc := 196) dX8_swapBest_196 rfl rfl ?_
          refine g_getI (pc := 197) dX8_swapBest_197 fl_X8_183 sh_221 rfl ?_
          refine g_iload (pc := 200) dX8_swapBest_200 rfl ?_
          refine g_icmp_ge (pc := 202) 214 dX8_swapBest_202 rfl (fun hc73 => ?_) (fun hc73 => ?_)
          · replace hf := jifp hc73 hf
            obtain ⟨rfl, rfl⟩ := jp2 (Option.some.inj hf)
            exact g_weakK (K71) ⟨rfl, ⟨rfl, ⟨rfl, ⟨rfl, trivial⟩⟩⟩⟩
          · replace hf := jifn hc73 hf
            refine g_aload_n (pc := 205) dX8_swapBest_205 rfl rfl ?_
            refine g_getI (pc := 206) dX8_swapBest_206 fl_X8_183 sh_221 rfl ?_
            refine g_istore (pc := 209) (lv' := [some (.ref 221), none, none, some (.int z53), some (.int (M66 221 21)), some (.int z55), none, none]) dX8_swapBest_209 (by decide) rfl ?_
            refine g_iload (pc := 211) dX8_swapBest_211 rfl ?_
            refine g_istore_n (pc := 213) (lv' := [some (.ref 221), none, none, some (.int z55), some (.int (M66 221 21)), some (.int z55), none, none]) dX8_swapBest_213 rfl (by decide) rfl ?_
            obtain ⟨rfl, rfl⟩ := jp2 (Option.some.inj hf)
            exact g_weakK (K71) ⟨rfl, ⟨rfl, ⟨rfl, ⟨rfl, trivial⟩⟩⟩⟩
  refine g_weak (lv' := [some (.ref 221), none, some (.int (M1 221 21)), some (.int 0), none, none, none, none]) ⟨rfl, ⟨rfl, ⟨rfl, trivial⟩⟩⟩ ?_
  refine jLp_ind (P := fun ((z9, M10) : Int32 × JMem) => jGG μ_X8_swapBest 5 12 [some (.ref 221), none, some (.int (M1 221 21)), some (.int z9), none, none, none, none] [] M10 (fun M' r' => M' = Mz ∧ r' = some (.int r))) ?_ N _ y4
  rintro ⟨z9, M10⟩ x_8 hf ih7 hx6
  show jGG μ_X8_swapBest 5 12 [some (.ref 221), none, some (.int (M1 221 21)), some (.int z9), none, none, none, none] [] M10 (fun M' r' => M' = Mz ∧ r' = some (.int r))
  refine g_iload_n (pc := 12) dX8_swapBest_12 rfl rfl ?_
  refine g_sipush (pc := 13) 256 dX8_swapBest_13 rfl ?_
  refine g_icmp_ge (pc := 16) 149 dX8_swapBest_16 rfl (fun hc46 => ?_) (fun hc46 => ?_)
  · replace hf := jifp hc46 hf
    have hf := hx6 _ (Option.some.inj hf).symm
    obtain rfl := hf
    exact g_weakK K5 ⟨rfl, ⟨rfl, trivial⟩⟩
  · replace hf := jifn hc46 hf
    refine g_iload_n (pc := 19) dX8_swapBest_19 rfl rfl ?_
    refine g_bipush (pc := 20) 32 dX8_swapBest_20 rfl ?_
    refine g_idiv (pc := 22) dX8_swapBest_22 (by decide) ?_
    refine g_istore (pc := 23) (lv' := [some (.ref 221), none, some (.int (M1 221 21)), some (.int z9), some (.int (z9 / 32)), none, none, none]) dX8_swapBest_23 (by decide) rfl ?_
    refine g_iload_n (pc := 25) dX8_swapBest_25 rfl rfl ?_
    refine g_bipush (pc := 26) 32 dX8_swapBest_26 rfl ?_
    refine g_irem (pc := 28) dX8_swapBest_28 (by decide) ?_
    refine g_istore (pc := 29) (lv' := [some (.ref 221), none, some (.int (M1 221 21)), some (.int z9), some (.int (z9 / 32)), some (.int (z9 - z9 / 32 * 32)), none, none]) dX8_swapBest_29 (by decide) rfl ?_
    refine g_aload_n (pc := 31) dX8_swapBest_31 rfl rfl ?_
    refine g_getR (pc := 32) dX8_swapBest_32 fl_X8_68 sh_221 rfl ?_
    refine g_iload_n (pc := 35) dX8_swapBest_35 rfl rfl ?_
    refine g_iconst (pc := 36) 0 dX8_swapBest_36 rfl ?_
    obtain ⟨M12, eM12, hf⟩ := job hf
    refine g_bast (pc := 37) dX8_swapBest_37 sh_241 (Or.inl rfl) eM12 ?_
    refine g_iload (pc := 38) dX8_swapBest_38 rfl ?_
    refine g_aload_n (pc := 40) dX8_swapBest_40 rfl rfl ?_
    refine g_getI (pc := 41) dX8_swapBest_41 fl_X8_133 sh_221 rfl ?_
    obtain ⟨M45, hf, hy14⟩ := job hf
    have K16 : jGG μ_X8_swapBest 5 143 [some (.ref 221), none, some (.int (M1 221 21)), some (.int z9), none, none, none, none] [] M45 (fun M' r' => M' = Mz ∧ r' = some (.int r)) := by
      replace hf := hy14
      refine g_iinc (pc := 143) (lv' := [some (.ref 221), none, some (.int (M1 221 21)), some (.int (z9 + 1)), none, none, none, none]) (z9 + 1) dX8_swapBest_143 rfl rfl (by decide) rfl ?_
      refine g_goto (pc := 146) 12 dX8_swapBest_146 rfl ?_
      have hih : jGG μ_X8_swapBest 5 12 [some (.ref 221), none, some (.int (M1 221 21)), some (.int (z9 + 1)), none, none, none, none] [] M45 (fun M' r' => M' = Mz ∧ r' = some (.int r)) := ih7 (z9 + 1, M45) (Option.some.inj hf).symm
      exact g_weakK hih ⟨rfl, ⟨rfl, ⟨rfl, trivial⟩⟩⟩
    refine g_icmp_ge (pc := 44) 143 dX8_swapBest_44 rfl (fun hc44 => ?_) (fun hc44 => ?_)
    · replace hf := jifp hc44 hf
      obtain rfl := Option.some.inj hf
      exact g_weakK (K16) ⟨rfl, ⟨rfl, ⟨rfl, trivial⟩⟩⟩
    · replace hf := jifn hc44 hf
      refine g_aload_n (pc := 47) dX8_swapBest_47 rfl rfl ?_
      refine g_getR (pc := 48) dX8_swapBest_48 fl_X8_7 sh_221 rfl ?_
      refine g_iload (pc := 51) dX8_swapBest_51 rfl ?_
      obtain ⟨v18, ev18, hf⟩ := job hf
      refine g_iald (pc := 53) dX8_swapBest_53 sh_222 ev18 ?_
      refine g_if_ne (pc := 54) 143 dX8_swapBest_54 rfl (fun hc43 => ?_) (fun hc43 => ?_)
      · replace hf := jifn hc43 hf
        obtain rfl := Option.some.inj hf
        exact g_weakK (K16) ⟨rfl, ⟨rfl, ⟨rfl, trivial⟩⟩⟩
      · replace hf := jifp hc43 hf
        refine g_iload (pc := 57) dX8_swapBest_57 rfl ?_
        refine g_iconst (pc := 59) 1 dX8_swapBest_59 rfl ?_
        refine g_iadd (pc := 60) dX8_swapBest_60 ?_
        refine g_aload_n (pc := 61) dX8_swapBest_61 rfl rfl ?_
        refine g_getR (pc := 62) dX8_swapBest_62 fl_X8_40 sh_221 rfl ?_
        refine g_iload (pc := 65) dX8_swapBest_65 rfl ?_
        obtain ⟨v19, ev19, hf⟩ := job hf
        refine g_iald (pc := 67) dX8_swapBest_67 sh_232 ev19 ?_
        refine g_icmp_ge (pc := 68) 143 dX8_swapBest_68 rfl (fun hc42 => ?_) (fun hc42 => ?_)
        · replace hf := jifp hc42 hf
          obtain rfl := Option.some.inj hf
          exact g_weakK (K16) ⟨rfl, ⟨rfl, ⟨rfl, trivial⟩⟩⟩
        · replace hf := jifn hc42 hf
          refine g_aload_n (pc := 71) dX8_swapBest_71 rfl rfl ?_
          refine g_getR (pc := 72) dX8_swapBest_72 fl_X8_37 sh_221 rfl ?_
          refine g_iload_n (pc := 75) dX8_swapBest_75 rfl rfl ?_
          obtain ⟨v20, ev20, hf⟩ := job hf
          refine g_iald (pc := 76) dX8_swapBest_76 sh_231 ev20 ?_
          refine g_istore (pc := 77) (lv' := [some (.ref 221), none, some (.int (M1 221 21)), some (.int z9), some (.int (z9 / 32)), some (.int (z9 - z9 / 32 * 32)), some (.int v20), none]) dX8_swapBest_77 (by decide) rfl ?_
          refine g_aload_n (pc := 79) dX8_swapBest_79 rfl rfl ?_
          refine g_getR (pc := 80) dX8_swapBest_80 fl_X8_37 sh_221 rfl ?_
          refine g_iload_n (pc := 83) dX8_swapBest_83 rfl rfl ?_
          refine g_iconst (pc := 84) 1 dX8_swapBest_84 rfl ?_
          refine g_iadd (pc := 85) dX8_swapBest_85 ?_
          obtain ⟨v21, ev21, hf⟩ := job hf
          refine g_iald (pc := 86) dX8_swapBest_86 sh_231 ev21 ?_
          refine g_istore (pc := 87) (lv' := [some (.ref 221), none, some (.int (M1 221 21)), some (.int z9), some (.int (z9 / 32)), some (.int (z9 - z9 / 32 * 32)), some (.int v20), some (.int v21)]) dX8_swapBest_87 (by decide) rfl ?_
          refine g_aload_n (pc := 89) dX8_swapBest_89 rfl rfl ?_
          refine g_getR (pc := 90) dX8_swapBest_90 fl_X8_68 sh_221 rfl ?_
          refine g_iload_n (pc := 93) dX8_swapBest_93 rfl rfl ?_
          refine g_aload_n (pc := 94) dX8_swapBest_94 rfl rfl ?_
          refine g_iload (pc := 95) dX8_swapBest_95 rfl ?_
          obtain ⟨v22, ev22, hf⟩ := job hf
          refine g_callV (pc := 97) [.int v20] [.int z9, .ref 241] dX8_swapBest_97 ml_X8_211 ck_X8_slack cv_X8_slack sh_221 rfl (by decide) (Nat.le_of_ble_eq_true rfl) (c_X8_slack ev22) ?_
          show jGG μ_X8_swapBest 5 100 [some (.ref 221), none, some (.int (M1 221 21)), some (.int z9), some (.int (z9 / 32)), some (.int (z9 - z9 / 32 * 32)), some (.int v20), some (.int v21)] [.int v22, .int z9, .ref 241] M12 (fun M' r' => M' = Mz ∧ r' = some (.int r))
          obtain ⟨u40, hf, hy24⟩ := job hf
          have K26 : (hbu40 : u40 = 0 ∨ u40 = 1) → jGG μ_X8_swapBest 5 142 [some (.ref 221), none, some (.int (M1 221 21)), some (.int z9), none, none, none, none] [.int u40, .int z9, .ref 241] M12 (fun M' r' => M' = Mz ∧ r' = some (.int r)) := by
            intro hbu40
            replace hf := hy24
            obtain ⟨M41, eM41, hf⟩ := job hf
            refine g_bast (pc := 142) dX8_swapBest_142 sh_241 hbu40 eM41 ?_
            obtain rfl := Option.some.inj hf
            exact g_weakK (K16) ⟨rfl, ⟨rfl, ⟨rfl, trivial⟩⟩⟩
          obtain ⟨y30, hf, hy29⟩ := jcb hf
          have K31 : y30 = Sum.inr () → jGG μ_X8_swapBest 5 141 [some (.ref 221), none, some (.int (M1 221 21)), some (.int z9), none, none, none, none] [.int z9, .ref 241] M12 (fun M' r' => M' = Mz ∧ r' = some (.int r)) := by
            intro hyy
            subst hyy
            replace hf := hy29
            refine g_iconst (pc := 141) 0 dX8_swapBest_141 rfl ?_
            obtain rfl := Option.some.inj hf
            exact g_weakK (K26 (Or.inl rfl)) ⟨rfl, ⟨rfl, ⟨rfl, trivial⟩⟩⟩
          refine g_if_ne (pc := 100) 141 dX8_swapBest_100 rfl (fun hc39 => ?_) (fun hc39 => ?_)
          · replace hf := jifn hc39 hf
            exact g_weakK (K31 (Option.some.inj hf).symm) ⟨rfl, ⟨rfl, ⟨rfl, trivial⟩⟩⟩
          · replace hf := jifp hc39 hf
            refine g_aload_n (pc := 103) dX8_swapBest_103 rfl rfl ?_
            refine g_iload (pc := 104) dX8_swapBest_104 rfl ?_
            obtain ⟨v33, ev33, hf⟩ := job hf
            refine g_callV (pc := 106) [.int v21] [.int z9, .ref 241] dX8_swapBest_106 ml_X8_211 ck_X8_slack cv_X8_slack sh_221 rfl (by decide) (Nat.le_of_ble_eq_true rfl) (c_X8_slack ev33) ?_
            show jGG μ_X8_swapBest 5 109 [some (.ref 221), none, some (.int (M1 221 21)), some (.int z9), some (.int (z9 / 32)), some (.int (z9 - z9 / 32 * 32)), some (.int v20), some (.int v21)] [.int v33, .int z9, .ref 241] M12 (fun M' r' => M' = Mz ∧ r' = some (.int r))
            refine g_if_ne (pc := 109) 141 dX8_swapBest_109 rfl (fun hc38 => ?_) (fun hc38 => ?_)
            · replace hf := jifn hc38 hf
              exact g_weakK (K31 (Option.some.inj hf).symm) ⟨rfl, ⟨rfl, ⟨rfl, trivial⟩⟩⟩
            · replace hf := jifp hc38 hf
              refine g_aload_n (pc := 112) dX8_swapBest_112 rfl rfl ?_
              refine g_getR (pc := 113) dX8_swapBest_113 fl_X8_55 sh_221 rfl ?_
              refine g_iload (pc := 116) dX8_swapBest_116 rfl ?_
              obtain ⟨v34, ev34, hf⟩ := job hf
              refine g_iald (pc := 118) dX8_swapBest_118 sh_237 ev34 ?_
              refine g_aload_n (pc := 119) dX8_swapBest_119 rfl rfl ?_
              refine g_getR (pc := 120) dX8_swapBest_120 fl_X8_55 sh_221 rfl ?_
              refine g_iload (pc := 123) dX8_swapBest_123 rfl ?_
              obtain ⟨v35, ev35, hf⟩ := job hf
              refine g_iald (pc := 125) dX8_swapBest_125 sh_237 ev35 ?_
              refine g_aload_n (pc := 126) dX8_swapBest_126 rfl rfl ?_
              refine g_getR (pc := 127) dX8_swapBest_127 fl_X8_31 sh_221 rfl ?_
              refine g_iload (pc := 130) dX8_swapBest_130 rfl ?_
              obtain ⟨v36, ev36, hf⟩ := job hf
              refine g_iald (pc := 132) dX8_swapBest_132 sh_229 ev36 ?_
              refine g_iadd (pc := 133) dX8_swapBest_133 ?_
              refine g_icmp_ne (pc := 134) 141 dX8_swapBest_134 rfl (fun hc37 => ?_) (fun hc37 => ?_)
              · replace hf := jifn hc37 hf
                exact g_weakK (K31 (Option.some.inj hf).symm) ⟨rfl, ⟨rfl, ⟨rfl, trivial⟩⟩⟩
              · replace hf := jifp hc37 hf
                refine g_iconst (pc := 137) 1 dX8_swapBest_137 rfl ?_
                refine g_goto (pc := 138) 142 dX8_swapBest_138 rfl ?_
                obtain rfl := Option.some.inj hf
                replace hf := hy29
                obtain rfl := Option.some.inj hf
                exact g_weakK (K26 (Or.inr rfl)) ⟨rfl, ⟨rfl, ⟨rfl, trivial⟩⟩⟩
def f_X8_better (N : Nat) (M : JMem) (x1 : Int32) : Option (JMem × Int32) := (if (jin3 x1.toInt64 0 50) = 0 then some (M, (-100002)) else (f_X8_hasTails N M).bind fun (M1, v2) => (if v2 = 0 then some (M1, (-100003)) else ((jLp (σ := Int32 × JMem) (ρ := Int32 × JMem) N (fun ((z9, M10) : Int32 × JMem) => (if x1 ≤ z9 then some (Sum.inr (z9, M10)) else (f_X8_swapBest N M10).bind fun (M13, v14) => (if v14 = 0 then some (Sum.inr (z9, M13)) else some (Sum.inl (z9 + 1, M13))))) (0, M1)).bind fun (t11, t12) => some (t12, t11))))
set_option maxHeartbeats 4000000 in
theorem c_X8_better {N : Nat} {M : JMem} {x1 : Int32} {Mz : JMem} {r : Int32} (hf : f_X8_better N M x1 = some (Mz, r)) : jCo yX8_better μ_X8_better 6 M [.ref 221, .int x1] Mz (some (.int r)) := by
  refine jCt_of (by decide +kernel) rfl (by simp [Value.category]) (Nat.le_of_ble_eq_true rfl) ?_
  unfold f_X8_better at hf
  show jGG μ_X8_better 6 0 [some (.ref 221), some (.int x1), none] [] M (fun M' r' => M' = Mz ∧ r' = some (.int r))
  refine g_iload_n (pc := 0) dX8_better_0 rfl rfl ?_
  refine g_i2l (pc := 1) dX8_better_1 ?_
  refine g_lconst (pc := 2) 0 dX8_better_2 rfl ?_
  refine g_ldc2 (pc := 3) 50 dX8_better_3 lcl_X8_227 ?_
  refine g_callS (pc := 6) [.long x1.toInt64, .long 0, .long 50] [] dX8_better_6 ml_X8_124 ck_X8_in cs_X8_in rfl (by decide) (Nat.le_of_ble_eq_true rfl) c_in ?_
  show jGG μ_X8_better 6 9 [some (.ref 221), some (.int x1), none] [.int (jin3 x1.toInt64 0 50)] M (fun M' r' => M' = Mz ∧ r' = some (.int r))
  refine g_if_ne (pc := 9) 15 dX8_better_9 rfl (fun hc18 => ?_) (fun hc18 => ?_)
  · replace hf := jifn hc18 hf
    refine g_aload_n (pc := 15) dX8_better_15 rfl rfl ?_
    obtain ⟨⟨M1, v2⟩, ev2, hf⟩ := job hf
    refine g_callV (pc := 16) [] [] dX8_better_16 ml_X8_208 ck_X8_hasTails cv_X8_hasTails sh_221 rfl (by decide) (Nat.le_of_ble_eq_true rfl) (c_X8_hasTails ev2) ?_
    show jGG μ_X8_better 6 19 [some (.ref 221), some (.int x1), none] [.int v2] M1 (fun M' r' => M' = Mz ∧ r' = some (.int r))
    refine g_if_ne (pc := 19) 25 dX8_better_19 rfl (fun hc17 => ?_) (fun hc17 => ?_)
    · replace hf := jifn hc17 hf
      refine g_iconst (pc := 25) 0 dX8_better_25 rfl ?_
      refine g_istore_n (pc := 26) (lv' := [some (.ref 221), some (.int x1), some (.int 0)]) dX8_better_26 rfl (by decide) rfl ?_
      obtain ⟨⟨t11, t12⟩, y4, hy3⟩ := job hf
      have K5 : jGG μ_X8_better 6 45 [none, none, some (.int t11)] [] t12 (fun M' r' => M' = Mz ∧ r' = some (.int r)) := by
        replace hf := hy3
        refine g_iload_n (pc := 45) dX8_better_45 rfl rfl ?_
        obtain ⟨rfl, rfl⟩ := Prod.mk.inj (Option.some.inj hf)
        exact g_iret (pc := 46) dX8_better_46 rfl ⟨rfl, rfl⟩
      refine g_weak (lv' := [some (.ref 221), some (.int x1), some (.int 0)]) ⟨rfl, ⟨rfl, ⟨rfl, trivial⟩⟩⟩ ?_
      refine jLp_ind (P := fun ((z9, M10) : Int32 × JMem) => jGG μ_X8_better 6 27 [some (.ref 221), some (.int x1), some (.int z9)] [] M10 (fun M' r' => M' = Mz ∧ r' = some (.int r))) ?_ N _ y4
      rintro ⟨z9, M10⟩ x_8 hf ih7 hx6
      show jGG μ_X8_better 6 27 [some (.ref 221), some (.int x1), some (.int z9)] [] M10 (fun M' r' => M' = Mz ∧ r' = some (.int r))
      refine g_iload_n (pc := 27) dX8_better_27 rfl rfl ?_
      refine g_iload_n (pc := 28) dX8_better_28 rfl rfl ?_
      refine g_icmp_ge (pc := 29) 45 dX8_better_29 rfl (fun hc16 => ?_) (fun hc16 => ?_)
      · replace hf := jifp hc16 hf
        have hf := hx6 _ (Option.some.inj hf).symm
        obtain ⟨rfl, rfl⟩ := jp2 hf
        exact g_weakK K5 ⟨rfl, trivial⟩
      · replace hf := jifn hc16 hf
        refine g_aload_n (pc := 32) dX8_better_32 rfl rfl ?_
        obtain ⟨⟨M13, v14⟩, ev14, hf⟩ := job hf
        refine g_callV (pc := 33) [] [] dX8_better_33 ml_X8_229 ck_X8_swapBest cv_X8_swapBest sh_221 rfl (by decide) (Nat.le_of_ble_eq_true rfl) (c_X8_swapBest ev14) ?_
        show jGG μ_X8_better 6 36 [some (.ref 221), some (.int x1), some (.int z9)] [.int v14] M13 (fun M' r' => M' = Mz ∧ r' = some (.int r))
        refine g_if_eq (pc := 36) 45 dX8_better_36 rfl (fun hc15 => ?_) (fun hc15 => ?_)
        · replace hf := jifp hc15 hf
          have hf := hx6 _ (Option.some.inj hf).symm
          obtain ⟨rfl, rfl⟩ := jp2 hf
          exact g_weakK K5 ⟨rfl, trivial⟩
        · replace hf := jifn hc15 hf
          refine g_iinc (pc := 39) (lv' := [some (.ref 221), some (.int x1), some (.int (z9 + 1))]) (z9 + 1) dX8_better_39 rfl rfl (by decide) rfl ?_
          refine g_goto (pc := 42) 27 dX8_better_42 rfl ?_
          have hih : jGG μ_X8_better 6 27 [some (.ref 221), some (.int x1), some (.int (z9 + 1))] [] M13 (fun M' r' => M' = Mz ∧ r' = some (.int r)) := ih7 (z9 + 1, M13) (Option.some.inj hf).symm
          exact g_weakK hih ⟨rfl, ⟨rfl, ⟨rfl, trivial⟩⟩⟩
    · replace hf := jifp hc17 hf
      refine g_ldc (pc := 22) (-100003) dX8_better_22 lc_X8_179 ?_
      obtain ⟨rfl, rfl⟩ := Prod.mk.inj (Option.some.inj hf)
      exact g_iret (pc := 24) dX8_better_24 rfl ⟨rfl, rfl⟩
  · replace hf := jifp hc18 hf
    refine g_ldc (pc := 12) (-100002) dX8_better_12 lc_X8_132 ?_
    obtain ⟨rfl, rfl⟩ := Prod.mk.inj (Option.some.inj hf)
    exact g_iret (pc := 14) dX8_better_14 rfl ⟨rfl, rfl⟩
def f_X8_isAhead (M : JMem) (x1 : Int32) (x2 : Int32) : Option (Int32) := (jrd M 244 32 x1).bind fun v1 => (if ((jushr v1 x2) &&& 1) = 1 then some 1 else some 0)
set_option maxHeartbeats 4000000 in
theorem c_X8_isAhead {M : JMem} {x1 : Int32} {x2 : Int32} {r : Int32} (hf : f_X8_isAhead M x1 x2 = some r) : jCo yX8_isAhead μ_X8_isAhead 1 M [.ref 221, .int x1, .int x2] M (some (.int r)) := by
  refine jCt_of (by decide +kernel) rfl (by simp [Value.category]) (Nat.le_of_ble_eq_true rfl) ?_
  unfold f_X8_isAhead at hf
  show jGG μ_X8_isAhead 1 0 [some (.ref 221), some (.int x1), some (.int x2)] [] M (fun M' r' => M' = M ∧ r' = some (.int r))
  refine g_aload_n (pc := 0) dX8_isAhead_0 rfl rfl ?_
  refine g_getR (pc := 1) dX8_isAhead_1 fl_X8_77 sh_221 rfl ?_
  refine g_iload_n (pc := 4) dX8_isAhead_4 rfl rfl ?_
  obtain ⟨v1, ev1, hf⟩ := job hf
  refine g_iald (pc := 5) dX8_isAhead_5 sh_244 ev1 ?_
  refine g_iload_n (pc := 6) dX8_isAhead_6 rfl rfl ?_
  refine g_iushr (pc := 7) dX8_isAhead_7 ?_
  refine g_iconst (pc := 8) 1 dX8_isAhead_8 rfl ?_
  refine g_iand (pc := 9) dX8_isAhead_9 ?_
  refine g_iconst (pc := 10) 1 dX8_isAhead_10 rfl ?_
  refine g_icmp_ne (pc := 11) 18 dX8_isAhead_11 rfl (fun hc2 => ?_) (fun hc2 => ?_)
  · replace hf := jifn hc2 hf
    refine g_iconst (pc := 18) 0 dX8_isAhead_18 rfl ?_
    obtain rfl := Option.some.inj hf
    exact g_zret (pc := 19) dX8_isAhead_19 rfl (Or.inl rfl) ⟨rfl, rfl⟩
  · replace hf := jifp hc2 hf
    refine g_iconst (pc := 14) 1 dX8_isAhead_14 rfl ?_
    refine g_goto (pc := 15) 19 dX8_isAhead_15 rfl ?_
    obtain rfl := Option.some.inj hf
    exact g_zret (pc := 19) dX8_isAhead_19 rfl (Or.inr rfl) ⟨rfl, rfl⟩
def f_X8_tell (M : JMem) (x1 : Int32) (x2 : Int32) : Option (JMem) := (jrd M 244 32 x1).bind fun v1 => (jwr M 244 32 x1 (v1 ||| (jshl 1 x2))).bind fun M2 => (some (jup M2 221 28 1)).bind fun M3 => some M3
set_option maxHeartbeats 4000000 in
theorem c_X8_tell {M : JMem} {x1 : Int32} {x2 : Int32} {Mz : JMem} (hf : f_X8_tell M x1 x2 = some Mz) : jCo yX8_tell μ_X8_tell 1 M [.ref 221, .int x1, .int x2] Mz none := by
  refine jCt_of (by decide +kernel) rfl (by simp [Value.category]) (Nat.le_of_ble_eq_true rfl) ?_
  unfold f_X8_tell at hf
  show jGG μ_X8_tell 1 0 [some (.ref 221), some (.int x1), some (.int x2)] [] M (fun M' r' => M' = Mz ∧ r' = none)
  refine g_aload_n (pc := 0) dX8_tell_0 rfl rfl ?_
  refine g_getR (pc := 1) dX8_tell_1 fl_X8_77 sh_221 rfl ?_
  refine g_iload_n (pc := 4) dX8_tell_4 rfl rfl ?_
  refine g_dup2 (pc := 5) dX8_tell_5 rfl rfl ?_
  obtain ⟨v1, ev1, hf⟩ := job hf
  refine g_iald (pc := 6) dX8_tell_6 sh_244 ev1 ?_
  refine g_iconst (pc := 7) 1 dX8_tell_7 rfl ?_
  refine g_iload_n (pc := 8) dX8_tell_8 rfl rfl ?_
  refine g_ishl (pc := 9) dX8_tell_9 ?_
  refine g_ior (pc := 10) dX8_tell_10 ?_
  obtain ⟨M2, eM2, hf⟩ := job hf
  refine g_iast (pc := 11) dX8_tell_11 sh_244 eM2 ?_
  refine g_aload_n (pc := 12) dX8_tell_12 rfl rfl ?_
  refine g_iconst (pc := 13) 1 dX8_tell_13 rfl ?_
  refine g_putZ (pc := 14) dX8_tell_14 fp_X8_232 (Or.inr rfl) sh_221 rfl ?_
  obtain ⟨M3, eM3, hf⟩ := job hf
  rw [Option.some.inj eM3]
  obtain rfl := Option.some.inj hf
  exact g_vret (pc := 17) dX8_tell_17 rfl ⟨rfl, rfl⟩
def f_X8_head (M : JMem) (x1 : Int32) (x2 : Int32) : Option (JMem) := (jrd M 242 32 x1).bind fun v1 => (if x2 ≤ v1 then some M else (jwr M 242 32 x1 x2).bind fun M2 => (some (jup M2 221 28 1)).bind fun M3 => some M3)
set_option maxHeartbeats 4000000 in
theorem c_X8_head {M : JMem} {x1 : Int32} {x2 : Int32} {Mz : JMem} (hf : f_X8_head M x1 x2 = some Mz) : jCo yX8_head μ_X8_head 1 M [.ref 221, .int x1, .int x2] Mz none := by
  refine jCt_of (by decide +kernel) rfl (by simp [Value.category]) (Nat.le_of_ble_eq_true rfl) ?_
  unfold f_X8_head at hf
  show jGG μ_X8_head 1 0 [some (.ref 221), some (.int x1), some (.int x2)] [] M (fun M' r' => M' = Mz ∧ r' = none)
  refine g_aload_n (pc := 0) dX8_head_0 rfl rfl ?_
  refine g_getR (pc := 1) dX8_head_1 fl_X8_71 sh_221 rfl ?_
  refine g_iload_n (pc := 4) dX8_head_4 rfl rfl ?_
  obtain ⟨v1, ev1, hf⟩ := job hf
  refine g_iald (pc := 5) dX8_head_5 sh_242 ev1 ?_
  refine g_iload_n (pc := 6) dX8_head_6 rfl rfl ?_
  refine g_icmp_ge (pc := 7) 22 dX8_head_7 rfl (fun hc4 => ?_) (fun hc4 => ?_)
  · replace hf := jifp hc4 hf
    obtain rfl := Option.some.inj hf
    exact g_vret (pc := 22) dX8_head_22 rfl ⟨rfl, rfl⟩
  · replace hf := jifn hc4 hf
    refine g_aload_n (pc := 10) dX8_head_10 rfl rfl ?_
    refine g_getR (pc := 11) dX8_head_11 fl_X8_71 sh_221 rfl ?_
    refine g_iload_n (pc := 14) dX8_head_14 rfl rfl ?_
    refine g_iload_n (pc := 15) dX8_head_15 rfl rfl ?_
    obtain ⟨M2, eM2, hf⟩ := job hf
    refine g_iast (pc := 16) dX8_head_16 sh_242 eM2 ?_
    refine g_aload_n (pc := 17) dX8_head_17 rfl rfl ?_
    refine g_iconst (pc := 18) 1 dX8_head_18 rfl ?_
    refine g_putZ (pc := 19) dX8_head_19 fp_X8_232 (Or.inr rfl) sh_221 rfl ?_
    obtain ⟨M3, eM3, hf⟩ := job hf
    rw [Option.some.inj eM3]
    obtain rfl := Option.some.inj hf
    exact g_vret (pc := 22) dX8_head_22 rfl ⟨rfl, rfl⟩
def f_X8_dead (M : JMem) (x1 : Int32) (x2 : Int32) : Option (JMem) := (jrd M 243 32 x1).bind fun v1 => (if v1 ≤ x2 then some M else (jwr M 243 32 x1 x2).bind fun M2 => (some (jup M2 221 28 1)).bind fun M3 => some M3)
set_option maxHeartbeats 4000000 in
theorem c_X8_dead {M : JMem} {x1 : Int32} {x2 : Int32} {Mz : JMem} (hf : f_X8_dead M x1 x2 = some Mz) : jCo yX8_dead μ_X8_dead 1 M [.ref 221, .int x1, .int x2] Mz none := by
  refine jCt_of (by decide +kernel) rfl (by simp [Value.category]) (Nat.le_of_ble_eq_true rfl) ?_
  unfold f_X8_dead at hf
  show jGG μ_X8_dead 1 0 [some (.ref 221), some (.int x1), some (.int x2)] [] M (fun M' r' => M' = Mz ∧ r' = none)
  refine g_aload_n (pc := 0) dX8_dead_0 rfl rfl ?_
  refine g_getR (pc := 1) dX8_dead_1 fl_X8_74 sh_221 rfl ?_
  refine g_iload_n (pc := 4) dX8_dead_4 rfl rfl ?_
  obtain ⟨v1, ev1, hf⟩ := job hf
  refine g_iald (pc := 5) dX8_dead_5 sh_243 ev1 ?_
  refine g_iload_n (pc := 6) dX8_dead_6 rfl rfl ?_
  refine g_icmp_le (pc := 7) 22 dX8_dead_7 rfl (fun hc4 => ?_) (fun hc4 => ?_)
  · replace hf := jifp hc4 hf
    obtain rfl := Option.some.inj hf
    exact g_vret (pc := 22) dX8_dead_22 rfl ⟨rfl, rfl⟩
  · replace hf := jifn hc4 hf
    refine g_aload_n (pc := 10) dX8_dead_10 rfl rfl ?_
    refine g_getR (pc := 11) dX8_dead_11 fl_X8_74 sh_221 rfl ?_
    refine g_iload_n (pc := 14) dX8_dead_14 rfl rfl ?_
    refine g_iload_n (pc := 15) dX8_dead_15 rfl rfl ?_
    obtain ⟨M2, eM2, hf⟩ := job hf
    refine g_iast (pc := 16) dX8_dead_16 sh_243 eM2 ?_
    refine g_aload_n (pc := 17) dX8_dead_17 rfl rfl ?_
    refine g_iconst (pc := 18) 1 dX8_dead_18 rfl ?_
    refine g_putZ (pc := 19) dX8_dead_19 fp_X8_232 (Or.inr rfl) sh_221 rfl ?_
    obtain ⟨M3, eM3, hf⟩ := job hf
    rw [Option.some.inj eM3]
    obtain rfl := Option.some.inj hf
    exact g_vret (pc := 22) dX8_dead_22 rfl ⟨rfl, rfl⟩
def f_X8_ask (N : Nat) (M : JMem) : Option (JMem) := ((jLp (σ := Int32 × JMem) (ρ := JMem) N (fun ((z7, M8) : Int32 × JMem) => (if (M8 221 11) ≤ z7 then some (Sum.inr M8) else (((jcase (α := Int32) (β := Unit) (if (M8 221 29) = 0 then (jrd M8 243 32 z7).bind fun v20 => (jrd M8 242 32 z7).bind fun v21 => (jrd M8 229 32 z7).bind fun v22 => (if v22 ≤ (v20 - v21) then some (Sum.inl (0)) else some (Sum.inr ())) else some (Sum.inr ())) fun _ => some (1)) : Option (Int32)).bind fun u25 => (some (jup M8 221 29 u25)).bind fun M26 => some (Sum.inl (z7 + 1, M26))))) (0, M)).bind fun t9 => some t9)
set_option maxHeartbeats 4000000 in
theorem c_X8_ask {N : Nat} {M : JMem} {Mz : JMem} (hf : f_X8_ask N M = some Mz) : jCo yX8_ask μ_X8_ask 1 M [.ref 221] Mz none := by
  refine jCt_of (by decide +kernel) rfl (by simp [Value.category]) (Nat.le_of_ble_eq_true rfl) ?_
  unfold f_X8_ask at hf
  show jGG μ_X8_ask 1 0 [some (.ref 221), none] [] M (fun M' r' => M' = Mz ∧ r' = none)
  refine g_iconst (pc := 0) 0 dX8_ask_0 rfl ?_
  refine g_istore_n (pc := 1) (lv' := [some (.ref 221), some (.int 0)]) dX8_ask_1 rfl (by decide) rfl ?_
  obtain ⟨t9, y2, hy1⟩ := job hf
  have K3 : jGG μ_X8_ask 1 54 [none, none] [] t9 (fun M' r' => M' = Mz ∧ r' = none) := by
    replace hf := hy1
    obtain rfl := Option.some.inj hf
    exact g_vret (pc := 54) dX8_ask_54 rfl ⟨rfl, rfl⟩
  refine g_weak (lv' := [some (.ref 221), some (.int 0)]) ⟨rfl, ⟨rfl, trivial⟩⟩ ?_
  refine jLp_ind (P := fun ((z7, M8) : Int32 × JMem) => jGG μ_X8_ask 1 2 [some (.ref 221), some (.int z7)] [] M8 (fun M' r' => M' = Mz ∧ r' = none)) ?_ N _ y2
  rintro ⟨z7, M8⟩ x_6 hf ih5 hx4
  show jGG μ_X8_ask 1 2 [some (.ref 221), some (.int z7)] [] M8 (fun M' r' => M' = Mz ∧ r' = none)
  refine g_iload_n (pc := 2) dX8_ask_2 rfl rfl ?_
  refine g_aload_n (pc := 3) dX8_ask_3 rfl rfl ?_
  refine g_getI (pc := 4) dX8_ask_4 fl_X8_143 sh_221 rfl ?_
  refine g_icmp_ge (pc := 7) 54 dX8_ask_7 rfl (fun hc27 => ?_) (fun hc27 => ?_)
  · replace hf := jifp hc27 hf
    have hf := hx4 _ (Option.some.inj hf).symm
    obtain rfl := hf
    exact g_weakK K3 trivial
  · replace hf := jifn hc27 hf
    refine g_aload_n (pc := 10) dX8_ask_10 rfl rfl ?_
    refine g_aload_n (pc := 11) dX8_ask_11 rfl rfl ?_
    refine g_getI (pc := 12) dX8_ask_12 fl_X8_236 sh_221 rfl ?_
    obtain ⟨u25, hf, hy11⟩ := job hf
    have K13 : (hbu25 : u25 = 0 ∨ u25 = 1) → jGG μ_X8_ask 1 45 [some (.ref 221), some (.int z7)] [.int u25, .ref 221] M8 (fun M' r' => M' = Mz ∧ r' = none) := by
      intro hbu25
      replace hf := hy11
      refine g_putZ (pc := 45) dX8_ask_45 fp_X8_236 hbu25 sh_221 rfl ?_
      obtain ⟨M26, eM26, hf⟩ := job hf
      rw [Option.some.inj eM26]
      refine g_iinc (pc := 48) (lv' := [some (.ref 221), some (.int (z7 + 1))]) (z7 + 1) dX8_ask_48 rfl rfl (by decide) rfl ?_
      refine g_goto (pc := 51) 2 dX8_ask_51 rfl ?_
      have hih : jGG μ_X8_ask 1 2 [some (.ref 221), some (.int (z7 + 1))] [] M26 (fun M' r' => M' = Mz ∧ r' = none) := ih5 (z7 + 1, M26) (Option.some.inj hf).symm
      exact g_weakK hih ⟨rfl, ⟨rfl, trivial⟩⟩
    obtain ⟨y17, hf, hy16⟩ := jcb hf
    have K18 : y17 = Sum.inr () → jGG μ_X8_ask 1 40 [some (.ref 221), some (.int z7)] [.ref 221] M8 (fun M' r' => M' = Mz ∧ r' = none) := by
      intro hyy
      subst hyy
      replace hf := hy16
      refine g_iconst (pc := 40) 1 dX8_ask_40 rfl ?_
      refine g_goto (pc := 41) 45 dX8_ask_41 rfl ?_
      obtain rfl := Option.some.inj hf
      exact g_weakK (K13 (Or.inr rfl)) ⟨rfl, ⟨rfl, trivial⟩⟩
    refine g_if_ne (pc := 15) 40 dX8_ask_15 rfl (fun hc24 => ?_) (fun hc24 => ?_)
    · replace hf := jifn hc24 hf
      exact g_weakK (K18 (Option.some.inj hf).symm) ⟨rfl, ⟨rfl, trivial⟩⟩
    · replace hf := jifp hc24 hf
      refine g_aload_n (pc := 18) dX8_ask_18 rfl rfl ?_
      refine g_getR (pc := 19) dX8_ask_19 fl_X8_74 sh_221 rfl ?_
      refine g_iload_n (pc := 22) dX8_ask_22 rfl rfl ?_
      obtain ⟨v20, ev20, hf⟩ := job hf
      refine g_iald (pc := 23) dX8_ask_23 sh_243 ev20 ?_
      refine g_aload_n (pc := 24) dX8_ask_24 rfl rfl ?_
      refine g_getR (pc := 25) dX8_ask_25 fl_X8_71 sh_221 rfl ?_
      refine g_iload_n (pc := 28) dX8_ask_28 rfl rfl ?_
      obtain ⟨v21, ev21, hf⟩ := job hf
      refine g_iald (pc := 29) dX8_ask_29 sh_242 ev21 ?_
      refine g_isub (pc := 30) dX8_ask_30 ?_
      refine g_aload_n (pc := 31) dX8_ask_31 rfl rfl ?_
      refine g_getR (pc := 32) dX8_ask_32 fl_X8_31 sh_221 rfl ?_
      refine g_iload_n (pc := 35) dX8_ask_35 rfl rfl ?_
      obtain ⟨v22, ev22, hf⟩ := job hf
      refine g_iald (pc := 36) dX8_ask_36 sh_229 ev22 ?_
      refine g_icmp_ge (pc := 37) 44 dX8_ask_37 rfl (fun hc23 => ?_) (fun hc23 => ?_)
      · replace hf := jifp hc23 hf
        refine g_iconst (pc := 44) 0 dX8_ask_44 rfl ?_
        obtain rfl := Option.some.inj hf
        replace hf := hy16
        obtain rfl := Option.some.inj hf
        exact g_weakK (K13 (Or.inl rfl)) ⟨rfl, ⟨rfl, trivial⟩⟩
      · replace hf := jifn hc23 hf
        exact g_weakK (K18 (Option.some.inj hf).symm) ⟨rfl, ⟨rfl, trivial⟩⟩
def f_X8_byPieces (N : Nat) (M : JMem) : Option (JMem) := ((jLp (σ := Int32 × JMem) (ρ := JMem) N (fun ((z7, M8) : Int32 × JMem) => (if (M8 221 6) ≤ z7 then some (Sum.inr M8) else ((jLp (σ := Int32 × JMem) (ρ := JMem) N (fun ((z16, M17) : Int32 × JMem) => (jrd M17 225 12 z7).bind fun v19 => (if v19 ≤ z16 then some (Sum.inr M17) else (jrd M17 226 96 (((8 * z7) + z16) - 1)).bind fun v20 => (jrd M17 226 96 ((8 * z7) + z16)).bind fun v21 => (jrd M17 242 32 v20).bind fun v22 => (jrd M17 229 32 v20).bind fun v23 => (f_X8_head M17 v21 (v22 + v23)).bind fun M24 => some (Sum.inl (z16 + 1, M24)))) (1, M8)).bind fun t18 => (jrd t18 225 12 z7).bind fun v26 => ((jLp (σ := Int32 × JMem) (ρ := JMem) N (fun ((z33, M34) : Int32 × JMem) => (if z33 < 0 then some (Sum.inr M34) else (jrd M34 226 96 (((8 * z7) + z33) + 1)).bind fun v36 => (jrd M34 226 96 ((8 * z7) + z33)).bind fun v37 => (jrd M34 243 32 v36).bind fun v38 => (jrd M34 229 32 v36).bind fun v39 => (f_X8_dead M34 v37 (v38 - v39)).bind fun M40 => some (Sum.inl (z33 + (-1), M40)))) (v26 - 2, t18)).bind fun t35 => some (Sum.inl (z7 + 1, t35)))))) (0, M)).bind fun t9 => some t9)
set_option maxHeartbeats 4000000 in
theorem c_X8_byPieces {N : Nat} {M : JMem} {Mz : JMem} (hf : f_X8_byPieces N M = some Mz) : jCo yX8_byPieces μ_X8_byPieces 2 M [.ref 221] Mz none := by
  refine jCt_of (by decide +kernel) rfl (by simp [Value.category]) (Nat.le_of_ble_eq_true rfl) ?_
  unfold f_X8_byPieces at hf
  show jGG μ_X8_byPieces 2 0 [some (.ref 221), none, none, none] [] M (fun M' r' => M' = Mz ∧ r' = none)
  refine g_iconst (pc := 0) 0 dX8_byPieces_0 rfl ?_
  refine g_istore_n (pc := 1) (lv' := [some (.ref 221), some (.int 0), none, none]) dX8_byPieces_1 rfl (by decide) rfl ?_
  obtain ⟨t9, y2, hy1⟩ := job hf
  have K3 : jGG μ_X8_byPieces 2 137 [none, none, none, none] [] t9 (fun M' r' => M' = Mz ∧ r' = none) := by
    replace hf := hy1
    obtain rfl := Option.some.inj hf
    exact g_vret (pc := 137) dX8_byPieces_137 rfl ⟨rfl, rfl⟩
  refine g_weak (lv' := [some (.ref 221), some (.int 0), none, none]) ⟨rfl, ⟨rfl, trivial⟩⟩ ?_
  refine jLp_ind (P := fun ((z7, M8) : Int32 × JMem) => jGG μ_X8_byPieces 2 2 [some (.ref 221), some (.int z7), none, none] [] M8 (fun M' r' => M' = Mz ∧ r' = none)) ?_ N _ y2
  rintro ⟨z7, M8⟩ x_6 hf ih5 hx4
  show jGG μ_X8_byPieces 2 2 [some (.ref 221), some (.int z7), none, none] [] M8 (fun M' r' => M' = Mz ∧ r' = none)
  refine g_iload_n (pc := 2) dX8_byPieces_2 rfl rfl ?_
  refine g_aload_n (pc := 3) dX8_byPieces_3 rfl rfl ?_
  refine g_getI (pc := 4) dX8_byPieces_4 fl_X8_140 sh_221 rfl ?_
  refine g_icmp_ge (pc := 7) 137 dX8_byPieces_7 rfl (fun hc42 => ?_) (fun hc42 => ?_)
  · replace hf := jifp hc42 hf
    have hf := hx4 _ (Option.some.inj hf).symm
    obtain rfl := hf
    exact g_weakK K3 trivial
  · replace hf := jifn hc42 hf
    refine g_iconst (pc := 10) 1 dX8_byPieces_10 rfl ?_
    refine g_istore_n (pc := 11) (lv' := [some (.ref 221), some (.int z7), some (.int 1), none]) dX8_byPieces_11 rfl (by decide) rfl ?_
    obtain ⟨t18, y11, hy10⟩ := job hf
    have K12 : jGG μ_X8_byPieces 2 70 [some (.ref 221), some (.int z7), none, none] [] t18 (fun M' r' => M' = Mz ∧ r' = none) := by
      replace hf := hy10
      refine g_aload_n (pc := 70) dX8_byPieces_70 rfl rfl ?_
      refine g_getR (pc := 71) dX8_byPieces_71 fl_X8_19 sh_221 rfl ?_
      refine g_iload_n (pc := 74) dX8_byPieces_74 rfl rfl ?_
      obtain ⟨v26, ev26, hf⟩ := job hf
      refine g_iald (pc := 75) dX8_byPieces_75 sh_225 ev26 ?_
      refine g_iconst (pc := 76) 2 dX8_byPieces_76 rfl ?_
      refine g_isub (pc := 77) dX8_byPieces_77 ?_
      refine g_istore_n (pc := 78) (lv' := [some (.ref 221), some (.int z7), some (.int (v26 - 2)), none]) dX8_byPieces_78 rfl (by decide) rfl ?_
      obtain ⟨t35, y28, hy27⟩ := job hf
      have K29 : jGG μ_X8_byPieces 2 131 [some (.ref 221), some (.int z7), none, none] [] t35 (fun M' r' => M' = Mz ∧ r' = none) := by
        replace hf := hy27
        refine g_iinc (pc := 131) (lv' := [some (.ref 221), some (.int (z7 + 1)), none, none]) (z7 + 1) dX8_byPieces_131 rfl rfl (by decide) rfl ?_
        refine g_goto (pc := 134) 2 dX8_byPieces_134 rfl ?_
        have hih : jGG μ_X8_byPieces 2 2 [some (.ref 221), some (.int (z7 + 1)), none, none] [] t35 (fun M' r' => M' = Mz ∧ r' = none) := ih5 (z7 + 1, t35) (Option.some.inj hf).symm
        exact g_weakK hih ⟨rfl, ⟨rfl, trivial⟩⟩
      refine g_weak (lv' := [some (.ref 221), some (.int z7), some (.int (v26 - 2)), none]) ⟨rfl, ⟨rfl, ⟨rfl, trivial⟩⟩⟩ ?_
      refine jLp_ind (P := fun ((z33, M34) : Int32 × JMem) => jGG μ_X8_byPieces 2 79 [some (.ref 221), some (.int z7), some (.int z33), none] [] M34 (fun M' r' => M' = Mz ∧ r' = none)) ?_ N _ y28
      rintro ⟨z33, M34⟩ x_32 hf ih31 hx30
      show jGG μ_X8_byPieces 2 79 [some (.ref 221), some (.int z7), some (.int z33), none] [] M34 (fun M' r' => M' = Mz ∧ r' = none)
      refine g_iload_n (pc := 79) dX8_byPieces_79 rfl rfl ?_
      refine g_if_lt (pc := 80) 131 dX8_byPieces_80 rfl (fun hc41 => ?_) (fun hc41 => ?_)
      · replace hf := jifp hc41 hf
        have hf := hx30 _ (Option.some.inj hf).symm
        obtain rfl := hf
        exact g_weakK K29 ⟨rfl, ⟨rfl, trivial⟩⟩
      · replace hf := jifn hc41 hf
        refine g_aload_n (pc := 83) dX8_byPieces_83 rfl rfl ?_
        refine g_getR (pc := 84) dX8_byPieces_84 fl_X8_22 sh_221 rfl ?_
        refine g_bipush (pc := 87) 8 dX8_byPieces_87 rfl ?_
        refine g_iload_n (pc := 89) dX8_byPieces_89 rfl rfl ?_
        refine g_imul (pc := 90) dX8_byPieces_90 ?_
        refine g_iload_n (pc := 91) dX8_byPieces_91 rfl rfl ?_
        refine g_iadd (pc := 92) dX8_byPieces_92 ?_
        refine g_iconst (pc := 93) 1 dX8_byPieces_93 rfl ?_
        refine g_iadd (pc := 94) dX8_byPieces_94 ?_
        obtain ⟨v36, ev36, hf⟩ := job hf
        refine g_iald (pc := 95) dX8_byPieces_95 sh_226 ev36 ?_
        refine g_istore_n (pc := 96) (lv' := [some (.ref 221), some (.int z7), some (.int z33), some (.int v36)]) dX8_byPieces_96 rfl (by decide) rfl ?_
        refine g_aload_n (pc := 97) dX8_byPieces_97 rfl rfl ?_
        refine g_aload_n (pc := 98) dX8_byPieces_98 rfl rfl ?_
        refine g_getR (pc := 99) dX8_byPieces_99 fl_X8_22 sh_221 rfl ?_
        refine g_bipush (pc := 102) 8 dX8_byPieces_102 rfl ?_
        refine g_iload_n (pc := 104) dX8_byPieces_104 rfl rfl ?_
        refine g_imul (pc := 105) dX8_byPieces_105 ?_
        refine g_iload_n (pc := 106) dX8_byPieces_106 rfl rfl ?_
        refine g_iadd (pc := 107) dX8_byPieces_107 ?_
        obtain ⟨v37, ev37, hf⟩ := job hf
        refine g_iald (pc := 108) dX8_byPieces_108 sh_226 ev37 ?_
        refine g_aload_n (pc := 109) dX8_byPieces_109 rfl rfl ?_
        refine g_getR (pc := 110) dX8_byPieces_110 fl_X8_74 sh_221 rfl ?_
        refine g_iload_n (pc := 113) dX8_byPieces_113 rfl rfl ?_
        obtain ⟨v38, ev38, hf⟩ := job hf
        refine g_iald (pc := 114) dX8_byPieces_114 sh_243 ev38 ?_
        refine g_aload_n (pc := 115) dX8_byPieces_115 rfl rfl ?_
        refine g_getR (pc := 116) dX8_byPieces_116 fl_X8_31 sh_221 rfl ?_
        refine g_iload_n (pc := 119) dX8_byPieces_119 rfl rfl ?_
        obtain ⟨v39, ev39, hf⟩ := job hf
        refine g_iald (pc := 120) dX8_byPieces_120 sh_229 ev39 ?_
        refine g_isub (pc := 121) dX8_byPieces_121 ?_
        obtain ⟨M40, eM40, hf⟩ := job hf
        refine g_callV (pc := 122) [.int v37, .int (v38 - v39)] [] dX8_byPieces_122 ml_X8_242 ck_X8_dead cv_X8_dead sh_221 rfl (by decide) (Nat.le_of_ble_eq_true rfl) (c_X8_dead eM40) ?_
        show jGG μ_X8_byPieces 2 125 [some (.ref 221), some (.int z7), some (.int z33), some (.int v36)] [] M40 (fun M' r' => M' = Mz ∧ r' = none)
        refine g_iinc (pc := 125) (lv' := [some (.ref 221), some (.int z7), some (.int (z33 + (-1))), some (.int v36)]) (z33 + (-1)) dX8_byPieces_125 rfl rfl (by decide) rfl ?_
        refine g_goto (pc := 128) 79 dX8_byPieces_128 rfl ?_
        have hih : jGG μ_X8_byPieces 2 79 [some (.ref 221), some (.int z7), some (.int (z33 + (-1))), none] [] M40 (fun M' r' => M' = Mz ∧ r' = none) := ih31 (z33 + (-1), M40) (Option.some.inj hf).symm
        exact g_weakK hih ⟨rfl, ⟨rfl, ⟨rfl, trivial⟩⟩⟩
    refine g_weak (lv' := [some (.ref 221), some (.int z7), some (.int 1), none]) ⟨rfl, ⟨rfl, ⟨rfl, trivial⟩⟩⟩ ?_
    refine jLp_ind (P := fun ((z16, M17) : Int32 × JMem) => jGG μ_X8_byPieces 2 12 [some (.ref 221), some (.int z7), some (.int z16), none] [] M17 (fun M' r' => M' = Mz ∧ r' = none)) ?_ N _ y11
    rintro ⟨z16, M17⟩ x_15 hf ih14 hx13
    show jGG μ_X8_byPieces 2 12 [some (.ref 221), some (.int z7), some (.int z16), none] [] M17 (fun M' r' => M' = Mz ∧ r' = none)
    refine g_iload_n (pc := 12) dX8_byPieces_12 rfl rfl ?_
    refine g_aload_n (pc := 13) dX8_byPieces_13 rfl rfl ?_
    refine g_getR (pc := 14) dX8_byPieces_14 fl_X8_19 sh_221 rfl ?_
    refine g_iload_n (pc := 17) dX8_byPieces_17 rfl rfl ?_
    obtain ⟨v19, ev19, hf⟩ := job hf
    refine g_iald (pc := 18) dX8_byPieces_18 sh_225 ev19 ?_
    refine g_icmp_ge (pc := 19) 70 dX8_byPieces_19 rfl (fun hc25 => ?_) (fun hc25 => ?_)
    · replace hf := jifp hc25 hf
      have hf := hx13 _ (Option.some.inj hf).symm
      obtain rfl := hf
      exact g_weakK K12 ⟨rfl, ⟨rfl, trivial⟩⟩
    · replace hf := jifn hc25 hf
      refine g_aload_n (pc := 22) dX8_byPieces_22 rfl rfl ?_
      refine g_getR (pc := 23) dX8_byPieces_23 fl_X8_22 sh_221 rfl ?_
      refine g_bipush (pc := 26) 8 dX8_byPieces_26 rfl ?_
      refine g_iload_n (pc := 28) dX8_byPieces_28 rfl rfl ?_
      refine g_imul (pc := 29) dX8_byPieces_29 ?_
      refine g_iload_n (pc := 30) dX8_byPieces_30 rfl rfl ?_
      refine g_iadd (pc := 31) dX8_byPieces_31 ?_
      refine g_iconst (pc := 32) 1 dX8_byPieces_32 rfl ?_
      refine g_isub (pc := 33) dX8_byPieces_33 ?_
      obtain ⟨v20, ev20, hf⟩ := job hf
      refine g_iald (pc := 34) dX8_byPieces_34 sh_226 ev20 ?_
      refine g_istore_n (pc := 35) (lv' := [some (.ref 221), some (.int z7), some (.int z16), some (.int v20)]) dX8_byPieces_35 rfl (by decide) rfl ?_
      refine g_aload_n (pc := 36) dX8_byPieces_36 rfl rfl ?_
      refine g_aload_n (pc := 37) dX8_byPieces_37 rfl rfl ?_
      refine g_getR (pc := 38) dX8_byPieces_38 fl_X8_22 sh_221 rfl ?_
      refine g_bipush (pc := 41) 8 dX8_byPieces_41 rfl ?_
      refine g_iload_n (pc := 43) dX8_byPieces_43 rfl rfl ?_
      refine g_imul (pc := 44) dX8_byPieces_44 ?_
      refine g_iload_n (pc := 45) dX8_byPieces_45 rfl rfl ?_
      refine g_iadd (pc := 46) dX8_byPieces_46 ?_
      obtain ⟨v21, ev21, hf⟩ := job hf
      refine g_iald (pc := 47) dX8_byPieces_47 sh_226 ev21 ?_
      refine g_aload_n (pc := 48) dX8_byPieces_48 rfl rfl ?_
      refine g_getR (pc := 49) dX8_byPieces_49 fl_X8_71 sh_221 rfl ?_
      refine g_iload_n (pc := 52) dX8_byPieces_52 rfl rfl ?_
      obtain ⟨v22, ev22, hf⟩ := job hf
      refine g_iald (pc := 53) dX8_byPieces_53 sh_242 ev22 ?_
      refine g_aload_n (pc := 54) dX8_byPieces_54 rfl rfl ?_
      refine g_getR (pc := 55) dX8_byPieces_55 fl_X8_31 sh_221 rfl ?_
      refine g_iload_n (pc := 58) dX8_byPieces_58 rfl rfl ?_
      obtain ⟨v23, ev23, hf⟩ := job hf
      refine g_iald (pc := 59) dX8_byPieces_59 sh_229 ev23 ?_
      refine g_iadd (pc := 60) dX8_byPieces_60 ?_
      obtain ⟨M24, eM24, hf⟩ := job hf
      refine g_callV (pc := 61) [.int v21, .int (v22 + v23)] [] dX8_byPieces_61 ml_X8_239 ck_X8_head cv_X8_head sh_221 rfl (by decide) (Nat.le_of_ble_eq_true rfl) (c_X8_head eM24) ?_
      show jGG μ_X8_byPieces 2 64 [some (.ref 221), some (.int z7), some (.int z16), some (.int v20)] [] M24 (fun M' r' => M' = Mz ∧ r' = none)
      refine g_iinc (pc := 64) (lv' := [some (.ref 221), some (.int z7), some (.int (z16 + 1)), some (.int v20)]) (z16 + 1) dX8_byPieces_64 rfl rfl (by decide) rfl ?_
      refine g_goto (pc := 67) 12 dX8_byPieces_67 rfl ?_
      have hih : jGG μ_X8_byPieces 2 12 [some (.ref 221), some (.int z7), some (.int (z16 + 1)), none] [] M24 (fun M' r' => M' = Mz ∧ r' = none) := ih14 (z16 + 1, M24) (Option.some.inj hf).symm
      exact g_weakK hih ⟨rfl, ⟨rfl, ⟨rfl, trivial⟩⟩⟩
