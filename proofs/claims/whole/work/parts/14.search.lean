def f_X4_addCase (M : JMem) (x1 : Int32) (x2 : Int32) : Option (JMem) := (if 101 ≤ (M 83 3) then some M else (jrw 84 101 (M 83 3)).bind fun w1 => (jcpy M 189 32 0 w1 32 0 32).bind fun M2 => (jrw 84 101 (M2 83 3)).bind fun w3 => (jrd M2 w3 32 x1).bind fun v4 => (jwr M2 w3 32 x1 (v4 ||| (jshl 1 x2))).bind fun M5 => (some (jup M5 83 3 ((M5 83 3) + 1))).bind fun M6 => some M6)
set_option maxHeartbeats 4000000 in
theorem c_X4_addCase {M : JMem} {x1 : Int32} {x2 : Int32} {Mz : JMem} (hf : f_X4_addCase M x1 x2 = some Mz) : jCo yX4_addCase μ_X4_addCase 1 M [.ref 83, .int x1, .int x2] Mz none := by
  refine jCt_of (by decide +kernel) rfl (by simp [Value.category]) (Nat.le_of_ble_eq_true rfl) ?_
  unfold f_X4_addCase at hf
  show jGG μ_X4_addCase 1 0 [some (.ref 83), some (.int x1), some (.int x2)] [] M (fun M' r' => M' = Mz ∧ r' = none)
  refine g_aload_n (pc := 0) dX4_addCase_0 rfl rfl ?_
  refine g_getI (pc := 1) dX4_addCase_1 fl_X4_50 sh_83 rfl ?_
  refine g_aload_n (pc := 4) dX4_addCase_4 rfl rfl ?_
  refine g_getR (pc := 5) dX4_addCase_5 fl_X4_11 sh_83 rfl ?_
  refine g_alenR (pc := 8) 101 dX4_addCase_8 sh_84 rfl ?_
  refine g_icmp_ge (pc := 9) 62 dX4_addCase_9 rfl (fun hc7 => ?_) (fun hc7 => ?_)
  · replace hf := jifp hc7 hf
    obtain rfl := Option.some.inj hf
    exact g_vret (pc := 62) dX4_addCase_62 rfl ⟨rfl, rfl⟩
  · replace hf := jifn hc7 hf
    refine g_aload_n (pc := 12) dX4_addCase_12 rfl rfl ?_
    refine g_getR (pc := 13) dX4_addCase_13 fl_X4_19 sh_83 rfl ?_
    refine g_getR (pc := 16) dX4_addCase_16 fl_X4_53 sh_186 rfl ?_
    refine g_iconst (pc := 19) 0 dX4_addCase_19 rfl ?_
    refine g_aload_n (pc := 20) dX4_addCase_20 rfl rfl ?_
    refine g_getR (pc := 21) dX4_addCase_21 fl_X4_11 sh_83 rfl ?_
    refine g_aload_n (pc := 24) dX4_addCase_24 rfl rfl ?_
    refine g_getI (pc := 25) dX4_addCase_25 fl_X4_50 sh_83 rfl ?_
    obtain ⟨w1, ew1, hf⟩ := job hf
    refine g_aald (pc := 28) dX4_addCase_28 sh_84 ew1 ?_
    refine g_iconst (pc := 29) 0 dX4_addCase_29 rfl ?_
    refine g_bipush (pc := 30) 32 dX4_addCase_30 rfl ?_
    obtain ⟨M2, eM2, hf⟩ := job hf
    refine g_copy (pc := 32) [] dX4_addCase_32 ml_X4_57 (by decide) (Nat.le_of_ble_eq_true rfl) sh_189 (jrw_sh gr_84 ew1) eM2 ?_
    refine g_aload_n (pc := 35) dX4_addCase_35 rfl rfl ?_
    refine g_getR (pc := 36) dX4_addCase_36 fl_X4_11 sh_83 rfl ?_
    refine g_aload_n (pc := 39) dX4_addCase_39 rfl rfl ?_
    refine g_getI (pc := 40) dX4_addCase_40 fl_X4_50 sh_83 rfl ?_
    obtain ⟨w3, ew3, hf⟩ := job hf
    refine g_aald (pc := 43) dX4_addCase_43 sh_84 ew3 ?_
    refine g_iload_n (pc := 44) dX4_addCase_44 rfl rfl ?_
    refine g_dup2 (pc := 45) dX4_addCase_45 rfl rfl ?_
    obtain ⟨v4, ev4, hf⟩ := job hf
    refine g_iald (pc := 46) dX4_addCase_46 (jrw_sh gr_84 ew3) ev4 ?_
    refine g_iconst (pc := 47) 1 dX4_addCase_47 rfl ?_
    refine g_iload_n (pc := 48) dX4_addCase_48 rfl rfl ?_
    refine g_ishl (pc := 49) dX4_addCase_49 ?_
    refine g_ior (pc := 50) dX4_addCase_50 ?_
    obtain ⟨M5, eM5, hf⟩ := job hf
    refine g_iast (pc := 51) dX4_addCase_51 (jrw_sh gr_84 ew3) eM5 ?_
    refine g_aload_n (pc := 52) dX4_addCase_52 rfl rfl ?_
    refine g_dup (pc := 53) dX4_addCase_53 rfl ?_
    refine g_getI (pc := 54) dX4_addCase_54 fl_X4_50 sh_83 rfl ?_
    refine g_iconst (pc := 57) 1 dX4_addCase_57 rfl ?_
    refine g_iadd (pc := 58) dX4_addCase_58 ?_
    refine g_putI (pc := 59) dX4_addCase_59 fp_X4_50 sh_83 rfl ?_
    obtain ⟨M6, eM6, hf⟩ := job hf
    rw [Option.some.inj eM6]
    obtain rfl := Option.some.inj hf
    exact g_vret (pc := 62) dX4_addCase_62 rfl ⟨rfl, rfl⟩
def f_X4_splitCase (N : Nat) (M : JMem) : Option (JMem × Int32) := (jcase (α := JMem × Int32) (β := Unit) (jLp (σ := Int32) (ρ := (JMem × Int32) ⊕ (Unit)) N (fun (z7 : Int32) => (if (M 1 2) ≤ z7 then some (Sum.inr (Sum.inr ())) else (jcase (α := (Int32) ⊕ ((JMem × Int32) ⊕ (Unit))) (β := Unit) (jLp (σ := Int32) (ρ := ((Int32) ⊕ ((JMem × Int32) ⊕ (Unit))) ⊕ (Unit)) N (fun (z14 : Int32) => (if (M 1 2) ≤ z14 then some (Sum.inr (Sum.inr ())) else (jrd M 20 32 z7).bind fun v15 => (jrd M 20 32 z14).bind fun v16 => (((jcase (α := Int32) (β := Unit) (if v16 = v15 then (jrd M 2 8 v15).bind fun v27 => (if v27 = 0 then some (Sum.inl (1)) else some (Sum.inr ())) else some (Sum.inr ())) fun _ => some (0)) : Option (Int32)).bind fun u30 => (jcase (α := (Int32) ⊕ (((Int32) ⊕ ((JMem × Int32) ⊕ (Unit))) ⊕ (Unit))) (β := Unit) (if u30 = 0 then some (Sum.inr ()) else (f_X6_isOpen M 186 z7 z14).bind fun v36 => (if v36 = 0 then some (Sum.inr ()) else (f_X4_addCase M z14 z7).bind fun M37 => (f_X4_addCase M37 z7 z14).bind fun M38 => some (Sum.inl (Sum.inr (Sum.inl (Sum.inr (Sum.inl (M38, 1)))))))) fun _ => some (Sum.inl (z14 + 1)))))) (z7 + 1)) fun _ => some (Sum.inl (z7 + 1))))) 0) fun _ => some (M, 0))
set_option maxHeartbeats 4000000 in
theorem c_X4_splitCase {N : Nat} {M : JMem} {Mz : JMem} {r : Int32} (hf : f_X4_splitCase N M = some (Mz, r)) : jCo yX4_splitCase μ_X4_splitCase 3 M [.ref 83, .ref 1] Mz (some (.int r)) := by
  refine jCt_of (by decide +kernel) rfl (by simp [Value.category]) (Nat.le_of_ble_eq_true rfl) ?_
  unfold f_X4_splitCase at hf
  show jGG μ_X4_splitCase 3 0 [some (.ref 83), some (.ref 1), none, none, none, none] [] M (fun M' r' => M' = Mz ∧ r' = some (.int r))
  refine g_iconst (pc := 0) 0 dX4_splitCase_0 rfl ?_
  refine g_istore_n (pc := 1) (lv' := [some (.ref 83), some (.ref 1), some (.int 0), none, none, none]) dX4_splitCase_1 rfl (by decide) rfl ?_
  obtain ⟨y2, hr44, hy1⟩ := jcb hf
  have K3 : y2 = Sum.inr () → jGG μ_X4_splitCase 3 101 [none, none, none, none, none, none] [] M (fun M' r' => M' = Mz ∧ r' = some (.int r)) := by
    intro hyy
    subst hyy
    replace hf := hy1
    refine g_iconst (pc := 101) 0 dX4_splitCase_101 rfl ?_
    obtain ⟨rfl, rfl⟩ := Prod.mk.inj (Option.some.inj hf)
    exact g_zret (pc := 102) dX4_splitCase_102 rfl (Or.inl rfl) ⟨rfl, rfl⟩
  refine g_weak (lv' := [some (.ref 83), some (.ref 1), some (.int 0), none, none, none]) ⟨rfl, ⟨rfl, ⟨rfl, trivial⟩⟩⟩ ?_
  refine jLp_ind (P := fun (z7 : Int32) => jGG μ_X4_splitCase 3 2 [some (.ref 83), some (.ref 1), some (.int z7), none, none, none] [] M (fun M' r' => M' = Mz ∧ r' = some (.int r))) ?_ N _ hr44
  rintro z7 x_6 hf ih5 hx4
  show jGG μ_X4_splitCase 3 2 [some (.ref 83), some (.ref 1), some (.int z7), none, none, none] [] M (fun M' r' => M' = Mz ∧ r' = some (.int r))
  refine g_iload_n (pc := 2) dX4_splitCase_2 rfl rfl ?_
  refine g_aload_n (pc := 3) dX4_splitCase_3 rfl rfl ?_
  refine g_getI (pc := 4) dX4_splitCase_4 fl_X4_78 sh_1 rfl ?_
  refine g_icmp_ge (pc := 7) 101 dX4_splitCase_7 rfl (fun hc43 => ?_) (fun hc43 => ?_)
  · replace hf := jifp hc43 hf
    have hf := hx4 _ (Option.some.inj hf).symm
    exact g_weakK (K3 hf.symm) trivial
  · replace hf := jifn hc43 hf
    refine g_iload_n (pc := 10) dX4_splitCase_10 rfl rfl ?_
    refine g_iconst (pc := 11) 1 dX4_splitCase_11 rfl ?_
    refine g_iadd (pc := 12) dX4_splitCase_12 ?_
    refine g_istore_n (pc := 13) (lv' := [some (.ref 83), some (.ref 1), some (.int z7), some (.int (z7 + 1)), none, none]) dX4_splitCase_13 rfl (by decide) rfl ?_
    obtain ⟨y9, hr42, hy8⟩ := jcb hf
    have K10 : y9 = Sum.inr () → jGG μ_X4_splitCase 3 95 [some (.ref 83), some (.ref 1), some (.int z7), none, none, none] [] M (fun M' r' => M' = Mz ∧ r' = some (.int r)) := by
      intro hyy
      subst hyy
      replace hf := hy8
      refine g_iinc (pc := 95) (lv' := [some (.ref 83), some (.ref 1), some (.int (z7 + 1)), none, none, none]) (z7 + 1) dX4_splitCase_95 rfl rfl (by decide) rfl ?_
      refine g_goto (pc := 98) 2 dX4_splitCase_98 rfl ?_
      have hih : jGG μ_X4_splitCase 3 2 [some (.ref 83), some (.ref 1), some (.int (z7 + 1)), none, none, none] [] M (fun M' r' => M' = Mz ∧ r' = some (.int r)) := ih5 (z7 + 1) (Option.some.inj hf).symm
      exact g_weakK hih ⟨rfl, ⟨rfl, ⟨rfl, trivial⟩⟩⟩
    refine g_weak (lv' := [some (.ref 83), some (.ref 1), some (.int z7), some (.int (z7 + 1)), none, none]) ⟨rfl, ⟨rfl, ⟨rfl, ⟨rfl, trivial⟩⟩⟩⟩ ?_
    refine jLp_ind (P := fun (z14 : Int32) => jGG μ_X4_splitCase 3 14 [some (.ref 83), some (.ref 1), some (.int z7), some (.int z14), none, none] [] M (fun M' r' => M' = Mz ∧ r' = some (.int r))) ?_ N _ hr42
    rintro z14 x_13 hf ih12 hx11
    show jGG μ_X4_splitCase 3 14 [some (.ref 83), some (.ref 1), some (.int z7), some (.int z14), none, none] [] M (fun M' r' => M' = Mz ∧ r' = some (.int r))
    refine g_iload_n (pc := 14) dX4_splitCase_14 rfl rfl ?_
    refine g_aload_n (pc := 15) dX4_splitCase_15 rfl rfl ?_
    refine g_getI (pc := 16) dX4_splitCase_16 fl_X4_78 sh_1 rfl ?_
    refine g_icmp_ge (pc := 19) 95 dX4_splitCase_19 rfl (fun hc41 => ?_) (fun hc41 => ?_)
    · replace hf := jifp hc41 hf
      have hf := hx11 _ (Option.some.inj hf).symm
      exact g_weakK (K10 hf.symm) ⟨rfl, ⟨rfl, ⟨rfl, trivial⟩⟩⟩
    · replace hf := jifn hc41 hf
      refine g_aload_n (pc := 22) dX4_splitCase_22 rfl rfl ?_
      refine g_getR (pc := 23) dX4_splitCase_23 fl_X4_83 sh_1 rfl ?_
      refine g_iload_n (pc := 26) dX4_splitCase_26 rfl rfl ?_
      obtain ⟨v15, ev15, hf⟩ := job hf
      refine g_iald (pc := 27) dX4_splitCase_27 sh_20 ev15 ?_
      refine g_istore (pc := 28) (lv' := [some (.ref 83), some (.ref 1), some (.int z7), some (.int z14), some (.int v15), none]) dX4_splitCase_28 (by decide) rfl ?_
      refine g_aload_n (pc := 30) dX4_splitCase_30 rfl rfl ?_
      refine g_getR (pc := 31) dX4_splitCase_31 fl_X4_83 sh_1 rfl ?_
      refine g_iload_n (pc := 34) dX4_splitCase_34 rfl rfl ?_
      obtain ⟨v16, ev16, hf⟩ := job hf
      refine g_iald (pc := 35) dX4_splitCase_35 sh_20 ev16 ?_
      refine g_iload (pc := 36) dX4_splitCase_36 rfl ?_
      obtain ⟨u30, hf, hy18⟩ := job hf
      have K20 : (hbu30 : u30 = 0 ∨ u30 = 1) → jGG μ_X4_splitCase 3 56 [some (.ref 83), some (.ref 1), some (.int z7), some (.int z14), none, none] [.int u30] M (fun M' r' => M' = Mz ∧ r' = some (.int r)) := by
        intro hbu30
        replace hf := hy18
        refine g_istore (pc := 56) (lv' := [some (.ref 83), some (.ref 1), some (.int z7), some (.int z14), none, some (.int u30)]) dX4_splitCase_56 (by decide) rfl ?_
        refine g_iload (pc := 58) dX4_splitCase_58 rfl ?_
        obtain ⟨y33, hf, hy32⟩ := jcb hf
        have K34 : y33 = Sum.inr () → jGG μ_X4_splitCase 3 89 [some (.ref 83), some (.ref 1), some (.int z7), some (.int z14), none, none] [] M (fun M' r' => M' = Mz ∧ r' = some (.int r)) := by
          intro hyy
          subst hyy
          replace hf := hy32
          refine g_iinc (pc := 89) (lv' := [some (.ref 83), some (.ref 1), some (.int z7), some (.int (z14 + 1)), none, none]) (z14 + 1) dX4_splitCase_89 rfl rfl (by decide) rfl ?_
          refine g_goto (pc := 92) 14 dX4_splitCase_92 rfl ?_
          have hih : jGG μ_X4_splitCase 3 14 [some (.ref 83), some (.ref 1), some (.int z7), some (.int (z14 + 1)), none, none] [] M (fun M' r' => M' = Mz ∧ r' = some (.int r)) := ih12 (z14 + 1) (Option.some.inj hf).symm
          exact g_weakK hih ⟨rfl, ⟨rfl, ⟨rfl, ⟨rfl, trivial⟩⟩⟩⟩
        refine g_if_eq (pc := 60) 89 dX4_splitCase_60 rfl (fun hc40 => ?_) (fun hc40 => ?_)
        · replace hf := jifp hc40 hf
          exact g_weakK (K34 (Option.some.inj hf).symm) ⟨rfl, ⟨rfl, ⟨rfl, ⟨rfl, trivial⟩⟩⟩⟩
        · replace hf := jifn hc40 hf
          refine g_aload_n (pc := 63) dX4_splitCase_63 rfl rfl ?_
          refine g_getR (pc := 64) dX4_splitCase_64 fl_X4_19 sh_83 rfl ?_
          refine g_iload_n (pc := 67) dX4_splitCase_67 rfl rfl ?_
          refine g_iload_n (pc := 68) dX4_splitCase_68 rfl rfl ?_
          obtain ⟨v36, ev36, hf⟩ := job hf
          refine g_callV (pc := 69) [.int z7, .int z14] [] dX4_splitCase_69 ml_X4_89 ck_X6_isOpen cv_X6_isOpen sh_186 rfl (by decide) (Nat.le_of_ble_eq_true rfl) (c_X6_isOpen isX6_186 ev36) ?_
          show jGG μ_X4_splitCase 3 72 [some (.ref 83), some (.ref 1), some (.int z7), some (.int z14), none, some (.int u30)] [.int v36] M (fun M' r' => M' = Mz ∧ r' = some (.int r))
          refine g_if_eq (pc := 72) 89 dX4_splitCase_72 rfl (fun hc39 => ?_) (fun hc39 => ?_)
          · replace hf := jifp hc39 hf
            exact g_weakK (K34 (Option.some.inj hf).symm) ⟨rfl, ⟨rfl, ⟨rfl, ⟨rfl, trivial⟩⟩⟩⟩
          · replace hf := jifn hc39 hf
            refine g_aload_n (pc := 75) dX4_splitCase_75 rfl rfl ?_
            refine g_iload_n (pc := 76) dX4_splitCase_76 rfl rfl ?_
            refine g_iload_n (pc := 77) dX4_splitCase_77 rfl rfl ?_
            obtain ⟨M37, eM37, hf⟩ := job hf
            refine g_callV (pc := 78) [.int z14, .int z7] [] dX4_splitCase_78 ml_X4_93 ck_X4_addCase cv_X4_addCase sh_83 rfl (by decide) (Nat.le_of_ble_eq_true rfl) (c_X4_addCase eM37) ?_
            show jGG μ_X4_splitCase 3 81 [some (.ref 83), some (.ref 1), some (.int z7), some (.int z14), none, some (.int u30)] [] M37 (fun M' r' => M' = Mz ∧ r' = some (.int r))
            refine g_aload_n (pc := 81) dX4_splitCase_81 rfl rfl ?_
            refine g_iload_n (pc := 82) dX4_splitCase_82 rfl rfl ?_
            refine g_iload_n (pc := 83) dX4_splitCase_83 rfl rfl ?_
            obtain ⟨M38, eM38, hf⟩ := job hf
            refine g_callV (pc := 84) [.int z7, .int z14] [] dX4_splitCase_84 ml_X4_93 ck_X4_addCase cv_X4_addCase sh_83 rfl (by decide) (Nat.le_of_ble_eq_true rfl) (c_X4_addCase eM38) ?_
            show jGG μ_X4_splitCase 3 87 [some (.ref 83), some (.ref 1), some (.int z7), some (.int z14), none, some (.int u30)] [] M38 (fun M' r' => M' = Mz ∧ r' = some (.int r))
            refine g_iconst (pc := 87) 1 dX4_splitCase_87 rfl ?_
            obtain rfl := Option.some.inj hf
            replace hf := hy32
            have hf := hx11 _ (Option.some.inj hf).symm
            subst hf
            replace hf := hy8
            have hf := hx4 _ (Option.some.inj hf).symm
            subst hf
            replace hf := hy1
            obtain ⟨rfl, rfl⟩ := Prod.mk.inj (Option.some.inj hf)
            exact g_zret (pc := 88) dX4_splitCase_88 rfl (Or.inr rfl) ⟨rfl, rfl⟩
      obtain ⟨y24, hf, hy23⟩ := jcb hf
      have K25 : y24 = Sum.inr () → jGG μ_X4_splitCase 3 55 [some (.ref 83), some (.ref 1), some (.int z7), some (.int z14), none, none] [] M (fun M' r' => M' = Mz ∧ r' = some (.int r)) := by
        intro hyy
        subst hyy
        replace hf := hy23
        refine g_iconst (pc := 55) 0 dX4_splitCase_55 rfl ?_
        obtain rfl := Option.some.inj hf
        exact g_weakK (K20 (Or.inl rfl)) ⟨rfl, ⟨rfl, ⟨rfl, ⟨rfl, trivial⟩⟩⟩⟩
      refine g_icmp_ne (pc := 38) 55 dX4_splitCase_38 rfl (fun hc29 => ?_) (fun hc29 => ?_)
      · replace hf := jifn hc29 hf
        exact g_weakK (K25 (Option.some.inj hf).symm) ⟨rfl, ⟨rfl, ⟨rfl, ⟨rfl, trivial⟩⟩⟩⟩
      · replace hf := jifp hc29 hf
        refine g_aload_n (pc := 41) dX4_splitCase_41 rfl rfl ?_
        refine g_getR (pc := 42) dX4_splitCase_42 fl_X4_86 sh_1 rfl ?_
        refine g_iload (pc := 45) dX4_splitCase_45 rfl ?_
        obtain ⟨v27, ev27, hf⟩ := job hf
        refine g_iald (pc := 47) dX4_splitCase_47 sh_2 ev27 ?_
        refine g_if_ne (pc := 48) 55 dX4_splitCase_48 rfl (fun hc28 => ?_) (fun hc28 => ?_)
        · replace hf := jifn hc28 hf
          exact g_weakK (K25 (Option.some.inj hf).symm) ⟨rfl, ⟨rfl, ⟨rfl, ⟨rfl, trivial⟩⟩⟩⟩
        · replace hf := jifp hc28 hf
          refine g_iconst (pc := 51) 1 dX4_splitCase_51 rfl ?_
          refine g_goto (pc := 52) 56 dX4_splitCase_52 rfl ?_
          obtain rfl := Option.some.inj hf
          replace hf := hy23
          obtain rfl := Option.some.inj hf
          exact g_weakK (K20 (Or.inr rfl)) ⟨rfl, ⟨rfl, ⟨rfl, ⟨rfl, trivial⟩⟩⟩⟩
def f_X4_aheadOf (N : Nat) (M : JMem) (x2 : Int32) : Option (Int32) := (jrd M 20 32 x2).bind fun v1 => ((jLp (σ := Int32 × Int32) (ρ := Int32) N (fun ((z8, z9) : Int32 × Int32) => (jrd M 32 8 v1).bind fun v11 => (if v11 ≤ z9 then some (Sum.inr z8) else (jrw 23 8 v1).bind fun w12 => (jrd M w12 32 z9).bind fun v13 => (f_X6_isAhead M 186 v13 x2).bind fun v14 => (((if v14 = 0 then some (0) else some (1)) : Option (Int32)).bind fun u21 => some (Sum.inl (z8 + u21, z9 + 1))))) (0, 0)).bind fun t10 => some t10)
set_option maxHeartbeats 4000000 in
theorem c_X4_aheadOf {N : Nat} {M : JMem} {x2 : Int32} {r : Int32} (hf : f_X4_aheadOf N M x2 = some r) : jCo yX4_aheadOf μ_X4_aheadOf 2 M [.ref 83, .ref 1, .int x2] M (some (.int r)) := by
  refine jCt_of (by decide +kernel) rfl (by simp [Value.category]) (Nat.le_of_ble_eq_true rfl) ?_
  unfold f_X4_aheadOf at hf
  show jGG μ_X4_aheadOf 2 0 [some (.ref 83), some (.ref 1), some (.int x2), none, none, none] [] M (fun M' r' => M' = M ∧ r' = some (.int r))
  refine g_aload_n (pc := 0) dX4_aheadOf_0 rfl rfl ?_
  refine g_getR (pc := 1) dX4_aheadOf_1 fl_X4_83 sh_1 rfl ?_
  refine g_iload_n (pc := 4) dX4_aheadOf_4 rfl rfl ?_
  obtain ⟨v1, ev1, hf⟩ := job hf
  refine g_iald (pc := 5) dX4_aheadOf_5 sh_20 ev1 ?_
  refine g_istore_n (pc := 6) (lv' := [some (.ref 83), some (.ref 1), some (.int x2), some (.int v1), none, none]) dX4_aheadOf_6 rfl (by decide) rfl ?_
  refine g_iconst (pc := 7) 0 dX4_aheadOf_7 rfl ?_
  refine g_istore (pc := 8) (lv' := [some (.ref 83), some (.ref 1), some (.int x2), some (.int v1), some (.int 0), none]) dX4_aheadOf_8 (by decide) rfl ?_
  refine g_iconst (pc := 10) 0 dX4_aheadOf_10 rfl ?_
  refine g_istore (pc := 11) (lv' := [some (.ref 83), some (.ref 1), some (.int x2), some (.int v1), some (.int 0), some (.int 0)]) dX4_aheadOf_11 (by decide) rfl ?_
  obtain ⟨t10, y3, hy2⟩ := job hf
  have K4 : jGG μ_X4_aheadOf 2 60 [none, none, none, none, some (.int t10), none] [] M (fun M' r' => M' = M ∧ r' = some (.int r)) := by
    replace hf := hy2
    refine g_iload (pc := 60) dX4_aheadOf_60 rfl ?_
    obtain rfl := Option.some.inj hf
    exact g_iret (pc := 62) dX4_aheadOf_62 rfl ⟨rfl, rfl⟩
  refine g_weak (lv' := [some (.ref 83), some (.ref 1), some (.int x2), some (.int v1), some (.int 0), some (.int 0)]) ⟨rfl, ⟨rfl, ⟨rfl, ⟨rfl, ⟨rfl, ⟨rfl, trivial⟩⟩⟩⟩⟩⟩ ?_
  refine jLp_ind (P := fun ((z8, z9) : Int32 × Int32) => jGG μ_X4_aheadOf 2 13 [some (.ref 83), some (.ref 1), some (.int x2), some (.int v1), some (.int z8), some (.int z9)] [] M (fun M' r' => M' = M ∧ r' = some (.int r))) ?_ N _ y3
  rintro ⟨z8, z9⟩ x_7 hf ih6 hx5
  show jGG μ_X4_aheadOf 2 13 [some (.ref 83), some (.ref 1), some (.int x2), some (.int v1), some (.int z8), some (.int z9)] [] M (fun M' r' => M' = M ∧ r' = some (.int r))
  refine g_iload (pc := 13) dX4_aheadOf_13 rfl ?_
  refine g_aload_n (pc := 15) dX4_aheadOf_15 rfl rfl ?_
  refine g_getR (pc := 16) dX4_aheadOf_16 fl_X4_118 sh_1 rfl ?_
  refine g_iload_n (pc := 19) dX4_aheadOf_19 rfl rfl ?_
  obtain ⟨v11, ev11, hf⟩ := job hf
  refine g_iald (pc := 20) dX4_aheadOf_20 sh_32 ev11 ?_
  refine g_icmp_ge (pc := 21) 60 dX4_aheadOf_21 rfl (fun hc22 => ?_) (fun hc22 => ?_)
  · replace hf := jifp hc22 hf
    have hf := hx5 _ (Option.some.inj hf).symm
    obtain rfl := hf
    exact g_weakK K4 ⟨rfl, trivial⟩
  · replace hf := jifn hc22 hf
    refine g_iload (pc := 24) dX4_aheadOf_24 rfl ?_
    refine g_aload_n (pc := 26) dX4_aheadOf_26 rfl rfl ?_
    refine g_getR (pc := 27) dX4_aheadOf_27 fl_X4_19 sh_83 rfl ?_
    refine g_aload_n (pc := 30) dX4_aheadOf_30 rfl rfl ?_
    refine g_getR (pc := 31) dX4_aheadOf_31 fl_X4_121 sh_1 rfl ?_
    refine g_iload_n (pc := 34) dX4_aheadOf_34 rfl rfl ?_
    obtain ⟨w12, ew12, hf⟩ := job hf
    refine g_aald (pc := 35) dX4_aheadOf_35 sh_23 ew12 ?_
    refine g_iload (pc := 36) dX4_aheadOf_36 rfl ?_
    obtain ⟨v13, ev13, hf⟩ := job hf
    refine g_iald (pc := 38) dX4_aheadOf_38 (jrw_sh gr_23 ew12) ev13 ?_
    refine g_iload_n (pc := 39) dX4_aheadOf_39 rfl rfl ?_
    obtain ⟨v14, ev14, hf⟩ := job hf
    refine g_callV (pc := 40) [.int v13, .int x2] [.int z8] dX4_aheadOf_40 ml_X4_128 ck_X6_isAhead cv_X6_isAhead sh_186 rfl (by decide) (Nat.le_of_ble_eq_true rfl) (c_X6_isAhead isX6_186 ev14) ?_
    show jGG μ_X4_aheadOf 2 43 [some (.ref 83), some (.ref 1), some (.int x2), some (.int v1), some (.int z8), some (.int z9)] [.int v14, .int z8] M (fun M' r' => M' = M ∧ r' = some (.int r))
    obtain ⟨u21, hf, hy16⟩ := job hf
    have K18 : (hbu21 : u21 = 0 ∨ u21 = 1) → jGG μ_X4_aheadOf 2 51 [some (.ref 83), some (.ref 1), some (.int x2), some (.int v1), none, some (.int z9)] [.int u21, .int z8] M (fun M' r' => M' = M ∧ r' = some (.int r)) := by
      intro hbu21
      replace hf := hy16
      refine g_iadd (pc := 51) dX4_aheadOf_51 ?_
      refine g_istore (pc := 52) (lv' := [some (.ref 83), some (.ref 1), some (.int x2), some (.int v1), some (.int (z8 + u21)), some (.int z9)]) dX4_aheadOf_52 (by decide) rfl ?_
      refine g_iinc (pc := 54) (lv' := [some (.ref 83), some (.ref 1), some (.int x2), some (.int v1), some (.int (z8 + u21)), some (.int (z9 + 1))]) (z9 + 1) dX4_aheadOf_54 rfl rfl (by decide) rfl ?_
      refine g_goto (pc := 57) 13 dX4_aheadOf_57 rfl ?_
      have hih : jGG μ_X4_aheadOf 2 13 [some (.ref 83), some (.ref 1), some (.int x2), some (.int v1), some (.int (z8 + u21)), some (.int (z9 + 1))] [] M (fun M' r' => M' = M ∧ r' = some (.int r)) := ih6 (z8 + u21, z9 + 1) (Option.some.inj hf).symm
      exact g_weakK hih ⟨rfl, ⟨rfl, ⟨rfl, ⟨rfl, ⟨rfl, ⟨rfl, trivial⟩⟩⟩⟩⟩⟩
    refine g_if_eq (pc := 43) 50 dX4_aheadOf_43 rfl (fun hc20 => ?_) (fun hc20 => ?_)
    · replace hf := jifp hc20 hf
      refine g_iconst (pc := 50) 0 dX4_aheadOf_50 rfl ?_
      obtain rfl := Option.some.inj hf
      exact g_weakK (K18 (Or.inl rfl)) ⟨rfl, ⟨rfl, ⟨rfl, ⟨rfl, ⟨rfl, trivial⟩⟩⟩⟩⟩
    · replace hf := jifn hc20 hf
      refine g_iconst (pc := 46) 1 dX4_aheadOf_46 rfl ?_
      refine g_goto (pc := 47) 51 dX4_aheadOf_47 rfl ?_
      obtain rfl := Option.some.inj hf
      exact g_weakK (K18 (Or.inr rfl)) ⟨rfl, ⟨rfl, ⟨rfl, ⟨rfl, ⟨rfl, trivial⟩⟩⟩⟩⟩
def f_X4_orderMachine (N : Nat) (M : JMem) (x2 : Int32) : Option (JMem) := (jrw 191 8 x2).bind fun w1 => ((jLp (σ := Int32 × JMem) (ρ := JMem) N (fun ((z8, M9) : Int32 × JMem) => (jrd M9 32 8 x2).bind fun v11 => (if v11 ≤ z8 then some (Sum.inr M9) else (jrw 23 8 x2).bind fun w12 => (jrd M9 w12 32 z8).bind fun v13 => ((jLp (σ := Int32 × Int32 × JMem) (ρ := Int32 × JMem) N (fun ((z20, z21, M22) : Int32 × Int32 × JMem) => (if z21 ≤ 0 then some (Sum.inr (z20, M22)) else (jrd M22 w1 32 (z21 - 1)).bind fun v25 => (f_X4_aheadOf N M22 v25).bind fun v26 => (f_X4_aheadOf N M22 v13).bind fun v27 => (if v26 ≤ v27 then some (Sum.inr (z20, M22)) else (jrd M22 w1 32 (z21 - 1)).bind fun v28 => (jwr M22 w1 32 z21 v28).bind fun M29 => some (Sum.inl (z21 - 1, z21 + (-1), M29))))) (z8, z8, M9)).bind fun (t23, t24) => (jwr t24 w1 32 t23 v13).bind fun M32 => some (Sum.inl (z8 + 1, M32))))) (0, M)).bind fun t10 => some t10)
set_option maxHeartbeats 4000000 in
theorem c_X4_orderMachine {N : Nat} {M : JMem} {x2 : Int32} {Mz : JMem} (hf : f_X4_orderMachine N M x2 = some Mz) : jCo yX4_orderMachine μ_X4_orderMachine 3 M [.ref 83, .ref 1, .int x2] Mz none := by
  refine jCt_of (by decide +kernel) rfl (by simp [Value.category]) (Nat.le_of_ble_eq_true rfl) ?_
  unfold f_X4_orderMachine at hf
  show jGG μ_X4_orderMachine 3 0 [some (.ref 83), some (.ref 1), some (.int x2), none, none, none, none, none] [] M (fun M' r' => M' = Mz ∧ r' = none)
  refine g_aload_n (pc := 0) dX4_orderMachine_0 rfl rfl ?_
  refine g_getR (pc := 1) dX4_orderMachine_1 fl_X4_26 sh_83 rfl ?_
  refine g_getR (pc := 4) dX4_orderMachine_4 fl_X4_115 sh_190 rfl ?_
  refine g_iload_n (pc := 7) dX4_orderMachine_7 rfl rfl ?_
  obtain ⟨w1, ew1, hf⟩ := job hf
  refine g_aald (pc := 8) dX4_orderMachine_8 sh_191 ew1 ?_
  refine g_astore_n (pc := 9) (lv' := [some (.ref 83), some (.ref 1), some (.int x2), some (.ref w1), none, none, none, none]) dX4_orderMachine_9 rfl (by decide) rfl ?_
  refine g_iconst (pc := 10) 0 dX4_orderMachine_10 rfl ?_
  refine g_istore (pc := 11) (lv' := [some (.ref 83), some (.ref 1), some (.int x2), some (.ref w1), some (.int 0), none, none, none]) dX4_orderMachine_11 (by decide) rfl ?_
  obtain ⟨t10, y3, hy2⟩ := job hf
  have K4 : jGG μ_X4_orderMachine 3 103 [none, none, none, none, none, none, none, none] [] t10 (fun M' r' => M' = Mz ∧ r' = none) := by
    replace hf := hy2
    obtain rfl := Option.some.inj hf
    exact g_vret (pc := 103) dX4_orderMachine_103 rfl ⟨rfl, rfl⟩
  refine g_weak (lv' := [some (.ref 83), some (.ref 1), some (.int x2), some (.ref w1), some (.int 0), none, none, none]) ⟨rfl, ⟨rfl, ⟨rfl, ⟨rfl, ⟨rfl, trivial⟩⟩⟩⟩⟩ ?_
  refine jLp_ind (P := fun ((z8, M9) : Int32 × JMem) => jGG μ_X4_orderMachine 3 13 [some (.ref 83), some (.ref 1), some (.int x2), some (.ref w1), some (.int z8), none, none, none] [] M9 (fun M' r' => M' = Mz ∧ r' = none)) ?_ N _ y3
  rintro ⟨z8, M9⟩ x_7 hf ih6 hx5
  show jGG μ_X4_orderMachine 3 13 [some (.ref 83), some (.ref 1), some (.int x2), some (.ref w1), some (.int z8), none, none, none] [] M9 (fun M' r' => M' = Mz ∧ r' = none)
  refine g_iload (pc := 13) dX4_orderMachine_13 rfl ?_
  refine g_aload_n (pc := 15) dX4_orderMachine_15 rfl rfl ?_
  refine g_getR (pc := 16) dX4_orderMachine_16 fl_X4_118 sh_1 rfl ?_
  refine g_iload_n (pc := 19) dX4_orderMachine_19 rfl rfl ?_
  obtain ⟨v11, ev11, hf⟩ := job hf
  refine g_iald (pc := 20) dX4_orderMachine_20 sh_32 ev11 ?_
  refine g_icmp_ge (pc := 21) 103 dX4_orderMachine_21 rfl (fun hc33 => ?_) (fun hc33 => ?_)
  · replace hf := jifp hc33 hf
    have hf := hx5 _ (Option.some.inj hf).symm
    obtain rfl := hf
    exact g_weakK K4 trivial
  · replace hf := jifn hc33 hf
    refine g_aload_n (pc := 24) dX4_orderMachine_24 rfl rfl ?_
    refine g_getR (pc := 25) dX4_orderMachine_25 fl_X4_121 sh_1 rfl ?_
    refine g_iload_n (pc := 28) dX4_orderMachine_28 rfl rfl ?_
    obtain ⟨w12, ew12, hf⟩ := job hf
    refine g_aald (pc := 29) dX4_orderMachine_29 sh_23 ew12 ?_
    refine g_iload (pc := 30) dX4_orderMachine_30 rfl ?_
    obtain ⟨v13, ev13, hf⟩ := job hf
    refine g_iald (pc := 32) dX4_orderMachine_32 (jrw_sh gr_23 ew12) ev13 ?_
    refine g_istore (pc := 33) (lv' := [some (.ref 83), some (.ref 1), some (.int x2), some (.ref w1), some (.int z8), some (.int v13), none, none]) dX4_orderMachine_33 (by decide) rfl ?_
    refine g_iload (pc := 35) dX4_orderMachine_35 rfl ?_
    refine g_istore (pc := 37) (lv' := [some (.ref 83), some (.ref 1), some (.int x2), some (.ref w1), some (.int z8), some (.int v13), some (.int z8), none]) dX4_orderMachine_37 (by decide) rfl ?_
    refine g_iload (pc := 39) dX4_orderMachine_39 rfl ?_
    refine g_istore (pc := 41) (lv' := [some (.ref 83), some (.ref 1), some (.int x2), some (.ref w1), some (.int z8), some (.int v13), some (.int z8), some (.int z8)]) dX4_orderMachine_41 (by decide) rfl ?_
    obtain ⟨⟨t23, t24⟩, y15, hy14⟩ := job hf
    have K16 : jGG μ_X4_orderMachine 3 91 [some (.ref 83), some (.ref 1), some (.int x2), some (.ref w1), some (.int z8), some (.int v13), some (.int t23), none] [] t24 (fun M' r' => M' = Mz ∧ r' = none) := by
      replace hf := hy14
      refine g_aload_n (pc := 91) dX4_orderMachine_91 rfl rfl ?_
      refine g_iload (pc := 92) dX4_orderMachine_92 rfl ?_
      refine g_iload (pc := 94) dX4_orderMachine_94 rfl ?_
      obtain ⟨M32, eM32, hf⟩ := job hf
      refine g_iast (pc := 96) dX4_orderMachine_96 (jrw_sh gr_191 ew1) eM32 ?_
      refine g_iinc (pc := 97) (lv' := [some (.ref 83), some (.ref 1), some (.int x2), some (.ref w1), some (.int (z8 + 1)), some (.int v13), some (.int t23), none]) (z8 + 1) dX4_orderMachine_97 rfl rfl (by decide) rfl ?_
      refine g_goto (pc := 100) 13 dX4_orderMachine_100 rfl ?_
      have hih : jGG μ_X4_orderMachine 3 13 [some (.ref 83), some (.ref 1), some (.int x2), some (.ref w1), some (.int (z8 + 1)), none, none, none] [] M32 (fun M' r' => M' = Mz ∧ r' = none) := ih6 (z8 + 1, M32) (Option.some.inj hf).symm
      exact g_weakK hih ⟨rfl, ⟨rfl, ⟨rfl, ⟨rfl, ⟨rfl, trivial⟩⟩⟩⟩⟩
    refine g_weak (lv' := [some (.ref 83), some (.ref 1), some (.int x2), some (.ref w1), some (.int z8), some (.int v13), some (.int z8), some (.int z8)]) ⟨rfl, ⟨rfl, ⟨rfl, ⟨rfl, ⟨rfl, ⟨rfl, ⟨rfl, ⟨rfl, trivial⟩⟩⟩⟩⟩⟩⟩⟩ ?_
    refine jLp_ind (P := fun ((z20, z21, M22) : Int32 × Int32 × JMem) => jGG μ_X4_orderMachine 3 43 [some (.ref 83), some (.ref 1), some (.int x2), some (.ref w1), some (.int z8), some (.int v13), some (.int z20), some (.int z21)] [] M22 (fun M' r' => M' = Mz ∧ r' = none)) ?_ N _ y15
    rintro ⟨z20, z21, M22⟩ x_19 hf ih18 hx17
    show jGG μ_X4_orderMachine 3 43 [some (.ref 83), some (.ref 1), some (.int x2), some (.ref w1), some (.int z8), some (.int v13), some (.int z20), some (.int z21)] [] M22 (fun M' r' => M' = Mz ∧ r' = none)
    refine g_iload (pc := 43) dX4_orderMachine_43 rfl ?_
    refine g_if_le (pc := 45) 91 dX4_orderMachine_45 rfl (fun hc31 => ?_) (fun hc31 => ?_)
    · replace hf := jifp hc31 hf
      have hf := hx17 _ (Option.some.inj hf).symm
      obtain ⟨rfl, rfl⟩ := jp2 hf
      exact g_weakK K16 ⟨rfl, ⟨rfl, ⟨rfl, ⟨rfl, ⟨rfl, ⟨rfl, ⟨rfl, trivial⟩⟩⟩⟩⟩⟩⟩
    · replace hf := jifn hc31 hf
      refine g_aload_n (pc := 48) dX4_orderMachine_48 rfl rfl ?_
      refine g_aload_n (pc := 49) dX4_orderMachine_49 rfl rfl ?_
      refine g_aload_n (pc := 50) dX4_orderMachine_50 rfl rfl ?_
      refine g_iload (pc := 51) dX4_orderMachine_51 rfl ?_
      refine g_iconst (pc := 53) 1 dX4_orderMachine_53 rfl ?_
      refine g_isub (pc := 54) dX4_orderMachine_54 ?_
      obtain ⟨v25, ev25, hf⟩ := job hf
      refine g_iald (pc := 55) dX4_orderMachine_55 (jrw_sh gr_191 ew1) ev25 ?_
      obtain ⟨v26, ev26, hf⟩ := job hf
      refine g_callV (pc := 56) [.ref 1, .int v25] [] dX4_orderMachine_56 ml_X4_124 ck_X4_aheadOf cv_X4_aheadOf sh_83 rfl (by decide) (Nat.le_of_ble_eq_true rfl) (c_X4_aheadOf ev26) ?_
      show jGG μ_X4_orderMachine 3 59 [some (.ref 83), some (.ref 1), some (.int x2), some (.ref w1), some (.int z8), some (.int v13), some (.int z20), some (.int z21)] [.int v26] M22 (fun M' r' => M' = Mz ∧ r' = none)
      refine g_aload_n (pc := 59) dX4_orderMachine_59 rfl rfl ?_
      refine g_aload_n (pc := 60) dX4_orderMachine_60 rfl rfl ?_
      refine g_iload (pc := 61) dX4_orderMachine_61 rfl ?_
      obtain ⟨v27, ev27, hf⟩ := job hf
      refine g_callV (pc := 63) [.ref 1, .int v13] [.int v26] dX4_orderMachine_63 ml_X4_124 ck_X4_aheadOf cv_X4_aheadOf sh_83 rfl (by decide) (Nat.le_of_ble_eq_true rfl) (c_X4_aheadOf ev27) ?_
      show jGG μ_X4_orderMachine 3 66 [some (.ref 83), some (.ref 1), some (.int x2), some (.ref w1), some (.int z8), some (.int v13), some (.int z20), some (.int z21)] [.int v27, .int v26] M22 (fun M' r' => M' = Mz ∧ r' = none)
      refine g_icmp_le (pc := 66) 91 dX4_orderMachine_66 rfl (fun hc30 => ?_) (fun hc30 => ?_)
      · replace hf := jifp hc30 hf
        have hf := hx17 _ (Option.some.inj hf).symm
        obtain ⟨rfl, rfl⟩ := jp2 hf
        exact g_weakK K16 ⟨rfl, ⟨rfl, ⟨rfl, ⟨rfl, ⟨rfl, ⟨rfl, ⟨rfl, trivial⟩⟩⟩⟩⟩⟩⟩
      · replace hf := jifn hc30 hf
        refine g_aload_n (pc := 69) dX4_orderMachine_69 rfl rfl ?_
        refine g_iload (pc := 70) dX4_orderMachine_70 rfl ?_
        refine g_aload_n (pc := 72) dX4_orderMachine_72 rfl rfl ?_
        refine g_iload (pc := 73) dX4_orderMachine_73 rfl ?_
        refine g_iconst (pc := 75) 1 dX4_orderMachine_75 rfl ?_
        refine g_isub (pc := 76) dX4_orderMachine_76 ?_
        obtain ⟨v28, ev28, hf⟩ := job hf
        refine g_iald (pc := 77) dX4_orderMachine_77 (jrw_sh gr_191 ew1) ev28 ?_
        obtain ⟨M29, eM29, hf⟩ := job hf
        refine g_iast (pc := 78) dX4_orderMachine_78 (jrw_sh gr_191 ew1) eM29 ?_
        refine g_iload (pc := 79) dX4_orderMachine_79 rfl ?_
        refine g_iconst (pc := 81) 1 dX4_orderMachine_81 rfl ?_
        refine g_isub (pc := 82) dX4_orderMachine_82 ?_
        refine g_istore (pc := 83) (lv' := [some (.ref 83), some (.ref 1), some (.int x2), some (.ref w1), some (.int z8), some (.int v13), some (.int (z21 - 1)), some (.int z21)]) dX4_orderMachine_83 (by decide) rfl ?_
        refine g_iinc (pc := 85) (lv' := [some (.ref 83), some (.ref 1), some (.int x2), some (.ref w1), some (.int z8), some (.int v13), some (.int (z21 - 1)), some (.int (z21 + (-1)))]) (z21 + (-1)) dX4_orderMachine_85 rfl rfl (by decide) rfl ?_
        refine g_goto (pc := 88) 43 dX4_orderMachine_88 rfl ?_
        have hih : jGG μ_X4_orderMachine 3 43 [some (.ref 83), some (.ref 1), some (.int x2), some (.ref w1), some (.int z8), some (.int v13), some (.int (z21 - 1)), some (.int (z21 + (-1)))] [] M29 (fun M' r' => M' = Mz ∧ r' = none) := ih18 (z21 - 1, z21 + (-1), M29) (Option.some.inj hf).symm
        exact g_weakK hih ⟨rfl, ⟨rfl, ⟨rfl, ⟨rfl, ⟨rfl, ⟨rfl, ⟨rfl, ⟨rfl, trivial⟩⟩⟩⟩⟩⟩⟩⟩
def f_X4_tryOrders (N : Nat) (M : JMem) (r2 : Nat) : Option (JMem) := (f_X3_takeFrom N M 190 r2).bind fun M1 => ((jLp (σ := Int32 × JMem) (ρ := JMem) N (fun ((z8, M9) : Int32 × JMem) => (if (M9 1 0) ≤ z8 then some (Sum.inr M9) else (jrd M9 2 8 z8).bind fun v11 => (((if v11 = 0 then (f_X4_orderMachine N M9 z8).bind fun M17 => some (M17) else some (M9)) : Option (JMem)).bind fun M19 => some (Sum.inl (z8 + 1, M19))))) (0, M1)).bind fun t10 => (f_X1_work N t10 201 190).bind fun (M21, v22) => (if v22 = 0 then some M21 else (if (M21 83 0) ≤ (M21 201 4) then some M21 else (some (jup M21 83 0 (M21 201 4))).bind fun M23 => (some (jup M23 83 2 ((M23 83 2) + 1))).bind fun M24 => (f_X3_takeFrom N M24 r2 190).bind fun M25 => some M25)))
set_option maxHeartbeats 4000000 in
theorem c_X4_tryOrders {N : Nat} {M : JMem} {r2 : Nat} {Mz : JMem} (hr2 : isX3 r2) (hf : f_X4_tryOrders N M r2 = some Mz) : jCo yX4_tryOrders μ_X4_tryOrders 5 M [.ref 83, .ref 1, .ref r2] Mz none := by
  refine jCt_of (by decide +kernel) rfl (by simp [Value.category]) (Nat.le_of_ble_eq_true rfl) ?_
  unfold f_X4_tryOrders at hf
  show jGG μ_X4_tryOrders 5 0 [some (.ref 83), some (.ref 1), some (.ref r2), none] [] M (fun M' r' => M' = Mz ∧ r' = none)
  refine g_aload_n (pc := 0) dX4_tryOrders_0 rfl rfl ?_
  refine g_getR (pc := 1) dX4_tryOrders_1 fl_X4_26 sh_83 rfl ?_
  refine g_aload_n (pc := 4) dX4_tryOrders_4 rfl rfl ?_
  obtain ⟨M1, eM1, hf⟩ := job hf
  refine g_callV (pc := 5) [.ref r2] [] dX4_tryOrders_5 ml_X4_97 ck_X3_takeFrom cv_X3_takeFrom sh_190 rfl (by decide) (Nat.le_of_ble_eq_true rfl) (c_X3_takeFrom isX3_190 hr2 eM1) ?_
  show jGG μ_X4_tryOrders 5 8 [some (.ref 83), some (.ref 1), some (.ref r2), none] [] M1 (fun M' r' => M' = Mz ∧ r' = none)
  refine g_iconst (pc := 8) 0 dX4_tryOrders_8 rfl ?_
  refine g_istore_n (pc := 9) (lv' := [some (.ref 83), some (.ref 1), some (.ref r2), some (.int 0)]) dX4_tryOrders_9 rfl (by decide) rfl ?_
  obtain ⟨t10, y3, hy2⟩ := job hf
  have K4 : jGG μ_X4_tryOrders 5 39 [some (.ref 83), some (.ref 1), some (.ref r2), none] [] t10 (fun M' r' => M' = Mz ∧ r' = none) := by
    replace hf := hy2
    refine g_aload_n (pc := 39) dX4_tryOrders_39 rfl rfl ?_
    refine g_getR (pc := 40) dX4_tryOrders_40 fl_X4_33 sh_83 rfl ?_
    refine g_aload_n (pc := 43) dX4_tryOrders_43 rfl rfl ?_
    refine g_aload_n (pc := 44) dX4_tryOrders_44 rfl rfl ?_
    refine g_getR (pc := 45) dX4_tryOrders_45 fl_X4_26 sh_83 rfl ?_
    obtain ⟨⟨M21, v22⟩, ev22, hf⟩ := job hf
    refine g_callV (pc := 48) [.ref 1, .ref 190] [] dX4_tryOrders_48 ml_X4_108 ck_X1_work cv_X1_work sh_201 rfl (by decide) (Nat.le_of_ble_eq_true rfl) (c_X1_work isX1_201 isX3_190 ev22) ?_
    show jGG μ_X4_tryOrders 5 51 [some (.ref 83), some (.ref 1), some (.ref r2), none] [.int v22] M21 (fun M' r' => M' = Mz ∧ r' = none)
    refine g_if_eq (pc := 51) 97 dX4_tryOrders_51 rfl (fun hc27 => ?_) (fun hc27 => ?_)
    · replace hf := jifp hc27 hf
      obtain rfl := Option.some.inj hf
      exact g_vret (pc := 97) dX4_tryOrders_97 rfl ⟨rfl, rfl⟩
    · replace hf := jifn hc27 hf
      refine g_aload_n (pc := 54) dX4_tryOrders_54 rfl rfl ?_
      refine g_getR (pc := 55) dX4_tryOrders_55 fl_X4_33 sh_83 rfl ?_
      refine g_getI (pc := 58) dX4_tryOrders_58 fl_X4_112 sh_201 rfl ?_
      refine g_aload_n (pc := 61) dX4_tryOrders_61 rfl rfl ?_
      refine g_getI (pc := 62) dX4_tryOrders_62 fl_X4_63 sh_83 rfl ?_
      refine g_icmp_ge (pc := 65) 97 dX4_tryOrders_65 rfl (fun hc26 => ?_) (fun hc26 => ?_)
      · replace hf := jifp hc26 hf
        obtain rfl := Option.some.inj hf
        exact g_vret (pc := 97) dX4_tryOrders_97 rfl ⟨rfl, rfl⟩
      · replace hf := jifn hc26 hf
        refine g_aload_n (pc := 68) dX4_tryOrders_68 rfl rfl ?_
        refine g_aload_n (pc := 69) dX4_tryOrders_69 rfl rfl ?_
        refine g_getR (pc := 70) dX4_tryOrders_70 fl_X4_33 sh_83 rfl ?_
        refine g_getI (pc := 73) dX4_tryOrders_73 fl_X4_112 sh_201 rfl ?_
        refine g_putI (pc := 76) dX4_tryOrders_76 fp_X4_63 sh_83 rfl ?_
        obtain ⟨M23, eM23, hf⟩ := job hf
        rw [Option.some.inj eM23]
        refine g_aload_n (pc := 79) dX4_tryOrders_79 rfl rfl ?_
        refine g_dup (pc := 80) dX4_tryOrders_80 rfl ?_
        refine g_getI (pc := 81) dX4_tryOrders_81 fl_X4_41 sh_83 rfl ?_
        refine g_iconst (pc := 84) 1 dX4_tryOrders_84 rfl ?_
        refine g_iadd (pc := 85) dX4_tryOrders_85 ?_
        refine g_putI (pc := 86) dX4_tryOrders_86 fp_X4_41 sh_83 rfl ?_
        obtain ⟨M24, eM24, hf⟩ := job hf
        rw [Option.some.inj eM24]
        refine g_aload_n (pc := 89) dX4_tryOrders_89 rfl rfl ?_
        refine g_aload_n (pc := 90) dX4_tryOrders_90 rfl rfl ?_
        refine g_getR (pc := 91) dX4_tryOrders_91 fl_X4_26 sh_83 rfl ?_
        obtain ⟨M25, eM25, hf⟩ := job hf
        refine g_callV (pc := 94) [.ref 190] [] dX4_tryOrders_94 ml_X4_97 ck_X3_takeFrom cv_X3_takeFrom hr2.1 rfl (by decide) (Nat.le_of_ble_eq_true rfl) (c_X3_takeFrom hr2 isX3_190 eM25) ?_
        show jGG μ_X4_tryOrders 5 97 [some (.ref 83), some (.ref 1), some (.ref r2), none] [] M25 (fun M' r' => M' = Mz ∧ r' = none)
        obtain rfl := Option.some.inj hf
        exact g_vret (pc := 97) dX4_tryOrders_97 rfl ⟨rfl, rfl⟩
  refine g_weak (lv' := [some (.ref 83), some (.ref 1), some (.ref r2), some (.int 0)]) ⟨rfl, ⟨rfl, ⟨rfl, ⟨rfl, trivial⟩⟩⟩⟩ ?_
  refine jLp_ind (P := fun ((z8, M9) : Int32 × JMem) => jGG μ_X4_tryOrders 5 10 [some (.ref 83), some (.ref 1), some (.ref r2), some (.int z8)] [] M9 (fun M' r' => M' = Mz ∧ r' = none)) ?_ N _ y3
  rintro ⟨z8, M9⟩ x_7 hf ih6 hx5
  show jGG μ_X4_tryOrders 5 10 [some (.ref 83), some (.ref 1), some (.ref r2), some (.int z8)] [] M9 (fun M' r' => M' = Mz ∧ r' = none)
  refine g_iload_n (pc := 10) dX4_tryOrders_10 rfl rfl ?_
  refine g_aload_n (pc := 11) dX4_tryOrders_11 rfl rfl ?_
  refine g_getI (pc := 12) dX4_tryOrders_12 fl_X4_101 sh_1 rfl ?_
  refine g_icmp_ge (pc := 15) 39 dX4_tryOrders_15 rfl (fun hc20 => ?_) (fun hc20 => ?_)
  · replace hf := jifp hc20 hf
    have hf := hx5 _ (Option.some.inj hf).symm
    obtain rfl := hf
    exact g_weakK K4 ⟨rfl, ⟨rfl, ⟨rfl, trivial⟩⟩⟩
  · replace hf := jifn hc20 hf
    refine g_aload_n (pc := 18) dX4_tryOrders_18 rfl rfl ?_
    refine g_getR (pc := 19) dX4_tryOrders_19 fl_X4_86 sh_1 rfl ?_
    refine g_iload_n (pc := 22) dX4_tryOrders_22 rfl rfl ?_
    obtain ⟨v11, ev11, hf⟩ := job hf
    refine g_iald (pc := 23) dX4_tryOrders_23 sh_2 ev11 ?_
    obtain ⟨M19, hf, hy13⟩ := job hf
    have K15 : jGG μ_X4_tryOrders 5 33 [some (.ref 83), some (.ref 1), some (.ref r2), some (.int z8)] [] M19 (fun M' r' => M' = Mz ∧ r' = none) := by
      replace hf := hy13
      refine g_iinc (pc := 33) (lv' := [some (.ref 83), some (.ref 1), some (.ref r2), some (.int (z8 + 1))]) (z8 + 1) dX4_tryOrders_33 rfl rfl (by decide) rfl ?_
      refine g_goto (pc := 36) 10 dX4_tryOrders_36 rfl ?_
      have hih : jGG μ_X4_tryOrders 5 10 [some (.ref 83), some (.ref 1), some (.ref r2), some (.int (z8 + 1))] [] M19 (fun M' r' => M' = Mz ∧ r' = none) := ih6 (z8 + 1, M19) (Option.some.inj hf).symm
      exact g_weakK hih ⟨rfl, ⟨rfl, ⟨rfl, ⟨rfl, trivial⟩⟩⟩⟩
    refine g_if_ne (pc := 24) 33 dX4_tryOrders_24 rfl (fun hc18 => ?_) (fun hc18 => ?_)
    · replace hf := jifn hc18 hf
      obtain rfl := Option.some.inj hf
      exact g_weakK (K15) ⟨rfl, ⟨rfl, ⟨rfl, ⟨rfl, trivial⟩⟩⟩⟩
    · replace hf := jifp hc18 hf
      refine g_aload_n (pc := 27) dX4_tryOrders_27 rfl rfl ?_
      refine g_aload_n (pc := 28) dX4_tryOrders_28 rfl rfl ?_
      refine g_iload_n (pc := 29) dX4_tryOrders_29 rfl rfl ?_
      obtain ⟨M17, eM17, hf⟩ := job hf
      refine g_callV (pc := 30) [.ref 1, .int z8] [] dX4_tryOrders_30 ml_X4_104 ck_X4_orderMachine cv_X4_orderMachine sh_83 rfl (by decide) (Nat.le_of_ble_eq_true rfl) (c_X4_orderMachine eM17) ?_
      show jGG μ_X4_tryOrders 5 33 [some (.ref 83), some (.ref 1), some (.ref r2), some (.int z8)] [] M17 (fun M' r' => M' = Mz ∧ r' = none)
      obtain rfl := Option.some.inj hf
      exact g_weakK (K15) ⟨rfl, ⟨rfl, ⟨rfl, ⟨rfl, trivial⟩⟩⟩⟩
def f_X4_seek (N : Nat) (M : JMem) (r2 : Nat) (x3 : Int32) : Option (JMem × Int32) := (some (jup M 83 1 0)).bind fun M1 => (some (jup M1 83 2 0)).bind fun M2 => (jrw 84 101 0).bind fun w3 => (some (jfill M2 w3 32 0)).bind fun M4 => (some (jup M4 83 3 1)).bind fun M5 => ((jLp (σ := JMem) (ρ := JMem) N (fun (M12 : JMem) => (if (M12 83 3) ≤ 0 then some (Sum.inr M12) else (if x3 ≤ (M12 83 1) then some (Sum.inr M12) else (some (jup M12 83 1 ((M12 83 1) + 1))).bind fun M14 => (some (jup M14 83 3 ((M14 83 3) - 1))).bind fun M15 => (jrw 84 101 (M15 83 3)).bind fun w16 => (jcpy M15 w16 32 0 189 32 0 32).bind fun M17 => (f_X6_narrow N M17 186 ((M17 83 0) - 1)).bind fun (M18, v19) => (if v19 = 0 then some (Sum.inl M18) else (f_X4_splitCase N M18).bind fun (M20, v21) => (if v21 = 0 then (f_X4_tryOrders N M20 r2).bind fun M22 => some (Sum.inl M22) else some (Sum.inl M20)))))) M5).bind fun t13 => (if (t13 83 3) = 0 then some (t13, 1) else some (t13, 0)))
set_option maxHeartbeats 4000000 in
theorem c_X4_seek {N : Nat} {M : JMem} {r2 : Nat} {x3 : Int32} {Mz : JMem} {r : Int32} (hr2 : isX3 r2) (hf : f_X4_seek N M r2 x3 = some (Mz, r)) : jCo yX4_seek μ_X4_seek 6 M [.ref 83, .ref 1, .ref r2, .int x3] Mz (some (.int r)) := by
  refine jCt_of (by decide +kernel) rfl (by simp [Value.category]) (Nat.le_of_ble_eq_true rfl) ?_
  unfold f_X4_seek at hf
  show jGG μ_X4_seek 6 0 [some (.ref 83), some (.ref 1), some (.ref r2), some (.int x3)] [] M (fun M' r' => M' = Mz ∧ r' = some (.int r))
  refine g_aload_n (pc := 0) dX4_seek_0 rfl rfl ?_
  refine g_iconst (pc := 1) 0 dX4_seek_1 rfl ?_
  refine g_putI (pc := 2) dX4_seek_2 fp_X4_37 sh_83 rfl ?_
  obtain ⟨M1, eM1, hf⟩ := job hf
  rw [Option.some.inj eM1]
  refine g_aload_n (pc := 5) dX4_seek_5 rfl rfl ?_
  refine g_iconst (pc := 6) 0 dX4_seek_6 rfl ?_
  refine g_putI (pc := 7) dX4_seek_7 fp_X4_41 sh_83 rfl ?_
  obtain ⟨M2, eM2, hf⟩ := job hf
  rw [Option.some.inj eM2]
  refine g_aload_n (pc := 10) dX4_seek_10 rfl rfl ?_
  refine g_getR (pc := 11) dX4_seek_11 fl_X4_11 sh_83 rfl ?_
  refine g_iconst (pc := 14) 0 dX4_seek_14 rfl ?_
  obtain ⟨w3, ew3, hf⟩ := job hf
  refine g_aald (pc := 15) dX4_seek_15 sh_84 ew3 ?_
  refine g_iconst (pc := 16) 0 dX4_seek_16 rfl ?_
  obtain ⟨M4, eM4, hf⟩ := job hf
  refine g_callS (pc := 17) [.ref w3, .int 0] [] dX4_seek_17 ml_X4_44 ck_J7_fill_53178 cs_J7_fill_53178 rfl (by decide) (Nat.le_of_ble_eq_true rfl) (c_fill (jrw_sh gr_84 ew3) (by decide)) ?_
  rw [Option.some.inj eM4]
  show jGG μ_X4_seek 6 20 [some (.ref 83), some (.ref 1), some (.ref r2), some (.int x3)] [] M4 (fun M' r' => M' = Mz ∧ r' = some (.int r))
  refine g_aload_n (pc := 20) dX4_seek_20 rfl rfl ?_
  refine g_iconst (pc := 21) 1 dX4_seek_21 rfl ?_
  refine g_putI (pc := 22) dX4_seek_22 fp_X4_50 sh_83 rfl ?_
  obtain ⟨M5, eM5, hf⟩ := job hf
  rw [Option.some.inj eM5]
  obtain ⟨t13, y7, hy6⟩ := job hf
  have K8 : jGG μ_X4_seek 6 117 [some (.ref 83), none, none, none] [] t13 (fun M' r' => M' = Mz ∧ r' = some (.int r)) := by
    replace hf := hy6
    refine g_aload_n (pc := 117) dX4_seek_117 rfl rfl ?_
    refine g_getI (pc := 118) dX4_seek_118 fl_X4_50 sh_83 rfl ?_
    refine g_if_ne (pc := 121) 128 dX4_seek_121 rfl (fun hc27 => ?_) (fun hc27 => ?_)
    · replace hf := jifn hc27 hf
      refine g_iconst (pc := 128) 0 dX4_seek_128 rfl ?_
      obtain ⟨rfl, rfl⟩ := Prod.mk.inj (Option.some.inj hf)
      exact g_zret (pc := 129) dX4_seek_129 rfl (Or.inl rfl) ⟨rfl, rfl⟩
    · replace hf := jifp hc27 hf
      refine g_iconst (pc := 124) 1 dX4_seek_124 rfl ?_
      refine g_goto (pc := 125) 129 dX4_seek_125 rfl ?_
      obtain ⟨rfl, rfl⟩ := Prod.mk.inj (Option.some.inj hf)
      exact g_zret (pc := 129) dX4_seek_129 rfl (Or.inr rfl) ⟨rfl, rfl⟩
  refine g_weak (lv' := [some (.ref 83), some (.ref 1), some (.ref r2), some (.int x3)]) ⟨rfl, ⟨rfl, ⟨rfl, ⟨rfl, trivial⟩⟩⟩⟩ ?_
  refine jLp_ind (P := fun (M12 : JMem) => jGG μ_X4_seek 6 25 [some (.ref 83), some (.ref 1), some (.ref r2), some (.int x3)] [] M12 (fun M' r' => M' = Mz ∧ r' = some (.int r))) ?_ N _ y7
  rintro M12 x_11 hf ih10 hx9
  show jGG μ_X4_seek 6 25 [some (.ref 83), some (.ref 1), some (.ref r2), some (.int x3)] [] M12 (fun M' r' => M' = Mz ∧ r' = some (.int r))
  refine g_aload_n (pc := 25) dX4_seek_25 rfl rfl ?_
  refine g_getI (pc := 26) dX4_seek_26 fl_X4_50 sh_83 rfl ?_
  refine g_if_le (pc := 29) 117 dX4_seek_29 rfl (fun hc26 => ?_) (fun hc26 => ?_)
  · replace hf := jifp hc26 hf
    have hf := hx9 _ (Option.some.inj hf).symm
    obtain rfl := hf
    exact g_weakK K8 ⟨rfl, trivial⟩
  · replace hf := jifn hc26 hf
    refine g_aload_n (pc := 32) dX4_seek_32 rfl rfl ?_
    refine g_getI (pc := 33) dX4_seek_33 fl_X4_37 sh_83 rfl ?_
    refine g_iload_n (pc := 36) dX4_seek_36 rfl rfl ?_
    refine g_icmp_ge (pc := 37) 117 dX4_seek_37 rfl (fun hc25 => ?_) (fun hc25 => ?_)
    · replace hf := jifp hc25 hf
      have hf := hx9 _ (Option.some.inj hf).symm
      obtain rfl := hf
      exact g_weakK K8 ⟨rfl, trivial⟩
    · replace hf := jifn hc25 hf
      refine g_aload_n (pc := 40) dX4_seek_40 rfl rfl ?_
      refine g_dup (pc := 41) dX4_seek_41 rfl ?_
      refine g_getI (pc := 42) dX4_seek_42 fl_X4_37 sh_83 rfl ?_
      refine g_iconst (pc := 45) 1 dX4_seek_45 rfl ?_
      refine g_iadd (pc := 46) dX4_seek_46 ?_
      refine g_putI (pc := 47) dX4_seek_47 fp_X4_37 sh_83 rfl ?_
      obtain ⟨M14, eM14, hf⟩ := job hf
      rw [Option.some.inj eM14]
      refine g_aload_n (pc := 50) dX4_seek_50 rfl rfl ?_
      refine g_dup (pc := 51) dX4_seek_51 rfl ?_
      refine g_getI (pc := 52) dX4_seek_52 fl_X4_50 sh_83 rfl ?_
      refine g_iconst (pc := 55) 1 dX4_seek_55 rfl ?_
      refine g_isub (pc := 56) dX4_seek_56 ?_
      refine g_putI (pc := 57) dX4_seek_57 fp_X4_50 sh_83 rfl ?_
      obtain ⟨M15, eM15, hf⟩ := job hf
      rw [Option.some.inj eM15]
      refine g_aload_n (pc := 60) dX4_seek_60 rfl rfl ?_
      refine g_getR (pc := 61) dX4_seek_61 fl_X4_11 sh_83 rfl ?_
      refine g_aload_n (pc := 64) dX4_seek_64 rfl rfl ?_
      refine g_getI (pc := 65) dX4_seek_65 fl_X4_50 sh_83 rfl ?_
      obtain ⟨w16, ew16, hf⟩ := job hf
      refine g_aald (pc := 68) dX4_seek_68 sh_84 ew16 ?_
      refine g_iconst (pc := 69) 0 dX4_seek_69 rfl ?_
      refine g_aload_n (pc := 70) dX4_seek_70 rfl rfl ?_
      refine g_getR (pc := 71) dX4_seek_71 fl_X4_19 sh_83 rfl ?_
      refine g_getR (pc := 74) dX4_seek_74 fl_X4_53 sh_186 rfl ?_
      refine g_iconst (pc := 77) 0 dX4_seek_77 rfl ?_
      refine g_bipush (pc := 78) 32 dX4_seek_78 rfl ?_
      obtain ⟨M17, eM17, hf⟩ := job hf
      refine g_copy (pc := 80) [] dX4_seek_80 ml_X4_57 (by decide) (Nat.le_of_ble_eq_true rfl) (jrw_sh gr_84 ew16) sh_189 eM17 ?_
      refine g_aload_n (pc := 83) dX4_seek_83 rfl rfl ?_
      refine g_getR (pc := 84) dX4_seek_84 fl_X4_19 sh_83 rfl ?_
      refine g_aload_n (pc := 87) dX4_seek_87 rfl rfl ?_
      refine g_aload_n (pc := 88) dX4_seek_88 rfl rfl ?_
      refine g_getI (pc := 89) dX4_seek_89 fl_X4_63 sh_83 rfl ?_
      refine g_iconst (pc := 92) 1 dX4_seek_92 rfl ?_
      refine g_isub (pc := 93) dX4_seek_93 ?_
      obtain ⟨⟨M18, v19⟩, ev19, hf⟩ := job hf
      refine g_callV (pc := 94) [.ref 1, .int ((M17 83 0) - 1)] [] dX4_seek_94 ml_X4_66 ck_X6_narrow cv_X6_narrow sh_186 rfl (by decide) (Nat.le_of_ble_eq_true rfl) (c_X6_narrow isX6_186 ev19) ?_
      show jGG μ_X4_seek 6 97 [some (.ref 83), some (.ref 1), some (.ref r2), some (.int x3)] [.int v19] M18 (fun M' r' => M' = Mz ∧ r' = some (.int r))
      refine g_if_eq (pc := 97) 25 dX4_seek_97 rfl (fun hc24 => ?_) (fun hc24 => ?_)
      · replace hf := jifp hc24 hf
        have hih : jGG μ_X4_seek 6 25 [some (.ref 83), some (.ref 1), some (.ref r2), some (.int x3)] [] M18 (fun M' r' => M' = Mz ∧ r' = some (.int r)) := ih10 M18 (Option.some.inj hf).symm
        exact g_weakK hih ⟨rfl, ⟨rfl, ⟨rfl, ⟨rfl, trivial⟩⟩⟩⟩
      · replace hf := jifn hc24 hf
        refine g_aload_n (pc := 100) dX4_seek_100 rfl rfl ?_
        refine g_aload_n (pc := 101) dX4_seek_101 rfl rfl ?_
        obtain ⟨⟨M20, v21⟩, ev21, hf⟩ := job hf
        refine g_callV (pc := 102) [.ref 1] [] dX4_seek_102 ml_X4_70 ck_X4_splitCase cv_X4_splitCase sh_83 rfl (by decide) (Nat.le_of_ble_eq_true rfl) (c_X4_splitCase ev21) ?_
        show jGG μ_X4_seek 6 105 [some (.ref 83), some (.ref 1), some (.ref r2), some (.int x3)] [.int v21] M20 (fun M' r' => M' = Mz ∧ r' = some (.int r))
        refine g_if_ne (pc := 105) 25 dX4_seek_105 rfl (fun hc23 => ?_) (fun hc23 => ?_)
        · replace hf := jifn hc23 hf
          have hih : jGG μ_X4_seek 6 25 [some (.ref 83), some (.ref 1), some (.ref r2), some (.int x3)] [] M20 (fun M' r' => M' = Mz ∧ r' = some (.int r)) := ih10 M20 (Option.some.inj hf).symm
          exact g_weakK hih ⟨rfl, ⟨rfl, ⟨rfl, ⟨rfl, trivial⟩⟩⟩⟩
        · replace hf := jifp hc23 hf
          refine g_aload_n (pc := 108) dX4_seek_108 rfl rfl ?_
          refine g_aload_n (pc := 109) dX4_seek_109 rfl rfl ?_
          refine g_aload_n (pc := 110) dX4_seek_110 rfl rfl ?_
          obtain ⟨M22, eM22, hf⟩ := job hf
          refine g_callV (pc := 111) [.ref 1, .ref r2] [] dX4_seek_111 ml_X4_74 ck_X4_tryOrders cv_X4_tryOrders sh_83 rfl (by decide) (Nat.le_of_ble_eq_true rfl) (c_X4_tryOrders hr2 eM22) ?_
          show jGG μ_X4_seek 6 114 [some (.ref 83), some (.ref 1), some (.ref r2), some (.int x3)] [] M22 (fun M' r' => M' = Mz ∧ r' = some (.int r))
          refine g_goto (pc := 114) 25 dX4_seek_114 rfl ?_
          have hih : jGG μ_X4_seek 6 25 [some (.ref 83), some (.ref 1), some (.ref r2), some (.int x3)] [] M22 (fun M' r' => M' = Mz ∧ r' = some (.int r)) := ih10 M22 (Option.some.inj hf).symm
          exact g_weakK hih ⟨rfl, ⟨rfl, ⟨rfl, ⟨rfl, trivial⟩⟩⟩⟩
