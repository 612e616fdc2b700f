def f_X7_pickBy (N : Nat) (M : JMem) (x1 : Int32) : Option (JMem × Int32) := ((jLp (σ := Int32 × Int32 × Int32 × Int32 × JMem) (ρ := Int32 × JMem) N (fun ((z7, z8, z9, z10, M11) : Int32 × Int32 × Int32 × Int32 × JMem) => (if (M11 1 1) ≤ z10 then some (Sum.inr (z7, M11)) else (f_X1_nextOfPiece M11 54 z10).bind fun v14 => (((if v14 = ((-1)) then some ((z7, z8, z9, M11)) else (f_X1_earliest N M11 54 33 v14).bind fun (M20, v21) => (f_X7_rankBy N M20 x1 v14).bind fun v22 => (((jcase (α := Int32) (β := Unit) (if v21 < z8 then some (Sum.inr ()) else (jcase (α := (Int32) ⊕ (Unit)) (β := Unit) (if v21 = z8 then (if z9 ≤ v22 then some (Sum.inr ()) else some (Sum.inl (Sum.inr ()))) else some (Sum.inr ())) fun _ => some (Sum.inl (0)))) fun _ => some (1)) : Option (Int32)).bind fun u41 => (jcase (α := Int32 × Int32 × Int32 × JMem) (β := Unit) (if z7 = ((-1)) then some (Sum.inr ()) else (if u41 = 0 then some (Sum.inl ((z7, z8, z9, M20))) else some (Sum.inr ()))) fun _ => some ((v14, v21, v22, M20))))) : Option (Int32 × Int32 × Int32 × JMem)).bind fun (u50, u51, u52, M53) => some (Sum.inl (u50, u51, u52, z10 + 1, M53))))) ((-1), 0, 0, 0, M)).bind fun (t12, t13) => some (t13, t12))
set_option maxHeartbeats 4000000 in
theorem c_X7_pickBy {N : Nat} {M : JMem} {x1 : Int32} {Mz : JMem} {r : Int32} (hf : f_X7_pickBy N M x1 = some (Mz, r)) : jCo yX7_pickBy μ_X7_pickBy 4 M [.ref 0, .int x1] Mz (some (.int r)) := by
  refine jCt_of (by decide +kernel) rfl (by simp [Value.category]) (Nat.le_of_ble_eq_true rfl) ?_
  unfold f_X7_pickBy at hf
  show jGG μ_X7_pickBy 4 0 [some (.ref 0), some (.int x1), none, none, none, none, none, none, none, none] [] M (fun M' r' => M' = Mz ∧ r' = some (.int r))
  refine g_iconst (pc := 0) (-1) dX7_pickBy_0 rfl ?_
  refine g_istore_n (pc := 1) (lv' := [some (.ref 0), some (.int x1), some (.int ((-1))), none, none, none, none, none, none, none]) dX7_pickBy_1 rfl (by decide) rfl ?_
  refine g_iconst (pc := 2) 0 dX7_pickBy_2 rfl ?_
  refine g_istore_n (pc := 3) (lv' := [some (.ref 0), some (.int x1), some (.int ((-1))), some (.int 0), none, none, none, none, none, none]) dX7_pickBy_3 rfl (by decide) rfl ?_
  refine g_iconst (pc := 4) 0 dX7_pickBy_4 rfl ?_
  refine g_istore (pc := 5) (lv' := [some (.ref 0), some (.int x1), some (.int ((-1))), some (.int 0), some (.int 0), none, none, none, none, none]) dX7_pickBy_5 (by decide) rfl ?_
  refine g_iconst (pc := 7) 0 dX7_pickBy_7 rfl ?_
  refine g_istore (pc := 8) (lv' := [some (.ref 0), some (.int x1), some (.int ((-1))), some (.int 0), some (.int 0), some (.int 0), none, none, none, none]) dX7_pickBy_8 (by decide) rfl ?_
  obtain ⟨⟨t12, t13⟩, y2, hy1⟩ := job hf
  have K3 : jGG μ_X7_pickBy 4 123 [none, none, some (.int t12), none, none, none, none, none, none, none] [] t13 (fun M' r' => M' = Mz ∧ r' = some (.int r)) := by
    replace hf := hy1
    refine g_iload_n (pc := 123) dX7_pickBy_123 rfl rfl ?_
    obtain ⟨rfl, rfl⟩ := Prod.mk.inj (Option.some.inj hf)
    exact g_iret (pc := 124) dX7_pickBy_124 rfl ⟨rfl, rfl⟩
  refine g_weak (lv' := [some (.ref 0), some (.int x1), some (.int ((-1))), some (.int 0), some (.int 0), some (.int 0), none, none, none, none]) ⟨rfl, ⟨rfl, ⟨rfl, ⟨rfl, ⟨rfl, ⟨rfl, trivial⟩⟩⟩⟩⟩⟩ ?_
  refine jLp_ind (P := fun ((z7, z8, z9, z10, M11) : Int32 × Int32 × Int32 × Int32 × JMem) => jGG μ_X7_pickBy 4 10 [some (.ref 0), some (.int x1), some (.int z7), some (.int z8), some (.int z9), some (.int z10), none, none, none, none] [] M11 (fun M' r' => M' = Mz ∧ r' = some (.int r))) ?_ N _ y2
  rintro ⟨z7, z8, z9, z10, M11⟩ x_6 hf ih5 hx4
  show jGG μ_X7_pickBy 4 10 [some (.ref 0), some (.int x1), some (.int z7), some (.int z8), some (.int z9), some (.int z10), none, none, none, none] [] M11 (fun M' r' => M' = Mz ∧ r' = some (.int r))
  refine g_iload (pc := 10) dX7_pickBy_10 rfl ?_
  refine g_aload_n (pc := 12) dX7_pickBy_12 rfl rfl ?_
  refine g_getR (pc := 13) dX7_pickBy_13 fl_X7_10 sh_0 rfl ?_
  refine g_getI (pc := 16) dX7_pickBy_16 fl_X7_81 sh_1 rfl ?_
  refine g_icmp_ge (pc := 19) 123 dX7_pickBy_19 rfl (fun hc54 => ?_) (fun hc54 => ?_)
  · replace hf := jifp hc54 hf
    have hf := hx4 _ (Option.some.inj hf).symm
    obtain ⟨rfl, rfl⟩ := jp2 hf
    exact g_weakK K3 ⟨rfl, trivial⟩
  · replace hf := jifn hc54 hf
    refine g_aload_n (pc := 22) dX7_pickBy_22 rfl rfl ?_
    refine g_getR (pc := 23) dX7_pickBy_23 fl_X7_33 sh_0 rfl ?_
    refine g_aload_n (pc := 26) dX7_pickBy_26 rfl rfl ?_
    refine g_getR (pc := 27) dX7_pickBy_27 fl_X7_10 sh_0 rfl ?_
    refine g_iload (pc := 30) dX7_pickBy_30 rfl ?_
    obtain ⟨v14, ev14, hf⟩ := job hf
    refine g_callV (pc := 32) [.ref 1, .int z10] [] dX7_pickBy_32 ml_X7_314 ck_X1_nextOfPiece cv_X1_nextOfPiece sh_54 rfl (by decide) (Nat.le_of_ble_eq_true rfl) (c_X1_nextOfPiece isX1_54 ev14) ?_
    show jGG μ_X7_pickBy 4 35 [some (.ref 0), some (.int x1), some (.int z7), some (.int z8), some (.int z9), some (.int z10), none, none, none, none] [.int v14] M11 (fun M' r' => M' = Mz ∧ r' = some (.int r))
    refine g_istore (pc := 35) (lv' := [some (.ref 0), some (.int x1), some (.int z7), some (.int z8), some (.int z9), some (.int z10), some (.int v14), none, none, none]) dX7_pickBy_35 (by decide) rfl ?_
    refine g_iload (pc := 37) dX7_pickBy_37 rfl ?_
    refine g_iconst (pc := 39) (-1) dX7_pickBy_39 rfl ?_
    obtain ⟨⟨u50, u51, u52, M53⟩, hf, hy16⟩ := job hf
    have K18 : jGG μ_X7_pickBy 4 117 [some (.ref 0), some (.int x1), some (.int u50), some (.int u51), some (.int u52), some (.int z10), none, none, none, none] [] M53 (fun M' r' => M' = Mz ∧ r' = some (.int r)) := by
      replace hf := hy16
      refine g_iinc (pc := 117) (lv' := [some (.ref 0), some (.int x1), some (.int u50), some (.int u51), some (.int u52), some (.int (z10 + 1)), none, none, none, none]) (z10 + 1) dX7_pickBy_117 rfl rfl (by decide) rfl ?_
      refine g_goto (pc := 120) 10 dX7_pickBy_120 rfl ?_
      have hih : jGG μ_X7_pickBy 4 10 [some (.ref 0), some (.int x1), some (.int u50), some (.int u51), some (.int u52), some (.int (z10 + 1)), none, none, none, none] [] M53 (fun M' r' => M' = Mz ∧ r' = some (.int r)) := ih5 (u50, u51, u52, z10 + 1, M53) (Option.some.inj hf).symm
      exact g_weakK hih ⟨rfl, ⟨rfl, ⟨rfl, ⟨rfl, ⟨rfl, ⟨rfl, trivial⟩⟩⟩⟩⟩⟩
    refine g_icmp_eq (pc := 40) 117 dX7_pickBy_40 rfl (fun hc49 => ?_) (fun hc49 => ?_)
    · replace hf := jifp hc49 hf
      obtain ⟨rfl, rfl, rfl, rfl⟩ := jp4 (Option.some.inj hf)
      exact g_weakK (K18) ⟨rfl, ⟨rfl, ⟨rfl, ⟨rfl, ⟨rfl, ⟨rfl, trivial⟩⟩⟩⟩⟩⟩
    · replace hf := jifn hc49 hf
      refine g_aload_n (pc := 43) dX7_pickBy_43 rfl rfl ?_
      refine g_getR (pc := 44) dX7_pickBy_44 fl_X7_33 sh_0 rfl ?_
      refine g_aload_n (pc := 47) dX7_pickBy_47 rfl rfl ?_
      refine g_getR (pc := 48) dX7_pickBy_48 fl_X7_10 sh_0 rfl ?_
      refine g_aload_n (pc := 51) dX7_pickBy_51 rfl rfl ?_
      refine g_getR (pc := 52) dX7_pickBy_52 fl_X7_19 sh_0 rfl ?_
      refine g_iload (pc := 55) dX7_pickBy_55 rfl ?_
      obtain ⟨⟨M20, v21⟩, ev21, hf⟩ := job hf
      refine g_callV (pc := 57) [.ref 1, .ref 33, .int v14] [] dX7_pickBy_57 ml_X7_230 ck_X1_earliest cv_X1_earliest sh_54 rfl (by decide) (Nat.le_of_ble_eq_true rfl) (c_X1_earliest isX1_54 isX3_33 ev21) ?_
      show jGG μ_X7_pickBy 4 60 [some (.ref 0), some (.int x1), some (.int z7), some (.int z8), some (.int z9), some (.int z10), some (.int v14), none, none, none] [.int v21] M20 (fun M' r' => M' = Mz ∧ r' = some (.int r))
      refine g_istore (pc := 60) (lv' := [some (.ref 0), some (.int x1), some (.int z7), some (.int z8), some (.int z9), some (.int z10), some (.int v14), some (.int v21), none, none]) dX7_pickBy_60 (by decide) rfl ?_
      refine g_aload_n (pc := 62) dX7_pickBy_62 rfl rfl ?_
      refine g_iload_n (pc := 63) dX7_pickBy_63 rfl rfl ?_
      refine g_iload (pc := 64) dX7_pickBy_64 rfl ?_
      obtain ⟨v22, ev22, hf⟩ := job hf
      refine g_callV (pc := 66) [.int x1, .int v14] [] dX7_pickBy_66 ml_X7_317 ck_X7_rankBy cv_X7_rankBy sh_0 rfl (by decide) (Nat.le_of_ble_eq_true rfl) (c_X7_rankBy ev22) ?_
      show jGG μ_X7_pickBy 4 69 [some (.ref 0), some (.int x1), some (.int z7), some (.int z8), some (.int z9), some (.int z10), some (.int v14), some (.int v21), none, none] [.int v22] M20 (fun M' r' => M' = Mz ∧ r' = some (.int r))
      refine g_istore (pc := 69) (lv' := [some (.ref 0), some (.int x1), some (.int z7), some (.int z8), some (.int z9), some (.int z10), some (.int v14), some (.int v21), some (.int v22), none]) dX7_pickBy_69 (by decide) rfl ?_
      refine g_iload (pc := 71) dX7_pickBy_71 rfl ?_
      refine g_iload_n (pc := 73) dX7_pickBy_73 rfl rfl ?_
      obtain ⟨u41, hf, hy24⟩ := job hf
      have K26 : (hbu41 : u41 = 0 ∨ u41 = 1) → jGG μ_X7_pickBy 4 95 [some (.ref 0), some (.int x1), some (.int z7), some (.int z8), some (.int z9), some (.int z10), some (.int v14), some (.int v21), some (.int v22), none] [.int u41] M20 (fun M' r' => M' = Mz ∧ r' = some (.int r)) := by
        intro hbu41
        replace hf := hy24
        refine g_istore (pc := 95) (lv' := [some (.ref 0), some (.int x1), some (.int z7), some (.int z8), some (.int z9), some (.int z10), some (.int v14), some (.int v21), some (.int v22), some (.int u41)]) dX7_pickBy_95 (by decide) rfl ?_
        refine g_iload_n (pc := 97) dX7_pickBy_97 rfl rfl ?_
        refine g_iconst (pc := 98) (-1) dX7_pickBy_98 rfl ?_
        obtain ⟨y44, hf, hy43⟩ := jcb hf
        have K45 : y44 = Sum.inr () → jGG μ_X7_pickBy 4 107 [some (.ref 0), some (.int x1), none, none, none, some (.int z10), some (.int v14), some (.int v21), some (.int v22), none] [] M20 (fun M' r' => M' = Mz ∧ r' = some (.int r)) := by
          intro hyy
          subst hyy
          replace hf := hy43
          refine g_iload (pc := 107) dX7_pickBy_107 rfl ?_
          refine g_istore_n (pc := 109) (lv' := [some (.ref 0), some (.int x1), some (.int v14), none, none, some (.int z10), some (.int v14), some (.int v21), some (.int v22), none]) dX7_pickBy_109 rfl (by decide) rfl ?_
          refine g_iload (pc := 110) dX7_pickBy_110 rfl ?_
          refine g_istore_n (pc := 112) (lv' := [some (.ref 0), some (.int x1), some (.int v14), some (.int v21), none, some (.int z10), some (.int v14), some (.int v21), some (.int v22), none]) dX7_pickBy_112 rfl (by decide) rfl ?_
          refine g_iload (pc := 113) dX7_pickBy_113 rfl ?_
          refine g_istore (pc := 115) (lv' := [some (.ref 0), some (.int x1), some (.int v14), some (.int v21), some (.int v22), some (.int z10), some (.int v14), some (.int v21), some (.int v22), none]) dX7_pickBy_115 (by decide) rfl ?_
          obtain ⟨rfl, rfl, rfl, rfl⟩ := jp4 (Option.some.inj hf)
          exact g_weakK (K18) ⟨rfl, ⟨rfl, ⟨rfl, ⟨rfl, ⟨rfl, ⟨rfl, trivial⟩⟩⟩⟩⟩⟩
        refine g_icmp_eq (pc := 99) 107 dX7_pickBy_99 rfl (fun hc48 => ?_) (fun hc48 => ?_)
        · replace hf := jifp hc48 hf
          exact g_weakK (K45 (Option.some.inj hf).symm) ⟨rfl, ⟨rfl, ⟨rfl, ⟨rfl, ⟨rfl, ⟨rfl, trivial⟩⟩⟩⟩⟩⟩
        · replace hf := jifn hc48 hf
          refine g_iload (pc := 102) dX7_pickBy_102 rfl ?_
          refine g_if_eq (pc := 104) 117 dX7_pickBy_104 rfl (fun hc47 => ?_) (fun hc47 => ?_)
          · replace hf := jifp hc47 hf
            obtain rfl := Option.some.inj hf
            replace hf := hy43
            obtain ⟨rfl, rfl, rfl, rfl⟩ := jp4 (Option.some.inj hf)
            exact g_weakK (K18) ⟨rfl, ⟨rfl, ⟨rfl, ⟨rfl, ⟨rfl, ⟨rfl, trivial⟩⟩⟩⟩⟩⟩
          · replace hf := jifn hc47 hf
            exact g_weakK (K45 (Option.some.inj hf).symm) ⟨rfl, ⟨rfl, ⟨rfl, ⟨rfl, ⟨rfl, ⟨rfl, trivial⟩⟩⟩⟩⟩⟩
      obtain ⟨y30, hf, hy29⟩ := jcb hf
      have K31 : y30 = Sum.inr () → jGG μ_X7_pickBy 4 90 [some (.ref 0), some (.int x1), some (.int z7), some (.int z8), some (.int z9), some (.int z10), some (.int v14), some (.int v21), some (.int v22), none] [] M20 (fun M' r' => M' = Mz ∧ r' = some (.int r)) := by
        intro hyy
        subst hyy
        replace hf := hy29
        refine g_iconst (pc := 90) 1 dX7_pickBy_90 rfl ?_
        refine g_goto (pc := 91) 95 dX7_pickBy_91 rfl ?_
        obtain rfl := Option.some.inj hf
        exact g_weakK (K26 (Or.inr rfl)) ⟨rfl, ⟨rfl, ⟨rfl, ⟨rfl, ⟨rfl, ⟨rfl, ⟨rfl, ⟨rfl, ⟨rfl, trivial⟩⟩⟩⟩⟩⟩⟩⟩⟩
      refine g_icmp_lt (pc := 74) 90 dX7_pickBy_74 rfl (fun hc40 => ?_) (fun hc40 => ?_)
      · replace hf := jifp hc40 hf
        exact g_weakK (K31 (Option.some.inj hf).symm) ⟨rfl, ⟨rfl, ⟨rfl, ⟨rfl, ⟨rfl, ⟨rfl, ⟨rfl, ⟨rfl, ⟨rfl, trivial⟩⟩⟩⟩⟩⟩⟩⟩⟩
      · replace hf := jifn hc40 hf
        refine g_iload (pc := 77) dX7_pickBy_77 rfl ?_
        refine g_iload_n (pc := 79) dX7_pickBy_79 rfl rfl ?_
        obtain ⟨y35, hf, hy34⟩ := jcb hf
        have K36 : y35 = Sum.inr () → jGG μ_X7_pickBy 4 94 [some (.ref 0), some (.int x1), some (.int z7), some (.int z8), some (.int z9), some (.int z10), some (.int v14), some (.int v21), some (.int v22), none] [] M20 (fun M' r' => M' = Mz ∧ r' = some (.int r)) := by
          intro hyy
          subst hyy
          replace hf := hy34
          refine g_iconst (pc := 94) 0 dX7_pickBy_94 rfl ?_
          obtain rfl := Option.some.inj hf
          replace hf := hy29
          obtain rfl := Option.some.inj hf
          exact g_weakK (K26 (Or.inl rfl)) ⟨rfl, ⟨rfl, ⟨rfl, ⟨rfl, ⟨rfl, ⟨rfl, ⟨rfl, ⟨rfl, ⟨rfl, trivial⟩⟩⟩⟩⟩⟩⟩⟩⟩
        refine g_icmp_ne (pc := 80) 94 dX7_pickBy_80 rfl (fun hc39 => ?_) (fun hc39 => ?_)
        · replace hf := jifn hc39 hf
          exact g_weakK (K36 (Option.some.inj hf).symm) ⟨rfl, ⟨rfl, ⟨rfl, ⟨rfl, ⟨rfl, ⟨rfl, ⟨rfl, ⟨rfl, ⟨rfl, trivial⟩⟩⟩⟩⟩⟩⟩⟩⟩
        · replace hf := jifp hc39 hf
          refine g_iload (pc := 83) dX7_pickBy_83 rfl ?_
          refine g_iload (pc := 85) dX7_pickBy_85 rfl ?_
          refine g_icmp_ge (pc := 87) 94 dX7_pickBy_87 rfl (fun hc38 => ?_) (fun hc38 => ?_)
          · replace hf := jifp hc38 hf
            exact g_weakK (K36 (Option.some.inj hf).symm) ⟨rfl, ⟨rfl, ⟨rfl, ⟨rfl, ⟨rfl, ⟨rfl, ⟨rfl, ⟨rfl, ⟨rfl, trivial⟩⟩⟩⟩⟩⟩⟩⟩⟩
          · replace hf := jifn hc38 hf
            obtain rfl := Option.some.inj hf
            replace hf := hy34
            exact g_weakK (K31 (Option.some.inj hf).symm) ⟨rfl, ⟨rfl, ⟨rfl, ⟨rfl, ⟨rfl, ⟨rfl, ⟨rfl, ⟨rfl, ⟨rfl, trivial⟩⟩⟩⟩⟩⟩⟩⟩⟩
def f_X7_rule (N : Nat) (M : JMem) (x1 : Int32) : Option (JMem × Int32) := (f_X7_isOut M x1 0 2).bind fun v1 => (if v1 = 0 then (f_X3_clear M 33).bind fun M2 => (f_X1_clear M2 54).bind fun M3 => ((jLp (σ := Int32 × JMem) (ρ := JMem) N (fun ((z10, M11) : Int32 × JMem) => (if (M11 1 2) ≤ z10 then some (Sum.inr M11) else (f_X7_pickBy N M11 x1).bind fun (M13, v14) => (((if v14 = ((-1)) then some (M13) else (f_X1_earliest N M13 54 33 v14).bind fun (M20, v21) => (jrd M20 20 32 v14).bind fun v22 => (f_X3_append M20 33 v22 v14).bind fun M23 => (f_X1_set M23 54 33 v14 v21).bind fun M24 => some (M24)) : Option (JMem)).bind fun M26 => some (Sum.inl (z10 + 1, M26))))) (0, M3)).bind fun t12 => some (t12, t12 54 4)) else some (M, (-100002)))
set_option maxHeartbeats 4000000 in
theorem c_X7_rule {N : Nat} {M : JMem} {x1 : Int32} {Mz : JMem} {r : Int32} (hf : f_X7_rule N M x1 = some (Mz, r)) : jCo yX7_rule μ_X7_rule 5 M [.ref 0, .int x1] Mz (some (.int r)) := by
  refine jCt_of (by decide +kernel) rfl (by simp [Value.category]) (Nat.le_of_ble_eq_true rfl) ?_
  unfold f_X7_rule at hf
  show jGG μ_X7_rule 5 0 [some (.ref 0), some (.int x1), none, none, none] [] M (fun M' r' => M' = Mz ∧ r' = some (.int r))
  refine g_iload_n (pc := 0) dX7_rule_0 rfl rfl ?_
  refine g_iconst (pc := 1) 0 dX7_rule_1 rfl ?_
  refine g_iconst (pc := 2) 2 dX7_rule_2 rfl ?_
  obtain ⟨v1, ev1, hf⟩ := job hf
  refine g_callS (pc := 3) [.int x1, .int 0, .int 2] [] dX7_rule_3 ml_X7_68 ck_X7_isOut cs_X7_isOut rfl (by decide) (Nat.le_of_ble_eq_true rfl) (c_X7_isOut ev1) ?_
  show jGG μ_X7_rule 5 6 [some (.ref 0), some (.int x1), none, none, none] [.int v1] M (fun M' r' => M' = Mz ∧ r' = some (.int r))
  refine g_if_eq (pc := 6) 12 dX7_rule_6 rfl (fun hc28 => ?_) (fun hc28 => ?_)
  · replace hf := jifp hc28 hf
    refine g_aload_n (pc := 12) dX7_rule_12 rfl rfl ?_
    refine g_getR (pc := 13) dX7_rule_13 fl_X7_19 sh_0 rfl ?_
    obtain ⟨M2, eM2, hf⟩ := job hf
    refine g_callV (pc := 16) [] [] dX7_rule_16 ml_X7_223 ck_X3_clear cv_X3_clear sh_33 rfl (by decide) (Nat.le_of_ble_eq_true rfl) (c_X3_clear isX3_33 eM2) ?_
    show jGG μ_X7_rule 5 19 [some (.ref 0), some (.int x1), none, none, none] [] M2 (fun M' r' => M' = Mz ∧ r' = some (.int r))
    refine g_aload_n (pc := 19) dX7_rule_19 rfl rfl ?_
    refine g_getR (pc := 20) dX7_rule_20 fl_X7_33 sh_0 rfl ?_
    obtain ⟨M3, eM3, hf⟩ := job hf
    refine g_callV (pc := 23) [] [] dX7_rule_23 ml_X7_226 ck_X1_clear cv_X1_clear sh_54 rfl (by decide) (Nat.le_of_ble_eq_true rfl) (c_X1_clear isX1_54 eM3) ?_
    show jGG μ_X7_rule 5 26 [some (.ref 0), some (.int x1), none, none, none] [] M3 (fun M' r' => M' = Mz ∧ r' = some (.int r))
    refine g_iconst (pc := 26) 0 dX7_rule_26 rfl ?_
    refine g_istore_n (pc := 27) (lv' := [some (.ref 0), some (.int x1), some (.int 0), none, none]) dX7_rule_27 rfl (by decide) rfl ?_
    obtain ⟨t12, y5, hy4⟩ := job hf
    have K6 : jGG μ_X7_rule 5 109 [some (.ref 0), none, none, none, none] [] t12 (fun M' r' => M' = Mz ∧ r' = some (.int r)) := by
      replace hf := hy4
      refine g_aload_n (pc := 109) dX7_rule_109 rfl rfl ?_
      refine g_getR (pc := 110) dX7_rule_110 fl_X7_33 sh_0 rfl ?_
      refine g_getI (pc := 113) dX7_rule_113 fl_X7_200 sh_54 rfl ?_
      obtain ⟨rfl, rfl⟩ := Prod.mk.inj (Option.some.inj hf)
      exact g_iret (pc := 116) dX7_rule_116 rfl ⟨rfl, rfl⟩
    refine g_weak (lv' := [some (.ref 0), some (.int x1), some (.int 0), none, none]) ⟨rfl, ⟨rfl, ⟨rfl, trivial⟩⟩⟩ ?_
    refine jLp_ind (P := fun ((z10, M11) : Int32 × JMem) => jGG μ_X7_rule 5 28 [some (.ref 0), some (.int x1), some (.int z10), none, none] [] M11 (fun M' r' => M' = Mz ∧ r' = some (.int r))) ?_ N _ y5
    rintro ⟨z10, M11⟩ x_9 hf ih8 hx7
    show jGG μ_X7_rule 5 28 [some (.ref 0), some (.int x1), some (.int z10), none, none] [] M11 (fun M' r' => M' = Mz ∧ r' = some (.int r))
    refine g_iload_n (pc := 28) dX7_rule_28 rfl rfl ?_
    refine g_aload_n (pc := 29) dX7_rule_29 rfl rfl ?_
    refine g_getR (pc := 30) dX7_rule_30 fl_X7_10 sh_0 rfl ?_
    refine g_getI (pc := 33) dX7_rule_33 fl_X7_97 sh_1 rfl ?_
    refine g_icmp_ge (pc := 36) 109 dX7_rule_36 rfl (fun hc27 => ?_) (fun hc27 => ?_)
    · replace hf := jifp hc27 hf
      have hf := hx7 _ (Option.some.inj hf).symm
      obtain rfl := hf
      exact g_weakK K6 ⟨rfl, trivial⟩
    · replace hf := jifn hc27 hf
      refine g_aload_n (pc := 39) dX7_rule_39 rfl rfl ?_
      refine g_iload_n (pc := 40) dX7_rule_40 rfl rfl ?_
      obtain ⟨⟨M13, v14⟩, ev14, hf⟩ := job hf
      refine g_callV (pc := 41) [.int x1] [] dX7_rule_41 ml_X7_227 ck_X7_pickBy cv_X7_pickBy sh_0 rfl (by decide) (Nat.le_of_ble_eq_true rfl) (c_X7_pickBy ev14) ?_
      show jGG μ_X7_rule 5 44 [some (.ref 0), some (.int x1), some (.int z10), none, none] [.int v14] M13 (fun M' r' => M' = Mz ∧ r' = some (.int r))
      refine g_istore_n (pc := 44) (lv' := [some (.ref 0), some (.int x1), some (.int z10), some (.int v14), none]) dX7_rule_44 rfl (by decide) rfl ?_
      refine g_iload_n (pc := 45) dX7_rule_45 rfl rfl ?_
      refine g_iconst (pc := 46) (-1) dX7_rule_46 rfl ?_
      obtain ⟨M26, hf, hy16⟩ := job hf
      have K18 : jGG μ_X7_rule 5 103 [some (.ref 0), some (.int x1), some (.int z10), none, none] [] M26 (fun M' r' => M' = Mz ∧ r' = some (.int r)) := by
        replace hf := hy16
        refine g_iinc (pc := 103) (lv' := [some (.ref 0), some (.int x1), some (.int (z10 + 1)), none, none]) (z10 + 1) dX7_rule_103 rfl rfl (by decide) rfl ?_
        refine g_goto (pc := 106) 28 dX7_rule_106 rfl ?_
        have hih : jGG μ_X7_rule 5 28 [some (.ref 0), some (.int x1), some (.int (z10 + 1)), none, none] [] M26 (fun M' r' => M' = Mz ∧ r' = some (.int r)) := ih8 (z10 + 1, M26) (Option.some.inj hf).symm
        exact g_weakK hih ⟨rfl, ⟨rfl, ⟨rfl, trivial⟩⟩⟩
      refine g_icmp_eq (pc := 47) 103 dX7_rule_47 rfl (fun hc25 => ?_) (fun hc25 => ?_)
      · replace hf := jifp hc25 hf
        obtain rfl := Option.some.inj hf
        exact g_weakK (K18) ⟨rfl, ⟨rfl, ⟨rfl, trivial⟩⟩⟩
      · replace hf := jifn hc25 hf
        refine g_aload_n (pc := 50) dX7_rule_50 rfl rfl ?_
        refine g_getR (pc := 51) dX7_rule_51 fl_X7_33 sh_0 rfl ?_
        refine g_aload_n (pc := 54) dX7_rule_54 rfl rfl ?_
        refine g_getR (pc := 55) dX7_rule_55 fl_X7_10 sh_0 rfl ?_
        refine g_aload_n (pc := 58) dX7_rule_58 rfl rfl ?_
        refine g_getR (pc := 59) dX7_rule_59 fl_X7_19 sh_0 rfl ?_
        refine g_iload_n (pc := 62) dX7_rule_62 rfl rfl ?_
        obtain ⟨⟨M20, v21⟩, ev21, hf⟩ := job hf
        refine g_callV (pc := 63) [.ref 1, .ref 33, .int v14] [] dX7_rule_63 ml_X7_230 ck_X1_earliest cv_X1_earliest sh_54 rfl (by decide) (Nat.le_of_ble_eq_true rfl) (c_X1_earliest isX1_54 isX3_33 ev21) ?_
        show jGG μ_X7_rule 5 66 [some (.ref 0), some (.int x1), some (.int z10), some (.int v14), none] [.int v21] M20 (fun M' r' => M' = Mz ∧ r' = some (.int r))
        refine g_istore (pc := 66) (lv' := [some (.ref 0), some (.int x1), some (.int z10), some (.int v14), some (.int v21)]) dX7_rule_66 (by decide) rfl ?_
        refine g_aload_n (pc := 68) dX7_rule_68 rfl rfl ?_
        refine g_getR (pc := 69) dX7_rule_69 fl_X7_19 sh_0 rfl ?_
        refine g_aload_n (pc := 72) dX7_rule_72 rfl rfl ?_
        refine g_getR (pc := 73) dX7_rule_73 fl_X7_10 sh_0 rfl ?_
        refine g_getR (pc := 76) dX7_rule_76 fl_X7_110 sh_1 rfl ?_
        refine g_iload_n (pc := 79) dX7_rule_79 rfl rfl ?_
        obtain ⟨v22, ev22, hf⟩ := job hf
        refine g_iald (pc := 80) dX7_rule_80 sh_20 ev22 ?_
        refine g_iload_n (pc := 81) dX7_rule_81 rfl rfl ?_
        obtain ⟨M23, eM23, hf⟩ := job hf
        refine g_callV (pc := 82) [.int v22, .int v14] [] dX7_rule_82 ml_X7_234 ck_X3_append cv_X3_append sh_33 rfl (by decide) (Nat.le_of_ble_eq_true rfl) (c_X3_append isX3_33 eM23) ?_
        show jGG μ_X7_rule 5 85 [some (.ref 0), some (.int x1), some (.int z10), some (.int v14), some (.int v21)] [] M23 (fun M' r' => M' = Mz ∧ r' = some (.int r))
        refine g_aload_n (pc := 85) dX7_rule_85 rfl rfl ?_
        refine g_getR (pc := 86) dX7_rule_86 fl_X7_33 sh_0 rfl ?_
        refine g_aload_n (pc := 89) dX7_rule_89 rfl rfl ?_
        refine g_getR (pc := 90) dX7_rule_90 fl_X7_10 sh_0 rfl ?_
        refine g_aload_n (pc := 93) dX7_rule_93 rfl rfl ?_
        refine g_getR (pc := 94) dX7_rule_94 fl_X7_19 sh_0 rfl ?_
        refine g_iload_n (pc := 97) dX7_rule_97 rfl rfl ?_
        refine g_iload (pc := 98) dX7_rule_98 rfl ?_
        obtain ⟨M24, eM24, hf⟩ := job hf
        refine g_callV (pc := 100) [.ref 1, .ref 33, .int v14, .int v21] [] dX7_rule_100 ml_X7_237 ck_X1_set cv_X1_set sh_54 rfl (by decide) (Nat.le_of_ble_eq_true rfl) (c_X1_set isX1_54 isX3_33 eM24) ?_
        show jGG μ_X7_rule 5 103 [some (.ref 0), some (.int x1), some (.int z10), some (.int v14), some (.int v21)] [] M24 (fun M' r' => M' = Mz ∧ r' = some (.int r))
        obtain rfl := Option.some.inj hf
        exact g_weakK (K18) ⟨rfl, ⟨rfl, ⟨rfl, trivial⟩⟩⟩
  · replace hf := jifn hc28 hf
    refine g_ldc (pc := 9) (-100002) dX7_rule_9 lc_X7_72 ?_
    obtain ⟨rfl, rfl⟩ := Prod.mk.inj (Option.some.inj hf)
    exact g_iret (pc := 11) dX7_rule_11 rfl ⟨rfl, rfl⟩
def f_X7_isTight (M : JMem) (x1 : Int32) (x2 : Int32) : Option (Int32) := (jrd M 2 8 x1).bind fun v1 => (if v1 = 0 then (jrw 34 8 x1).bind fun w2 => (jrd M w2 32 x2).bind fun v3 => (jrw 34 8 x1).bind fun w4 => (jrd M w4 32 (x2 + 1)).bind fun v5 => (f_X1_slack M 54 v3).bind fun v6 => (if v6 = 0 then (f_X1_slack M 54 v5).bind fun v7 => (if v7 = 0 then (f_X1_endOf M 54 v3).bind fun v8 => (jrd M 55 32 v5).bind fun v9 => (if v8 = v9 then some 1 else some 0) else some 0) else some 0) else some 0)
set_option maxHeartbeats 4000000 in
theorem c_X7_isTight {M : JMem} {x1 : Int32} {x2 : Int32} {r : Int32} (hf : f_X7_isTight M x1 x2 = some r) : jCo yX7_isTight μ_X7_isTight 3 M [.ref 0, .int x1, .int x2] M (some (.int r)) := by
  refine jCt_of (by decide +kernel) rfl (by simp [Value.category]) (Nat.le_of_ble_eq_true rfl) ?_
  unfold f_X7_isTight at hf
  show jGG μ_X7_isTight 3 0 [some (.ref 0), some (.int x1), some (.int x2), none, none] [] M (fun M' r' => M' = M ∧ r' = some (.int r))
  refine g_aload_n (pc := 0) dX7_isTight_0 rfl rfl ?_
  refine g_getR (pc := 1) dX7_isTight_1 fl_X7_10 sh_0 rfl ?_
  refine g_getR (pc := 4) dX7_isTight_4 fl_X7_186 sh_1 rfl ?_
  refine g_iload_n (pc := 7) dX7_isTight_7 rfl rfl ?_
  obtain ⟨v1, ev1, hf⟩ := job hf
  refine g_iald (pc := 8) dX7_isTight_8 sh_2 ev1 ?_
  refine g_if_eq (pc := 9) 14 dX7_isTight_9 rfl (fun hc13 => ?_) (fun hc13 => ?_)
  · replace hf := jifp hc13 hf
    refine g_aload_n (pc := 14) dX7_isTight_14 rfl rfl ?_
    refine g_getR (pc := 15) dX7_isTight_15 fl_X7_19 sh_0 rfl ?_
    refine g_getR (pc := 18) dX7_isTight_18 fl_X7_329 sh_33 rfl ?_
    refine g_iload_n (pc := 21) dX7_isTight_21 rfl rfl ?_
    obtain ⟨w2, ew2, hf⟩ := job hf
    refine g_aald (pc := 22) dX7_isTight_22 sh_34 ew2 ?_
    refine g_iload_n (pc := 23) dX7_isTight_23 rfl rfl ?_
    obtain ⟨v3, ev3, hf⟩ := job hf
    refine g_iald (pc := 24) dX7_isTight_24 (jrw_sh gr_34 ew2) ev3 ?_
    refine g_istore_n (pc := 25) (lv' := [some (.ref 0), some (.int x1), some (.int x2), some (.int v3), none]) dX7_isTight_25 rfl (by decide) rfl ?_
    refine g_aload_n (pc := 26) dX7_isTight_26 rfl rfl ?_
    refine g_getR (pc := 27) dX7_isTight_27 fl_X7_19 sh_0 rfl ?_
    refine g_getR (pc := 30) dX7_isTight_30 fl_X7_329 sh_33 rfl ?_
    refine g_iload_n (pc := 33) dX7_isTight_33 rfl rfl ?_
    obtain ⟨w4, ew4, hf⟩ := job hf
    refine g_aald (pc := 34) dX7_isTight_34 sh_34 ew4 ?_
    refine g_iload_n (pc := 35) dX7_isTight_35 rfl rfl ?_
    refine g_iconst (pc := 36) 1 dX7_isTight_36 rfl ?_
    refine g_iadd (pc := 37) dX7_isTight_37 ?_
    obtain ⟨v5, ev5, hf⟩ := job hf
    refine g_iald (pc := 38) dX7_isTight_38 (jrw_sh gr_34 ew4) ev5 ?_
    refine g_istore (pc := 39) (lv' := [some (.ref 0), some (.int x1), some (.int x2), some (.int v3), some (.int v5)]) dX7_isTight_39 (by decide) rfl ?_
    refine g_aload_n (pc := 41) dX7_isTight_41 rfl rfl ?_
    refine g_getR (pc := 42) dX7_isTight_42 fl_X7_33 sh_0 rfl ?_
    refine g_aload_n (pc := 45) dX7_isTight_45 rfl rfl ?_
    refine g_getR (pc := 46) dX7_isTight_46 fl_X7_10 sh_0 rfl ?_
    refine g_iload_n (pc := 49) dX7_isTight_49 rfl rfl ?_
    obtain ⟨v6, ev6, hf⟩ := job hf
    refine g_callV (pc := 50) [.ref 1, .int v3] [] dX7_isTight_50 ml_X7_212 ck_X1_slack cv_X1_slack sh_54 rfl (by decide) (Nat.le_of_ble_eq_true rfl) (c_X1_slack isX1_54 ev6) ?_
    show jGG μ_X7_isTight 3 53 [some (.ref 0), some (.int x1), some (.int x2), some (.int v3), some (.int v5)] [.int v6] M (fun M' r' => M' = M ∧ r' = some (.int r))
    refine g_if_ne (pc := 53) 101 dX7_isTight_53 rfl (fun hc12 => ?_) (fun hc12 => ?_)
    · replace hf := jifn hc12 hf
      refine g_iconst (pc := 101) 0 dX7_isTight_101 rfl ?_
      obtain rfl := Option.some.inj hf
      exact g_zret (pc := 102) dX7_isTight_102 rfl (Or.inl rfl) ⟨rfl, rfl⟩
    · replace hf := jifp hc12 hf
      refine g_aload_n (pc := 56) dX7_isTight_56 rfl rfl ?_
      refine g_getR (pc := 57) dX7_isTight_57 fl_X7_33 sh_0 rfl ?_
      refine g_aload_n (pc := 60) dX7_isTight_60 rfl rfl ?_
      refine g_getR (pc := 61) dX7_isTight_61 fl_X7_10 sh_0 rfl ?_
      refine g_iload (pc := 64) dX7_isTight_64 rfl ?_
      obtain ⟨v7, ev7, hf⟩ := job hf
      refine g_callV (pc := 66) [.ref 1, .int v5] [] dX7_isTight_66 ml_X7_212 ck_X1_slack cv_X1_slack sh_54 rfl (by decide) (Nat.le_of_ble_eq_true rfl) (c_X1_slack isX1_54 ev7) ?_
      show jGG μ_X7_isTight 3 69 [some (.ref 0), some (.int x1), some (.int x2), some (.int v3), some (.int v5)] [.int v7] M (fun M' r' => M' = M ∧ r' = some (.int r))
      refine g_if_ne (pc := 69) 101 dX7_isTight_69 rfl (fun hc11 => ?_) (fun hc11 => ?_)
      · replace hf := jifn hc11 hf
        refine g_iconst (pc := 101) 0 dX7_isTight_101 rfl ?_
        obtain rfl := Option.some.inj hf
        exact g_zret (pc := 102) dX7_isTight_102 rfl (Or.inl rfl) ⟨rfl, rfl⟩
      · replace hf := jifp hc11 hf
        refine g_aload_n (pc := 72) dX7_isTight_72 rfl rfl ?_
        refine g_getR (pc := 73) dX7_isTight_73 fl_X7_33 sh_0 rfl ?_
        refine g_aload_n (pc := 76) dX7_isTight_76 rfl rfl ?_
        refine g_getR (pc := 77) dX7_isTight_77 fl_X7_10 sh_0 rfl ?_
        refine g_iload_n (pc := 80) dX7_isTight_80 rfl rfl ?_
        obtain ⟨v8, ev8, hf⟩ := job hf
        refine g_callV (pc := 81) [.ref 1, .int v3] [] dX7_isTight_81 ml_X7_332 ck_X1_endOf cv_X1_endOf sh_54 rfl (by decide) (Nat.le_of_ble_eq_true rfl) (c_X1_endOf isX1_54 ev8) ?_
        show jGG μ_X7_isTight 3 84 [some (.ref 0), some (.int x1), some (.int x2), some (.int v3), some (.int v5)] [.int v8] M (fun M' r' => M' = M ∧ r' = some (.int r))
        refine g_aload_n (pc := 84) dX7_isTight_84 rfl rfl ?_
        refine g_getR (pc := 85) dX7_isTight_85 fl_X7_33 sh_0 rfl ?_
        refine g_getR (pc := 88) dX7_isTight_88 fl_X7_203 sh_54 rfl ?_
        refine g_iload (pc := 91) dX7_isTight_91 rfl ?_
        obtain ⟨v9, ev9, hf⟩ := job hf
        refine g_iald (pc := 93) dX7_isTight_93 sh_55 ev9 ?_
        refine g_icmp_ne (pc := 94) 101 dX7_isTight_94 rfl (fun hc10 => ?_) (fun hc10 => ?_)
        · replace hf := jifn hc10 hf
          refine g_iconst (pc := 101) 0 dX7_isTight_101 rfl ?_
          obtain rfl := Option.some.inj hf
          exact g_zret (pc := 102) dX7_isTight_102 rfl (Or.inl rfl) ⟨rfl, rfl⟩
        · replace hf := jifp hc10 hf
          refine g_iconst (pc := 97) 1 dX7_isTight_97 rfl ?_
          refine g_goto (pc := 98) 102 dX7_isTight_98 rfl ?_
          obtain rfl := Option.some.inj hf
          exact g_zret (pc := 102) dX7_isTight_102 rfl (Or.inr rfl) ⟨rfl, rfl⟩
  · replace hf := jifn hc13 hf
    refine g_iconst (pc := 12) 0 dX7_isTight_12 rfl ?_
    obtain rfl := Option.some.inj hf
    exact g_zret (pc := 13) dX7_isTight_13 rfl (Or.inl rfl) ⟨rfl, rfl⟩
def f_X7_endBySwap (N : Nat) (M : JMem) (x1 : Int32) (x2 : Int32) : Option (JMem × Int32) := (f_X3_exchange M 33 x1 x2).bind fun M1 => (f_X1_work N M1 64 33).bind fun (M2, v3) => (((if v3 = 0 then some (((-1))) else some ((M2 64 4))) : Option (Int32)).bind fun u10 => (f_X3_exchange M2 33 x1 x2).bind fun M11 => some (M11, u10))
set_option maxHeartbeats 4000000 in
theorem c_X7_endBySwap {N : Nat} {M : JMem} {x1 : Int32} {x2 : Int32} {Mz : JMem} {r : Int32} (hf : f_X7_endBySwap N M x1 x2 = some (Mz, r)) : jCo yX7_endBySwap μ_X7_endBySwap 5 M [.ref 0, .int x1, .int x2] Mz (some (.int r)) := by
  refine jCt_of (by decide +kernel) rfl (by simp [Value.category]) (Nat.le_of_ble_eq_true rfl) ?_
  unfold f_X7_endBySwap at hf
  show jGG μ_X7_endBySwap 5 0 [some (.ref 0), some (.int x1), some (.int x2), none] [] M (fun M' r' => M' = Mz ∧ r' = some (.int r))
  refine g_aload_n (pc := 0) dX7_endBySwap_0 rfl rfl ?_
  refine g_getR (pc := 1) dX7_endBySwap_1 fl_X7_19 sh_0 rfl ?_
  refine g_iload_n (pc := 4) dX7_endBySwap_4 rfl rfl ?_
  refine g_iload_n (pc := 5) dX7_endBySwap_5 rfl rfl ?_
  obtain ⟨M1, eM1, hf⟩ := job hf
  refine g_callV (pc := 6) [.int x1, .int x2] [] dX7_endBySwap_6 ml_X7_193 ck_X3_exchange cv_X3_exchange sh_33 rfl (by decide) (Nat.le_of_ble_eq_true rfl) (c_X3_exchange isX3_33 eM1) ?_
  show jGG μ_X7_endBySwap 5 9 [some (.ref 0), some (.int x1), some (.int x2), none] [] M1 (fun M' r' => M' = Mz ∧ r' = some (.int r))
  refine g_aload_n (pc := 9) dX7_endBySwap_9 rfl rfl ?_
  refine g_getR (pc := 10) dX7_endBySwap_10 fl_X7_37 sh_0 rfl ?_
  refine g_aload_n (pc := 13) dX7_endBySwap_13 rfl rfl ?_
  refine g_getR (pc := 14) dX7_endBySwap_14 fl_X7_10 sh_0 rfl ?_
  refine g_aload_n (pc := 17) dX7_endBySwap_17 rfl rfl ?_
  refine g_getR (pc := 18) dX7_endBySwap_18 fl_X7_19 sh_0 rfl ?_
  obtain ⟨⟨M2, v3⟩, ev3, hf⟩ := job hf
  refine g_callV (pc := 21) [.ref 1, .ref 33] [] dX7_endBySwap_21 ml_X7_189 ck_X1_work cv_X1_work sh_64 rfl (by decide) (Nat.le_of_ble_eq_true rfl) (c_X1_work isX1_64 isX3_33 ev3) ?_
  show jGG μ_X7_endBySwap 5 24 [some (.ref 0), some (.int x1), some (.int x2), none] [.int v3] M2 (fun M' r' => M' = Mz ∧ r' = some (.int r))
  obtain ⟨u10, hf, hy5⟩ := job hf
  have K7 : jGG μ_X7_endBySwap 5 38 [some (.ref 0), some (.int x1), some (.int x2), none] [.int u10] M2 (fun M' r' => M' = Mz ∧ r' = some (.int r)) := by
    replace hf := hy5
    refine g_istore_n (pc := 38) (lv' := [some (.ref 0), some (.int x1), some (.int x2), some (.int u10)]) dX7_endBySwap_38 rfl (by decide) rfl ?_
    refine g_aload_n (pc := 39) dX7_endBySwap_39 rfl rfl ?_
    refine g_getR (pc := 40) dX7_endBySwap_40 fl_X7_19 sh_0 rfl ?_
    refine g_iload_n (pc := 43) dX7_endBySwap_43 rfl rfl ?_
    refine g_iload_n (pc := 44) dX7_endBySwap_44 rfl rfl ?_
    obtain ⟨M11, eM11, hf⟩ := job hf
    refine g_callV (pc := 45) [.int x1, .int x2] [] dX7_endBySwap_45 ml_X7_193 ck_X3_exchange cv_X3_exchange sh_33 rfl (by decide) (Nat.le_of_ble_eq_true rfl) (c_X3_exchange isX3_33 eM11) ?_
    show jGG μ_X7_endBySwap 5 48 [some (.ref 0), some (.int x1), some (.int x2), some (.int u10)] [] M11 (fun M' r' => M' = Mz ∧ r' = some (.int r))
    refine g_iload_n (pc := 48) dX7_endBySwap_48 rfl rfl ?_
    obtain ⟨rfl, rfl⟩ := Prod.mk.inj (Option.some.inj hf)
    exact g_iret (pc := 49) dX7_endBySwap_49 rfl ⟨rfl, rfl⟩
  refine g_if_eq (pc := 24) 37 dX7_endBySwap_24 rfl (fun hc9 => ?_) (fun hc9 => ?_)
  · replace hf := jifp hc9 hf
    refine g_iconst (pc := 37) (-1) dX7_endBySwap_37 rfl ?_
    obtain rfl := Option.some.inj hf
    exact g_weakK (K7) ⟨rfl, ⟨rfl, ⟨rfl, trivial⟩⟩⟩
  · replace hf := jifn hc9 hf
    refine g_aload_n (pc := 27) dX7_endBySwap_27 rfl rfl ?_
    refine g_getR (pc := 28) dX7_endBySwap_28 fl_X7_37 sh_0 rfl ?_
    refine g_getI (pc := 31) dX7_endBySwap_31 fl_X7_200 sh_64 rfl ?_
    refine g_goto (pc := 34) 38 dX7_endBySwap_34 rfl ?_
    obtain rfl := Option.some.inj hf
    exact g_weakK (K7) ⟨rfl, ⟨rfl, ⟨rfl, trivial⟩⟩⟩
def f_X7_shorten (N : Nat) (M : JMem) : Option (JMem × Int32) := (f_X7_hasTails N M).bind fun (M1, v2) => (if v2 = 0 then some (M1, 0) else ((jLp (σ := Int32 × Int32 × Int32 × Int32 × JMem) (ρ := Int32 × Int32 × JMem) N (fun ((z9, z10, z11, z12, M13) : Int32 × Int32 × Int32 × Int32 × JMem) => (if (M13 1 0) ≤ z12 then some (Sum.inr (z10, z11, M13)) else ((jLp (σ := Int32 × Int32 × Int32 × Int32 × JMem) (ρ := Int32 × Int32 × Int32 × JMem) N (fun ((z23, z24, z25, z26, M27) : Int32 × Int32 × Int32 × Int32 × JMem) => (jrd M27 43 8 z12).bind fun v32 => (if v32 ≤ (z26 + 1) then some (Sum.inr (z23, z24, z25, M27)) else (f_X7_isTight M27 z12 z26).bind fun v33 => (((if v33 = 0 then some ((z23, z24, z25, M27)) else (f_X7_endBySwap N M27 z12 z26).bind fun (M39, v40) => (if v40 = ((-1)) then some ((z23, z24, z25, M39)) else (if z23 ≤ v40 then some ((z23, z24, z25, M39)) else some ((v40, z12, z26, M39))))) : Option (Int32 × Int32 × Int32 × JMem)).bind fun (u44, u45, u46, M47) => some (Sum.inl (u44, u45, u46, z26 + 1, M47))))) (z9, z10, z11, 0, M13)).bind fun (t28, t29, t30, t31) => some (Sum.inl (t28, t29, t30, z12 + 1, t31))))) (M1 54 4, (-1), (-1), 0, M1)).bind fun (t14, t15, t16) => (if t14 = ((-1)) then some (t16, 0) else (f_X3_exchange t16 33 t14 t15).bind fun M50 => some (M50, 1))))
set_option maxHeartbeats 4000000 in
theorem c_X7_shorten {N : Nat} {M : JMem} {Mz : JMem} {r : Int32} (hf : f_X7_shorten N M = some (Mz, r)) : jCo yX7_shorten μ_X7_shorten 6 M [.ref 0] Mz (some (.int r)) := by
  refine jCt_of (by decide +kernel) rfl (by simp [Value.category]) (Nat.le_of_ble_eq_true rfl) ?_
  unfold f_X7_shorten at hf
  show jGG μ_X7_shorten 6 0 [some (.ref 0), none, none, none, none, none, none] [] M (fun M' r' => M' = Mz ∧ r' = some (.int r))
  refine g_aload_n (pc := 0) dX7_shorten_0 rfl rfl ?_
  obtain ⟨⟨M1, v2⟩, ev2, hf⟩ := job hf
  refine g_callV (pc := 1) [] [] dX7_shorten_1 ml_X7_206 ck_X7_hasTails cv_X7_hasTails sh_0 rfl (by decide) (Nat.le_of_ble_eq_true rfl) (c_X7_hasTails ev2) ?_
  show jGG μ_X7_shorten 6 4 [some (.ref 0), none, none, none, none, none, none] [.int v2] M1 (fun M' r' => M' = Mz ∧ r' = some (.int r))
  refine g_if_ne (pc := 4) 9 dX7_shorten_4 rfl (fun hc52 => ?_) (fun hc52 => ?_)
  · replace hf := jifn hc52 hf
    refine g_aload_n (pc := 9) dX7_shorten_9 rfl rfl ?_
    refine g_getR (pc := 10) dX7_shorten_10 fl_X7_33 sh_0 rfl ?_
    refine g_getI (pc := 13) dX7_shorten_13 fl_X7_200 sh_54 rfl ?_
    refine g_istore_n (pc := 16) (lv' := [some (.ref 0), some (.int (M1 54 4)), none, none, none, none, none]) dX7_shorten_16 rfl (by decide) rfl ?_
    refine g_iconst (pc := 17) (-1) dX7_shorten_17 rfl ?_
    refine g_istore_n (pc := 18) (lv' := [some (.ref 0), some (.int (M1 54 4)), some (.int ((-1))), none, none, none, none]) dX7_shorten_18 rfl (by decide) rfl ?_
    refine g_iconst (pc := 19) (-1) dX7_shorten_19 rfl ?_
    refine g_istore_n (pc := 20) (lv' := [some (.ref 0), some (.int (M1 54 4)), some (.int ((-1))), some (.int ((-1))), none, none, none]) dX7_shorten_20 rfl (by decide) rfl ?_
    refine g_iconst (pc := 21) 0 dX7_shorten_21 rfl ?_
    refine g_istore (pc := 22) (lv' := [some (.ref 0), some (.int (M1 54 4)), some (.int ((-1))), some (.int ((-1))), some (.int 0), none, none]) dX7_shorten_22 (by decide) rfl ?_
    obtain ⟨⟨t14, t15, t16⟩, y4, hy3⟩ := job hf
    have K5 : jGG μ_X7_shorten 6 110 [some (.ref 0), none, some (.int t14), some (.int t15), none, none, none] [] t16 (fun M' r' => M' = Mz ∧ r' = some (.int r)) := by
      replace hf := hy3
      refine g_iload_n (pc := 110) dX7_shorten_110 rfl rfl ?_
      refine g_iconst (pc := 111) (-1) dX7_shorten_111 rfl ?_
      refine g_icmp_ne (pc := 112) 117 dX7_shorten_112 rfl (fun hc51 => ?_) (fun hc51 => ?_)
      · replace hf := jifn hc51 hf
        refine g_aload_n (pc := 117) dX7_shorten_117 rfl rfl ?_
        refine g_getR (pc := 118) dX7_shorten_118 fl_X7_19 sh_0 rfl ?_
        refine g_iload_n (pc := 121) dX7_shorten_121 rfl rfl ?_
        refine g_iload_n (pc := 122) dX7_shorten_122 rfl rfl ?_
        obtain ⟨M50, eM50, hf⟩ := job hf
        refine g_callV (pc := 123) [.int t14, .int t15] [] dX7_shorten_123 ml_X7_193 ck_X3_exchange cv_X3_exchange sh_33 rfl (by decide) (Nat.le_of_ble_eq_true rfl) (c_X3_exchange isX3_33 eM50) ?_
        show jGG μ_X7_shorten 6 126 [some (.ref 0), none, some (.int t14), some (.int t15), none, none, none] [] M50 (fun M' r' => M' = Mz ∧ r' = some (.int r))
        refine g_iconst (pc := 126) 1 dX7_shorten_126 rfl ?_
        obtain ⟨rfl, rfl⟩ := Prod.mk.inj (Option.some.inj hf)
        exact g_zret (pc := 127) dX7_shorten_127 rfl (Or.inr rfl) ⟨rfl, rfl⟩
      · replace hf := jifp hc51 hf
        refine g_iconst (pc := 115) 0 dX7_shorten_115 rfl ?_
        obtain ⟨rfl, rfl⟩ := Prod.mk.inj (Option.some.inj hf)
        exact g_zret (pc := 116) dX7_shorten_116 rfl (Or.inl rfl) ⟨rfl, rfl⟩
    refine g_weak (lv' := [some (.ref 0), some (.int (M1 54 4)), some (.int ((-1))), some (.int ((-1))), some (.int 0), none, none]) ⟨rfl, ⟨rfl, ⟨rfl, ⟨rfl, ⟨rfl, trivial⟩⟩⟩⟩⟩ ?_
    refine jLp_ind (P := fun ((z9, z10, z11, z12, M13) : Int32 × Int32 × Int32 × Int32 × JMem) => jGG μ_X7_shorten 6 24 [some (.ref 0), some (.int z9), some (.int z10), some (.int z11), some (.int z12), none, none] [] M13 (fun M' r' => M' = Mz ∧ r' = some (.int r))) ?_ N _ y4
    rintro ⟨z9, z10, z11, z12, M13⟩ x_8 hf ih7 hx6
    show jGG μ_X7_shorten 6 24 [some (.ref 0), some (.int z9), some (.int z10), some (.int z11), some (.int z12), none, none] [] M13 (fun M' r' => M' = Mz ∧ r' = some (.int r))
    refine g_iload (pc := 24) dX7_shorten_24 rfl ?_
    refine g_aload_n (pc := 26) dX7_shorten_26 rfl rfl ?_
    refine g_getR (pc := 27) dX7_shorten_27 fl_X7_10 sh_0 rfl ?_
    refine g_getI (pc := 30) dX7_shorten_30 fl_X7_73 sh_1 rfl ?_
    refine g_icmp_ge (pc := 33) 110 dX7_shorten_33 rfl (fun hc49 => ?_) (fun hc49 => ?_)
    · replace hf := jifp hc49 hf
      have hf := hx6 _ (Option.some.inj hf).symm
      obtain ⟨rfl, rfl, rfl⟩ := jp3 hf
      exact g_weakK K5 ⟨rfl, ⟨rfl, ⟨rfl, trivial⟩⟩⟩
    · replace hf := jifn hc49 hf
      refine g_iconst (pc := 36) 0 dX7_shorten_36 rfl ?_
      refine g_istore (pc := 37) (lv' := [some (.ref 0), some (.int z9), some (.int z10), some (.int z11), some (.int z12), some (.int 0), none]) dX7_shorten_37 (by decide) rfl ?_
      obtain ⟨⟨t28, t29, t30, t31⟩, y18, hy17⟩ := job hf
      have K19 : jGG μ_X7_shorten 6 104 [some (.ref 0), some (.int t28), some (.int t29), some (.int t30), some (.int z12), none, none] [] t31 (fun M' r' => M' = Mz ∧ r' = some (.int r)) := by
        replace hf := hy17
        refine g_iinc (pc := 104) (lv' := [some (.ref 0), some (.int t28), some (.int t29), some (.int t30), some (.int (z12 + 1)), none, none]) (z12 + 1) dX7_shorten_104 rfl rfl (by decide) rfl ?_
        refine g_goto (pc := 107) 24 dX7_shorten_107 rfl ?_
        have hih : jGG μ_X7_shorten 6 24 [some (.ref 0), some (.int t28), some (.int t29), some (.int t30), some (.int (z12 + 1)), none, none] [] t31 (fun M' r' => M' = Mz ∧ r' = some (.int r)) := ih7 (t28, t29, t30, z12 + 1, t31) (Option.some.inj hf).symm
        exact g_weakK hih ⟨rfl, ⟨rfl, ⟨rfl, ⟨rfl, ⟨rfl, trivial⟩⟩⟩⟩⟩
      refine g_weak (lv' := [some (.ref 0), some (.int z9), some (.int z10), some (.int z11), some (.int z12), some (.int 0), none]) ⟨rfl, ⟨rfl, ⟨rfl, ⟨rfl, ⟨rfl, ⟨rfl, trivial⟩⟩⟩⟩⟩⟩ ?_
      refine jLp_ind (P := fun ((z23, z24, z25, z26, M27) : Int32 × Int32 × Int32 × Int32 × JMem) => jGG μ_X7_shorten 6 39 [some (.ref 0), some (.int z23), some (.int z24), some (.int z25), some (.int z12), some (.int z26), none] [] M27 (fun M' r' => M' = Mz ∧ r' = some (.int r))) ?_ N _ y18
      rintro ⟨z23, z24, z25, z26, M27⟩ x_22 hf ih21 hx20
      show jGG μ_X7_shorten 6 39 [some (.ref 0), some (.int z23), some (.int z24), some (.int z25), some (.int z12), some (.int z26), none] [] M27 (fun M' r' => M' = Mz ∧ r' = some (.int r))
      refine g_iload (pc := 39) dX7_shorten_39 rfl ?_
      refine g_iconst (pc := 41) 1 dX7_shorten_41 rfl ?_
      refine g_iadd (pc := 42) dX7_shorten_42 ?_
      refine g_aload_n (pc := 43) dX7_shorten_43 rfl rfl ?_
      refine g_getR (pc := 44) dX7_shorten_44 fl_X7_19 sh_0 rfl ?_
      refine g_getR (pc := 47) dX7_shorten_47 fl_X7_185 sh_33 rfl ?_
      refine g_iload (pc := 50) dX7_shorten_50 rfl ?_
      obtain ⟨v32, ev32, hf⟩ := job hf
      refine g_iald (pc := 52) dX7_shorten_52 sh_43 ev32 ?_
      refine g_icmp_ge (pc := 53) 104 dX7_shorten_53 rfl (fun hc48 => ?_) (fun hc48 => ?_)
      · replace hf := jifp hc48 hf
        have hf := hx20 _ (Option.some.inj hf).symm
        obtain ⟨rfl, rfl, rfl, rfl⟩ := jp4 hf
        exact g_weakK K19 ⟨rfl, ⟨rfl, ⟨rfl, ⟨rfl, ⟨rfl, trivial⟩⟩⟩⟩⟩
      · replace hf := jifn hc48 hf
        refine g_aload_n (pc := 56) dX7_shorten_56 rfl rfl ?_
        refine g_iload (pc := 57) dX7_shorten_57 rfl ?_
        refine g_iload (pc := 59) dX7_shorten_59 rfl ?_
        obtain ⟨v33, ev33, hf⟩ := job hf
        refine g_callV (pc := 61) [.int z12, .int z26] [] dX7_shorten_61 ml_X7_323 ck_X7_isTight cv_X7_isTight sh_0 rfl (by decide) (Nat.le_of_ble_eq_true rfl) (c_X7_isTight ev33) ?_
        show jGG μ_X7_shorten 6 64 [some (.ref 0), some (.int z23), some (.int z24), some (.int z25), some (.int z12), some (.int z26), none] [.int v33] M27 (fun M' r' => M' = Mz ∧ r' = some (.int r))
        obtain ⟨⟨u44, u45, u46, M47⟩, hf, hy35⟩ := job hf
        have K37 : jGG μ_X7_shorten 6 98 [some (.ref 0), some (.int u44), some (.int u45), some (.int u46), some (.int z12), some (.int z26), none] [] M47 (fun M' r' => M' = Mz ∧ r' = some (.int r)) := by
          replace hf := hy35
          refine g_iinc (pc := 98) (lv' := [some (.ref 0), some (.int u44), some (.int u45), some (.int u46), some (.int z12), some (.int (z26 + 1)), none]) (z26 + 1) dX7_shorten_98 rfl rfl (by decide) rfl ?_
          refine g_goto (pc := 101) 39 dX7_shorten_101 rfl ?_
          have hih : jGG μ_X7_shorten 6 39 [some (.ref 0), some (.int u44), some (.int u45), some (.int u46), some (.int z12), some (.int (z26 + 1)), none] [] M47 (fun M' r' => M' = Mz ∧ r' = some (.int r)) := ih21 (u44, u45, u46, z26 + 1, M47) (Option.some.inj hf).symm
          exact g_weakK hih ⟨rfl, ⟨rfl, ⟨rfl, ⟨rfl, ⟨rfl, ⟨rfl, trivial⟩⟩⟩⟩⟩⟩
        refine g_if_eq (pc := 64) 98 dX7_shorten_64 rfl (fun hc43 => ?_) (fun hc43 => ?_)
        · replace hf := jifp hc43 hf
          obtain ⟨rfl, rfl, rfl, rfl⟩ := jp4 (Option.some.inj hf)
          exact g_weakK (K37) ⟨rfl, ⟨rfl, ⟨rfl, ⟨rfl, ⟨rfl, ⟨rfl, trivial⟩⟩⟩⟩⟩⟩
        · replace hf := jifn hc43 hf
          refine g_aload_n (pc := 67) dX7_shorten_67 rfl rfl ?_
          refine g_iload (pc := 68) dX7_shorten_68 rfl ?_
          refine g_iload (pc := 70) dX7_shorten_70 rfl ?_
          obtain ⟨⟨M39, v40⟩, ev40, hf⟩ := job hf
          refine g_callV (pc := 72) [.int z12, .int z26] [] dX7_shorten_72 ml_X7_326 ck_X7_endBySwap cv_X7_endBySwap sh_0 rfl (by decide) (Nat.le_of_ble_eq_true rfl) (c_X7_endBySwap ev40) ?_
          show jGG μ_X7_shorten 6 75 [some (.ref 0), some (.int z23), some (.int z24), some (.int z25), some (.int z12), some (.int z26), none] [.int v40] M39 (fun M' r' => M' = Mz ∧ r' = some (.int r))
          refine g_istore (pc := 75) (lv' := [some (.ref 0), some (.int z23), some (.int z24), some (.int z25), some (.int z12), some (.int z26), some (.int v40)]) dX7_shorten_75 (by decide) rfl ?_
          refine g_iload (pc := 77) dX7_shorten_77 rfl ?_
          refine g_iconst (pc := 79) (-1) dX7_shorten_79 rfl ?_
          refine g_icmp_eq (pc := 80) 98 dX7_shorten_80 rfl (fun hc42 => ?_) (fun hc42 => ?_)
          · replace hf := jifp hc42 hf
            obtain ⟨rfl, rfl, rfl, rfl⟩ := jp4 (Option.some.inj hf)
            exact g_weakK (K37) ⟨rfl, ⟨rfl, ⟨rfl, ⟨rfl, ⟨rfl, ⟨rfl, trivial⟩⟩⟩⟩⟩⟩
          · replace hf := jifn hc42 hf
            refine g_iload (pc := 83) dX7_shorten_83 rfl ?_
            refine g_iload_n (pc := 85) dX7_shorten_85 rfl rfl ?_
            refine g_icmp_ge (pc := 86) 98 dX7_shorten_86 rfl (fun hc41 => ?_) (fun hc41 => ?_)
            · replace hf := jifp hc41 hf
              obtain ⟨rfl, rfl, rfl, rfl⟩ := jp4 (Option.some.inj hf)
              exact g_weakK (K37) ⟨rfl, ⟨rfl, ⟨rfl, ⟨rfl, ⟨rfl, ⟨rfl, trivial⟩⟩⟩⟩⟩⟩
            · replace hf := jifn hc41 hf
              refine g_iload (pc := 89) dX7_shorten_89 rfl ?_
              refine g_istore_n (pc := 91) (lv' := [some (.ref 0), some (.int v40), some (.int z24), some (.int z25), some (.int z12), some (.int z26), some (.int v40)]) dX7_shorten_91 rfl (by decide) rfl ?_
              refine g_iload (pc := 92) dX7_shorten_92 rfl ?_
              refine g_istore_n (pc := 94) (lv' := [some (.ref 0), some (.int v40), some (.int z12), some (.int z25), some (.int z12), some (.int z26), some (.int v40)]) dX7_shorten_94 rfl (by decide) rfl ?_
              refine g_iload (pc := 95) dX7_shorten_95 rfl ?_
              refine g_istore_n (pc := 97) (lv' := [some (.ref 0), some (.int v40), some (.int z12), some (.int z26), some (.int z12), some (.int z26), some (.int v40)]) dX7_shorten_97 rfl (by decide) rfl ?_
              obtain ⟨rfl, rfl, rfl, rfl⟩ := jp4 (Option.some.inj hf)
              exact g_weakK (K37) ⟨rfl, ⟨rfl, ⟨rfl, ⟨rfl, ⟨rfl, ⟨rfl, trivial⟩⟩⟩⟩⟩⟩
  · replace hf := jifp hc52 hf
    refine g_iconst (pc := 7) 0 dX7_shorten_7 rfl ?_
    obtain ⟨rfl, rfl⟩ := Prod.mk.inj (Option.some.inj hf)
    exact g_zret (pc := 8) dX7_shorten_8 rfl (Or.inl rfl) ⟨rfl, rfl⟩
def f_X7_better (N : Nat) (M : JMem) (x1 : Int32) : Option (JMem × Int32) := (f_X7_isOut M x1 0 50).bind fun v1 => (if v1 = 0 then (f_X7_hasTails N M).bind fun (M2, v3) => (if v3 = 0 then some (M2, (-100003)) else ((jLp (σ := Int32 × JMem) (ρ := Int32 × JMem) N (fun ((z10, M11) : Int32 × JMem) => (if x1 ≤ z10 then some (Sum.inr (z10, M11)) else (f_X7_shorten N M11).bind fun (M14, v15) => (if v15 = 0 then some (Sum.inr (z10, M14)) else some (Sum.inl (z10 + 1, M14))))) (0, M2)).bind fun (t12, t13) => some (t13, t12))) else some (M, (-100002)))
set_option maxHeartbeats 4000000 in
theorem c_X7_better {N : Nat} {M : JMem} {x1 : Int32} {Mz : JMem} {r : Int32} (hf : f_X7_better N M x1 = some (Mz, r)) : jCo yX7_better μ_X7_better 7 M [.ref 0, .int x1] Mz (some (.int r)) := by
  refine jCt_of (by decide +kernel) rfl (by simp [Value.category]) (Nat.le_of_ble_eq_true rfl) ?_
  unfold f_X7_better at hf
  show jGG μ_X7_better 7 0 [some (.ref 0), some (.int x1), none] [] M (fun M' r' => M' = Mz ∧ r' = some (.int r))
  refine g_iload_n (pc := 0) dX7_better_0 rfl rfl ?_
  refine g_iconst (pc := 1) 0 dX7_better_1 rfl ?_
  refine g_bipush (pc := 2) 50 dX7_better_2 rfl ?_
  obtain ⟨v1, ev1, hf⟩ := job hf
  refine g_callS (pc := 4) [.int x1, .int 0, .int 50] [] dX7_better_4 ml_X7_68 ck_X7_isOut cs_X7_isOut rfl (by decide) (Nat.le_of_ble_eq_true rfl) (c_X7_isOut ev1) ?_
  show jGG μ_X7_better 7 7 [some (.ref 0), some (.int x1), none] [.int v1] M (fun M' r' => M' = Mz ∧ r' = some (.int r))
  refine g_if_eq (pc := 7) 13 dX7_better_7 rfl (fun hc19 => ?_) (fun hc19 => ?_)
  · replace hf := jifp hc19 hf
    refine g_aload_n (pc := 13) dX7_better_13 rfl rfl ?_
    obtain ⟨⟨M2, v3⟩, ev3, hf⟩ := job hf
    refine g_callV (pc := 14) [] [] dX7_better_14 ml_X7_206 ck_X7_hasTails cv_X7_hasTails sh_0 rfl (by decide) (Nat.le_of_ble_eq_true rfl) (c_X7_hasTails ev3) ?_
    show jGG μ_X7_better 7 17 [some (.ref 0), some (.int x1), none] [.int v3] M2 (fun M' r' => M' = Mz ∧ r' = some (.int r))
    refine g_if_ne (pc := 17) 23 dX7_better_17 rfl (fun hc18 => ?_) (fun hc18 => ?_)
    · replace hf := jifn hc18 hf
      refine g_iconst (pc := 23) 0 dX7_better_23 rfl ?_
      refine g_istore_n (pc := 24) (lv' := [some (.ref 0), some (.int x1), some (.int 0)]) dX7_better_24 rfl (by decide) rfl ?_
      obtain ⟨⟨t12, t13⟩, y5, hy4⟩ := job hf
      have K6 : jGG μ_X7_better 7 43 [none, none, some (.int t12)] [] t13 (fun M' r' => M' = Mz ∧ r' = some (.int r)) := by
        replace hf := hy4
        refine g_iload_n (pc := 43) dX7_better_43 rfl rfl ?_
        obtain ⟨rfl, rfl⟩ := Prod.mk.inj (Option.some.inj hf)
        exact g_iret (pc := 44) dX7_better_44 rfl ⟨rfl, rfl⟩
      refine g_weak (lv' := [some (.ref 0), some (.int x1), some (.int 0)]) ⟨rfl, ⟨rfl, ⟨rfl, trivial⟩⟩⟩ ?_
      refine jLp_ind (P := fun ((z10, M11) : Int32 × JMem) => jGG μ_X7_better 7 25 [some (.ref 0), some (.int x1), some (.int z10)] [] M11 (fun M' r' => M' = Mz ∧ r' = some (.int r))) ?_ N _ y5
      rintro ⟨z10, M11⟩ x_9 hf ih8 hx7
      show jGG μ_X7_better 7 25 [some (.ref 0), some (.int x1), some (.int z10)] [] M11 (fun M' r' => M' = Mz ∧ r' = some (.int r))
      refine g_iload_n (pc := 25) dX7_better_25 rfl rfl ?_
      refine g_iload_n (pc := 26) dX7_better_26 rfl rfl ?_
      refine g_icmp_ge (pc := 27) 43 dX7_better_27 rfl (fun hc17 => ?_) (fun hc17 => ?_)
      · replace hf := jifp hc17 hf
        have hf := hx7 _ (Option.some.inj hf).symm
        obtain ⟨rfl, rfl⟩ := jp2 hf
        exact g_weakK K6 ⟨rfl, trivial⟩
      · replace hf := jifn hc17 hf
        refine g_aload_n (pc := 30) dX7_better_30 rfl rfl ?_
        obtain ⟨⟨M14, v15⟩, ev15, hf⟩ := job hf
        refine g_callV (pc := 31) [] [] dX7_better_31 ml_X7_241 ck_X7_shorten cv_X7_shorten sh_0 rfl (by decide) (Nat.le_of_ble_eq_true rfl) (c_X7_shorten ev15) ?_
        show jGG μ_X7_better 7 34 [some (.ref 0), some (.int x1), some (.int z10)] [.int v15] M14 (fun M' r' => M' = Mz ∧ r' = some (.int r))
        refine g_if_eq (pc := 34) 43 dX7_better_34 rfl (fun hc16 => ?_) (fun hc16 => ?_)
        · replace hf := jifp hc16 hf
          have hf := hx7 _ (Option.some.inj hf).symm
          obtain ⟨rfl, rfl⟩ := jp2 hf
          exact g_weakK K6 ⟨rfl, trivial⟩
        · replace hf := jifn hc16 hf
          refine g_iinc (pc := 37) (lv' := [some (.ref 0), some (.int x1), some (.int (z10 + 1))]) (z10 + 1) dX7_better_37 rfl rfl (by decide) rfl ?_
          refine g_goto (pc := 40) 25 dX7_better_40 rfl ?_
          have hih : jGG μ_X7_better 7 25 [some (.ref 0), some (.int x1), some (.int (z10 + 1))] [] M14 (fun M' r' => M' = Mz ∧ r' = some (.int r)) := ih8 (z10 + 1, M14) (Option.some.inj hf).symm
          exact g_weakK hih ⟨rfl, ⟨rfl, ⟨rfl, trivial⟩⟩⟩
    · replace hf := jifp hc18 hf
      refine g_ldc (pc := 20) (-100003) dX7_better_20 lc_X7_180 ?_
      obtain ⟨rfl, rfl⟩ := Prod.mk.inj (Option.some.inj hf)
      exact g_iret (pc := 22) dX7_better_22 rfl ⟨rfl, rfl⟩
  · replace hf := jifn hc19 hf
    refine g_ldc (pc := 10) (-100002) dX7_better_10 lc_X7_72 ?_
    obtain ⟨rfl, rfl⟩ := Prod.mk.inj (Option.some.inj hf)
    exact g_iret (pc := 12) dX7_better_12 rfl ⟨rfl, rfl⟩
def f_X7_windows (N : Nat) (M : JMem) (x1 : Int32) : Option (JMem × Int32) := (f_X7_isOut M x1 0 100000).bind fun v1 => (if v1 = 0 then (f_X2_isSimple N M).bind fun v2 => (if v2 = 0 then some (M, (-100003)) else (some (jfill M 77 32 0)).bind fun M3 => (f_X6_narrow N M3 74 x1).bind fun (M4, v5) => (if v5 = 0 then some (M4, 0) else some (M4, 1))) else some (M, (-100002)))
set_option maxHeartbeats 4000000 in
theorem c_X7_windows {N : Nat} {M : JMem} {x1 : Int32} {Mz : JMem} {r : Int32} (hf : f_X7_windows N M x1 = some (Mz, r)) : jCo yX7_windows μ_X7_windows 6 M [.ref 0, .int x1] Mz (some (.int r)) := by
  refine jCt_of (by decide +kernel) rfl (by simp [Value.category]) (Nat.le_of_ble_eq_true rfl) ?_
  unfold f_X7_windows at hf
  show jGG μ_X7_windows 6 0 [some (.ref 0), some (.int x1)] [] M (fun M' r' => M' = Mz ∧ r' = some (.int r))
  refine g_iload_n (pc := 0) dX7_windows_0 rfl rfl ?_
  refine g_iconst (pc := 1) 0 dX7_windows_1 rfl ?_
  refine g_ldc (pc := 2) 100000 dX7_windows_2 lc_X7_244 ?_
  obtain ⟨v1, ev1, hf⟩ := job hf
  refine g_callS (pc := 4) [.int x1, .int 0, .int 100000] [] dX7_windows_4 ml_X7_68 ck_X7_isOut cs_X7_isOut rfl (by decide) (Nat.le_of_ble_eq_true rfl) (c_X7_isOut ev1) ?_
  show jGG μ_X7_windows 6 7 [some (.ref 0), some (.int x1)] [.int v1] M (fun M' r' => M' = Mz ∧ r' = some (.int r))
  refine g_if_eq (pc := 7) 13 dX7_windows_7 rfl (fun hc8 => ?_) (fun hc8 => ?_)
  · replace hf := jifp hc8 hf
    refine g_aload_n (pc := 13) dX7_windows_13 rfl rfl ?_
    refine g_getR (pc := 14) dX7_windows_14 fl_X7_10 sh_0 rfl ?_
    obtain ⟨v2, ev2, hf⟩ := job hf
    refine g_callV (pc := 17) [] [] dX7_windows_17 ml_X7_122 ck_X2_isSimple cv_X2_isSimple sh_1 rfl (by decide) (Nat.le_of_ble_eq_true rfl) (c_X2_isSimple ev2) ?_
    show jGG μ_X7_windows 6 20 [some (.ref 0), some (.int x1)] [.int v2] M (fun M' r' => M' = Mz ∧ r' = some (.int r))
    refine g_if_ne (pc := 20) 26 dX7_windows_20 rfl (fun hc7 => ?_) (fun hc7 => ?_)
    · replace hf := jifn hc7 hf
      refine g_aload_n (pc := 26) dX7_windows_26 rfl rfl ?_
      refine g_getR (pc := 27) dX7_windows_27 fl_X7_43 sh_0 rfl ?_
      refine g_getR (pc := 30) dX7_windows_30 fl_X7_245 sh_74 rfl ?_
      refine g_iconst (pc := 33) 0 dX7_windows_33 rfl ?_
      obtain ⟨M3, eM3, hf⟩ := job hf
      refine g_callS (pc := 34) [.ref 77, .int 0] [] dX7_windows_34 ml_X7_248 ck_J7_fill_53178 cs_J7_fill_53178 rfl (by decide) (Nat.le_of_ble_eq_true rfl) (c_fill sh_77 (by decide)) ?_
      rw [Option.some.inj eM3]
      show jGG μ_X7_windows 6 37 [some (.ref 0), some (.int x1)] [] M3 (fun M' r' => M' = Mz ∧ r' = some (.int r))
      refine g_aload_n (pc := 37) dX7_windows_37 rfl rfl ?_
      refine g_getR (pc := 38) dX7_windows_38 fl_X7_43 sh_0 rfl ?_
      refine g_aload_n (pc := 41) dX7_windows_41 rfl rfl ?_
      refine g_getR (pc := 42) dX7_windows_42 fl_X7_10 sh_0 rfl ?_
      refine g_iload_n (pc := 45) dX7_windows_45 rfl rfl ?_
      obtain ⟨⟨M4, v5⟩, ev5, hf⟩ := job hf
      refine g_callV (pc := 46) [.ref 1, .int x1] [] dX7_windows_46 ml_X7_254 ck_X6_narrow cv_X6_narrow sh_74 rfl (by decide) (Nat.le_of_ble_eq_true rfl) (c_X6_narrow isX6_74 ev5) ?_
      show jGG μ_X7_windows 6 49 [some (.ref 0), some (.int x1)] [.int v5] M4 (fun M' r' => M' = Mz ∧ r' = some (.int r))
      refine g_if_eq (pc := 49) 56 dX7_windows_49 rfl (fun hc6 => ?_) (fun hc6 => ?_)
      · replace hf := jifp hc6 hf
        refine g_iconst (pc := 56) 0 dX7_windows_56 rfl ?_
        obtain ⟨rfl, rfl⟩ := Prod.mk.inj (Option.some.inj hf)
        exact g_iret (pc := 57) dX7_windows_57 rfl ⟨rfl, rfl⟩
      · replace hf := jifn hc6 hf
        refine g_iconst (pc := 52) 1 dX7_windows_52 rfl ?_
        refine g_goto (pc := 53) 57 dX7_windows_53 rfl ?_
        obtain ⟨rfl, rfl⟩ := Prod.mk.inj (Option.some.inj hf)
        exact g_iret (pc := 57) dX7_windows_57 rfl ⟨rfl, rfl⟩
    · replace hf := jifp hc7 hf
      refine g_ldc (pc := 23) (-100003) dX7_windows_23 lc_X7_180 ?_
      obtain ⟨rfl, rfl⟩ := Prod.mk.inj (Option.some.inj hf)
      exact g_iret (pc := 25) dX7_windows_25 rfl ⟨rfl, rfl⟩
  · replace hf := jifn hc8 hf
    refine g_ldc (pc := 10) (-100002) dX7_windows_10 lc_X7_72 ?_
    obtain ⟨rfl, rfl⟩ := Prod.mk.inj (Option.some.inj hf)
    exact g_iret (pc := 12) dX7_windows_12 rfl ⟨rfl, rfl⟩
def f_X7_window (M : JMem) (x1 : Int32) (x2 : Int32) : Option (Int32) := (f_X7_isStep M x1).bind fun v1 => (if v1 = 0 then some (-100001) else (f_X7_isOut M x2 0 2).bind fun v2 => (if v2 = 0 then (if x1 < (M 74 3) then (if x2 = 0 then (jrd M 75 32 x1).bind fun v6 => some v6 else (if x2 = 1 then (jrd M 76 32 x1).bind fun v4 => some v4 else (jrd M 77 32 x1).bind fun v3 => some (jbits v3))) else some (-1)) else some (-100002)))
set_option maxHeartbeats 4000000 in
theorem c_X7_window {M : JMem} {x1 : Int32} {x2 : Int32} {r : Int32} (hf : f_X7_window M x1 x2 = some r) : jCo yX7_window μ_X7_window 3 M [.ref 0, .int x1, .int x2] M (some (.int r)) := by
  refine jCt_of (by decide +kernel) rfl (by simp [Value.category]) (Nat.le_of_ble_eq_true rfl) ?_
  unfold f_X7_window at hf
  show jGG μ_X7_window 3 0 [some (.ref 0), some (.int x1), some (.int x2)] [] M (fun M' r' => M' = M ∧ r' = some (.int r))
  refine g_aload_n (pc := 0) dX7_window_0 rfl rfl ?_
  refine g_iload_n (pc := 1) dX7_window_1 rfl rfl ?_
  obtain ⟨v1, ev1, hf⟩ := job hf
  refine g_callV (pc := 2) [.int x1] [] dX7_window_2 ml_X7_104 ck_X7_isStep cv_X7_isStep sh_0 rfl (by decide) (Nat.le_of_ble_eq_true rfl) (c_X7_isStep ev1) ?_
  show jGG μ_X7_window 3 5 [some (.ref 0), some (.int x1), some (.int x2)] [.int v1] M (fun M' r' => M' = M ∧ r' = some (.int r))
  refine g_if_ne (pc := 5) 11 dX7_window_5 rfl (fun hc10 => ?_) (fun hc10 => ?_)
  · replace hf := jifn hc10 hf
    refine g_iload_n (pc := 11) dX7_window_11 rfl rfl ?_
    refine g_iconst (pc := 12) 0 dX7_window_12 rfl ?_
    refine g_iconst (pc := 13) 2 dX7_window_13 rfl ?_
    obtain ⟨v2, ev2, hf⟩ := job hf
    refine g_callS (pc := 14) [.int x2, .int 0, .int 2] [] dX7_window_14 ml_X7_68 ck_X7_isOut cs_X7_isOut rfl (by decide) (Nat.le_of_ble_eq_true rfl) (c_X7_isOut ev2) ?_
    show jGG μ_X7_window 3 17 [some (.ref 0), some (.int x1), some (.int x2)] [.int v2] M (fun M' r' => M' = M ∧ r' = some (.int r))
    refine g_if_eq (pc := 17) 23 dX7_window_17 rfl (fun hc9 => ?_) (fun hc9 => ?_)
    · replace hf := jifp hc9 hf
      refine g_iload_n (pc := 23) dX7_window_23 rfl rfl ?_
      refine g_aload_n (pc := 24) dX7_window_24 rfl rfl ?_
      refine g_getR (pc := 25) dX7_window_25 fl_X7_43 sh_0 rfl ?_
      refine g_getI (pc := 28) dX7_window_28 fl_X7_258 sh_74 rfl ?_
      refine g_icmp_lt (pc := 31) 36 dX7_window_31 rfl (fun hc8 => ?_) (fun hc8 => ?_)
      · replace hf := jifp hc8 hf
        refine g_iload_n (pc := 36) dX7_window_36 rfl rfl ?_
        refine g_if_ne (pc := 37) 50 dX7_window_37 rfl (fun hc7 => ?_) (fun hc7 => ?_)
        · replace hf := jifn hc7 hf
          refine g_iload_n (pc := 50) dX7_window_50 rfl rfl ?_
          refine g_iconst (pc := 51) 1 dX7_window_51 rfl ?_
          refine g_icmp_ne (pc := 52) 67 dX7_window_52 rfl (fun hc5 => ?_) (fun hc5 => ?_)
          · replace hf := jifn hc5 hf
            refine g_aload_n (pc := 67) dX7_window_67 rfl rfl ?_
            refine g_getR (pc := 68) dX7_window_68 fl_X7_43 sh_0 rfl ?_
            refine g_getR (pc := 71) dX7_window_71 fl_X7_245 sh_74 rfl ?_
            refine g_iload_n (pc := 74) dX7_window_74 rfl rfl ?_
            obtain ⟨v3, ev3, hf⟩ := job hf
            refine g_iald (pc := 75) dX7_window_75 sh_77 ev3 ?_
            refine g_callS (pc := 76) [.int v3] [] dX7_window_76 ml_X7_265 ck_J6_bitCount_0f7a4 cs_J6_bitCount_0f7a4 rfl (by decide) (Nat.le_of_ble_eq_true rfl) c_bitCount ?_
            show jGG μ_X7_window 3 79 [some (.ref 0), some (.int x1), some (.int x2)] [.int (jbits v3)] M (fun M' r' => M' = M ∧ r' = some (.int r))
            obtain rfl := Option.some.inj hf
            exact g_iret (pc := 79) dX7_window_79 rfl ⟨rfl, rfl⟩
          · replace hf := jifp hc5 hf
            refine g_aload_n (pc := 55) dX7_window_55 rfl rfl ?_
            refine g_getR (pc := 56) dX7_window_56 fl_X7_43 sh_0 rfl ?_
            refine g_getR (pc := 59) dX7_window_59 fl_X7_262 sh_74 rfl ?_
            refine g_iload_n (pc := 62) dX7_window_62 rfl rfl ?_
            obtain ⟨v4, ev4, hf⟩ := job hf
            refine g_iald (pc := 63) dX7_window_63 sh_76 ev4 ?_
            refine g_goto (pc := 64) 79 dX7_window_64 rfl ?_
            obtain rfl := Option.some.inj hf
            exact g_iret (pc := 79) dX7_window_79 rfl ⟨rfl, rfl⟩
        · replace hf := jifp hc7 hf
          refine g_aload_n (pc := 40) dX7_window_40 rfl rfl ?_
          refine g_getR (pc := 41) dX7_window_41 fl_X7_43 sh_0 rfl ?_
          refine g_getR (pc := 44) dX7_window_44 fl_X7_259 sh_74 rfl ?_
          refine g_iload_n (pc := 47) dX7_window_47 rfl rfl ?_
          obtain ⟨v6, ev6, hf⟩ := job hf
          refine g_iald (pc := 48) dX7_window_48 sh_75 ev6 ?_
          obtain rfl := Option.some.inj hf
          exact g_iret (pc := 49) dX7_window_49 rfl ⟨rfl, rfl⟩
      · replace hf := jifn hc8 hf
        refine g_iconst (pc := 34) (-1) dX7_window_34 rfl ?_
        obtain rfl := Option.some.inj hf
        exact g_iret (pc := 35) dX7_window_35 rfl ⟨rfl, rfl⟩
    · replace hf := jifn hc9 hf
      refine g_ldc (pc := 20) (-100002) dX7_window_20 lc_X7_72 ?_
      obtain rfl := Option.some.inj hf
      exact g_iret (pc := 22) dX7_window_22 rfl ⟨rfl, rfl⟩
  · replace hf := jifp hc10 hf
    refine g_ldc (pc := 8) (-100001) dX7_window_8 lc_X7_92 ?_
    obtain rfl := Option.some.inj hf
    exact g_iret (pc := 10) dX7_window_10 rfl ⟨rfl, rfl⟩
def f_X7_must (M : JMem) (x1 : Int32) (x2 : Int32) : Option (Int32) := (f_X7_isStep M x1).bind fun v1 => (if v1 = 0 then some (-100001) else (f_X7_isStep M x2).bind fun v2 => (if v2 = 0 then some (-100001) else (f_X6_isAhead M 74 x1 x2).bind fun v3 => (if v3 = 0 then (f_X6_isAhead M 74 x2 x1).bind fun v4 => (if v4 = 0 then some 0 else some 2) else some 1)))
set_option maxHeartbeats 4000000 in
theorem c_X7_must {M : JMem} {x1 : Int32} {x2 : Int32} {r : Int32} (hf : f_X7_must M x1 x2 = some r) : jCo yX7_must μ_X7_must 3 M [.ref 0, .int x1, .int x2] M (some (.int r)) := by
  refine jCt_of (by decide +kernel) rfl (by simp [Value.category]) (Nat.le_of_ble_eq_true rfl) ?_
  unfold f_X7_must at hf
  show jGG μ_X7_must 3 0 [some (.ref 0), some (.int x1), some (.int x2)] [] M (fun M' r' => M' = M ∧ r' = some (.int r))
  refine g_aload_n (pc := 0) dX7_must_0 rfl rfl ?_
  refine g_iload_n (pc := 1) dX7_must_1 rfl rfl ?_
  obtain ⟨v1, ev1, hf⟩ := job hf
  refine g_callV (pc := 2) [.int x1] [] dX7_must_2 ml_X7_104 ck_X7_isStep cv_X7_isStep sh_0 rfl (by decide) (Nat.le_of_ble_eq_true rfl) (c_X7_isStep ev1) ?_
  show jGG μ_X7_must 3 5 [some (.ref 0), some (.int x1), some (.int x2)] [.int v1] M (fun M' r' => M' = M ∧ r' = some (.int r))
  refine g_if_eq (pc := 5) 16 dX7_must_5 rfl (fun hc8 => ?_) (fun hc8 => ?_)
  · replace hf := jifp hc8 hf
    refine g_ldc (pc := 16) (-100001) dX7_must_16 lc_X7_92 ?_
    obtain rfl := Option.some.inj hf
    exact g_iret (pc := 18) dX7_must_18 rfl ⟨rfl, rfl⟩
  · replace hf := jifn hc8 hf
    refine g_aload_n (pc := 8) dX7_must_8 rfl rfl ?_
    refine g_iload_n (pc := 9) dX7_must_9 rfl rfl ?_
    obtain ⟨v2, ev2, hf⟩ := job hf
    refine g_callV (pc := 10) [.int x2] [] dX7_must_10 ml_X7_104 ck_X7_isStep cv_X7_isStep sh_0 rfl (by decide) (Nat.le_of_ble_eq_true rfl) (c_X7_isStep ev2) ?_
    show jGG μ_X7_must 3 13 [some (.ref 0), some (.int x1), some (.int x2)] [.int v2] M (fun M' r' => M' = M ∧ r' = some (.int r))
    refine g_if_ne (pc := 13) 19 dX7_must_13 rfl (fun hc7 => ?_) (fun hc7 => ?_)
    · replace hf := jifn hc7 hf
      refine g_aload_n (pc := 19) dX7_must_19 rfl rfl ?_
      refine g_getR (pc := 20) dX7_must_20 fl_X7_43 sh_0 rfl ?_
      refine g_iload_n (pc := 23) dX7_must_23 rfl rfl ?_
      refine g_iload_n (pc := 24) dX7_must_24 rfl rfl ?_
      obtain ⟨v3, ev3, hf⟩ := job hf
      refine g_callV (pc := 25) [.int x1, .int x2] [] dX7_must_25 ml_X7_270 ck_X6_isAhead cv_X6_isAhead sh_74 rfl (by decide) (Nat.le_of_ble_eq_true rfl) (c_X6_isAhead isX6_74 ev3) ?_
      show jGG μ_X7_must 3 28 [some (.ref 0), some (.int x1), some (.int x2)] [.int v3] M (fun M' r' => M' = M ∧ r' = some (.int r))
      refine g_if_eq (pc := 28) 33 dX7_must_28 rfl (fun hc6 => ?_) (fun hc6 => ?_)
      · replace hf := jifp hc6 hf
        refine g_aload_n (pc := 33) dX7_must_33 rfl rfl ?_
        refine g_getR (pc := 34) dX7_must_34 fl_X7_43 sh_0 rfl ?_
        refine g_iload_n (pc := 37) dX7_must_37 rfl rfl ?_
        refine g_iload_n (pc := 38) dX7_must_38 rfl rfl ?_
        obtain ⟨v4, ev4, hf⟩ := job hf
        refine g_callV (pc := 39) [.int x2, .int x1] [] dX7_must_39 ml_X7_270 ck_X6_isAhead cv_X6_isAhead sh_74 rfl (by decide) (Nat.le_of_ble_eq_true rfl) (c_X6_isAhead isX6_74 ev4) ?_
        show jGG μ_X7_must 3 42 [some (.ref 0), some (.int x1), some (.int x2)] [.int v4] M (fun M' r' => M' = M ∧ r' = some (.int r))
        refine g_if_eq (pc := 42) 49 dX7_must_42 rfl (fun hc5 => ?_) (fun hc5 => ?_)
        · replace hf := jifp hc5 hf
          refine g_iconst (pc := 49) 0 dX7_must_49 rfl ?_
          obtain rfl := Option.some.inj hf
          exact g_iret (pc := 50) dX7_must_50 rfl ⟨rfl, rfl⟩
        · replace hf := jifn hc5 hf
          refine g_iconst (pc := 45) 2 dX7_must_45 rfl ?_
          refine g_goto (pc := 46) 50 dX7_must_46 rfl ?_
          obtain rfl := Option.some.inj hf
          exact g_iret (pc := 50) dX7_must_50 rfl ⟨rfl, rfl⟩
      · replace hf := jifn hc6 hf
        refine g_iconst (pc := 31) 1 dX7_must_31 rfl ?_
        obtain rfl := Option.some.inj hf
        exact g_iret (pc := 32) dX7_must_32 rfl ⟨rfl, rfl⟩
    · replace hf := jifp hc7 hf
      refine g_ldc (pc := 16) (-100001) dX7_must_16 lc_X7_92 ?_
      obtain rfl := Option.some.inj hf
      exact g_iret (pc := 18) dX7_must_18 rfl ⟨rfl, rfl⟩
def f_X7_bound (N : Nat) (M : JMem) (x1 : Int32) (x2 : Int32) : Option (JMem × Int32) := (f_X7_isMachine M x1).bind fun v1 => (if v1 = 0 then some (M, (-100001)) else (f_X7_isOut M x2 0 1).bind fun v2 => (if v2 = 0 then (jrd M 2 8 x1).bind fun v3 => (if v3 = 0 then (jcase (α := JMem × Int32) (β := Unit) (if x2 = 1 then (jrd M 32 8 x1).bind fun v9 => (if v9 ≤ 8 then some (Sum.inr ()) else some (Sum.inl (M, (-100003)))) else some (Sum.inr ())) fun _ => (f_X0_takeJobs N M x1).bind fun M12 => (f_X0_cutBound N M12).bind fun (M13, v14) => (if x2 = 0 then some (M13, v14) else (f_X0_wholeBound N M13 v14).bind fun v15 => some (M13, v15))) else some (M, (-100003))) else some (M, (-100002))))
set_option maxHeartbeats 4000000 in
theorem c_X7_bound {N : Nat} {M : JMem} {x1 : Int32} {x2 : Int32} {Mz : JMem} {r : Int32} (hf : f_X7_bound N M x1 x2 = some (Mz, r)) : jCo yX7_bound μ_X7_bound 17 M [.ref 0, .int x1, .int x2] Mz (some (.int r)) := by
  refine jCt_of (by decide +kernel) rfl (by simp [Value.category]) (Nat.le_of_ble_eq_true rfl) ?_
  unfold f_X7_bound at hf
  show jGG μ_X7_bound 17 0 [some (.ref 0), some (.int x1), some (.int x2), none] [] M (fun M' r' => M' = Mz ∧ r' = some (.int r))
  refine g_aload_n (pc := 0) dX7_bound_0 rfl rfl ?_
  refine g_iload_n (pc := 1) dX7_bound_1 rfl rfl ?_
  obtain ⟨v1, ev1, hf⟩ := job hf
  refine g_callV (pc := 2) [.int x1] [] dX7_bound_2 ml_X7_88 ck_X7_isMachine cv_X7_isMachine sh_0 rfl (by decide) (Nat.le_of_ble_eq_true rfl) (c_X7_isMachine ev1) ?_
  show jGG μ_X7_bound 17 5 [some (.ref 0), some (.int x1), some (.int x2), none] [.int v1] M (fun M' r' => M' = Mz ∧ r' = some (.int r))
  refine g_if_ne (pc := 5) 11 dX7_bound_5 rfl (fun hc19 => ?_) (fun hc19 => ?_)
  · replace hf := jifn hc19 hf
    refine g_iload_n (pc := 11) dX7_bound_11 rfl rfl ?_
    refine g_iconst (pc := 12) 0 dX7_bound_12 rfl ?_
    refine g_iconst (pc := 13) 1 dX7_bound_13 rfl ?_
    obtain ⟨v2, ev2, hf⟩ := job hf
    refine g_callS (pc := 14) [.int x2, .int 0, .int 1] [] dX7_bound_14 ml_X7_68 ck_X7_isOut cs_X7_isOut rfl (by decide) (Nat.le_of_ble_eq_true rfl) (c_X7_isOut ev2) ?_
    show jGG μ_X7_bound 17 17 [some (.ref 0), some (.int x1), some (.int x2), none] [.int v2] M (fun M' r' => M' = Mz ∧ r' = some (.int r))
    refine g_if_eq (pc := 17) 23 dX7_bound_17 rfl (fun hc18 => ?_) (fun hc18 => ?_)
    · replace hf := jifp hc18 hf
      refine g_aload_n (pc := 23) dX7_bound_23 rfl rfl ?_
      refine g_getR (pc := 24) dX7_bound_24 fl_X7_10 sh_0 rfl ?_
      refine g_getR (pc := 27) dX7_bound_27 fl_X7_186 sh_1 rfl ?_
      refine g_iload_n (pc := 30) dX7_bound_30 rfl rfl ?_
      obtain ⟨v3, ev3, hf⟩ := job hf
      refine g_iald (pc := 31) dX7_bound_31 sh_2 ev3 ?_
      refine g_if_ne (pc := 32) 54 dX7_bound_32 rfl (fun hc17 => ?_) (fun hc17 => ?_)
      · replace hf := jifn hc17 hf
        refine g_ldc (pc := 54) (-100003) dX7_bound_54 lc_X7_180 ?_
        obtain ⟨rfl, rfl⟩ := Prod.mk.inj (Option.some.inj hf)
        exact g_iret (pc := 56) dX7_bound_56 rfl ⟨rfl, rfl⟩
      · replace hf := jifp hc17 hf
        refine g_iload_n (pc := 35) dX7_bound_35 rfl rfl ?_
        refine g_iconst (pc := 36) 1 dX7_bound_36 rfl ?_
        obtain ⟨y6, hf, hy5⟩ := jcb hf
        have K7 : y6 = Sum.inr () → jGG μ_X7_bound 17 57 [some (.ref 0), some (.int x1), some (.int x2), none] [] M (fun M' r' => M' = Mz ∧ r' = some (.int r)) := by
          intro hyy
          subst hyy
          replace hf := hy5
          refine g_aload_n (pc := 57) dX7_bound_57 rfl rfl ?_
          refine g_getR (pc := 58) dX7_bound_58 fl_X7_50 sh_0 rfl ?_
          refine g_aload_n (pc := 61) dX7_bound_61 rfl rfl ?_
          refine g_getR (pc := 62) dX7_bound_62 fl_X7_10 sh_0 rfl ?_
          refine g_iload_n (pc := 65) dX7_bound_65 rfl rfl ?_
          obtain ⟨M12, eM12, hf⟩ := job hf
          refine g_callV (pc := 66) [.ref 1, .int x1] [] dX7_bound_66 ml_X7_277 ck_X0_takeJobs cv_X0_takeJobs sh_78 rfl (by decide) (Nat.le_of_ble_eq_true rfl) (c_X0_takeJobs eM12) ?_
          show jGG μ_X7_bound 17 69 [some (.ref 0), some (.int x1), some (.int x2), none] [] M12 (fun M' r' => M' = Mz ∧ r' = some (.int r))
          refine g_aload_n (pc := 69) dX7_bound_69 rfl rfl ?_
          refine g_getR (pc := 70) dX7_bound_70 fl_X7_50 sh_0 rfl ?_
          obtain ⟨⟨M13, v14⟩, ev14, hf⟩ := job hf
          refine g_callV (pc := 73) [] [] dX7_bound_73 ml_X7_281 ck_X0_cutBound cv_X0_cutBound sh_78 rfl (by decide) (Nat.le_of_ble_eq_true rfl) (c_X0_cutBound ev14) ?_
          show jGG μ_X7_bound 17 76 [some (.ref 0), some (.int x1), some (.int x2), none] [.int v14] M13 (fun M' r' => M' = Mz ∧ r' = some (.int r))
          refine g_istore_n (pc := 76) (lv' := [some (.ref 0), some (.int x1), some (.int x2), some (.int v14)]) dX7_bound_76 rfl (by decide) rfl ?_
          refine g_iload_n (pc := 77) dX7_bound_77 rfl rfl ?_
          refine g_if_ne (pc := 78) 85 dX7_bound_78 rfl (fun hc16 => ?_) (fun hc16 => ?_)
          · replace hf := jifn hc16 hf
            refine g_aload_n (pc := 85) dX7_bound_85 rfl rfl ?_
            refine g_getR (pc := 86) dX7_bound_86 fl_X7_50 sh_0 rfl ?_
            refine g_iload_n (pc := 89) dX7_bound_89 rfl rfl ?_
            obtain ⟨v15, ev15, hf⟩ := job hf
            refine g_callV (pc := 90) [.int v14] [] dX7_bound_90 ml_X7_284 ck_X0_wholeBound cv_X0_wholeBound sh_78 rfl (by decide) (Nat.le_of_ble_eq_true rfl) (c_X0_wholeBound ev15) ?_
            show jGG μ_X7_bound 17 93 [some (.ref 0), some (.int x1), some (.int x2), some (.int v14)] [.int v15] M13 (fun M' r' => M' = Mz ∧ r' = some (.int r))
            obtain ⟨rfl, rfl⟩ := Prod.mk.inj (Option.some.inj hf)
            exact g_iret (pc := 93) dX7_bound_93 rfl ⟨rfl, rfl⟩
          · replace hf := jifp hc16 hf
            refine g_iload_n (pc := 81) dX7_bound_81 rfl rfl ?_
            refine g_goto (pc := 82) 93 dX7_bound_82 rfl ?_
            obtain ⟨rfl, rfl⟩ := Prod.mk.inj (Option.some.inj hf)
            exact g_iret (pc := 93) dX7_bound_93 rfl ⟨rfl, rfl⟩
        refine g_icmp_ne (pc := 37) 57 dX7_bound_37 rfl (fun hc11 => ?_) (fun hc11 => ?_)
        · replace hf := jifn hc11 hf
          exact g_weakK (K7 (Option.some.inj hf).symm) ⟨rfl, ⟨rfl, ⟨rfl, trivial⟩⟩⟩
        · replace hf := jifp hc11 hf
          refine g_aload_n (pc := 40) dX7_bound_40 rfl rfl ?_
          refine g_getR (pc := 41) dX7_bound_41 fl_X7_10 sh_0 rfl ?_
          refine g_getR (pc := 44) dX7_bound_44 fl_X7_274 sh_1 rfl ?_
          refine g_iload_n (pc := 47) dX7_bound_47 rfl rfl ?_
          obtain ⟨v9, ev9, hf⟩ := job hf
          refine g_iald (pc := 48) dX7_bound_48 sh_32 ev9 ?_
          refine g_bipush (pc := 49) 8 dX7_bound_49 rfl ?_
          refine g_icmp_le (pc := 51) 57 dX7_bound_51 rfl (fun hc10 => ?_) (fun hc10 => ?_)
          · replace hf := jifp hc10 hf
            exact g_weakK (K7 (Option.some.inj hf).symm) ⟨rfl, ⟨rfl, ⟨rfl, trivial⟩⟩⟩
          · replace hf := jifn hc10 hf
            refine g_ldc (pc := 54) (-100003) dX7_bound_54 lc_X7_180 ?_
            obtain rfl := Option.some.inj hf
            replace hf := hy5
            obtain ⟨rfl, rfl⟩ := Prod.mk.inj (Option.some.inj hf)
            exact g_iret (pc := 56) dX7_bound_56 rfl ⟨rfl, rfl⟩
    · replace hf := jifn hc18 hf
      refine g_ldc (pc := 20) (-100002) dX7_bound_20 lc_X7_72 ?_
      obtain ⟨rfl, rfl⟩ := Prod.mk.inj (Option.some.inj hf)
      exact g_iret (pc := 22) dX7_bound_22 rfl ⟨rfl, rfl⟩
  · replace hf := jifp hc19 hf
    refine g_ldc (pc := 8) (-100001) dX7_bound_8 lc_X7_92 ?_
    obtain ⟨rfl, rfl⟩ := Prod.mk.inj (Option.some.inj hf)
    exact g_iret (pc := 10) dX7_bound_10 rfl ⟨rfl, rfl⟩
def f_X7_least (N : Nat) (M : JMem) (x1 : Int32) : Option (JMem × Int32) := (f_X7_isOut M x1 0 100).bind fun v1 => (if v1 = 0 then (f_X2_isSimple N M).bind fun v2 => (if v2 = 0 then some (M, (-100003)) else (if (M 1 2) = 0 then some (M, (-100003)) else (f_X1_work N M 54 33).bind fun (M3, v4) => (((if v4 = 0 then (f_X2_allSpans N M3).bind fun v10 => some ((v10 + 1)) else some ((M3 54 4))) : Option (Int32)).bind fun u12 => (some (jup M3 83 0 u12)).bind fun M13 => (f_X4_seek N M13 33 x1).bind fun (M14, v15) => (if v15 = 0 then some (M14, 0) else some (M14, 1))))) else some (M, (-100002)))
set_option maxHeartbeats 4000000 in
theorem c_X7_least {N : Nat} {M : JMem} {x1 : Int32} {Mz : JMem} {r : Int32} (hf : f_X7_least N M x1 = some (Mz, r)) : jCo yX7_least μ_X7_least 7 M [.ref 0, .int x1] Mz (some (.int r)) := by
  refine jCt_of (by decide +kernel) rfl (by simp [Value.category]) (Nat.le_of_ble_eq_true rfl) ?_
  unfold f_X7_least at hf
  show jGG μ_X7_least 7 0 [some (.ref 0), some (.int x1)] [] M (fun M' r' => M' = Mz ∧ r' = some (.int r))
  refine g_iload_n (pc := 0) dX7_least_0 rfl rfl ?_
  refine g_iconst (pc := 1) 0 dX7_least_1 rfl ?_
  refine g_bipush (pc := 2) 100 dX7_least_2 rfl ?_
  obtain ⟨v1, ev1, hf⟩ := job hf
  refine g_callS (pc := 4) [.int x1, .int 0, .int 100] [] dX7_least_4 ml_X7_68 ck_X7_isOut cs_X7_isOut rfl (by decide) (Nat.le_of_ble_eq_true rfl) (c_X7_isOut ev1) ?_
  show jGG μ_X7_least 7 7 [some (.ref 0), some (.int x1)] [.int v1] M (fun M' r' => M' = Mz ∧ r' = some (.int r))
  refine g_if_eq (pc := 7) 13 dX7_least_7 rfl (fun hc19 => ?_) (fun hc19 => ?_)
  · replace hf := jifp hc19 hf
    refine g_aload_n (pc := 13) dX7_least_13 rfl rfl ?_
    refine g_getR (pc := 14) dX7_least_14 fl_X7_10 sh_0 rfl ?_
    obtain ⟨v2, ev2, hf⟩ := job hf
    refine g_callV (pc := 17) [] [] dX7_least_17 ml_X7_122 ck_X2_isSimple cv_X2_isSimple sh_1 rfl (by decide) (Nat.le_of_ble_eq_true rfl) (c_X2_isSimple ev2) ?_
    show jGG μ_X7_least 7 20 [some (.ref 0), some (.int x1)] [.int v2] M (fun M' r' => M' = Mz ∧ r' = some (.int r))
    refine g_if_eq (pc := 20) 33 dX7_least_20 rfl (fun hc18 => ?_) (fun hc18 => ?_)
    · replace hf := jifp hc18 hf
      refine g_ldc (pc := 33) (-100003) dX7_least_33 lc_X7_180 ?_
      obtain ⟨rfl, rfl⟩ := Prod.mk.inj (Option.some.inj hf)
      exact g_iret (pc := 35) dX7_least_35 rfl ⟨rfl, rfl⟩
    · replace hf := jifn hc18 hf
      refine g_aload_n (pc := 23) dX7_least_23 rfl rfl ?_
      refine g_getR (pc := 24) dX7_least_24 fl_X7_10 sh_0 rfl ?_
      refine g_getI (pc := 27) dX7_least_27 fl_X7_97 sh_1 rfl ?_
      refine g_if_ne (pc := 30) 36 dX7_least_30 rfl (fun hc17 => ?_) (fun hc17 => ?_)
      · replace hf := jifn hc17 hf
        refine g_aload_n (pc := 36) dX7_least_36 rfl rfl ?_
        refine g_getR (pc := 37) dX7_least_37 fl_X7_57 sh_0 rfl ?_
        refine g_aload_n (pc := 40) dX7_least_40 rfl rfl ?_
        refine g_getR (pc := 41) dX7_least_41 fl_X7_33 sh_0 rfl ?_
        refine g_aload_n (pc := 44) dX7_least_44 rfl rfl ?_
        refine g_getR (pc := 45) dX7_least_45 fl_X7_10 sh_0 rfl ?_
        refine g_aload_n (pc := 48) dX7_least_48 rfl rfl ?_
        refine g_getR (pc := 49) dX7_least_49 fl_X7_19 sh_0 rfl ?_
        obtain ⟨⟨M3, v4⟩, ev4, hf⟩ := job hf
        refine g_callV (pc := 52) [.ref 1, .ref 33] [.ref 83] dX7_least_52 ml_X7_189 ck_X1_work cv_X1_work sh_54 rfl (by decide) (Nat.le_of_ble_eq_true rfl) (c_X1_work isX1_54 isX3_33 ev4) ?_
        show jGG μ_X7_least 7 55 [some (.ref 0), some (.int x1)] [.int v4, .ref 83] M3 (fun M' r' => M' = Mz ∧ r' = some (.int r))
        obtain ⟨u12, hf, hy6⟩ := job hf
        have K8 : jGG μ_X7_least 7 77 [some (.ref 0), some (.int x1)] [.int u12, .ref 83] M3 (fun M' r' => M' = Mz ∧ r' = some (.int r)) := by
          replace hf := hy6
          refine g_putI (pc := 77) dX7_least_77 fp_X7_287 sh_83 rfl ?_
          obtain ⟨M13, eM13, hf⟩ := job hf
          rw [Option.some.inj eM13]
          refine g_aload_n (pc := 80) dX7_least_80 rfl rfl ?_
          refine g_getR (pc := 81) dX7_least_81 fl_X7_57 sh_0 rfl ?_
          refine g_aload_n (pc := 84) dX7_least_84 rfl rfl ?_
          refine g_getR (pc := 85) dX7_least_85 fl_X7_10 sh_0 rfl ?_
          refine g_aload_n (pc := 88) dX7_least_88 rfl rfl ?_
          refine g_getR (pc := 89) dX7_least_89 fl_X7_19 sh_0 rfl ?_
          refine g_iload_n (pc := 92) dX7_least_92 rfl rfl ?_
          obtain ⟨⟨M14, v15⟩, ev15, hf⟩ := job hf
          refine g_callV (pc := 93) [.ref 1, .ref 33, .int x1] [] dX7_least_93 ml_X7_290 ck_X4_seek cv_X4_seek sh_83 rfl (by decide) (Nat.le_of_ble_eq_true rfl) (c_X4_seek isX3_33 ev15) ?_
          show jGG μ_X7_least 7 96 [some (.ref 0), some (.int x1)] [.int v15] M14 (fun M' r' => M' = Mz ∧ r' = some (.int r))
          refine g_if_eq (pc := 96) 103 dX7_least_96 rfl (fun hc16 => ?_) (fun hc16 => ?_)
          · replace hf := jifp hc16 hf
            refine g_iconst (pc := 103) 0 dX7_least_103 rfl ?_
            obtain ⟨rfl, rfl⟩ := Prod.mk.inj (Option.some.inj hf)
            exact g_iret (pc := 104) dX7_least_104 rfl ⟨rfl, rfl⟩
          · replace hf := jifn hc16 hf
            refine g_iconst (pc := 99) 1 dX7_least_99 rfl ?_
            refine g_goto (pc := 100) 104 dX7_least_100 rfl ?_
            obtain ⟨rfl, rfl⟩ := Prod.mk.inj (Option.some.inj hf)
            exact g_iret (pc := 104) dX7_least_104 rfl ⟨rfl, rfl⟩
        refine g_if_eq (pc := 55) 68 dX7_least_55 rfl (fun hc11 => ?_) (fun hc11 => ?_)
        · replace hf := jifp hc11 hf
          refine g_aload_n (pc := 68) dX7_least_68 rfl rfl ?_
          refine g_getR (pc := 69) dX7_least_69 fl_X7_10 sh_0 rfl ?_
          obtain ⟨v10, ev10, hf⟩ := job hf
          refine g_callV (pc := 72) [] [.ref 83] dX7_least_72 ml_X7_126 ck_X2_allSpans cv_X2_allSpans sh_1 rfl (by decide) (Nat.le_of_ble_eq_true rfl) (c_X2_allSpans ev10) ?_
          show jGG μ_X7_least 7 75 [some (.ref 0), some (.int x1)] [.int v10, .ref 83] M3 (fun M' r' => M' = Mz ∧ r' = some (.int r))
          refine g_iconst (pc := 75) 1 dX7_least_75 rfl ?_
          refine g_iadd (pc := 76) dX7_least_76 ?_
          obtain rfl := Option.some.inj hf
          exact g_weakK (K8) ⟨rfl, ⟨rfl, trivial⟩⟩
        · replace hf := jifn hc11 hf
          refine g_aload_n (pc := 58) dX7_least_58 rfl rfl ?_
          refine g_getR (pc := 59) dX7_least_59 fl_X7_33 sh_0 rfl ?_
          refine g_getI (pc := 62) dX7_least_62 fl_X7_200 sh_54 rfl ?_
          refine g_goto (pc := 65) 77 dX7_least_65 rfl ?_
          obtain rfl := Option.some.inj hf
          exact g_weakK (K8) ⟨rfl, ⟨rfl, trivial⟩⟩
      · replace hf := jifp hc17 hf
        refine g_ldc (pc := 33) (-100003) dX7_least_33 lc_X7_180 ?_
        obtain ⟨rfl, rfl⟩ := Prod.mk.inj (Option.some.inj hf)
        exact g_iret (pc := 35) dX7_least_35 rfl ⟨rfl, rfl⟩
  · replace hf := jifn hc19 hf
    refine g_ldc (pc := 10) (-100002) dX7_least_10 lc_X7_72 ?_
    obtain ⟨rfl, rfl⟩ := Prod.mk.inj (Option.some.inj hf)
    exact g_iret (pc := 12) dX7_least_12 rfl ⟨rfl, rfl⟩
def f_X7_found (M : JMem) (x1 : Int32) : Option (Int32) := (if x1 = 0 then some (M 83 0) else (if x1 = 1 then some (M 83 1) else (if x1 = 2 then some (M 83 2) else some (-100002))))
set_option maxHeartbeats 4000000 in
theorem c_X7_found {M : JMem} {x1 : Int32} {r : Int32} (hf : f_X7_found M x1 = some r) : jCo yX7_found μ_X7_found 1 M [.ref 0, .int x1] M (some (.int r)) := by
  refine jCt_of (by decide +kernel) rfl (by simp [Value.category]) (Nat.le_of_ble_eq_true rfl) ?_
  unfold f_X7_found at hf
  show jGG μ_X7_found 1 0 [some (.ref 0), some (.int x1)] [] M (fun M' r' => M' = M ∧ r' = some (.int r))
  refine g_iload_n (pc := 0) dX7_found_0 rfl rfl ?_
  by_cases hc1 : x1 = 0
  · replace hf := jifp hc1 hf
    refine g_tswEq (pc := 1) 0 28 dX7_found_1 hc1 (by decide) (by decide) rfl rfl ?_
    refine g_aload_n (pc := 28) dX7_found_28 rfl rfl ?_
    refine g_getR (pc := 29) dX7_found_29 fl_X7_57 sh_0 rfl ?_
    refine g_getI (pc := 32) dX7_found_32 fl_X7_287 sh_83 rfl ?_
    obtain rfl := Option.some.inj hf
    exact g_iret (pc := 35) dX7_found_35 rfl ⟨rfl, rfl⟩
  · replace hf := jifn hc1 hf
    by_cases hc2 : x1 = 1
    · replace hf := jifp hc2 hf
      refine g_tswEq (pc := 1) 1 36 dX7_found_1 hc2 (by decide) (by decide) rfl rfl ?_
      refine g_aload_n (pc := 36) dX7_found_36 rfl rfl ?_
      refine g_getR (pc := 37) dX7_found_37 fl_X7_57 sh_0 rfl ?_
      refine g_getI (pc := 40) dX7_found_40 fl_X7_294 sh_83 rfl ?_
      obtain rfl := Option.some.inj hf
      exact g_iret (pc := 43) dX7_found_43 rfl ⟨rfl, rfl⟩
    · replace hf := jifn hc2 hf
      by_cases hc3 : x1 = 2
      · replace hf := jifp hc3 hf
        refine g_tswEq (pc := 1) 2 44 dX7_found_1 hc3 (by decide) (by decide) rfl rfl ?_
        refine g_aload_n (pc := 44) dX7_found_44 rfl rfl ?_
        refine g_getR (pc := 45) dX7_found_45 fl_X7_57 sh_0 rfl ?_
        refine g_getI (pc := 48) dX7_found_48 fl_X7_297 sh_83 rfl ?_
        obtain rfl := Option.some.inj hf
        exact g_iret (pc := 51) dX7_found_51 rfl ⟨rfl, rfl⟩
      · replace hf := jifn hc3 hf
        refine g_tswOut (pc := 1) 52 dX7_found_1 (jsw3 hc1 hc2 hc3) rfl ?_
        refine g_ldc (pc := 52) (-100002) dX7_found_52 lc_X7_72 ?_
        obtain rfl := Option.some.inj hf
        exact g_iret (pc := 54) dX7_found_54 rfl ⟨rfl, rfl⟩
def f_X7_stays (M : JMem) (x1 : Int32) (x2 : Int32) (x3 : Int32) : Option (Int32) := (f_X1_endOf M 54 x1).bind fun v1 => (if x3 < v1 then (jrd M 55 32 x1).bind fun v2 => (if x3 ≤ v2 then some 0 else (jrd M 20 32 x1).bind fun v3 => (if v3 = x2 then some 0 else some 1)) else some 1)
set_option maxHeartbeats 4000000 in
theorem c_X7_stays {M : JMem} {x1 : Int32} {x2 : Int32} {x3 : Int32} {r : Int32} (hf : f_X7_stays M x1 x2 x3 = some r) : jCo yX7_stays μ_X7_stays 2 M [.ref 0, .int x1, .int x2, .int x3] M (some (.int r)) := by
  refine jCt_of (by decide +kernel) rfl (by simp [Value.category]) (Nat.le_of_ble_eq_true rfl) ?_
  unfold f_X7_stays at hf
  show jGG μ_X7_stays 2 0 [some (.ref 0), some (.int x1), some (.int x2), some (.int x3)] [] M (fun M' r' => M' = M ∧ r' = some (.int r))
  refine g_aload_n (pc := 0) dX7_stays_0 rfl rfl ?_
  refine g_getR (pc := 1) dX7_stays_1 fl_X7_33 sh_0 rfl ?_
  refine g_aload_n (pc := 4) dX7_stays_4 rfl rfl ?_
  refine g_getR (pc := 5) dX7_stays_5 fl_X7_10 sh_0 rfl ?_
  refine g_iload_n (pc := 8) dX7_stays_8 rfl rfl ?_
  obtain ⟨v1, ev1, hf⟩ := job hf
  refine g_callV (pc := 9) [.ref 1, .int x1] [] dX7_stays_9 ml_X7_332 ck_X1_endOf cv_X1_endOf sh_54 rfl (by decide) (Nat.le_of_ble_eq_true rfl) (c_X1_endOf isX1_54 ev1) ?_
  show jGG μ_X7_stays 2 12 [some (.ref 0), some (.int x1), some (.int x2), some (.int x3)] [.int v1] M (fun M' r' => M' = M ∧ r' = some (.int r))
  refine g_iload_n (pc := 12) dX7_stays_12 rfl rfl ?_
  refine g_icmp_gt (pc := 13) 18 dX7_stays_13 rfl (fun hc6 => ?_) (fun hc6 => ?_)
  · replace hf := jifp hc6 hf
    refine g_aload_n (pc := 18) dX7_stays_18 rfl rfl ?_
    refine g_getR (pc := 19) dX7_stays_19 fl_X7_33 sh_0 rfl ?_
    refine g_getR (pc := 22) dX7_stays_22 fl_X7_203 sh_54 rfl ?_
    refine g_iload_n (pc := 25) dX7_stays_25 rfl rfl ?_
    obtain ⟨v2, ev2, hf⟩ := job hf
    refine g_iald (pc := 26) dX7_stays_26 sh_55 ev2 ?_
    refine g_iload_n (pc := 27) dX7_stays_27 rfl rfl ?_
    refine g_icmp_ge (pc := 28) 48 dX7_stays_28 rfl (fun hc5 => ?_) (fun hc5 => ?_)
    · replace hf := jifp hc5 hf
      refine g_iconst (pc := 48) 0 dX7_stays_48 rfl ?_
      obtain rfl := Option.some.inj hf
      exact g_zret (pc := 49) dX7_stays_49 rfl (Or.inl rfl) ⟨rfl, rfl⟩
    · replace hf := jifn hc5 hf
      refine g_aload_n (pc := 31) dX7_stays_31 rfl rfl ?_
      refine g_getR (pc := 32) dX7_stays_32 fl_X7_10 sh_0 rfl ?_
      refine g_getR (pc := 35) dX7_stays_35 fl_X7_110 sh_1 rfl ?_
      refine g_iload_n (pc := 38) dX7_stays_38 rfl rfl ?_
      obtain ⟨v3, ev3, hf⟩ := job hf
      refine g_iald (pc := 39) dX7_stays_39 sh_20 ev3 ?_
      refine g_iload_n (pc := 40) dX7_stays_40 rfl rfl ?_
      refine g_icmp_eq (pc := 41) 48 dX7_stays_41 rfl (fun hc4 => ?_) (fun hc4 => ?_)
      · replace hf := jifp hc4 hf
        refine g_iconst (pc := 48) 0 dX7_stays_48 rfl ?_
        obtain rfl := Option.some.inj hf
        exact g_zret (pc := 49) dX7_stays_49 rfl (Or.inl rfl) ⟨rfl, rfl⟩
      · replace hf := jifn hc4 hf
        refine g_iconst (pc := 44) 1 dX7_stays_44 rfl ?_
        refine g_goto (pc := 45) 49 dX7_stays_45 rfl ?_
        obtain rfl := Option.some.inj hf
        exact g_zret (pc := 49) dX7_stays_49 rfl (Or.inr rfl) ⟨rfl, rfl⟩
  · replace hf := jifn hc6 hf
    refine g_iconst (pc := 16) 1 dX7_stays_16 rfl ?_
    obtain rfl := Option.some.inj hf
    exact g_zret (pc := 17) dX7_stays_17 rfl (Or.inr rfl) ⟨rfl, rfl⟩
def f_X7_fail (N : Nat) (M : JMem) (x1 : Int32) (x2 : Int32) (x3 : Int32) : Option (JMem × Int32) := (f_X7_isMachine M x1).bind fun v1 => (if v1 = 0 then some (M, (-100001)) else (f_X7_isOut M x2 0 100000).bind fun v2 => (if v2 = 0 then (f_X7_isOut M x3 0 10000).bind fun v3 => (if v3 = 0 then (f_X1_work N M 54 33).bind fun (M4, v5) => (if v5 = 0 then some (M4, (-100003)) else (some (jfill M4 215 8 x2)).bind fun M6 => (jwr M6 215 8 x1 (x2 + x3)).bind fun M7 => ((jLp (σ := Int32 × JMem) (ρ := JMem) N (fun ((z14, M15) : Int32 × JMem) => (if (M15 1 2) ≤ z14 then some (Sum.inr M15) else (f_X7_stays M15 z14 x1 x2).bind fun v17 => (((if v17 = 0 then some (((-1))) else (jrd M15 55 32 z14).bind fun v23 => some (v23)) : Option (Int32)).bind fun u25 => (jwr M15 214 32 z14 u25).bind fun M26 => some (Sum.inl (z14 + 1, M26))))) (0, M7)).bind fun t16 => (f_X1_work N t16 211 33).bind fun (M28, v29) => (some (jup M28 0 9 (M28 1 2))).bind fun M30 => some (M30, M30 211 4))) else some (M, (-100002))) else some (M, (-100002))))
set_option maxHeartbeats 4000000 in
theorem c_X7_fail {N : Nat} {M : JMem} {x1 : Int32} {x2 : Int32} {x3 : Int32} {Mz : JMem} {r : Int32} (hf : f_X7_fail N M x1 x2 x3 = some (Mz, r)) : jCo yX7_fail μ_X7_fail 5 M [.ref 0, .int x1, .int x2, .int x3] Mz (some (.int r)) := by
  refine jCt_of (by decide +kernel) rfl (by simp [Value.category]) (Nat.le_of_ble_eq_true rfl) ?_
  unfold f_X7_fail at hf
  show jGG μ_X7_fail 5 0 [some (.ref 0), some (.int x1), some (.int x2), some (.int x3), none] [] M (fun M' r' => M' = Mz ∧ r' = some (.int r))
  refine g_aload_n (pc := 0) dX7_fail_0 rfl rfl ?_
  refine g_iload_n (pc := 1) dX7_fail_1 rfl rfl ?_
  obtain ⟨v1, ev1, hf⟩ := job hf
  refine g_callV (pc := 2) [.int x1] [] dX7_fail_2 ml_X7_88 ck_X7_isMachine cv_X7_isMachine sh_0 rfl (by decide) (Nat.le_of_ble_eq_true rfl) (c_X7_isMachine ev1) ?_
  show jGG μ_X7_fail 5 5 [some (.ref 0), some (.int x1), some (.int x2), some (.int x3), none] [.int v1] M (fun M' r' => M' = Mz ∧ r' = some (.int r))
  refine g_if_ne (pc := 5) 11 dX7_fail_5 rfl (fun hc34 => ?_) (fun hc34 => ?_)
  · replace hf := jifn hc34 hf
    refine g_iload_n (pc := 11) dX7_fail_11 rfl rfl ?_
    refine g_iconst (pc := 12) 0 dX7_fail_12 rfl ?_
    refine g_ldc (pc := 13) 100000 dX7_fail_13 lc_X7_244 ?_
    obtain ⟨v2, ev2, hf⟩ := job hf
    refine g_callS (pc := 15) [.int x2, .int 0, .int 100000] [] dX7_fail_15 ml_X7_68 ck_X7_isOut cs_X7_isOut rfl (by decide) (Nat.le_of_ble_eq_true rfl) (c_X7_isOut ev2) ?_
    show jGG μ_X7_fail 5 18 [some (.ref 0), some (.int x1), some (.int x2), some (.int x3), none] [.int v2] M (fun M' r' => M' = Mz ∧ r' = some (.int r))
    refine g_if_ne (pc := 18) 32 dX7_fail_18 rfl (fun hc33 => ?_) (fun hc33 => ?_)
    · replace hf := jifn hc33 hf
      refine g_ldc (pc := 32) (-100002) dX7_fail_32 lc_X7_72 ?_
      obtain ⟨rfl, rfl⟩ := Prod.mk.inj (Option.some.inj hf)
      exact g_iret (pc := 34) dX7_fail_34 rfl ⟨rfl, rfl⟩
    · replace hf := jifp hc33 hf
      refine g_iload_n (pc := 21) dX7_fail_21 rfl rfl ?_
      refine g_iconst (pc := 22) 0 dX7_fail_22 rfl ?_
      refine g_sipush (pc := 23) 10000 dX7_fail_23 rfl ?_
      obtain ⟨v3, ev3, hf⟩ := job hf
      refine g_callS (pc := 26) [.int x3, .int 0, .int 10000] [] dX7_fail_26 ml_X7_68 ck_X7_isOut cs_X7_isOut rfl (by decide) (Nat.le_of_ble_eq_true rfl) (c_X7_isOut ev3) ?_
      show jGG μ_X7_fail 5 29 [some (.ref 0), some (.int x1), some (.int x2), some (.int x3), none] [.int v3] M (fun M' r' => M' = Mz ∧ r' = some (.int r))
      refine g_if_eq (pc := 29) 35 dX7_fail_29 rfl (fun hc32 => ?_) (fun hc32 => ?_)
      · replace hf := jifp hc32 hf
        refine g_aload_n (pc := 35) dX7_fail_35 rfl rfl ?_
        refine g_getR (pc := 36) dX7_fail_36 fl_X7_33 sh_0 rfl ?_
        refine g_aload_n (pc := 39) dX7_fail_39 rfl rfl ?_
        refine g_getR (pc := 40) dX7_fail_40 fl_X7_10 sh_0 rfl ?_
        refine g_aload_n (pc := 43) dX7_fail_43 rfl rfl ?_
        refine g_getR (pc := 44) dX7_fail_44 fl_X7_19 sh_0 rfl ?_
        obtain ⟨⟨M4, v5⟩, ev5, hf⟩ := job hf
        refine g_callV (pc := 47) [.ref 1, .ref 33] [] dX7_fail_47 ml_X7_189 ck_X1_work cv_X1_work sh_54 rfl (by decide) (Nat.le_of_ble_eq_true rfl) (c_X1_work isX1_54 isX3_33 ev5) ?_
        show jGG μ_X7_fail 5 50 [some (.ref 0), some (.int x1), some (.int x2), some (.int x3), none] [.int v5] M4 (fun M' r' => M' = Mz ∧ r' = some (.int r))
        refine g_if_ne (pc := 50) 56 dX7_fail_50 rfl (fun hc31 => ?_) (fun hc31 => ?_)
        · replace hf := jifn hc31 hf
          refine g_aload_n (pc := 56) dX7_fail_56 rfl rfl ?_
          refine g_getR (pc := 57) dX7_fail_57 fl_X7_61 sh_0 rfl ?_
          refine g_getR (pc := 60) dX7_fail_60 fl_X7_300 sh_211 rfl ?_
          refine g_iload_n (pc := 63) dX7_fail_63 rfl rfl ?_
          obtain ⟨M6, eM6, hf⟩ := job hf
          refine g_callS (pc := 64) [.ref 215, .int x2] [] dX7_fail_64 ml_X7_248 ck_J7_fill_53178 cs_J7_fill_53178 rfl (by decide) (Nat.le_of_ble_eq_true rfl) (c_fill sh_215 (by decide)) ?_
          rw [Option.some.inj eM6]
          show jGG μ_X7_fail 5 67 [some (.ref 0), some (.int x1), some (.int x2), some (.int x3), none] [] M6 (fun M' r' => M' = Mz ∧ r' = some (.int r))
          refine g_aload_n (pc := 67) dX7_fail_67 rfl rfl ?_
          refine g_getR (pc := 68) dX7_fail_68 fl_X7_61 sh_0 rfl ?_
          refine g_getR (pc := 71) dX7_fail_71 fl_X7_300 sh_211 rfl ?_
          refine g_iload_n (pc := 74) dX7_fail_74 rfl rfl ?_
          refine g_iload_n (pc := 75) dX7_fail_75 rfl rfl ?_
          refine g_iload_n (pc := 76) dX7_fail_76 rfl rfl ?_
          refine g_iadd (pc := 77) dX7_fail_77 ?_
          obtain ⟨M7, eM7, hf⟩ := job hf
          refine g_iast (pc := 78) dX7_fail_78 sh_215 eM7 ?_
          refine g_iconst (pc := 79) 0 dX7_fail_79 rfl ?_
          refine g_istore (pc := 80) (lv' := [some (.ref 0), some (.int x1), some (.int x2), some (.int x3), some (.int 0)]) dX7_fail_80 (by decide) rfl ?_
          obtain ⟨t16, y9, hy8⟩ := job hf
          have K10 : jGG μ_X7_fail 5 135 [some (.ref 0), none, none, none, none] [] t16 (fun M' r' => M' = Mz ∧ r' = some (.int r)) := by
            replace hf := hy8
            refine g_aload_n (pc := 135) dX7_fail_135 rfl rfl ?_
            refine g_getR (pc := 136) dX7_fail_136 fl_X7_61 sh_0 rfl ?_
            refine g_aload_n (pc := 139) dX7_fail_139 rfl rfl ?_
            refine g_getR (pc := 140) dX7_fail_140 fl_X7_10 sh_0 rfl ?_
            refine g_aload_n (pc := 143) dX7_fail_143 rfl rfl ?_
            refine g_getR (pc := 144) dX7_fail_144 fl_X7_19 sh_0 rfl ?_
            obtain ⟨⟨M28, v29⟩, ev29, hf⟩ := job hf
            refine g_callV (pc := 147) [.ref 1, .ref 33] [] dX7_fail_147 ml_X7_189 ck_X1_work cv_X1_work sh_211 rfl (by decide) (Nat.le_of_ble_eq_true rfl) (c_X1_work isX1_211 isX3_33 ev29) ?_
            show jGG μ_X7_fail 5 150 [some (.ref 0), none, none, none, none] [.int v29] M28 (fun M' r' => M' = Mz ∧ r' = some (.int r))
            refine g_pop (pc := 150) dX7_fail_150 rfl ?_
            refine g_aload_n (pc := 151) dX7_fail_151 rfl rfl ?_
            refine g_aload_n (pc := 152) dX7_fail_152 rfl rfl ?_
            refine g_getR (pc := 153) dX7_fail_153 fl_X7_10 sh_0 rfl ?_
            refine g_getI (pc := 156) dX7_fail_156 fl_X7_97 sh_1 rfl ?_
            refine g_putI (pc := 159) dX7_fail_159 fp_X7_64 sh_0 rfl ?_
            obtain ⟨M30, eM30, hf⟩ := job hf
            rw [Option.some.inj eM30]
            refine g_aload_n (pc := 162) dX7_fail_162 rfl rfl ?_
            refine g_getR (pc := 163) dX7_fail_163 fl_X7_61 sh_0 rfl ?_
            refine g_getI (pc := 166) dX7_fail_166 fl_X7_200 sh_211 rfl ?_
            obtain ⟨rfl, rfl⟩ := Prod.mk.inj (Option.some.inj hf)
            exact g_iret (pc := 169) dX7_fail_169 rfl ⟨rfl, rfl⟩
          refine g_weak (lv' := [some (.ref 0), some (.int x1), some (.int x2), none, some (.int 0)]) ⟨rfl, ⟨rfl, ⟨rfl, ⟨rfl, trivial⟩⟩⟩⟩ ?_
          refine jLp_ind (P := fun ((z14, M15) : Int32 × JMem) => jGG μ_X7_fail 5 82 [some (.ref 0), some (.int x1), some (.int x2), none, some (.int z14)] [] M15 (fun M' r' => M' = Mz ∧ r' = some (.int r))) ?_ N _ y9
          rintro ⟨z14, M15⟩ x_13 hf ih12 hx11
          show jGG μ_X7_fail 5 82 [some (.ref 0), some (.int x1), some (.int x2), none, some (.int z14)] [] M15 (fun M' r' => M' = Mz ∧ r' = some (.int r))
          refine g_iload (pc := 82) dX7_fail_82 rfl ?_
          refine g_aload_n (pc := 84) dX7_fail_84 rfl rfl ?_
          refine g_getR (pc := 85) dX7_fail_85 fl_X7_10 sh_0 rfl ?_
          refine g_getI (pc := 88) dX7_fail_88 fl_X7_97 sh_1 rfl ?_
          refine g_icmp_ge (pc := 91) 135 dX7_fail_91 rfl (fun hc27 => ?_) (fun hc27 => ?_)
          · replace hf := jifp hc27 hf
            have hf := hx11 _ (Option.some.inj hf).symm
            obtain rfl := hf
            exact g_weakK K10 ⟨rfl, trivial⟩
          · replace hf := jifn hc27 hf
            refine g_aload_n (pc := 94) dX7_fail_94 rfl rfl ?_
            refine g_getR (pc := 95) dX7_fail_95 fl_X7_61 sh_0 rfl ?_
            refine g_getR (pc := 98) dX7_fail_98 fl_X7_303 sh_211 rfl ?_
            refine g_iload (pc := 101) dX7_fail_101 rfl ?_
            refine g_aload_n (pc := 103) dX7_fail_103 rfl rfl ?_
            refine g_iload (pc := 104) dX7_fail_104 rfl ?_
            refine g_iload_n (pc := 106) dX7_fail_106 rfl rfl ?_
            refine g_iload_n (pc := 107) dX7_fail_107 rfl rfl ?_
            obtain ⟨v17, ev17, hf⟩ := job hf
            refine g_callV (pc := 108) [.int z14, .int x1, .int x2] [.int z14, .ref 214] dX7_fail_108 ml_X7_306 ck_X7_stays cv_X7_stays sh_0 rfl (by decide) (Nat.le_of_ble_eq_true rfl) (c_X7_stays ev17) ?_
            show jGG μ_X7_fail 5 111 [some (.ref 0), some (.int x1), some (.int x2), none, some (.int z14)] [.int v17, .int z14, .ref 214] M15 (fun M' r' => M' = Mz ∧ r' = some (.int r))
            obtain ⟨u25, hf, hy19⟩ := job hf
            have K21 : jGG μ_X7_fail 5 128 [some (.ref 0), some (.int x1), some (.int x2), none, some (.int z14)] [.int u25, .int z14, .ref 214] M15 (fun M' r' => M' = Mz ∧ r' = some (.int r)) := by
              replace hf := hy19
              obtain ⟨M26, eM26, hf⟩ := job hf
              refine g_iast (pc := 128) dX7_fail_128 sh_214 eM26 ?_
              refine g_iinc (pc := 129) (lv' := [some (.ref 0), some (.int x1), some (.int x2), none, some (.int (z14 + 1))]) (z14 + 1) dX7_fail_129 rfl rfl (by decide) rfl ?_
              refine g_goto (pc := 132) 82 dX7_fail_132 rfl ?_
              have hih : jGG μ_X7_fail 5 82 [some (.ref 0), some (.int x1), some (.int x2), none, some (.int (z14 + 1))] [] M26 (fun M' r' => M' = Mz ∧ r' = some (.int r)) := ih12 (z14 + 1, M26) (Option.some.inj hf).symm
              exact g_weakK hih ⟨rfl, ⟨rfl, ⟨rfl, ⟨rfl, trivial⟩⟩⟩⟩
            refine g_if_eq (pc := 111) 127 dX7_fail_111 rfl (fun hc24 => ?_) (fun hc24 => ?_)
            · replace hf := jifp hc24 hf
              refine g_iconst (pc := 127) (-1) dX7_fail_127 rfl ?_
              obtain rfl := Option.some.inj hf
              exact g_weakK (K21) ⟨rfl, ⟨rfl, ⟨rfl, ⟨rfl, trivial⟩⟩⟩⟩
            · replace hf := jifn hc24 hf
              refine g_aload_n (pc := 114) dX7_fail_114 rfl rfl ?_
              refine g_getR (pc := 115) dX7_fail_115 fl_X7_33 sh_0 rfl ?_
              refine g_getR (pc := 118) dX7_fail_118 fl_X7_203 sh_54 rfl ?_
              refine g_iload (pc := 121) dX7_fail_121 rfl ?_
              obtain ⟨v23, ev23, hf⟩ := job hf
              refine g_iald (pc := 123) dX7_fail_123 sh_55 ev23 ?_
              refine g_goto (pc := 124) 128 dX7_fail_124 rfl ?_
              obtain rfl := Option.some.inj hf
              exact g_weakK (K21) ⟨rfl, ⟨rfl, ⟨rfl, ⟨rfl, trivial⟩⟩⟩⟩
        · replace hf := jifp hc31 hf
          refine g_ldc (pc := 53) (-100003) dX7_fail_53 lc_X7_180 ?_
          obtain ⟨rfl, rfl⟩ := Prod.mk.inj (Option.some.inj hf)
          exact g_iret (pc := 55) dX7_fail_55 rfl ⟨rfl, rfl⟩
      · replace hf := jifn hc32 hf
        refine g_ldc (pc := 32) (-100002) dX7_fail_32 lc_X7_72 ?_
        obtain ⟨rfl, rfl⟩ := Prod.mk.inj (Option.some.inj hf)
        exact g_iret (pc := 34) dX7_fail_34 rfl ⟨rfl, rfl⟩
  · replace hf := jifp hc34 hf
    refine g_ldc (pc := 8) (-100001) dX7_fail_8 lc_X7_92 ?_
    obtain ⟨rfl, rfl⟩ := Prod.mk.inj (Option.some.inj hf)
    exact g_iret (pc := 10) dX7_fail_10 rfl ⟨rfl, rfl⟩
def f_X7_mended (M : JMem) (x1 : Int32) (x2 : Int32) : Option (Int32) := (f_X7_isStep M x1).bind fun v1 => (if v1 = 0 then some (-100001) else (f_X7_isOut M x2 0 1).bind fun v2 => (if v2 = 0 then (if x1 < (M 0 9) then (if x2 = 0 then (jrd M 212 32 x1).bind fun v5 => some v5 else (jrd M 214 32 x1).bind fun v3 => (if v3 = ((-1)) then some 0 else some 1)) else some (-1)) else some (-100002)))
set_option maxHeartbeats 4000000 in
theorem c_X7_mended {M : JMem} {x1 : Int32} {x2 : Int32} {r : Int32} (hf : f_X7_mended M x1 x2 = some r) : jCo yX7_mended μ_X7_mended 3 M [.ref 0, .int x1, .int x2] M (some (.int r)) := by
  refine jCt_of (by decide +kernel) rfl (by simp [Value.category]) (Nat.le_of_ble_eq_true rfl) ?_
  unfold f_X7_mended at hf
  show jGG μ_X7_mended 3 0 [some (.ref 0), some (.int x1), some (.int x2)] [] M (fun M' r' => M' = M ∧ r' = some (.int r))
  refine g_aload_n (pc := 0) dX7_mended_0 rfl rfl ?_
  refine g_iload_n (pc := 1) dX7_mended_1 rfl rfl ?_
  obtain ⟨v1, ev1, hf⟩ := job hf
  refine g_callV (pc := 2) [.int x1] [] dX7_mended_2 ml_X7_104 ck_X7_isStep cv_X7_isStep sh_0 rfl (by decide) (Nat.le_of_ble_eq_true rfl) (c_X7_isStep ev1) ?_
  show jGG μ_X7_mended 3 5 [some (.ref 0), some (.int x1), some (.int x2)] [.int v1] M (fun M' r' => M' = M ∧ r' = some (.int r))
  refine g_if_ne (pc := 5) 11 dX7_mended_5 rfl (fun hc9 => ?_) (fun hc9 => ?_)
  · replace hf := jifn hc9 hf
    refine g_iload_n (pc := 11) dX7_mended_11 rfl rfl ?_
    refine g_iconst (pc := 12) 0 dX7_mended_12 rfl ?_
    refine g_iconst (pc := 13) 1 dX7_mended_13 rfl ?_
    obtain ⟨v2, ev2, hf⟩ := job hf
    refine g_callS (pc := 14) [.int x2, .int 0, .int 1] [] dX7_mended_14 ml_X7_68 ck_X7_isOut cs_X7_isOut rfl (by decide) (Nat.le_of_ble_eq_true rfl) (c_X7_isOut ev2) ?_
    show jGG μ_X7_mended 3 17 [some (.ref 0), some (.int x1), some (.int x2)] [.int v2] M (fun M' r' => M' = M ∧ r' = some (.int r))
    refine g_if_eq (pc := 17) 23 dX7_mended_17 rfl (fun hc8 => ?_) (fun hc8 => ?_)
    · replace hf := jifp hc8 hf
      refine g_iload_n (pc := 23) dX7_mended_23 rfl rfl ?_
      refine g_aload_n (pc := 24) dX7_mended_24 rfl rfl ?_
      refine g_getI (pc := 25) dX7_mended_25 fl_X7_64 sh_0 rfl ?_
      refine g_icmp_lt (pc := 28) 33 dX7_mended_28 rfl (fun hc7 => ?_) (fun hc7 => ?_)
      · replace hf := jifp hc7 hf
        refine g_iload_n (pc := 33) dX7_mended_33 rfl rfl ?_
        refine g_if_ne (pc := 34) 47 dX7_mended_34 rfl (fun hc6 => ?_) (fun hc6 => ?_)
        · replace hf := jifn hc6 hf
          refine g_aload_n (pc := 47) dX7_mended_47 rfl rfl ?_
          refine g_getR (pc := 48) dX7_mended_48 fl_X7_61 sh_0 rfl ?_
          refine g_getR (pc := 51) dX7_mended_51 fl_X7_303 sh_211 rfl ?_
          refine g_iload_n (pc := 54) dX7_mended_54 rfl rfl ?_
          obtain ⟨v3, ev3, hf⟩ := job hf
          refine g_iald (pc := 55) dX7_mended_55 sh_214 ev3 ?_
          refine g_iconst (pc := 56) (-1) dX7_mended_56 rfl ?_
          refine g_icmp_eq (pc := 57) 64 dX7_mended_57 rfl (fun hc4 => ?_) (fun hc4 => ?_)
          · replace hf := jifp hc4 hf
            refine g_iconst (pc := 64) 0 dX7_mended_64 rfl ?_
            obtain rfl := Option.some.inj hf
            exact g_iret (pc := 65) dX7_mended_65 rfl ⟨rfl, rfl⟩
          · replace hf := jifn hc4 hf
            refine g_iconst (pc := 60) 1 dX7_mended_60 rfl ?_
            refine g_goto (pc := 61) 65 dX7_mended_61 rfl ?_
            obtain rfl := Option.some.inj hf
            exact g_iret (pc := 65) dX7_mended_65 rfl ⟨rfl, rfl⟩
        · replace hf := jifp hc6 hf
          refine g_aload_n (pc := 37) dX7_mended_37 rfl rfl ?_
          refine g_getR (pc := 38) dX7_mended_38 fl_X7_61 sh_0 rfl ?_
          refine g_getR (pc := 41) dX7_mended_41 fl_X7_203 sh_211 rfl ?_
          refine g_iload_n (pc := 44) dX7_mended_44 rfl rfl ?_
          obtain ⟨v5, ev5, hf⟩ := job hf
          refine g_iald (pc := 45) dX7_mended_45 sh_212 ev5 ?_
          obtain rfl := Option.some.inj hf
          exact g_iret (pc := 46) dX7_mended_46 rfl ⟨rfl, rfl⟩
      · replace hf := jifn hc7 hf
        refine g_iconst (pc := 31) (-1) dX7_mended_31 rfl ?_
        obtain rfl := Option.some.inj hf
        exact g_iret (pc := 32) dX7_mended_32 rfl ⟨rfl, rfl⟩
    · replace hf := jifn hc8 hf
      refine g_ldc (pc := 20) (-100002) dX7_mended_20 lc_X7_72 ?_
      obtain rfl := Option.some.inj hf
      exact g_iret (pc := 22) dX7_mended_22 rfl ⟨rfl, rfl⟩
  · replace hf := jifp hc9 hf
    refine g_ldc (pc := 8) (-100001) dX7_mended_8 lc_X7_92 ?_
    obtain rfl := Option.some.inj hf
    exact g_iret (pc := 10) dX7_mended_10 rfl ⟨rfl, rfl⟩
