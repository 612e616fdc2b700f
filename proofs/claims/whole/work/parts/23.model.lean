def f_X8_byAhead (N : Nat) (M : JMem) : Option (JMem) := ((jLp (σ := Int32 × JMem) (ρ := JMem) N (fun ((z7, M8) : Int32 × JMem) => (if (M8 221 11) ≤ z7 then some (Sum.inr M8) else ((jLp (σ := Int32 × JMem) (ρ := JMem) N (fun ((z16, M17) : Int32 × JMem) => (if (M17 221 11) ≤ z16 then some (Sum.inr M17) else (f_X8_isAhead M17 z7 z16).bind fun v19 => (((if v19 = 0 then some (M17) else (jrd M17 242 32 z7).bind fun v25 => (jrd M17 229 32 z7).bind fun v26 => (f_X8_head M17 z16 (v25 + v26)).bind fun M27 => (jrd M27 243 32 z16).bind fun v28 => (jrd M27 229 32 z16).bind fun v29 => (f_X8_dead M27 z7 (v28 - v29)).bind fun M30 => some (M30)) : Option (JMem)).bind fun M32 => some (Sum.inl (z16 + 1, M32))))) (0, M8)).bind fun t18 => some (Sum.inl (z7 + 1, t18))))) (0, M)).bind fun t9 => some t9)
set_option maxHeartbeats 4000000 in
theorem c_X8_byAhead {N : Nat} {M : JMem} {Mz : JMem} (hf : f_X8_byAhead N M = some Mz) : jCo yX8_byAhead μ_X8_byAhead 2 M [.ref 221] Mz none := by
  refine jCt_of (by decide +kernel) rfl (by simp [Value.category]) (Nat.le_of_ble_eq_true rfl) ?_
  unfold f_X8_byAhead at hf
  show jGG μ_X8_byAhead 2 0 [some (.ref 221), none, none] [] M (fun M' r' => M' = Mz ∧ r' = none)
  refine g_iconst (pc := 0) 0 dX8_byAhead_0 rfl ?_
  refine g_istore_n (pc := 1) (lv' := [some (.ref 221), some (.int 0), none]) dX8_byAhead_1 rfl (by decide) rfl ?_
  obtain ⟨t9, y2, hy1⟩ := job hf
  have K3 : jGG μ_X8_byAhead 2 77 [none, none, none] [] t9 (fun M' r' => M' = Mz ∧ r' = none) := by
    replace hf := hy1
    obtain rfl := Option.some.inj hf
    exact g_vret (pc := 77) dX8_byAhead_77 rfl ⟨rfl, rfl⟩
  refine g_weak (lv' := [some (.ref 221), some (.int 0), none]) ⟨rfl, ⟨rfl, trivial⟩⟩ ?_
  refine jLp_ind (P := fun ((z7, M8) : Int32 × JMem) => jGG μ_X8_byAhead 2 2 [some (.ref 221), some (.int z7), none] [] M8 (fun M' r' => M' = Mz ∧ r' = none)) ?_ N _ y2
  rintro ⟨z7, M8⟩ x_6 hf ih5 hx4
  show jGG μ_X8_byAhead 2 2 [some (.ref 221), some (.int z7), none] [] M8 (fun M' r' => M' = Mz ∧ r' = none)
  refine g_iload_n (pc := 2) dX8_byAhead_2 rfl rfl ?_
  refine g_aload_n (pc := 3) dX8_byAhead_3 rfl rfl ?_
  refine g_getI (pc := 4) dX8_byAhead_4 fl_X8_143 sh_221 rfl ?_
  refine g_icmp_ge (pc := 7) 77 dX8_byAhead_7 rfl (fun hc34 => ?_) (fun hc34 => ?_)
  · replace hf := jifp hc34 hf
    have hf := hx4 _ (Option.some.inj hf).symm
    obtain rfl := hf
    exact g_weakK K3 trivial
  · replace hf := jifn hc34 hf
    refine g_iconst (pc := 10) 0 dX8_byAhead_10 rfl ?_
    refine g_istore_n (pc := 11) (lv' := [some (.ref 221), some (.int z7), some (.int 0)]) dX8_byAhead_11 rfl (by decide) rfl ?_
    obtain ⟨t18, y11, hy10⟩ := job hf
    have K12 : jGG μ_X8_byAhead 2 71 [some (.ref 221), some (.int z7), none] [] t18 (fun M' r' => M' = Mz ∧ r' = none) := by
      replace hf := hy10
      refine g_iinc (pc := 71) (lv' := [some (.ref 221), some (.int (z7 + 1)), none]) (z7 + 1) dX8_byAhead_71 rfl rfl (by decide) rfl ?_
      refine g_goto (pc := 74) 2 dX8_byAhead_74 rfl ?_
      have hih : jGG μ_X8_byAhead 2 2 [some (.ref 221), some (.int (z7 + 1)), none] [] t18 (fun M' r' => M' = Mz ∧ r' = none) := ih5 (z7 + 1, t18) (Option.some.inj hf).symm
      exact g_weakK hih ⟨rfl, ⟨rfl, trivial⟩⟩
    refine g_weak (lv' := [some (.ref 221), some (.int z7), some (.int 0)]) ⟨rfl, ⟨rfl, ⟨rfl, trivial⟩⟩⟩ ?_
    refine jLp_ind (P := fun ((z16, M17) : Int32 × JMem) => jGG μ_X8_byAhead 2 12 [some (.ref 221), some (.int z7), some (.int z16)] [] M17 (fun M' r' => M' = Mz ∧ r' = none)) ?_ N _ y11
    rintro ⟨z16, M17⟩ x_15 hf ih14 hx13
    show jGG μ_X8_byAhead 2 12 [some (.ref 221), some (.int z7), some (.int z16)] [] M17 (fun M' r' => M' = Mz ∧ r' = none)
    refine g_iload_n (pc := 12) dX8_byAhead_12 rfl rfl ?_
    refine g_aload_n (pc := 13) dX8_byAhead_13 rfl rfl ?_
    refine g_getI (pc := 14) dX8_byAhead_14 fl_X8_143 sh_221 rfl ?_
    refine g_icmp_ge (pc := 17) 71 dX8_byAhead_17 rfl (fun hc33 => ?_) (fun hc33 => ?_)
    · replace hf := jifp hc33 hf
      have hf := hx13 _ (Option.some.inj hf).symm
      obtain rfl := hf
      exact g_weakK K12 ⟨rfl, ⟨rfl, trivial⟩⟩
    · replace hf := jifn hc33 hf
      refine g_aload_n (pc := 20) dX8_byAhead_20 rfl rfl ?_
      refine g_iload_n (pc := 21) dX8_byAhead_21 rfl rfl ?_
      refine g_iload_n (pc := 22) dX8_byAhead_22 rfl rfl ?_
      obtain ⟨v19, ev19, hf⟩ := job hf
      refine g_callV (pc := 23) [.int z7, .int z16] [] dX8_byAhead_23 ml_X8_245 ck_X8_isAhead cv_X8_isAhead sh_221 rfl (by decide) (Nat.le_of_ble_eq_true rfl) (c_X8_isAhead ev19) ?_
      show jGG μ_X8_byAhead 2 26 [some (.ref 221), some (.int z7), some (.int z16)] [.int v19] M17 (fun M' r' => M' = Mz ∧ r' = none)
      obtain ⟨M32, hf, hy21⟩ := job hf
      have K23 : jGG μ_X8_byAhead 2 65 [some (.ref 221), some (.int z7), some (.int z16)] [] M32 (fun M' r' => M' = Mz ∧ r' = none) := by
        replace hf := hy21
        refine g_iinc (pc := 65) (lv' := [some (.ref 221), some (.int z7), some (.int (z16 + 1))]) (z16 + 1) dX8_byAhead_65 rfl rfl (by decide) rfl ?_
        refine g_goto (pc := 68) 12 dX8_byAhead_68 rfl ?_
        have hih : jGG μ_X8_byAhead 2 12 [some (.ref 221), some (.int z7), some (.int (z16 + 1))] [] M32 (fun M' r' => M' = Mz ∧ r' = none) := ih14 (z16 + 1, M32) (Option.some.inj hf).symm
        exact g_weakK hih ⟨rfl, ⟨rfl, ⟨rfl, trivial⟩⟩⟩
      refine g_if_eq (pc := 26) 65 dX8_byAhead_26 rfl (fun hc31 => ?_) (fun hc31 => ?_)
      · replace hf := jifp hc31 hf
        obtain rfl := Option.some.inj hf
        exact g_weakK (K23) ⟨rfl, ⟨rfl, ⟨rfl, trivial⟩⟩⟩
      · replace hf := jifn hc31 hf
        refine g_aload_n (pc := 29) dX8_byAhead_29 rfl rfl ?_
        refine g_iload_n (pc := 30) dX8_byAhead_30 rfl rfl ?_
        refine g_aload_n (pc := 31) dX8_byAhead_31 rfl rfl ?_
        refine g_getR (pc := 32) dX8_byAhead_32 fl_X8_71 sh_221 rfl ?_
        refine g_iload_n (pc := 35) dX8_byAhead_35 rfl rfl ?_
        obtain ⟨v25, ev25, hf⟩ := job hf
        refine g_iald (pc := 36) dX8_byAhead_36 sh_242 ev25 ?_
        refine g_aload_n (pc := 37) dX8_byAhead_37 rfl rfl ?_
        refine g_getR (pc := 38) dX8_byAhead_38 fl_X8_31 sh_221 rfl ?_
        refine g_iload_n (pc := 41) dX8_byAhead_41 rfl rfl ?_
        obtain ⟨v26, ev26, hf⟩ := job hf
        refine g_iald (pc := 42) dX8_byAhead_42 sh_229 ev26 ?_
        refine g_iadd (pc := 43) dX8_byAhead_43 ?_
        obtain ⟨M27, eM27, hf⟩ := job hf
        refine g_callV (pc := 44) [.int z16, .int (v25 + v26)] [] dX8_byAhead_44 ml_X8_239 ck_X8_head cv_X8_head sh_221 rfl (by decide) (Nat.le_of_ble_eq_true rfl) (c_X8_head eM27) ?_
        show jGG μ_X8_byAhead 2 47 [some (.ref 221), some (.int z7), some (.int z16)] [] M27 (fun M' r' => M' = Mz ∧ r' = none)
        refine g_aload_n (pc := 47) dX8_byAhead_47 rfl rfl ?_
        refine g_iload_n (pc := 48) dX8_byAhead_48 rfl rfl ?_
        refine g_aload_n (pc := 49) dX8_byAhead_49 rfl rfl ?_
        refine g_getR (pc := 50) dX8_byAhead_50 fl_X8_74 sh_221 rfl ?_
        refine g_iload_n (pc := 53) dX8_byAhead_53 rfl rfl ?_
        obtain ⟨v28, ev28, hf⟩ := job hf
        refine g_iald (pc := 54) dX8_byAhead_54 sh_243 ev28 ?_
        refine g_aload_n (pc := 55) dX8_byAhead_55 rfl rfl ?_
        refine g_getR (pc := 56) dX8_byAhead_56 fl_X8_31 sh_221 rfl ?_
        refine g_iload_n (pc := 59) dX8_byAhead_59 rfl rfl ?_
        obtain ⟨v29, ev29, hf⟩ := job hf
        refine g_iald (pc := 60) dX8_byAhead_60 sh_229 ev29 ?_
        refine g_isub (pc := 61) dX8_byAhead_61 ?_
        obtain ⟨M30, eM30, hf⟩ := job hf
        refine g_callV (pc := 62) [.int z7, .int (v28 - v29)] [] dX8_byAhead_62 ml_X8_242 ck_X8_dead cv_X8_dead sh_221 rfl (by decide) (Nat.le_of_ble_eq_true rfl) (c_X8_dead eM30) ?_
        show jGG μ_X8_byAhead 2 65 [some (.ref 221), some (.int z7), some (.int z16)] [] M30 (fun M' r' => M' = Mz ∧ r' = none)
        obtain rfl := Option.some.inj hf
        exact g_weakK (K23) ⟨rfl, ⟨rfl, ⟨rfl, trivial⟩⟩⟩
def f_X8_isOn (M : JMem) (x1 : Int32) (x2 : Int32) : Option (Int32) := (jrd M 228 32 x1).bind fun v1 => (if v1 = x2 then some 1 else some 0)
set_option maxHeartbeats 4000000 in
theorem c_X8_isOn {M : JMem} {x1 : Int32} {x2 : Int32} {r : Int32} (hf : f_X8_isOn M x1 x2 = some r) : jCo yX8_isOn μ_X8_isOn 1 M [.ref 221, .int x1, .int x2] M (some (.int r)) := by
  refine jCt_of (by decide +kernel) rfl (by simp [Value.category]) (Nat.le_of_ble_eq_true rfl) ?_
  unfold f_X8_isOn at hf
  show jGG μ_X8_isOn 1 0 [some (.ref 221), some (.int x1), some (.int x2)] [] M (fun M' r' => M' = M ∧ r' = some (.int r))
  refine g_aload_n (pc := 0) dX8_isOn_0 rfl rfl ?_
  refine g_getR (pc := 1) dX8_isOn_1 fl_X8_28 sh_221 rfl ?_
  refine g_iload_n (pc := 4) dX8_isOn_4 rfl rfl ?_
  obtain ⟨v1, ev1, hf⟩ := job hf
  refine g_iald (pc := 5) dX8_isOn_5 sh_228 ev1 ?_
  refine g_iload_n (pc := 6) dX8_isOn_6 rfl rfl ?_
  refine g_icmp_ne (pc := 7) 14 dX8_isOn_7 rfl (fun hc2 => ?_) (fun hc2 => ?_)
  · replace hf := jifn hc2 hf
    refine g_iconst (pc := 14) 0 dX8_isOn_14 rfl ?_
    obtain rfl := Option.some.inj hf
    exact g_zret (pc := 15) dX8_isOn_15 rfl (Or.inl rfl) ⟨rfl, rfl⟩
  · replace hf := jifp hc2 hf
    refine g_iconst (pc := 10) 1 dX8_isOn_10 rfl ?_
    refine g_goto (pc := 11) 15 dX8_isOn_11 rfl ?_
    obtain rfl := Option.some.inj hf
    exact g_zret (pc := 15) dX8_isOn_15 rfl (Or.inr rfl) ⟨rfl, rfl⟩
def f_X8_byPairs (N : Nat) (M : JMem) (x1 : Int32) : Option (JMem) := ((jLp (σ := Int32 × JMem) (ρ := JMem) N (fun ((z7, M8) : Int32 × JMem) => (if (M8 221 11) ≤ z7 then some (Sum.inr M8) else (if (M8 221 29) = 0 then ((jLp (σ := Int32 × JMem) (ρ := JMem) N (fun ((z16, M17) : Int32 × JMem) => (if (M17 221 11) ≤ z16 then some (Sum.inr M17) else (if (M17 221 29) = 0 then (f_X8_isOn M17 z7 x1).bind fun v19 => (((if v19 = 0 then some (M17) else (f_X8_isOn M17 z16 x1).bind fun v25 => (if v25 = 0 then some (M17) else (f_X8_isAhead M17 z7 z16).bind fun v26 => (if v26 = 0 then (f_X8_isAhead M17 z16 z7).bind fun v27 => (if v27 = 0 then (jrd M17 242 32 z7).bind fun v28 => (jrd M17 229 32 z7).bind fun v29 => (jrd M17 229 32 z16).bind fun v30 => (jrd M17 243 32 z16).bind fun v31 => (((if ((v28 + v29) + v30) ≤ v31 then some (0) else some (1)) : Option (Int32)).bind fun u38 => (jrd M17 242 32 z16).bind fun v39 => (jrd M17 229 32 z16).bind fun v40 => (jrd M17 229 32 z7).bind fun v41 => (jrd M17 243 32 z7).bind fun v42 => (((if ((v39 + v40) + v41) ≤ v42 then some (0) else some (1)) : Option (Int32)).bind fun u49 => (jcase (α := JMem) (β := Unit) (if u38 = 0 then some (Sum.inr ()) else (if u49 = 0 then some (Sum.inr ()) else (some (jup M17 221 29 1)).bind fun M55 => some (Sum.inl (M55)))) fun _ => (if u38 = 0 then (if u49 = 0 then some (M17) else (f_X8_tell M17 z7 z16).bind fun M58 => some (M58)) else (f_X8_tell M17 z16 z7).bind fun M60 => some (M60))))) else some (M17)) else some (M17)))) : Option (JMem)).bind fun M66 => some (Sum.inl (z16 + 1, M66))) else some (Sum.inr M17)))) (z7 + 1, M8)).bind fun t18 => some (Sum.inl (z7 + 1, t18))) else some (Sum.inr M8)))) (0, M)).bind fun t9 => some t9)
set_option maxHeartbeats 4000000 in
theorem c_X8_byPairs {N : Nat} {M : JMem} {x1 : Int32} {Mz : JMem} (hf : f_X8_byPairs N M x1 = some Mz) : jCo yX8_byPairs μ_X8_byPairs 2 M [.ref 221, .int x1] Mz none := by
  refine jCt_of (by decide +kernel) rfl (by simp [Value.category]) (Nat.le_of_ble_eq_true rfl) ?_
  unfold f_X8_byPairs at hf
  show jGG μ_X8_byPairs 2 0 [some (.ref 221), some (.int x1), none, none, none, none] [] M (fun M' r' => M' = Mz ∧ r' = none)
  refine g_iconst (pc := 0) 0 dX8_byPairs_0 rfl ?_
  refine g_istore_n (pc := 1) (lv' := [some (.ref 221), some (.int x1), some (.int 0), none, none, none]) dX8_byPairs_1 rfl (by decide) rfl ?_
  obtain ⟨t9, y2, hy1⟩ := job hf
  have K3 : jGG μ_X8_byPairs 2 202 [none, none, none, none, none, none] [] t9 (fun M' r' => M' = Mz ∧ r' = none) := by
    replace hf := hy1
    obtain rfl := Option.some.inj hf
    exact g_vret (pc := 202) dX8_byPairs_202 rfl ⟨rfl, rfl⟩
  refine g_weak (lv' := [some (.ref 221), some (.int x1), some (.int 0), none, none, none]) ⟨rfl, ⟨rfl, ⟨rfl, trivial⟩⟩⟩ ?_
  refine jLp_ind (P := fun ((z7, M8) : Int32 × JMem) => jGG μ_X8_byPairs 2 2 [some (.ref 221), some (.int x1), some (.int z7), none, none, none] [] M8 (fun M' r' => M' = Mz ∧ r' = none)) ?_ N _ y2
  rintro ⟨z7, M8⟩ x_6 hf ih5 hx4
  show jGG μ_X8_byPairs 2 2 [some (.ref 221), some (.int x1), some (.int z7), none, none, none] [] M8 (fun M' r' => M' = Mz ∧ r' = none)
  refine g_iload_n (pc := 2) dX8_byPairs_2 rfl rfl ?_
  refine g_aload_n (pc := 3) dX8_byPairs_3 rfl rfl ?_
  refine g_getI (pc := 4) dX8_byPairs_4 fl_X8_143 sh_221 rfl ?_
  refine g_icmp_ge (pc := 7) 202 dX8_byPairs_7 rfl (fun hc70 => ?_) (fun hc70 => ?_)
  · replace hf := jifp hc70 hf
    have hf := hx4 _ (Option.some.inj hf).symm
    obtain rfl := hf
    exact g_weakK K3 trivial
  · replace hf := jifn hc70 hf
    refine g_aload_n (pc := 10) dX8_byPairs_10 rfl rfl ?_
    refine g_getI (pc := 11) dX8_byPairs_11 fl_X8_236 sh_221 rfl ?_
    refine g_if_ne (pc := 14) 202 dX8_byPairs_14 rfl (fun hc69 => ?_) (fun hc69 => ?_)
    · replace hf := jifn hc69 hf
      have hf := hx4 _ (Option.some.inj hf).symm
      obtain rfl := hf
      exact g_weakK K3 trivial
    · replace hf := jifp hc69 hf
      refine g_iload_n (pc := 17) dX8_byPairs_17 rfl rfl ?_
      refine g_iconst (pc := 18) 1 dX8_byPairs_18 rfl ?_
      refine g_iadd (pc := 19) dX8_byPairs_19 ?_
      refine g_istore_n (pc := 20) (lv' := [some (.ref 221), some (.int x1), some (.int z7), some (.int (z7 + 1)), none, none]) dX8_byPairs_20 rfl (by decide) rfl ?_
      obtain ⟨t18, y11, hy10⟩ := job hf
      have K12 : jGG μ_X8_byPairs 2 196 [some (.ref 221), some (.int x1), some (.int z7), none, none, none] [] t18 (fun M' r' => M' = Mz ∧ r' = none) := by
        replace hf := hy10
        refine g_iinc (pc := 196) (lv' := [some (.ref 221), some (.int x1), some (.int (z7 + 1)), none, none, none]) (z7 + 1) dX8_byPairs_196 rfl rfl (by decide) rfl ?_
        refine g_goto (pc := 199) 2 dX8_byPairs_199 rfl ?_
        have hih : jGG μ_X8_byPairs 2 2 [some (.ref 221), some (.int x1), some (.int (z7 + 1)), none, none, none] [] t18 (fun M' r' => M' = Mz ∧ r' = none) := ih5 (z7 + 1, t18) (Option.some.inj hf).symm
        exact g_weakK hih ⟨rfl, ⟨rfl, ⟨rfl, trivial⟩⟩⟩
      refine g_weak (lv' := [some (.ref 221), some (.int x1), some (.int z7), some (.int (z7 + 1)), none, none]) ⟨rfl, ⟨rfl, ⟨rfl, ⟨rfl, trivial⟩⟩⟩⟩ ?_
      refine jLp_ind (P := fun ((z16, M17) : Int32 × JMem) => jGG μ_X8_byPairs 2 21 [some (.ref 221), some (.int x1), some (.int z7), some (.int z16), none, none] [] M17 (fun M' r' => M' = Mz ∧ r' = none)) ?_ N _ y11
      rintro ⟨z16, M17⟩ x_15 hf ih14 hx13
      show jGG μ_X8_byPairs 2 21 [some (.ref 221), some (.int x1), some (.int z7), some (.int z16), none, none] [] M17 (fun M' r' => M' = Mz ∧ r' = none)
      refine g_iload_n (pc := 21) dX8_byPairs_21 rfl rfl ?_
      refine g_aload_n (pc := 22) dX8_byPairs_22 rfl rfl ?_
      refine g_getI (pc := 23) dX8_byPairs_23 fl_X8_143 sh_221 rfl ?_
      refine g_icmp_ge (pc := 26) 196 dX8_byPairs_26 rfl (fun hc68 => ?_) (fun hc68 => ?_)
      · replace hf := jifp hc68 hf
        have hf := hx13 _ (Option.some.inj hf).symm
        obtain rfl := hf
        exact g_weakK K12 ⟨rfl, ⟨rfl, ⟨rfl, trivial⟩⟩⟩
      · replace hf := jifn hc68 hf
        refine g_aload_n (pc := 29) dX8_byPairs_29 rfl rfl ?_
        refine g_getI (pc := 30) dX8_byPairs_30 fl_X8_236 sh_221 rfl ?_
        refine g_if_ne (pc := 33) 196 dX8_byPairs_33 rfl (fun hc67 => ?_) (fun hc67 => ?_)
        · replace hf := jifn hc67 hf
          have hf := hx13 _ (Option.some.inj hf).symm
          obtain rfl := hf
          exact g_weakK K12 ⟨rfl, ⟨rfl, ⟨rfl, trivial⟩⟩⟩
        · replace hf := jifp hc67 hf
          refine g_aload_n (pc := 36) dX8_byPairs_36 rfl rfl ?_
          refine g_iload_n (pc := 37) dX8_byPairs_37 rfl rfl ?_
          refine g_iload_n (pc := 38) dX8_byPairs_38 rfl rfl ?_
          obtain ⟨v19, ev19, hf⟩ := job hf
          refine g_callV (pc := 39) [.int z7, .int x1] [] dX8_byPairs_39 ml_X8_248 ck_X8_isOn cv_X8_isOn sh_221 rfl (by decide) (Nat.le_of_ble_eq_true rfl) (c_X8_isOn ev19) ?_
          show jGG μ_X8_byPairs 2 42 [some (.ref 221), some (.int x1), some (.int z7), some (.int z16), none, none] [.int v19] M17 (fun M' r' => M' = Mz ∧ r' = none)
          obtain ⟨M66, hf, hy21⟩ := job hf
          have K23 : jGG μ_X8_byPairs 2 190 [some (.ref 221), some (.int x1), some (.int z7), some (.int z16), none, none] [] M66 (fun M' r' => M' = Mz ∧ r' = none) := by
            replace hf := hy21
            refine g_iinc (pc := 190) (lv' := [some (.ref 221), some (.int x1), some (.int z7), some (.int (z16 + 1)), none, none]) (z16 + 1) dX8_byPairs_190 rfl rfl (by decide) rfl ?_
            refine g_goto (pc := 193) 21 dX8_byPairs_193 rfl ?_
            have hih : jGG μ_X8_byPairs 2 21 [some (.ref 221), some (.int x1), some (.int z7), some (.int (z16 + 1)), none, none] [] M66 (fun M' r' => M' = Mz ∧ r' = none) := ih14 (z16 + 1, M66) (Option.some.inj hf).symm
            exact g_weakK hih ⟨rfl, ⟨rfl, ⟨rfl, ⟨rfl, trivial⟩⟩⟩⟩
          refine g_if_eq (pc := 42) 190 dX8_byPairs_42 rfl (fun hc65 => ?_) (fun hc65 => ?_)
          · replace hf := jifp hc65 hf
            obtain rfl := Option.some.inj hf
            exact g_weakK (K23) ⟨rfl, ⟨rfl, ⟨rfl, ⟨rfl, trivial⟩⟩⟩⟩
          · replace hf := jifn hc65 hf
            refine g_aload_n (pc := 45) dX8_byPairs_45 rfl rfl ?_
            refine g_iload_n (pc := 46) dX8_byPairs_46 rfl rfl ?_
            refine g_iload_n (pc := 47) dX8_byPairs_47 rfl rfl ?_
            obtain ⟨v25, ev25, hf⟩ := job hf
            refine g_callV (pc := 48) [.int z16, .int x1] [] dX8_byPairs_48 ml_X8_248 ck_X8_isOn cv_X8_isOn sh_221 rfl (by decide) (Nat.le_of_ble_eq_true rfl) (c_X8_isOn ev25) ?_
            show jGG μ_X8_byPairs 2 51 [some (.ref 221), some (.int x1), some (.int z7), some (.int z16), none, none] [.int v25] M17 (fun M' r' => M' = Mz ∧ r' = none)
            refine g_if_eq (pc := 51) 190 dX8_byPairs_51 rfl (fun hc64 => ?_) (fun hc64 => ?_)
            · replace hf := jifp hc64 hf
              obtain rfl := Option.some.inj hf
              exact g_weakK (K23) ⟨rfl, ⟨rfl, ⟨rfl, ⟨rfl, trivial⟩⟩⟩⟩
            · replace hf := jifn hc64 hf
              refine g_aload_n (pc := 54) dX8_byPairs_54 rfl rfl ?_
              refine g_iload_n (pc := 55) dX8_byPairs_55 rfl rfl ?_
              refine g_iload_n (pc := 56) dX8_byPairs_56 rfl rfl ?_
              obtain ⟨v26, ev26, hf⟩ := job hf
              refine g_callV (pc := 57) [.int z7, .int z16] [] dX8_byPairs_57 ml_X8_245 ck_X8_isAhead cv_X8_isAhead sh_221 rfl (by decide) (Nat.le_of_ble_eq_true rfl) (c_X8_isAhead ev26) ?_
              show jGG μ_X8_byPairs 2 60 [some (.ref 221), some (.int x1), some (.int z7), some (.int z16), none, none] [.int v26] M17 (fun M' r' => M' = Mz ∧ r' = none)
              refine g_if_ne (pc := 60) 190 dX8_byPairs_60 rfl (fun hc63 => ?_) (fun hc63 => ?_)
              · replace hf := jifn hc63 hf
                obtain rfl := Option.some.inj hf
                exact g_weakK (K23) ⟨rfl, ⟨rfl, ⟨rfl, ⟨rfl, trivial⟩⟩⟩⟩
              · replace hf := jifp hc63 hf
                refine g_aload_n (pc := 63) dX8_byPairs_63 rfl rfl ?_
                refine g_iload_n (pc := 64) dX8_byPairs_64 rfl rfl ?_
                refine g_iload_n (pc := 65) dX8_byPairs_65 rfl rfl ?_
                obtain ⟨v27, ev27, hf⟩ := job hf
                refine g_callV (pc := 66) [.int z16, .int z7] [] dX8_byPairs_66 ml_X8_245 ck_X8_isAhead cv_X8_isAhead sh_221 rfl (by decide) (Nat.le_of_ble_eq_true rfl) (c_X8_isAhead ev27) ?_
                show jGG μ_X8_byPairs 2 69 [some (.ref 221), some (.int x1), some (.int z7), some (.int z16), none, none] [.int v27] M17 (fun M' r' => M' = Mz ∧ r' = none)
                refine g_if_eq (pc := 69) 75 dX8_byPairs_69 rfl (fun hc62 => ?_) (fun hc62 => ?_)
                · replace hf := jifp hc62 hf
                  refine g_aload_n (pc := 75) dX8_byPairs_75 rfl rfl ?_
                  refine g_getR (pc := 76) dX8_byPairs_76 fl_X8_71 sh_221 rfl ?_
                  refine g_iload_n (pc := 79) dX8_byPairs_79 rfl rfl ?_
                  obtain ⟨v28, ev28, hf⟩ := job hf
                  refine g_iald (pc := 80) dX8_byPairs_80 sh_242 ev28 ?_
                  refine g_aload_n (pc := 81) dX8_byPairs_81 rfl rfl ?_
                  refine g_getR (pc := 82) dX8_byPairs_82 fl_X8_31 sh_221 rfl ?_
                  refine g_iload_n (pc := 85) dX8_byPairs_85 rfl rfl ?_
                  obtain ⟨v29, ev29, hf⟩ := job hf
                  refine g_iald (pc := 86) dX8_byPairs_86 sh_229 ev29 ?_
                  refine g_iadd (pc := 87) dX8_byPairs_87 ?_
                  refine g_aload_n (pc := 88) dX8_byPairs_88 rfl rfl ?_
                  refine g_getR (pc := 89) dX8_byPairs_89 fl_X8_31 sh_221 rfl ?_
                  refine g_iload_n (pc := 92) dX8_byPairs_92 rfl rfl ?_
                  obtain ⟨v30, ev30, hf⟩ := job hf
                  refine g_iald (pc := 93) dX8_byPairs_93 sh_229 ev30 ?_
                  refine g_iadd (pc := 94) dX8_byPairs_94 ?_
                  refine g_aload_n (pc := 95) dX8_byPairs_95 rfl rfl ?_
                  refine g_getR (pc := 96) dX8_byPairs_96 fl_X8_74 sh_221 rfl ?_
                  refine g_iload_n (pc := 99) dX8_byPairs_99 rfl rfl ?_
                  obtain ⟨v31, ev31, hf⟩ := job hf
                  refine g_iald (pc := 100) dX8_byPairs_100 sh_243 ev31 ?_
                  obtain ⟨u38, hf, hy33⟩ := job hf
                  have K35 : (hbu38 : u38 = 0 ∨ u38 = 1) → jGG μ_X8_byPairs 2 109 [some (.ref 221), some (.int x1), some (.int z7), some (.int z16), none, none] [.int u38] M17 (fun M' r' => M' = Mz ∧ r' = none) := by
                    intro hbu38
                    replace hf := hy33
                    refine g_istore (pc := 109) (lv' := [some (.ref 221), some (.int x1), some (.int z7), some (.int z16), some (.int u38), none]) dX8_byPairs_109 (by decide) rfl ?_
                    refine g_aload_n (pc := 111) dX8_byPairs_111 rfl rfl ?_
                    refine g_getR (pc := 112) dX8_byPairs_112 fl_X8_71 sh_221 rfl ?_
                    refine g_iload_n (pc := 115) dX8_byPairs_115 rfl rfl ?_
                    obtain ⟨v39, ev39, hf⟩ := job hf
                    refine g_iald (pc := 116) dX8_byPairs_116 sh_242 ev39 ?_
                    refine g_aload_n (pc := 117) dX8_byPairs_117 rfl rfl ?_
                    refine g_getR (pc := 118) dX8_byPairs_118 fl_X8_31 sh_221 rfl ?_
                    refine g_iload_n (pc := 121) dX8_byPairs_121 rfl rfl ?_
                    obtain ⟨v40, ev40, hf⟩ := job hf
                    refine g_iald (pc := 122) dX8_byPairs_122 sh_229 ev40 ?_
                    refine g_iadd (pc := 123) dX8_byPairs_123 ?_
                    refine g_aload_n (pc := 124) dX8_byPairs_124 rfl rfl ?_
                    refine g_getR (pc := 125) dX8_byPairs_125 fl_X8_31 sh_221 rfl ?_
                    refine g_iload_n (pc := 128) dX8_byPairs_128 rfl rfl ?_
                    obtain ⟨v41, ev41, hf⟩ := job hf
                    refine g_iald (pc := 129) dX8_byPairs_129 sh_229 ev41 ?_
                    refine g_iadd (pc := 130) dX8_byPairs_130 ?_
                    refine g_aload_n (pc := 131) dX8_byPairs_131 rfl rfl ?_
                    refine g_getR (pc := 132) dX8_byPairs_132 fl_X8_74 sh_221 rfl ?_
                    refine g_iload_n (pc := 135) dX8_byPairs_135 rfl rfl ?_
                    obtain ⟨v42, ev42, hf⟩ := job hf
                    refine g_iald (pc := 136) dX8_byPairs_136 sh_243 ev42 ?_
                    obtain ⟨u49, hf, hy44⟩ := job hf
                    have K46 : (hbu49 : u49 = 0 ∨ u49 = 1) → jGG μ_X8_byPairs 2 145 [some (.ref 221), some (.int x1), some (.int z7), some (.int z16), some (.int u38), none] [.int u49] M17 (fun M' r' => M' = Mz ∧ r' = none) := by
                      intro hbu49
                      replace hf := hy44
                      refine g_istore (pc := 145) (lv' := [some (.ref 221), some (.int x1), some (.int z7), some (.int z16), some (.int u38), some (.int u49)]) dX8_byPairs_145 (by decide) rfl ?_
                      refine g_iload (pc := 147) dX8_byPairs_147 rfl ?_
                      obtain ⟨y52, hf, hy51⟩ := jcb hf
                      have K53 : y52 = Sum.inr () → jGG μ_X8_byPairs 2 165 [some (.ref 221), some (.int x1), some (.int z7), some (.int z16), some (.int u38), some (.int u49)] [] M17 (fun M' r' => M' = Mz ∧ r' = none) := by
                        intro hyy
                        subst hyy
                        replace hf := hy51
                        refine g_iload (pc := 165) dX8_byPairs_165 rfl ?_
                        refine g_if_eq (pc := 167) 179 dX8_byPairs_167 rfl (fun hc61 => ?_) (fun hc61 => ?_)
                        · replace hf := jifp hc61 hf
                          refine g_iload (pc := 179) dX8_byPairs_179 rfl ?_
                          refine g_if_eq (pc := 181) 190 dX8_byPairs_181 rfl (fun hc59 => ?_) (fun hc59 => ?_)
                          · replace hf := jifp hc59 hf
                            obtain rfl := Option.some.inj hf
                            exact g_weakK (K23) ⟨rfl, ⟨rfl, ⟨rfl, ⟨rfl, trivial⟩⟩⟩⟩
                          · replace hf := jifn hc59 hf
                            refine g_aload_n (pc := 184) dX8_byPairs_184 rfl rfl ?_
                            refine g_iload_n (pc := 185) dX8_byPairs_185 rfl rfl ?_
                            refine g_iload_n (pc := 186) dX8_byPairs_186 rfl rfl ?_
                            obtain ⟨M58, eM58, hf⟩ := job hf
                            refine g_callV (pc := 187) [.int z7, .int z16] [] dX8_byPairs_187 ml_X8_251 ck_X8_tell cv_X8_tell sh_221 rfl (by decide) (Nat.le_of_ble_eq_true rfl) (c_X8_tell eM58) ?_
                            show jGG μ_X8_byPairs 2 190 [some (.ref 221), some (.int x1), some (.int z7), some (.int z16), some (.int u38), some (.int u49)] [] M58 (fun M' r' => M' = Mz ∧ r' = none)
                            obtain rfl := Option.some.inj hf
                            exact g_weakK (K23) ⟨rfl, ⟨rfl, ⟨rfl, ⟨rfl, trivial⟩⟩⟩⟩
                        · replace hf := jifn hc61 hf
                          refine g_aload_n (pc := 170) dX8_byPairs_170 rfl rfl ?_
                          refine g_iload_n (pc := 171) dX8_byPairs_171 rfl rfl ?_
                          refine g_iload_n (pc := 172) dX8_byPairs_172 rfl rfl ?_
                          obtain ⟨M60, eM60, hf⟩ := job hf
                          refine g_callV (pc := 173) [.int z16, .int z7] [] dX8_byPairs_173 ml_X8_251 ck_X8_tell cv_X8_tell sh_221 rfl (by decide) (Nat.le_of_ble_eq_true rfl) (c_X8_tell eM60) ?_
                          show jGG μ_X8_byPairs 2 176 [some (.ref 221), some (.int x1), some (.int z7), some (.int z16), some (.int u38), some (.int u49)] [] M60 (fun M' r' => M' = Mz ∧ r' = none)
                          refine g_goto (pc := 176) 190 dX8_byPairs_176 rfl ?_
                          obtain rfl := Option.some.inj hf
                          exact g_weakK (K23) ⟨rfl, ⟨rfl, ⟨rfl, ⟨rfl, trivial⟩⟩⟩⟩
                      refine g_if_eq (pc := 149) 165 dX8_byPairs_149 rfl (fun hc57 => ?_) (fun hc57 => ?_)
                      · replace hf := jifp hc57 hf
                        exact g_weakK (K53 (Option.some.inj hf).symm) ⟨rfl, ⟨rfl, ⟨rfl, ⟨rfl, ⟨rfl, ⟨rfl, trivial⟩⟩⟩⟩⟩⟩
                      · replace hf := jifn hc57 hf
                        refine g_iload (pc := 152) dX8_byPairs_152 rfl ?_
                        refine g_if_eq (pc := 154) 165 dX8_byPairs_154 rfl (fun hc56 => ?_) (fun hc56 => ?_)
                        · replace hf := jifp hc56 hf
                          exact g_weakK (K53 (Option.some.inj hf).symm) ⟨rfl, ⟨rfl, ⟨rfl, ⟨rfl, ⟨rfl, ⟨rfl, trivial⟩⟩⟩⟩⟩⟩
                        · replace hf := jifn hc56 hf
                          refine g_aload_n (pc := 157) dX8_byPairs_157 rfl rfl ?_
                          refine g_iconst (pc := 158) 1 dX8_byPairs_158 rfl ?_
                          refine g_putZ (pc := 159) dX8_byPairs_159 fp_X8_236 (Or.inr rfl) sh_221 rfl ?_
                          obtain ⟨M55, eM55, hf⟩ := job hf
                          rw [Option.some.inj eM55]
                          refine g_goto (pc := 162) 190 dX8_byPairs_162 rfl ?_
                          obtain rfl := Option.some.inj hf
                          replace hf := hy51
                          obtain rfl := Option.some.inj hf
                          exact g_weakK (K23) ⟨rfl, ⟨rfl, ⟨rfl, ⟨rfl, trivial⟩⟩⟩⟩
                    refine g_icmp_le (pc := 137) 144 dX8_byPairs_137 rfl (fun hc48 => ?_) (fun hc48 => ?_)
                    · replace hf := jifp hc48 hf
                      refine g_iconst (pc := 144) 0 dX8_byPairs_144 rfl ?_
                      obtain rfl := Option.some.inj hf
                      exact g_weakK (K46 (Or.inl rfl)) ⟨rfl, ⟨rfl, ⟨rfl, ⟨rfl, ⟨rfl, trivial⟩⟩⟩⟩⟩
                    · replace hf := jifn hc48 hf
                      refine g_iconst (pc := 140) 1 dX8_byPairs_140 rfl ?_
                      refine g_goto (pc := 141) 145 dX8_byPairs_141 rfl ?_
                      obtain rfl := Option.some.inj hf
                      exact g_weakK (K46 (Or.inr rfl)) ⟨rfl, ⟨rfl, ⟨rfl, ⟨rfl, ⟨rfl, trivial⟩⟩⟩⟩⟩
                  refine g_icmp_le (pc := 101) 108 dX8_byPairs_101 rfl (fun hc37 => ?_) (fun hc37 => ?_)
                  · replace hf := jifp hc37 hf
                    refine g_iconst (pc := 108) 0 dX8_byPairs_108 rfl ?_
                    obtain rfl := Option.some.inj hf
                    exact g_weakK (K35 (Or.inl rfl)) ⟨rfl, ⟨rfl, ⟨rfl, ⟨rfl, trivial⟩⟩⟩⟩
                  · replace hf := jifn hc37 hf
                    refine g_iconst (pc := 104) 1 dX8_byPairs_104 rfl ?_
                    refine g_goto (pc := 105) 109 dX8_byPairs_105 rfl ?_
                    obtain rfl := Option.some.inj hf
                    exact g_weakK (K35 (Or.inr rfl)) ⟨rfl, ⟨rfl, ⟨rfl, ⟨rfl, trivial⟩⟩⟩⟩
                · replace hf := jifn hc62 hf
                  refine g_goto (pc := 72) 190 dX8_byPairs_72 rfl ?_
                  obtain rfl := Option.some.inj hf
                  exact g_weakK (K23) ⟨rfl, ⟨rfl, ⟨rfl, ⟨rfl, trivial⟩⟩⟩⟩
def f_X8_bySet (N : Nat) (M : JMem) (x1 : Int32) (x2 : Int32) (x3 : Int32) : Option (JMem) := (jrd M 242 32 x2).bind fun v1 => (jrd M 243 32 x3).bind fun v2 => ((jLp (σ := Int32 × Int32 × Int32) (ρ := Int32 × Int32) N (fun ((z9, z10, z11) : Int32 × Int32 × Int32) => (if (M 221 11) ≤ z11 then some (Sum.inr (z9, z10)) else (f_X8_isOn M z11 x1).bind fun v14 => (((if v14 = 0 then some ((z9, z10)) else (jrd M 242 32 z11).bind fun v20 => (if v20 < v1 then some ((z9, z10)) else (jrd M 243 32 z11).bind fun v21 => (if v2 < v21 then some ((z9, z10)) else (jrd M 229 32 z11).bind fun v22 => some ((z9 ||| (jshl 1 z11), z10 + v22))))) : Option (Int32 × Int32)).bind fun (u26, u27) => some (Sum.inl (u26, u27, z11 + 1))))) (0, 0, 0)).bind fun (t12, t13) => (if t12 = 0 then some M else (if t13 ≤ (v2 - v1) then ((jLp (σ := Int32 × JMem) (ρ := JMem) N (fun ((z35, M36) : Int32 × JMem) => (if (M36 221 11) ≤ z35 then some (Sum.inr M36) else (f_X8_isOn M36 z35 x1).bind fun v38 => (((if v38 = 0 then some (M36) else (if ((jushr t12 z35) &&& 1) = 1 then some (M36) else (jrd M36 242 32 z35).bind fun v44 => (((if v1 ≤ v44 then some (v1) else (jrd M36 242 32 z35).bind fun v50 => some (v50)) : Option (Int32)).bind fun u52 => (jrd M36 229 32 z35).bind fun v53 => (((if ((u52 + t13) + v53) ≤ v2 then some (M36) else (f_X8_head M36 z35 (v1 + t13)).bind fun M59 => some (M59)) : Option (JMem)).bind fun M61 => (jrd M61 243 32 z35).bind fun v62 => (((if v2 ≤ v62 then (jrd M61 243 32 z35).bind fun v68 => some (v68) else some (v2)) : Option (Int32)).bind fun u70 => (jrd M61 229 32 z35).bind fun v71 => (if ((v1 + t13) + v71) ≤ u70 then some (M61) else (f_X8_dead M61 z35 (v2 - t13)).bind fun M72 => some (M72))))))) : Option (JMem)).bind fun M76 => some (Sum.inl (z35 + 1, M76))))) (0, M)).bind fun t37 => some t37) else (some (jup M 221 29 1)).bind fun M78 => some M78)))
set_option maxHeartbeats 4000000 in
theorem c_X8_bySet {N : Nat} {M : JMem} {x1 : Int32} {x2 : Int32} {x3 : Int32} {Mz : JMem} (hf : f_X8_bySet N M x1 x2 x3 = some Mz) : jCo yX8_bySet μ_X8_bySet 2 M [.ref 221, .int x1, .int x2, .int x3] Mz none := by
  refine jCt_of (by decide +kernel) rfl (by simp [Value.category]) (Nat.le_of_ble_eq_true rfl) ?_
  unfold f_X8_bySet at hf
  show jGG μ_X8_bySet 2 0 [some (.ref 221), some (.int x1), some (.int x2), some (.int x3), none, none, none, none, none, none, none] [] M (fun M' r' => M' = Mz ∧ r' = none)
  refine g_iconst (pc := 0) 0 dX8_bySet_0 rfl ?_
  refine g_istore (pc := 1) (lv' := [some (.ref 221), some (.int x1), some (.int x2), some (.int x3), some (.int 0), none, none, none, none, none, none]) dX8_bySet_1 (by decide) rfl ?_
  refine g_iconst (pc := 3) 0 dX8_bySet_3 rfl ?_
  refine g_istore (pc := 4) (lv' := [some (.ref 221), some (.int x1), some (.int x2), some (.int x3), some (.int 0), some (.int 0), none, none, none, none, none]) dX8_bySet_4 (by decide) rfl ?_
  refine g_aload_n (pc := 6) dX8_bySet_6 rfl rfl ?_
  refine g_getR (pc := 7) dX8_bySet_7 fl_X8_71 sh_221 rfl ?_
  refine g_iload_n (pc := 10) dX8_bySet_10 rfl rfl ?_
  obtain ⟨v1, ev1, hf⟩ := job hf
  refine g_iald (pc := 11) dX8_bySet_11 sh_242 ev1 ?_
  refine g_istore (pc := 12) (lv' := [some (.ref 221), some (.int x1), some (.int x2), some (.int x3), some (.int 0), some (.int 0), some (.int v1), none, none, none, none]) dX8_bySet_12 (by decide) rfl ?_
  refine g_aload_n (pc := 14) dX8_bySet_14 rfl rfl ?_
  refine g_getR (pc := 15) dX8_bySet_15 fl_X8_74 sh_221 rfl ?_
  refine g_iload_n (pc := 18) dX8_bySet_18 rfl rfl ?_
  obtain ⟨v2, ev2, hf⟩ := job hf
  refine g_iald (pc := 19) dX8_bySet_19 sh_243 ev2 ?_
  refine g_istore (pc := 20) (lv' := [some (.ref 221), some (.int x1), some (.int x2), some (.int x3), some (.int 0), some (.int 0), some (.int v1), some (.int v2), none, none, none]) dX8_bySet_20 (by decide) rfl ?_
  refine g_iconst (pc := 22) 0 dX8_bySet_22 rfl ?_
  refine g_istore (pc := 23) (lv' := [some (.ref 221), some (.int x1), some (.int x2), some (.int x3), some (.int 0), some (.int 0), some (.int v1), some (.int v2), some (.int 0), none, none]) dX8_bySet_23 (by decide) rfl ?_
  obtain ⟨⟨t12, t13⟩, y4, hy3⟩ := job hf
  have K5 : jGG μ_X8_bySet 2 95 [some (.ref 221), some (.int x1), none, none, some (.int t12), some (.int t13), some (.int v1), some (.int v2), none, none, none] [] M (fun M' r' => M' = Mz ∧ r' = none) := by
    replace hf := hy3
    refine g_iload (pc := 95) dX8_bySet_95 rfl ?_
    refine g_if_ne (pc := 97) 101 dX8_bySet_97 rfl (fun hc80 => ?_) (fun hc80 => ?_)
    · replace hf := jifn hc80 hf
      refine g_iload (pc := 101) dX8_bySet_101 rfl ?_
      refine g_iload (pc := 103) dX8_bySet_103 rfl ?_
      refine g_iload (pc := 105) dX8_bySet_105 rfl ?_
      refine g_isub (pc := 107) dX8_bySet_107 ?_
      refine g_icmp_le (pc := 108) 117 dX8_bySet_108 rfl (fun hc79 => ?_) (fun hc79 => ?_)
      · replace hf := jifp hc79 hf
        refine g_iconst (pc := 117) 0 dX8_bySet_117 rfl ?_
        refine g_istore (pc := 118) (lv' := [some (.ref 221), some (.int x1), none, none, some (.int t12), some (.int t13), some (.int v1), some (.int v2), some (.int 0), none, none]) dX8_bySet_118 (by decide) rfl ?_
        obtain ⟨t37, y30, hy29⟩ := job hf
        have K31 : jGG μ_X8_bySet 2 269 [none, none, none, none, none, none, none, none, none, none, none] [] t37 (fun M' r' => M' = Mz ∧ r' = none) := by
          replace hf := hy29
          obtain rfl := Option.some.inj hf
          exact g_vret (pc := 269) dX8_bySet_269 rfl ⟨rfl, rfl⟩
        refine g_weak (lv' := [some (.ref 221), some (.int x1), none, none, some (.int t12), some (.int t13), some (.int v1), some (.int v2), some (.int 0), none, none]) ⟨rfl, ⟨rfl, ⟨rfl, ⟨rfl, ⟨rfl, ⟨rfl, ⟨rfl, trivial⟩⟩⟩⟩⟩⟩⟩ ?_
        refine jLp_ind (P := fun ((z35, M36) : Int32 × JMem) => jGG μ_X8_bySet 2 120 [some (.ref 221), some (.int x1), none, none, some (.int t12), some (.int t13), some (.int v1), some (.int v2), some (.int z35), none, none] [] M36 (fun M' r' => M' = Mz ∧ r' = none)) ?_ N _ y30
        rintro ⟨z35, M36⟩ x_34 hf ih33 hx32
        show jGG μ_X8_bySet 2 120 [some (.ref 221), some (.int x1), none, none, some (.int t12), some (.int t13), some (.int v1), some (.int v2), some (.int z35), none, none] [] M36 (fun M' r' => M' = Mz ∧ r' = none)
        refine g_iload (pc := 120) dX8_bySet_120 rfl ?_
        refine g_aload_n (pc := 122) dX8_bySet_122 rfl rfl ?_
        refine g_getI (pc := 123) dX8_bySet_123 fl_X8_143 sh_221 rfl ?_
        refine g_icmp_ge (pc := 126) 269 dX8_bySet_126 rfl (fun hc77 => ?_) (fun hc77 => ?_)
        · replace hf := jifp hc77 hf
          have hf := hx32 _ (Option.some.inj hf).symm
          obtain rfl := hf
          exact g_weakK K31 trivial
        · replace hf := jifn hc77 hf
          refine g_aload_n (pc := 129) dX8_bySet_129 rfl rfl ?_
          refine g_iload (pc := 130) dX8_bySet_130 rfl ?_
          refine g_iload_n (pc := 132) dX8_bySet_132 rfl rfl ?_
          obtain ⟨v38, ev38, hf⟩ := job hf
          refine g_callV (pc := 133) [.int z35, .int x1] [] dX8_bySet_133 ml_X8_248 ck_X8_isOn cv_X8_isOn sh_221 rfl (by decide) (Nat.le_of_ble_eq_true rfl) (c_X8_isOn ev38) ?_
          show jGG μ_X8_bySet 2 136 [some (.ref 221), some (.int x1), none, none, some (.int t12), some (.int t13), some (.int v1), some (.int v2), some (.int z35), none, none] [.int v38] M36 (fun M' r' => M' = Mz ∧ r' = none)
          obtain ⟨M76, hf, hy40⟩ := job hf
          have K42 : jGG μ_X8_bySet 2 263 [some (.ref 221), some (.int x1), none, none, some (.int t12), some (.int t13), some (.int v1), some (.int v2), some (.int z35), none, none] [] M76 (fun M' r' => M' = Mz ∧ r' = none) := by
            replace hf := hy40
            refine g_iinc (pc := 263) (lv' := [some (.ref 221), some (.int x1), none, none, some (.int t12), some (.int t13), some (.int v1), some (.int v2), some (.int (z35 + 1)), none, none]) (z35 + 1) dX8_bySet_263 rfl rfl (by decide) rfl ?_
            refine g_goto (pc := 266) 120 dX8_bySet_266 rfl ?_
            have hih : jGG μ_X8_bySet 2 120 [some (.ref 221), some (.int x1), none, none, some (.int t12), some (.int t13), some (.int v1), some (.int v2), some (.int (z35 + 1)), none, none] [] M76 (fun M' r' => M' = Mz ∧ r' = none) := ih33 (z35 + 1, M76) (Option.some.inj hf).symm
            exact g_weakK hih ⟨rfl, ⟨rfl, ⟨rfl, ⟨rfl, ⟨rfl, ⟨rfl, ⟨rfl, trivial⟩⟩⟩⟩⟩⟩⟩
          refine g_if_eq (pc := 136) 263 dX8_bySet_136 rfl (fun hc75 => ?_) (fun hc75 => ?_)
          · replace hf := jifp hc75 hf
            obtain rfl := Option.some.inj hf
            exact g_weakK (K42) ⟨rfl, ⟨rfl, ⟨rfl, ⟨rfl, ⟨rfl, ⟨rfl, ⟨rfl, trivial⟩⟩⟩⟩⟩⟩⟩
          · replace hf := jifn hc75 hf
            refine g_iload (pc := 139) dX8_bySet_139 rfl ?_
            refine g_iload (pc := 141) dX8_bySet_141 rfl ?_
            refine g_iushr (pc := 143) dX8_bySet_143 ?_
            refine g_iconst (pc := 144) 1 dX8_bySet_144 rfl ?_
            refine g_iand (pc := 145) dX8_bySet_145 ?_
            refine g_iconst (pc := 146) 1 dX8_bySet_146 rfl ?_
            refine g_icmp_ne (pc := 147) 153 dX8_bySet_147 rfl (fun hc74 => ?_) (fun hc74 => ?_)
            · replace hf := jifn hc74 hf
              refine g_aload_n (pc := 153) dX8_bySet_153 rfl rfl ?_
              refine g_getR (pc := 154) dX8_bySet_154 fl_X8_71 sh_221 rfl ?_
              refine g_iload (pc := 157) dX8_bySet_157 rfl ?_
              obtain ⟨v44, ev44, hf⟩ := job hf
              refine g_iald (pc := 159) dX8_bySet_159 sh_242 ev44 ?_
              refine g_iload (pc := 160) dX8_bySet_160 rfl ?_
              obtain ⟨u52, hf, hy46⟩ := job hf
              have K48 : jGG μ_X8_bySet 2 177 [some (.ref 221), some (.int x1), none, none, some (.int t12), some (.int t13), some (.int v1), some (.int v2), some (.int z35), none, none] [.int u52] M36 (fun M' r' => M' = Mz ∧ r' = none) := by
                replace hf := hy46
                refine g_istore (pc := 177) (lv' := [some (.ref 221), some (.int x1), none, none, some (.int t12), some (.int t13), some (.int v1), some (.int v2), some (.int z35), some (.int u52), none]) dX8_bySet_177 (by decide) rfl ?_
                refine g_iload (pc := 179) dX8_bySet_179 rfl ?_
                refine g_iload (pc := 181) dX8_bySet_181 rfl ?_
                refine g_iadd (pc := 183) dX8_bySet_183 ?_
                refine g_aload_n (pc := 184) dX8_bySet_184 rfl rfl ?_
                refine g_getR (pc := 185) dX8_bySet_185 fl_X8_31 sh_221 rfl ?_
                refine g_iload (pc := 188) dX8_bySet_188 rfl ?_
                obtain ⟨v53, ev53, hf⟩ := job hf
                refine g_iald (pc := 190) dX8_bySet_190 sh_229 ev53 ?_
                refine g_iadd (pc := 191) dX8_bySet_191 ?_
                refine g_iload (pc := 192) dX8_bySet_192 rfl ?_
                obtain ⟨M61, hf, hy55⟩ := job hf
                have K57 : jGG μ_X8_bySet 2 208 [some (.ref 221), some (.int x1), none, none, some (.int t12), some (.int t13), some (.int v1), some (.int v2), some (.int z35), none, none] [] M61 (fun M' r' => M' = Mz ∧ r' = none) := by
                  replace hf := hy55
                  refine g_iload (pc := 208) dX8_bySet_208 rfl ?_
                  refine g_aload_n (pc := 210) dX8_bySet_210 rfl rfl ?_
                  refine g_getR (pc := 211) dX8_bySet_211 fl_X8_74 sh_221 rfl ?_
                  refine g_iload (pc := 214) dX8_bySet_214 rfl ?_
                  obtain ⟨v62, ev62, hf⟩ := job hf
                  refine g_iald (pc := 216) dX8_bySet_216 sh_243 ev62 ?_
                  obtain ⟨u70, hf, hy64⟩ := job hf
                  have K66 : jGG μ_X8_bySet 2 232 [some (.ref 221), some (.int x1), none, none, some (.int t12), some (.int t13), some (.int v1), some (.int v2), some (.int z35), none, none] [.int u70] M61 (fun M' r' => M' = Mz ∧ r' = none) := by
                    replace hf := hy64
                    refine g_istore (pc := 232) (lv' := [some (.ref 221), some (.int x1), none, none, some (.int t12), some (.int t13), some (.int v1), some (.int v2), some (.int z35), none, some (.int u70)]) dX8_bySet_232 (by decide) rfl ?_
                    refine g_iload (pc := 234) dX8_bySet_234 rfl ?_
                    refine g_iload (pc := 236) dX8_bySet_236 rfl ?_
                    refine g_iadd (pc := 238) dX8_bySet_238 ?_
                    refine g_aload_n (pc := 239) dX8_bySet_239 rfl rfl ?_
                    refine g_getR (pc := 240) dX8_bySet_240 fl_X8_31 sh_221 rfl ?_
                    refine g_iload (pc := 243) dX8_bySet_243 rfl ?_
                    obtain ⟨v71, ev71, hf⟩ := job hf
                    refine g_iald (pc := 245) dX8_bySet_245 sh_229 ev71 ?_
                    refine g_iadd (pc := 246) dX8_bySet_246 ?_
                    refine g_iload (pc := 247) dX8_bySet_247 rfl ?_
                    refine g_icmp_le (pc := 249) 263 dX8_bySet_249 rfl (fun hc73 => ?_) (fun hc73 => ?_)
                    · replace hf := jifp hc73 hf
                      obtain rfl := Option.some.inj hf
                      exact g_weakK (K42) ⟨rfl, ⟨rfl, ⟨rfl, ⟨rfl, ⟨rfl, ⟨rfl, ⟨rfl, trivial⟩⟩⟩⟩⟩⟩⟩
                    · replace hf := jifn hc73 hf
                      refine g_aload_n (pc := 252) dX8_bySet_252 rfl rfl ?_
                      refine g_iload (pc := 253) dX8_bySet_253 rfl ?_
                      refine g_iload (pc := 255) dX8_bySet_255 rfl ?_
                      refine g_iload (pc := 257) dX8_bySet_257 rfl ?_
                      refine g_isub (pc := 259) dX8_bySet_259 ?_
                      obtain ⟨M72, eM72, hf⟩ := job hf
                      refine g_callV (pc := 260) [.int z35, .int (v2 - t13)] [] dX8_bySet_260 ml_X8_242 ck_X8_dead cv_X8_dead sh_221 rfl (by decide) (Nat.le_of_ble_eq_true rfl) (c_X8_dead eM72) ?_
                      show jGG μ_X8_bySet 2 263 [some (.ref 221), some (.int x1), none, none, some (.int t12), some (.int t13), some (.int v1), some (.int v2), some (.int z35), none, some (.int u70)] [] M72 (fun M' r' => M' = Mz ∧ r' = none)
                      obtain rfl := Option.some.inj hf
                      exact g_weakK (K42) ⟨rfl, ⟨rfl, ⟨rfl, ⟨rfl, ⟨rfl, ⟨rfl, ⟨rfl, trivial⟩⟩⟩⟩⟩⟩⟩
                  refine g_icmp_le (pc := 217) 225 dX8_bySet_217 rfl (fun hc69 => ?_) (fun hc69 => ?_)
                  · replace hf := jifp hc69 hf
                    refine g_aload_n (pc := 225) dX8_bySet_225 rfl rfl ?_
                    refine g_getR (pc := 226) dX8_bySet_226 fl_X8_74 sh_221 rfl ?_
                    refine g_iload (pc := 229) dX8_bySet_229 rfl ?_
                    obtain ⟨v68, ev68, hf⟩ := job hf
                    refine g_iald (pc := 231) dX8_bySet_231 sh_243 ev68 ?_
                    obtain rfl := Option.some.inj hf
                    exact g_weakK (K66) ⟨rfl, ⟨rfl, ⟨rfl, ⟨rfl, ⟨rfl, ⟨rfl, ⟨rfl, trivial⟩⟩⟩⟩⟩⟩⟩
                  · replace hf := jifn hc69 hf
                    refine g_iload (pc := 220) dX8_bySet_220 rfl ?_
                    refine g_goto (pc := 222) 232 dX8_bySet_222 rfl ?_
                    obtain rfl := Option.some.inj hf
                    exact g_weakK (K66) ⟨rfl, ⟨rfl, ⟨rfl, ⟨rfl, ⟨rfl, ⟨rfl, ⟨rfl, trivial⟩⟩⟩⟩⟩⟩⟩
                refine g_icmp_le (pc := 194) 208 dX8_bySet_194 rfl (fun hc60 => ?_) (fun hc60 => ?_)
                · replace hf := jifp hc60 hf
                  obtain rfl := Option.some.inj hf
                  exact g_weakK (K57) ⟨rfl, ⟨rfl, ⟨rfl, ⟨rfl, ⟨rfl, ⟨rfl, ⟨rfl, trivial⟩⟩⟩⟩⟩⟩⟩
                · replace hf := jifn hc60 hf
                  refine g_aload_n (pc := 197) dX8_bySet_197 rfl rfl ?_
                  refine g_iload (pc := 198) dX8_bySet_198 rfl ?_
                  refine g_iload (pc := 200) dX8_bySet_200 rfl ?_
                  refine g_iload (pc := 202) dX8_bySet_202 rfl ?_
                  refine g_iadd (pc := 204) dX8_bySet_204 ?_
                  obtain ⟨M59, eM59, hf⟩ := job hf
                  refine g_callV (pc := 205) [.int z35, .int (v1 + t13)] [] dX8_bySet_205 ml_X8_239 ck_X8_head cv_X8_head sh_221 rfl (by decide) (Nat.le_of_ble_eq_true rfl) (c_X8_head eM59) ?_
                  show jGG μ_X8_bySet 2 208 [some (.ref 221), some (.int x1), none, none, some (.int t12), some (.int t13), some (.int v1), some (.int v2), some (.int z35), some (.int u52), none] [] M59 (fun M' r' => M' = Mz ∧ r' = none)
                  obtain rfl := Option.some.inj hf
                  exact g_weakK (K57) ⟨rfl, ⟨rfl, ⟨rfl, ⟨rfl, ⟨rfl, ⟨rfl, ⟨rfl, trivial⟩⟩⟩⟩⟩⟩⟩
              refine g_icmp_ge (pc := 162) 175 dX8_bySet_162 rfl (fun hc51 => ?_) (fun hc51 => ?_)
              · replace hf := jifp hc51 hf
                refine g_iload (pc := 175) dX8_bySet_175 rfl ?_
                obtain rfl := Option.some.inj hf
                exact g_weakK (K48) ⟨rfl, ⟨rfl, ⟨rfl, ⟨rfl, ⟨rfl, ⟨rfl, ⟨rfl, trivial⟩⟩⟩⟩⟩⟩⟩
              · replace hf := jifn hc51 hf
                refine g_aload_n (pc := 165) dX8_bySet_165 rfl rfl ?_
                refine g_getR (pc := 166) dX8_bySet_166 fl_X8_71 sh_221 rfl ?_
                refine g_iload (pc := 169) dX8_bySet_169 rfl ?_
                obtain ⟨v50, ev50, hf⟩ := job hf
                refine g_iald (pc := 171) dX8_bySet_171 sh_242 ev50 ?_
                refine g_goto (pc := 172) 177 dX8_bySet_172 rfl ?_
                obtain rfl := Option.some.inj hf
                exact g_weakK (K48) ⟨rfl, ⟨rfl, ⟨rfl, ⟨rfl, ⟨rfl, ⟨rfl, ⟨rfl, trivial⟩⟩⟩⟩⟩⟩⟩
            · replace hf := jifp hc74 hf
              refine g_goto (pc := 150) 263 dX8_bySet_150 rfl ?_
              obtain rfl := Option.some.inj hf
              exact g_weakK (K42) ⟨rfl, ⟨rfl, ⟨rfl, ⟨rfl, ⟨rfl, ⟨rfl, ⟨rfl, trivial⟩⟩⟩⟩⟩⟩⟩
      · replace hf := jifn hc79 hf
        refine g_aload_n (pc := 111) dX8_bySet_111 rfl rfl ?_
        refine g_iconst (pc := 112) 1 dX8_bySet_112 rfl ?_
        refine g_putZ (pc := 113) dX8_bySet_113 fp_X8_236 (Or.inr rfl) sh_221 rfl ?_
        obtain ⟨M78, eM78, hf⟩ := job hf
        rw [Option.some.inj eM78]
        obtain rfl := Option.some.inj hf
        exact g_vret (pc := 116) dX8_bySet_116 rfl ⟨rfl, rfl⟩
    · replace hf := jifp hc80 hf
      obtain rfl := Option.some.inj hf
      exact g_vret (pc := 100) dX8_bySet_100 rfl ⟨rfl, rfl⟩
  refine g_weak (lv' := [some (.ref 221), some (.int x1), none, none, some (.int 0), some (.int 0), some (.int v1), some (.int v2), some (.int 0), none, none]) ⟨rfl, ⟨rfl, ⟨rfl, ⟨rfl, ⟨rfl, ⟨rfl, ⟨rfl, trivial⟩⟩⟩⟩⟩⟩⟩ ?_
  refine jLp_ind (P := fun ((z9, z10, z11) : Int32 × Int32 × Int32) => jGG μ_X8_bySet 2 25 [some (.ref 221), some (.int x1), none, none, some (.int z9), some (.int z10), some (.int v1), some (.int v2), some (.int z11), none, none] [] M (fun M' r' => M' = Mz ∧ r' = none)) ?_ N _ y4
  rintro ⟨z9, z10, z11⟩ x_8 hf ih7 hx6
  show jGG μ_X8_bySet 2 25 [some (.ref 221), some (.int x1), none, none, some (.int z9), some (.int z10), some (.int v1), some (.int v2), some (.int z11), none, none] [] M (fun M' r' => M' = Mz ∧ r' = none)
  refine g_iload (pc := 25) dX8_bySet_25 rfl ?_
  refine g_aload_n (pc := 27) dX8_bySet_27 rfl rfl ?_
  refine g_getI (pc := 28) dX8_bySet_28 fl_X8_143 sh_221 rfl ?_
  refine g_icmp_ge (pc := 31) 95 dX8_bySet_31 rfl (fun hc28 => ?_) (fun hc28 => ?_)
  · replace hf := jifp hc28 hf
    have hf := hx6 _ (Option.some.inj hf).symm
    obtain ⟨rfl, rfl⟩ := jp2 hf
    exact g_weakK K5 ⟨rfl, ⟨rfl, ⟨rfl, ⟨rfl, ⟨rfl, ⟨rfl, trivial⟩⟩⟩⟩⟩⟩
  · replace hf := jifn hc28 hf
    refine g_aload_n (pc := 34) dX8_bySet_34 rfl rfl ?_
    refine g_iload (pc := 35) dX8_bySet_35 rfl ?_
    refine g_iload_n (pc := 37) dX8_bySet_37 rfl rfl ?_
    obtain ⟨v14, ev14, hf⟩ := job hf
    refine g_callV (pc := 38) [.int z11, .int x1] [] dX8_bySet_38 ml_X8_248 ck_X8_isOn cv_X8_isOn sh_221 rfl (by decide) (Nat.le_of_ble_eq_true rfl) (c_X8_isOn ev14) ?_
    show jGG μ_X8_bySet 2 41 [some (.ref 221), some (.int x1), none, none, some (.int z9), some (.int z10), some (.int v1), some (.int v2), some (.int z11), none, none] [.int v14] M (fun M' r' => M' = Mz ∧ r' = none)
    obtain ⟨⟨u26, u27⟩, hf, hy16⟩ := job hf
    have K18 : jGG μ_X8_bySet 2 89 [some (.ref 221), some (.int x1), none, none, some (.int u26), some (.int u27), some (.int v1), some (.int v2), some (.int z11), none, none] [] M (fun M' r' => M' = Mz ∧ r' = none) := by
      replace hf := hy16
      refine g_iinc (pc := 89) (lv' := [some (.ref 221), some (.int x1), none, none, some (.int u26), some (.int u27), some (.int v1), some (.int v2), some (.int (z11 + 1)), none, none]) (z11 + 1) dX8_bySet_89 rfl rfl (by decide) rfl ?_
      refine g_goto (pc := 92) 25 dX8_bySet_92 rfl ?_
      have hih : jGG μ_X8_bySet 2 25 [some (.ref 221), some (.int x1), none, none, some (.int u26), some (.int u27), some (.int v1), some (.int v2), some (.int (z11 + 1)), none, none] [] M (fun M' r' => M' = Mz ∧ r' = none) := ih7 (u26, u27, z11 + 1) (Option.some.inj hf).symm
      exact g_weakK hih ⟨rfl, ⟨rfl, ⟨rfl, ⟨rfl, ⟨rfl, ⟨rfl, ⟨rfl, trivial⟩⟩⟩⟩⟩⟩⟩
    refine g_if_eq (pc := 41) 89 dX8_bySet_41 rfl (fun hc25 => ?_) (fun hc25 => ?_)
    · replace hf := jifp hc25 hf
      obtain ⟨rfl, rfl⟩ := jp2 (Option.some.inj hf)
      exact g_weakK (K18) ⟨rfl, ⟨rfl, ⟨rfl, ⟨rfl, ⟨rfl, ⟨rfl, ⟨rfl, trivial⟩⟩⟩⟩⟩⟩⟩
    · replace hf := jifn hc25 hf
      refine g_aload_n (pc := 44) dX8_bySet_44 rfl rfl ?_
      refine g_getR (pc := 45) dX8_bySet_45 fl_X8_71 sh_221 rfl ?_
      refine g_iload (pc := 48) dX8_bySet_48 rfl ?_
      obtain ⟨v20, ev20, hf⟩ := job hf
      refine g_iald (pc := 50) dX8_bySet_50 sh_242 ev20 ?_
      refine g_iload (pc := 51) dX8_bySet_51 rfl ?_
      refine g_icmp_lt (pc := 53) 89 dX8_bySet_53 rfl (fun hc24 => ?_) (fun hc24 => ?_)
      · replace hf := jifp hc24 hf
        obtain ⟨rfl, rfl⟩ := jp2 (Option.some.inj hf)
        exact g_weakK (K18) ⟨rfl, ⟨rfl, ⟨rfl, ⟨rfl, ⟨rfl, ⟨rfl, ⟨rfl, trivial⟩⟩⟩⟩⟩⟩⟩
      · replace hf := jifn hc24 hf
        refine g_aload_n (pc := 56) dX8_bySet_56 rfl rfl ?_
        refine g_getR (pc := 57) dX8_bySet_57 fl_X8_74 sh_221 rfl ?_
        refine g_iload (pc := 60) dX8_bySet_60 rfl ?_
        obtain ⟨v21, ev21, hf⟩ := job hf
        refine g_iald (pc := 62) dX8_bySet_62 sh_243 ev21 ?_
        refine g_iload (pc := 63) dX8_bySet_63 rfl ?_
        refine g_icmp_gt (pc := 65) 89 dX8_bySet_65 rfl (fun hc23 => ?_) (fun hc23 => ?_)
        · replace hf := jifp hc23 hf
          obtain ⟨rfl, rfl⟩ := jp2 (Option.some.inj hf)
          exact g_weakK (K18) ⟨rfl, ⟨rfl, ⟨rfl, ⟨rfl, ⟨rfl, ⟨rfl, ⟨rfl, trivial⟩⟩⟩⟩⟩⟩⟩
        · replace hf := jifn hc23 hf
          refine g_iload (pc := 68) dX8_bySet_68 rfl ?_
          refine g_iconst (pc := 70) 1 dX8_bySet_70 rfl ?_
          refine g_iload (pc := 71) dX8_bySet_71 rfl ?_
          refine g_ishl (pc := 73) dX8_bySet_73 ?_
          refine g_ior (pc := 74) dX8_bySet_74 ?_
          refine g_istore (pc := 75) (lv' := [some (.ref 221), some (.int x1), none, none, some (.int (z9 ||| (jshl 1 z11))), some (.int z10), some (.int v1), some (.int v2), some (.int z11), none, none]) dX8_bySet_75 (by decide) rfl ?_
          refine g_iload (pc := 77) dX8_bySet_77 rfl ?_
          refine g_aload_n (pc := 79) dX8_bySet_79 rfl rfl ?_
          refine g_getR (pc := 80) dX8_bySet_80 fl_X8_31 sh_221 rfl ?_
          refine g_iload (pc := 83) dX8_bySet_83 rfl ?_
          obtain ⟨v22, ev22, hf⟩ := job hf
          refine g_iald (pc := 85) dX8_bySet_85 sh_229 ev22 ?_
          refine g_iadd (pc := 86) dX8_bySet_86 ?_
          refine g_istore (pc := 87) (lv' := [some (.ref 221), some (.int x1), none, none, some (.int (z9 ||| (jshl 1 z11))), some (.int (z10 + v22)), some (.int v1), some (.int v2), some (.int z11), none, none]) dX8_bySet_87 (by decide) rfl ?_
          obtain ⟨rfl, rfl⟩ := jp2 (Option.some.inj hf)
          exact g_weakK (K18) ⟨rfl, ⟨rfl, ⟨rfl, ⟨rfl, ⟨rfl, ⟨rfl, ⟨rfl, trivial⟩⟩⟩⟩⟩⟩⟩
def f_X8_bySets (N : Nat) (M : JMem) (x1 : Int32) : Option (JMem) := ((jLp (σ := Int32 × JMem) (ρ := JMem) N (fun ((z7, M8) : Int32 × JMem) => (if (M8 221 11) ≤ z7 then some (Sum.inr M8) else (if (M8 221 29) = 0 then ((jLp (σ := Int32 × JMem) (ρ := JMem) N (fun ((z16, M17) : Int32 × JMem) => (if (M17 221 11) ≤ z16 then some (Sum.inr M17) else (if (M17 221 29) = 0 then (f_X8_isOn M17 z7 x1).bind fun v19 => (((if v19 = 0 then some (M17) else (f_X8_isOn M17 z16 x1).bind fun v25 => (if v25 = 0 then some (M17) else (f_X8_bySet N M17 x1 z7 z16).bind fun M26 => some (M26))) : Option (JMem)).bind fun M29 => some (Sum.inl (z16 + 1, M29))) else some (Sum.inr M17)))) (0, M8)).bind fun t18 => some (Sum.inl (z7 + 1, t18))) else some (Sum.inr M8)))) (0, M)).bind fun t9 => some t9)
set_option maxHeartbeats 4000000 in
theorem c_X8_bySets {N : Nat} {M : JMem} {x1 : Int32} {Mz : JMem} (hf : f_X8_bySets N M x1 = some Mz) : jCo yX8_bySets μ_X8_bySets 3 M [.ref 221, .int x1] Mz none := by
  refine jCt_of (by decide +kernel) rfl (by simp [Value.category]) (Nat.le_of_ble_eq_true rfl) ?_
  unfold f_X8_bySets at hf
  show jGG μ_X8_bySets 3 0 [some (.ref 221), some (.int x1), none, none] [] M (fun M' r' => M' = Mz ∧ r' = none)
  refine g_iconst (pc := 0) 0 dX8_bySets_0 rfl ?_
  refine g_istore_n (pc := 1) (lv' := [some (.ref 221), some (.int x1), some (.int 0), none]) dX8_bySets_1 rfl (by decide) rfl ?_
  obtain ⟨t9, y2, hy1⟩ := job hf
  have K3 : jGG μ_X8_bySets 3 71 [none, none, none, none] [] t9 (fun M' r' => M' = Mz ∧ r' = none) := by
    replace hf := hy1
    obtain rfl := Option.some.inj hf
    exact g_vret (pc := 71) dX8_bySets_71 rfl ⟨rfl, rfl⟩
  refine g_weak (lv' := [some (.ref 221), some (.int x1), some (.int 0), none]) ⟨rfl, ⟨rfl, ⟨rfl, trivial⟩⟩⟩ ?_
  refine jLp_ind (P := fun ((z7, M8) : Int32 × JMem) => jGG μ_X8_bySets 3 2 [some (.ref 221), some (.int x1), some (.int z7), none] [] M8 (fun M' r' => M' = Mz ∧ r' = none)) ?_ N _ y2
  rintro ⟨z7, M8⟩ x_6 hf ih5 hx4
  show jGG μ_X8_bySets 3 2 [some (.ref 221), some (.int x1), some (.int z7), none] [] M8 (fun M' r' => M' = Mz ∧ r' = none)
  refine g_iload_n (pc := 2) dX8_bySets_2 rfl rfl ?_
  refine g_aload_n (pc := 3) dX8_bySets_3 rfl rfl ?_
  refine g_getI (pc := 4) dX8_bySets_4 fl_X8_143 sh_221 rfl ?_
  refine g_icmp_ge (pc := 7) 71 dX8_bySets_7 rfl (fun hc33 => ?_) (fun hc33 => ?_)
  · replace hf := jifp hc33 hf
    have hf := hx4 _ (Option.some.inj hf).symm
    obtain rfl := hf
    exact g_weakK K3 trivial
  · replace hf := jifn hc33 hf
    refine g_aload_n (pc := 10) dX8_bySets_10 rfl rfl ?_
    refine g_getI (pc := 11) dX8_bySets_11 fl_X8_236 sh_221 rfl ?_
    refine g_if_ne (pc := 14) 71 dX8_bySets_14 rfl (fun hc32 => ?_) (fun hc32 => ?_)
    · replace hf := jifn hc32 hf
      have hf := hx4 _ (Option.some.inj hf).symm
      obtain rfl := hf
      exact g_weakK K3 trivial
    · replace hf := jifp hc32 hf
      refine g_iconst (pc := 17) 0 dX8_bySets_17 rfl ?_
      refine g_istore_n (pc := 18) (lv' := [some (.ref 221), some (.int x1), some (.int z7), some (.int 0)]) dX8_bySets_18 rfl (by decide) rfl ?_
      obtain ⟨t18, y11, hy10⟩ := job hf
      have K12 : jGG μ_X8_bySets 3 65 [some (.ref 221), some (.int x1), some (.int z7), none] [] t18 (fun M' r' => M' = Mz ∧ r' = none) := by
        replace hf := hy10
        refine g_iinc (pc := 65) (lv' := [some (.ref 221), some (.int x1), some (.int (z7 + 1)), none]) (z7 + 1) dX8_bySets_65 rfl rfl (by decide) rfl ?_
        refine g_goto (pc := 68) 2 dX8_bySets_68 rfl ?_
        have hih : jGG μ_X8_bySets 3 2 [some (.ref 221), some (.int x1), some (.int (z7 + 1)), none] [] t18 (fun M' r' => M' = Mz ∧ r' = none) := ih5 (z7 + 1, t18) (Option.some.inj hf).symm
        exact g_weakK hih ⟨rfl, ⟨rfl, ⟨rfl, trivial⟩⟩⟩
      refine g_weak (lv' := [some (.ref 221), some (.int x1), some (.int z7), some (.int 0)]) ⟨rfl, ⟨rfl, ⟨rfl, ⟨rfl, trivial⟩⟩⟩⟩ ?_
      refine jLp_ind (P := fun ((z16, M17) : Int32 × JMem) => jGG μ_X8_bySets 3 19 [some (.ref 221), some (.int x1), some (.int z7), some (.int z16)] [] M17 (fun M' r' => M' = Mz ∧ r' = none)) ?_ N _ y11
      rintro ⟨z16, M17⟩ x_15 hf ih14 hx13
      show jGG μ_X8_bySets 3 19 [some (.ref 221), some (.int x1), some (.int z7), some (.int z16)] [] M17 (fun M' r' => M' = Mz ∧ r' = none)
      refine g_iload_n (pc := 19) dX8_bySets_19 rfl rfl ?_
      refine g_aload_n (pc := 20) dX8_bySets_20 rfl rfl ?_
      refine g_getI (pc := 21) dX8_bySets_21 fl_X8_143 sh_221 rfl ?_
      refine g_icmp_ge (pc := 24) 65 dX8_bySets_24 rfl (fun hc31 => ?_) (fun hc31 => ?_)
      · replace hf := jifp hc31 hf
        have hf := hx13 _ (Option.some.inj hf).symm
        obtain rfl := hf
        exact g_weakK K12 ⟨rfl, ⟨rfl, ⟨rfl, trivial⟩⟩⟩
      · replace hf := jifn hc31 hf
        refine g_aload_n (pc := 27) dX8_bySets_27 rfl rfl ?_
        refine g_getI (pc := 28) dX8_bySets_28 fl_X8_236 sh_221 rfl ?_
        refine g_if_ne (pc := 31) 65 dX8_bySets_31 rfl (fun hc30 => ?_) (fun hc30 => ?_)
        · replace hf := jifn hc30 hf
          have hf := hx13 _ (Option.some.inj hf).symm
          obtain rfl := hf
          exact g_weakK K12 ⟨rfl, ⟨rfl, ⟨rfl, trivial⟩⟩⟩
        · replace hf := jifp hc30 hf
          refine g_aload_n (pc := 34) dX8_bySets_34 rfl rfl ?_
          refine g_iload_n (pc := 35) dX8_bySets_35 rfl rfl ?_
          refine g_iload_n (pc := 36) dX8_bySets_36 rfl rfl ?_
          obtain ⟨v19, ev19, hf⟩ := job hf
          refine g_callV (pc := 37) [.int z7, .int x1] [] dX8_bySets_37 ml_X8_248 ck_X8_isOn cv_X8_isOn sh_221 rfl (by decide) (Nat.le_of_ble_eq_true rfl) (c_X8_isOn ev19) ?_
          show jGG μ_X8_bySets 3 40 [some (.ref 221), some (.int x1), some (.int z7), some (.int z16)] [.int v19] M17 (fun M' r' => M' = Mz ∧ r' = none)
          obtain ⟨M29, hf, hy21⟩ := job hf
          have K23 : jGG μ_X8_bySets 3 59 [some (.ref 221), some (.int x1), some (.int z7), some (.int z16)] [] M29 (fun M' r' => M' = Mz ∧ r' = none) := by
            replace hf := hy21
            refine g_iinc (pc := 59) (lv' := [some (.ref 221), some (.int x1), some (.int z7), some (.int (z16 + 1))]) (z16 + 1) dX8_bySets_59 rfl rfl (by decide) rfl ?_
            refine g_goto (pc := 62) 19 dX8_bySets_62 rfl ?_
            have hih : jGG μ_X8_bySets 3 19 [some (.ref 221), some (.int x1), some (.int z7), some (.int (z16 + 1))] [] M29 (fun M' r' => M' = Mz ∧ r' = none) := ih14 (z16 + 1, M29) (Option.some.inj hf).symm
            exact g_weakK hih ⟨rfl, ⟨rfl, ⟨rfl, ⟨rfl, trivial⟩⟩⟩⟩
          refine g_if_eq (pc := 40) 59 dX8_bySets_40 rfl (fun hc28 => ?_) (fun hc28 => ?_)
          · replace hf := jifp hc28 hf
            obtain rfl := Option.some.inj hf
            exact g_weakK (K23) ⟨rfl, ⟨rfl, ⟨rfl, ⟨rfl, trivial⟩⟩⟩⟩
          · replace hf := jifn hc28 hf
            refine g_aload_n (pc := 43) dX8_bySets_43 rfl rfl ?_
            refine g_iload_n (pc := 44) dX8_bySets_44 rfl rfl ?_
            refine g_iload_n (pc := 45) dX8_bySets_45 rfl rfl ?_
            obtain ⟨v25, ev25, hf⟩ := job hf
            refine g_callV (pc := 46) [.int z16, .int x1] [] dX8_bySets_46 ml_X8_248 ck_X8_isOn cv_X8_isOn sh_221 rfl (by decide) (Nat.le_of_ble_eq_true rfl) (c_X8_isOn ev25) ?_
            show jGG μ_X8_bySets 3 49 [some (.ref 221), some (.int x1), some (.int z7), some (.int z16)] [.int v25] M17 (fun M' r' => M' = Mz ∧ r' = none)
            refine g_if_eq (pc := 49) 59 dX8_bySets_49 rfl (fun hc27 => ?_) (fun hc27 => ?_)
            · replace hf := jifp hc27 hf
              obtain rfl := Option.some.inj hf
              exact g_weakK (K23) ⟨rfl, ⟨rfl, ⟨rfl, ⟨rfl, trivial⟩⟩⟩⟩
            · replace hf := jifn hc27 hf
              refine g_aload_n (pc := 52) dX8_bySets_52 rfl rfl ?_
              refine g_iload_n (pc := 53) dX8_bySets_53 rfl rfl ?_
              refine g_iload_n (pc := 54) dX8_bySets_54 rfl rfl ?_
              refine g_iload_n (pc := 55) dX8_bySets_55 rfl rfl ?_
              obtain ⟨M26, eM26, hf⟩ := job hf
              refine g_callV (pc := 56) [.int x1, .int z7, .int z16] [] dX8_bySets_56 ml_X8_254 ck_X8_bySet cv_X8_bySet sh_221 rfl (by decide) (Nat.le_of_ble_eq_true rfl) (c_X8_bySet eM26) ?_
              show jGG μ_X8_bySets 3 59 [some (.ref 221), some (.int x1), some (.int z7), some (.int z16)] [] M26 (fun M' r' => M' = Mz ∧ r' = none)
              obtain rfl := Option.some.inj hf
              exact g_weakK (K23) ⟨rfl, ⟨rfl, ⟨rfl, ⟨rfl, trivial⟩⟩⟩⟩
def f_X8_asks (N : Nat) (M : JMem) (x1 : Int32) : Option (JMem × Int32) := ((jLp (σ := Int32 × JMem) (ρ := JMem) N (fun ((z7, M8) : Int32 × JMem) => (if (M8 221 11) ≤ z7 then some (Sum.inr M8) else (jwr M8 242 32 z7 0).bind fun M10 => (jwr M10 243 32 z7 x1).bind fun M11 => some (Sum.inl (z7 + 1, M11)))) (0, M)).bind fun t9 => (some (jup t9 221 29 0)).bind fun M13 => (some (jup M13 221 28 1)).bind fun M14 => ((jLp (σ := Int32 × JMem) (ρ := JMem) N (fun ((z21, M22) : Int32 × JMem) => (if 20 ≤ z21 then some (Sum.inr M22) else (if (M22 221 28) = 0 then some (Sum.inr M22) else (if (M22 221 29) = 0 then (some (jup M22 221 28 0)).bind fun M24 => (f_X8_byPieces N M24).bind fun M25 => (f_X8_ask N M25).bind fun M26 => (((if (M26 221 29) = 0 then (f_X8_byAhead N M26).bind fun M32 => (f_X8_ask N M32).bind fun M33 => some (M33) else some (M26)) : Option (JMem)).bind fun M35 => ((jLp (σ := Int32 × JMem) (ρ := JMem) N (fun ((z42, M43) : Int32 × JMem) => (if (M43 221 2) ≤ z42 then some (Sum.inr M43) else (if (M43 221 29) = 0 then (jrd M43 222 8 z42).bind fun v45 => (((if v45 = 0 then (f_X8_byPairs N M43 z42).bind fun M51 => some (M51) else some (M43)) : Option (JMem)).bind fun M53 => some (Sum.inl (z42 + 1, M53))) else some (Sum.inr M43)))) (0, M35)).bind fun t44 => (((if (t44 221 29) = 0 then (f_X8_ask N t44).bind fun M61 => some (M61) else some (t44)) : Option (JMem)).bind fun M63 => ((jLp (σ := Int32 × JMem) (ρ := JMem) N (fun ((z70, M71) : Int32 × JMem) => (if (M71 221 2) ≤ z70 then some (Sum.inr M71) else (if (M71 221 29) = 0 then (jrd M71 222 8 z70).bind fun v73 => (((if v73 = 0 then (f_X8_bySets N M71 z70).bind fun M79 => some (M79) else some (M71)) : Option (JMem)).bind fun M81 => some (Sum.inl (z70 + 1, M81))) else some (Sum.inr M71)))) (0, M63)).bind fun t72 => (f_X8_ask N t72).bind fun M84 => some (Sum.inl (z21 + 1, M84)))))) else some (Sum.inr M22))))) (0, M14)).bind fun t23 => (if (t23 221 29) = 0 then some (t23, 1) else some (t23, 0))))
set_option maxHeartbeats 4000000 in
theorem c_X8_asks {N : Nat} {M : JMem} {x1 : Int32} {Mz : JMem} {r : Int32} (hf : f_X8_asks N M x1 = some (Mz, r)) : jCo yX8_asks μ_X8_asks 4 M [.ref 221, .int x1] Mz (some (.int r)) := by
  refine jCt_of (by decide +kernel) rfl (by simp [Value.category]) (Nat.le_of_ble_eq_true rfl) ?_
  unfold f_X8_asks at hf
  show jGG μ_X8_asks 4 0 [some (.ref 221), some (.int x1), none, none] [] M (fun M' r' => M' = Mz ∧ r' = some (.int r))
  refine g_iconst (pc := 0) 0 dX8_asks_0 rfl ?_
  refine g_istore_n (pc := 1) (lv' := [some (.ref 221), some (.int x1), some (.int 0), none]) dX8_asks_1 rfl (by decide) rfl ?_
  obtain ⟨t9, y2, hy1⟩ := job hf
  have K3 : jGG μ_X8_asks 4 30 [some (.ref 221), none, none, none] [] t9 (fun M' r' => M' = Mz ∧ r' = some (.int r)) := by
    replace hf := hy1
    refine g_aload_n (pc := 30) dX8_asks_30 rfl rfl ?_
    refine g_iconst (pc := 31) 0 dX8_asks_31 rfl ?_
    refine g_putZ (pc := 32) dX8_asks_32 fp_X8_236 (Or.inl rfl) sh_221 rfl ?_
    obtain ⟨M13, eM13, hf⟩ := job hf
    rw [Option.some.inj eM13]
    refine g_aload_n (pc := 35) dX8_asks_35 rfl rfl ?_
    refine g_iconst (pc := 36) 1 dX8_asks_36 rfl ?_
    refine g_putZ (pc := 37) dX8_asks_37 fp_X8_232 (Or.inr rfl) sh_221 rfl ?_
    obtain ⟨M14, eM14, hf⟩ := job hf
    rw [Option.some.inj eM14]
    refine g_iconst (pc := 40) 0 dX8_asks_40 rfl ?_
    refine g_istore_n (pc := 41) (lv' := [some (.ref 221), none, some (.int 0), none]) dX8_asks_41 rfl (by decide) rfl ?_
    obtain ⟨t23, y16, hy15⟩ := job hf
    have K17 : jGG μ_X8_asks 4 185 [some (.ref 221), none, none, none] [] t23 (fun M' r' => M' = Mz ∧ r' = some (.int r)) := by
      replace hf := hy15
      refine g_aload_n (pc := 185) dX8_asks_185 rfl rfl ?_
      refine g_getI (pc := 186) dX8_asks_186 fl_X8_236 sh_221 rfl ?_
      refine g_if_ne (pc := 189) 196 dX8_asks_189 rfl (fun hc88 => ?_) (fun hc88 => ?_)
      · replace hf := jifn hc88 hf
        refine g_iconst (pc := 196) 0 dX8_asks_196 rfl ?_
        obtain ⟨rfl, rfl⟩ := Prod.mk.inj (Option.some.inj hf)
        exact g_zret (pc := 197) dX8_asks_197 rfl (Or.inl rfl) ⟨rfl, rfl⟩
      · replace hf := jifp hc88 hf
        refine g_iconst (pc := 192) 1 dX8_asks_192 rfl ?_
        refine g_goto (pc := 193) 197 dX8_asks_193 rfl ?_
        obtain ⟨rfl, rfl⟩ := Prod.mk.inj (Option.some.inj hf)
        exact g_zret (pc := 197) dX8_asks_197 rfl (Or.inr rfl) ⟨rfl, rfl⟩
    refine g_weak (lv' := [some (.ref 221), none, some (.int 0), none]) ⟨rfl, ⟨rfl, trivial⟩⟩ ?_
    refine jLp_ind (P := fun ((z21, M22) : Int32 × JMem) => jGG μ_X8_asks 4 42 [some (.ref 221), none, some (.int z21), none] [] M22 (fun M' r' => M' = Mz ∧ r' = some (.int r))) ?_ N _ y16
    rintro ⟨z21, M22⟩ x_20 hf ih19 hx18
    show jGG μ_X8_asks 4 42 [some (.ref 221), none, some (.int z21), none] [] M22 (fun M' r' => M' = Mz ∧ r' = some (.int r))
    refine g_iload_n (pc := 42) dX8_asks_42 rfl rfl ?_
    refine g_bipush (pc := 43) 20 dX8_asks_43 rfl ?_
    refine g_icmp_ge (pc := 45) 185 dX8_asks_45 rfl (fun hc87 => ?_) (fun hc87 => ?_)
    · replace hf := jifp hc87 hf
      have hf := hx18 _ (Option.some.inj hf).symm
      obtain rfl := hf
      exact g_weakK K17 ⟨rfl, trivial⟩
    · replace hf := jifn hc87 hf
      refine g_aload_n (pc := 48) dX8_asks_48 rfl rfl ?_
      refine g_getI (pc := 49) dX8_asks_49 fl_X8_232 sh_221 rfl ?_
      refine g_if_eq (pc := 52) 185 dX8_asks_52 rfl (fun hc86 => ?_) (fun hc86 => ?_)
      · replace hf := jifp hc86 hf
        have hf := hx18 _ (Option.some.inj hf).symm
        obtain rfl := hf
        exact g_weakK K17 ⟨rfl, trivial⟩
      · replace hf := jifn hc86 hf
        refine g_aload_n (pc := 55) dX8_asks_55 rfl rfl ?_
        refine g_getI (pc := 56) dX8_asks_56 fl_X8_236 sh_221 rfl ?_
        refine g_if_ne (pc := 59) 185 dX8_asks_59 rfl (fun hc85 => ?_) (fun hc85 => ?_)
        · replace hf := jifn hc85 hf
          have hf := hx18 _ (Option.some.inj hf).symm
          obtain rfl := hf
          exact g_weakK K17 ⟨rfl, trivial⟩
        · replace hf := jifp hc85 hf
          refine g_aload_n (pc := 62) dX8_asks_62 rfl rfl ?_
          refine g_iconst (pc := 63) 0 dX8_asks_63 rfl ?_
          refine g_putZ (pc := 64) dX8_asks_64 fp_X8_232 (Or.inl rfl) sh_221 rfl ?_
          obtain ⟨M24, eM24, hf⟩ := job hf
          rw [Option.some.inj eM24]
          refine g_aload_n (pc := 67) dX8_asks_67 rfl rfl ?_
          obtain ⟨M25, eM25, hf⟩ := job hf
          refine g_callV (pc := 68) [] [] dX8_asks_68 ml_X8_258 ck_X8_byPieces cv_X8_byPieces sh_221 rfl (by decide) (Nat.le_of_ble_eq_true rfl) (c_X8_byPieces eM25) ?_
          show jGG μ_X8_asks 4 71 [some (.ref 221), none, some (.int z21), none] [] M25 (fun M' r' => M' = Mz ∧ r' = some (.int r))
          refine g_aload_n (pc := 71) dX8_asks_71 rfl rfl ?_
          obtain ⟨M26, eM26, hf⟩ := job hf
          refine g_callV (pc := 72) [] [] dX8_asks_72 ml_X8_261 ck_X8_ask cv_X8_ask sh_221 rfl (by decide) (Nat.le_of_ble_eq_true rfl) (c_X8_ask eM26) ?_
          show jGG μ_X8_asks 4 75 [some (.ref 221), none, some (.int z21), none] [] M26 (fun M' r' => M' = Mz ∧ r' = some (.int r))
          refine g_aload_n (pc := 75) dX8_asks_75 rfl rfl ?_
          refine g_getI (pc := 76) dX8_asks_76 fl_X8_236 sh_221 rfl ?_
          obtain ⟨M35, hf, hy28⟩ := job hf
          have K30 : jGG μ_X8_asks 4 90 [some (.ref 221), none, some (.int z21), none] [] M35 (fun M' r' => M' = Mz ∧ r' = some (.int r)) := by
            replace hf := hy28
            refine g_iconst (pc := 90) 0 dX8_asks_90 rfl ?_
            refine g_istore_n (pc := 91) (lv' := [some (.ref 221), none, some (.int z21), some (.int 0)]) dX8_asks_91 rfl (by decide) rfl ?_
            obtain ⟨t44, y37, hy36⟩ := job hf
            have K38 : jGG μ_X8_asks 4 127 [some (.ref 221), none, some (.int z21), none] [] t44 (fun M' r' => M' = Mz ∧ r' = some (.int r)) := by
              replace hf := hy36
              refine g_aload_n (pc := 127) dX8_asks_127 rfl rfl ?_
              refine g_getI (pc := 128) dX8_asks_128 fl_X8_236 sh_221 rfl ?_
              obtain ⟨M63, hf, hy57⟩ := job hf
              have K59 : jGG μ_X8_asks 4 138 [some (.ref 221), none, some (.int z21), none] [] M63 (fun M' r' => M' = Mz ∧ r' = some (.int r)) := by
                replace hf := hy57
                refine g_iconst (pc := 138) 0 dX8_asks_138 rfl ?_
                refine g_istore_n (pc := 139) (lv' := [some (.ref 221), none, some (.int z21), some (.int 0)]) dX8_asks_139 rfl (by decide) rfl ?_
                obtain ⟨t72, y65, hy64⟩ := job hf
                have K66 : jGG μ_X8_asks 4 175 [some (.ref 221), none, some (.int z21), none] [] t72 (fun M' r' => M' = Mz ∧ r' = some (.int r)) := by
                  replace hf := hy64
                  refine g_aload_n (pc := 175) dX8_asks_175 rfl rfl ?_
                  obtain ⟨M84, eM84, hf⟩ := job hf
                  refine g_callV (pc := 176) [] [] dX8_asks_176 ml_X8_261 ck_X8_ask cv_X8_ask sh_221 rfl (by decide) (Nat.le_of_ble_eq_true rfl) (c_X8_ask eM84) ?_
                  show jGG μ_X8_asks 4 179 [some (.ref 221), none, some (.int z21), none] [] M84 (fun M' r' => M' = Mz ∧ r' = some (.int r))
                  refine g_iinc (pc := 179) (lv' := [some (.ref 221), none, some (.int (z21 + 1)), none]) (z21 + 1) dX8_asks_179 rfl rfl (by decide) rfl ?_
                  refine g_goto (pc := 182) 42 dX8_asks_182 rfl ?_
                  have hih : jGG μ_X8_asks 4 42 [some (.ref 221), none, some (.int (z21 + 1)), none] [] M84 (fun M' r' => M' = Mz ∧ r' = some (.int r)) := ih19 (z21 + 1, M84) (Option.some.inj hf).symm
                  exact g_weakK hih ⟨rfl, ⟨rfl, trivial⟩⟩
                refine g_weak (lv' := [some (.ref 221), none, some (.int z21), some (.int 0)]) ⟨rfl, ⟨rfl, ⟨rfl, trivial⟩⟩⟩ ?_
                refine jLp_ind (P := fun ((z70, M71) : Int32 × JMem) => jGG μ_X8_asks 4 140 [some (.ref 221), none, some (.int z21), some (.int z70)] [] M71 (fun M' r' => M' = Mz ∧ r' = some (.int r))) ?_ N _ y65
                rintro ⟨z70, M71⟩ x_69 hf ih68 hx67
                show jGG μ_X8_asks 4 140 [some (.ref 221), none, some (.int z21), some (.int z70)] [] M71 (fun M' r' => M' = Mz ∧ r' = some (.int r))
                refine g_iload_n (pc := 140) dX8_asks_140 rfl rfl ?_
                refine g_aload_n (pc := 141) dX8_asks_141 rfl rfl ?_
                refine g_getI (pc := 142) dX8_asks_142 fl_X8_133 sh_221 rfl ?_
                refine g_icmp_ge (pc := 145) 175 dX8_asks_145 rfl (fun hc83 => ?_) (fun hc83 => ?_)
                · replace hf := jifp hc83 hf
                  have hf := hx67 _ (Option.some.inj hf).symm
                  obtain rfl := hf
                  exact g_weakK K66 ⟨rfl, ⟨rfl, trivial⟩⟩
                · replace hf := jifn hc83 hf
                  refine g_aload_n (pc := 148) dX8_asks_148 rfl rfl ?_
                  refine g_getI (pc := 149) dX8_asks_149 fl_X8_236 sh_221 rfl ?_
                  refine g_if_ne (pc := 152) 175 dX8_asks_152 rfl (fun hc82 => ?_) (fun hc82 => ?_)
                  · replace hf := jifn hc82 hf
                    have hf := hx67 _ (Option.some.inj hf).symm
                    obtain rfl := hf
                    exact g_weakK K66 ⟨rfl, ⟨rfl, trivial⟩⟩
                  · replace hf := jifp hc82 hf
                    refine g_aload_n (pc := 155) dX8_asks_155 rfl rfl ?_
                    refine g_getR (pc := 156) dX8_asks_156 fl_X8_7 sh_221 rfl ?_
                    refine g_iload_n (pc := 159) dX8_asks_159 rfl rfl ?_
                    obtain ⟨v73, ev73, hf⟩ := job hf
                    refine g_iald (pc := 160) dX8_asks_160 sh_222 ev73 ?_
                    obtain ⟨M81, hf, hy75⟩ := job hf
                    have K77 : jGG μ_X8_asks 4 169 [some (.ref 221), none, some (.int z21), some (.int z70)] [] M81 (fun M' r' => M' = Mz ∧ r' = some (.int r)) := by
                      replace hf := hy75
                      refine g_iinc (pc := 169) (lv' := [some (.ref 221), none, some (.int z21), some (.int (z70 + 1))]) (z70 + 1) dX8_asks_169 rfl rfl (by decide) rfl ?_
                      refine g_goto (pc := 172) 140 dX8_asks_172 rfl ?_
                      have hih : jGG μ_X8_asks 4 140 [some (.ref 221), none, some (.int z21), some (.int (z70 + 1))] [] M81 (fun M' r' => M' = Mz ∧ r' = some (.int r)) := ih68 (z70 + 1, M81) (Option.some.inj hf).symm
                      exact g_weakK hih ⟨rfl, ⟨rfl, ⟨rfl, trivial⟩⟩⟩
                    refine g_if_ne (pc := 161) 169 dX8_asks_161 rfl (fun hc80 => ?_) (fun hc80 => ?_)
                    · replace hf := jifn hc80 hf
                      obtain rfl := Option.some.inj hf
                      exact g_weakK (K77) ⟨rfl, ⟨rfl, ⟨rfl, trivial⟩⟩⟩
                    · replace hf := jifp hc80 hf
                      refine g_aload_n (pc := 164) dX8_asks_164 rfl rfl ?_
                      refine g_iload_n (pc := 165) dX8_asks_165 rfl rfl ?_
                      obtain ⟨M79, eM79, hf⟩ := job hf
                      refine g_callV (pc := 166) [.int z70] [] dX8_asks_166 ml_X8_271 ck_X8_bySets cv_X8_bySets sh_221 rfl (by decide) (Nat.le_of_ble_eq_true rfl) (c_X8_bySets eM79) ?_
                      show jGG μ_X8_asks 4 169 [some (.ref 221), none, some (.int z21), some (.int z70)] [] M79 (fun M' r' => M' = Mz ∧ r' = some (.int r))
                      obtain rfl := Option.some.inj hf
                      exact g_weakK (K77) ⟨rfl, ⟨rfl, ⟨rfl, trivial⟩⟩⟩
              refine g_if_ne (pc := 131) 138 dX8_asks_131 rfl (fun hc62 => ?_) (fun hc62 => ?_)
              · replace hf := jifn hc62 hf
                obtain rfl := Option.some.inj hf
                exact g_weakK (K59) ⟨rfl, ⟨rfl, trivial⟩⟩
              · replace hf := jifp hc62 hf
                refine g_aload_n (pc := 134) dX8_asks_134 rfl rfl ?_
                obtain ⟨M61, eM61, hf⟩ := job hf
                refine g_callV (pc := 135) [] [] dX8_asks_135 ml_X8_261 ck_X8_ask cv_X8_ask sh_221 rfl (by decide) (Nat.le_of_ble_eq_true rfl) (c_X8_ask eM61) ?_
                show jGG μ_X8_asks 4 138 [some (.ref 221), none, some (.int z21), none] [] M61 (fun M' r' => M' = Mz ∧ r' = some (.int r))
                obtain rfl := Option.some.inj hf
                exact g_weakK (K59) ⟨rfl, ⟨rfl, trivial⟩⟩
            refine g_weak (lv' := [some (.ref 221), none, some (.int z21), some (.int 0)]) ⟨rfl, ⟨rfl, ⟨rfl, trivial⟩⟩⟩ ?_
            refine jLp_ind (P := fun ((z42, M43) : Int32 × JMem) => jGG μ_X8_asks 4 92 [some (.ref 221), none, some (.int z21), some (.int z42)] [] M43 (fun M' r' => M' = Mz ∧ r' = some (.int r))) ?_ N _ y37
            rintro ⟨z42, M43⟩ x_41 hf ih40 hx39
            show jGG μ_X8_asks 4 92 [some (.ref 221), none, some (.int z21), some (.int z42)] [] M43 (fun M' r' => M' = Mz ∧ r' = some (.int r))
            refine g_iload_n (pc := 92) dX8_asks_92 rfl rfl ?_
            refine g_aload_n (pc := 93) dX8_asks_93 rfl rfl ?_
            refine g_getI (pc := 94) dX8_asks_94 fl_X8_133 sh_221 rfl ?_
            refine g_icmp_ge (pc := 97) 127 dX8_asks_97 rfl (fun hc55 => ?_) (fun hc55 => ?_)
            · replace hf := jifp hc55 hf
              have hf := hx39 _ (Option.some.inj hf).symm
              obtain rfl := hf
              exact g_weakK K38 ⟨rfl, ⟨rfl, trivial⟩⟩
            · replace hf := jifn hc55 hf
              refine g_aload_n (pc := 100) dX8_asks_100 rfl rfl ?_
              refine g_getI (pc := 101) dX8_asks_101 fl_X8_236 sh_221 rfl ?_
              refine g_if_ne (pc := 104) 127 dX8_asks_104 rfl (fun hc54 => ?_) (fun hc54 => ?_)
              · replace hf := jifn hc54 hf
                have hf := hx39 _ (Option.some.inj hf).symm
                obtain rfl := hf
                exact g_weakK K38 ⟨rfl, ⟨rfl, trivial⟩⟩
              · replace hf := jifp hc54 hf
                refine g_aload_n (pc := 107) dX8_asks_107 rfl rfl ?_
                refine g_getR (pc := 108) dX8_asks_108 fl_X8_7 sh_221 rfl ?_
                refine g_iload_n (pc := 111) dX8_asks_111 rfl rfl ?_
                obtain ⟨v45, ev45, hf⟩ := job hf
                refine g_iald (pc := 112) dX8_asks_112 sh_222 ev45 ?_
                obtain ⟨M53, hf, hy47⟩ := job hf
                have K49 : jGG μ_X8_asks 4 121 [some (.ref 221), none, some (.int z21), some (.int z42)] [] M53 (fun M' r' => M' = Mz ∧ r' = some (.int r)) := by
                  replace hf := hy47
                  refine g_iinc (pc := 121) (lv' := [some (.ref 221), none, some (.int z21), some (.int (z42 + 1))]) (z42 + 1) dX8_asks_121 rfl rfl (by decide) rfl ?_
                  refine g_goto (pc := 124) 92 dX8_asks_124 rfl ?_
                  have hih : jGG μ_X8_asks 4 92 [some (.ref 221), none, some (.int z21), some (.int (z42 + 1))] [] M53 (fun M' r' => M' = Mz ∧ r' = some (.int r)) := ih40 (z42 + 1, M53) (Option.some.inj hf).symm
                  exact g_weakK hih ⟨rfl, ⟨rfl, ⟨rfl, trivial⟩⟩⟩
                refine g_if_ne (pc := 113) 121 dX8_asks_113 rfl (fun hc52 => ?_) (fun hc52 => ?_)
                · replace hf := jifn hc52 hf
                  obtain rfl := Option.some.inj hf
                  exact g_weakK (K49) ⟨rfl, ⟨rfl, ⟨rfl, trivial⟩⟩⟩
                · replace hf := jifp hc52 hf
                  refine g_aload_n (pc := 116) dX8_asks_116 rfl rfl ?_
                  refine g_iload_n (pc := 117) dX8_asks_117 rfl rfl ?_
                  obtain ⟨M51, eM51, hf⟩ := job hf
                  refine g_callV (pc := 118) [.int z42] [] dX8_asks_118 ml_X8_267 ck_X8_byPairs cv_X8_byPairs sh_221 rfl (by decide) (Nat.le_of_ble_eq_true rfl) (c_X8_byPairs eM51) ?_
                  show jGG μ_X8_asks 4 121 [some (.ref 221), none, some (.int z21), some (.int z42)] [] M51 (fun M' r' => M' = Mz ∧ r' = some (.int r))
                  obtain rfl := Option.some.inj hf
                  exact g_weakK (K49) ⟨rfl, ⟨rfl, ⟨rfl, trivial⟩⟩⟩
          refine g_if_ne (pc := 79) 90 dX8_asks_79 rfl (fun hc34 => ?_) (fun hc34 => ?_)
          · replace hf := jifn hc34 hf
            obtain rfl := Option.some.inj hf
            exact g_weakK (K30) ⟨rfl, ⟨rfl, trivial⟩⟩
          · replace hf := jifp hc34 hf
            refine g_aload_n (pc := 82) dX8_asks_82 rfl rfl ?_
            obtain ⟨M32, eM32, hf⟩ := job hf
            refine g_callV (pc := 83) [] [] dX8_asks_83 ml_X8_264 ck_X8_byAhead cv_X8_byAhead sh_221 rfl (by decide) (Nat.le_of_ble_eq_true rfl) (c_X8_byAhead eM32) ?_
            show jGG μ_X8_asks 4 86 [some (.ref 221), none, some (.int z21), none] [] M32 (fun M' r' => M' = Mz ∧ r' = some (.int r))
            refine g_aload_n (pc := 86) dX8_asks_86 rfl rfl ?_
            obtain ⟨M33, eM33, hf⟩ := job hf
            refine g_callV (pc := 87) [] [] dX8_asks_87 ml_X8_261 ck_X8_ask cv_X8_ask sh_221 rfl (by decide) (Nat.le_of_ble_eq_true rfl) (c_X8_ask eM33) ?_
            show jGG μ_X8_asks 4 90 [some (.ref 221), none, some (.int z21), none] [] M33 (fun M' r' => M' = Mz ∧ r' = some (.int r))
            obtain rfl := Option.some.inj hf
            exact g_weakK (K30) ⟨rfl, ⟨rfl, trivial⟩⟩
  refine g_weak (lv' := [some (.ref 221), some (.int x1), some (.int 0), none]) ⟨rfl, ⟨rfl, ⟨rfl, trivial⟩⟩⟩ ?_
  refine jLp_ind (P := fun ((z7, M8) : Int32 × JMem) => jGG μ_X8_asks 4 2 [some (.ref 221), some (.int x1), some (.int z7), none] [] M8 (fun M' r' => M' = Mz ∧ r' = some (.int r))) ?_ N _ y2
  rintro ⟨z7, M8⟩ x_6 hf ih5 hx4
  show jGG μ_X8_asks 4 2 [some (.ref 221), some (.int x1), some (.int z7), none] [] M8 (fun M' r' => M' = Mz ∧ r' = some (.int r))
  refine g_iload_n (pc := 2) dX8_asks_2 rfl rfl ?_
  refine g_aload_n (pc := 3) dX8_asks_3 rfl rfl ?_
  refine g_getI (pc := 4) dX8_asks_4 fl_X8_143 sh_221 rfl ?_
  refine g_icmp_ge (pc := 7) 30 dX8_asks_7 rfl (fun hc12 => ?_) (fun hc12 => ?_)
  · replace hf := jifp hc12 hf
    have hf := hx4 _ (Option.some.inj hf).symm
    obtain rfl := hf
    exact g_weakK K3 ⟨rfl, trivial⟩
  · replace hf := jifn hc12 hf
    refine g_aload_n (pc := 10) dX8_asks_10 rfl rfl ?_
    refine g_getR (pc := 11) dX8_asks_11 fl_X8_71 sh_221 rfl ?_
    refine g_iload_n (pc := 14) dX8_asks_14 rfl rfl ?_
    refine g_iconst (pc := 15) 0 dX8_asks_15 rfl ?_
    obtain ⟨M10, eM10, hf⟩ := job hf
    refine g_iast (pc := 16) dX8_asks_16 sh_242 eM10 ?_
    refine g_aload_n (pc := 17) dX8_asks_17 rfl rfl ?_
    refine g_getR (pc := 18) dX8_asks_18 fl_X8_74 sh_221 rfl ?_
    refine g_iload_n (pc := 21) dX8_asks_21 rfl rfl ?_
    refine g_iload_n (pc := 22) dX8_asks_22 rfl rfl ?_
    obtain ⟨M11, eM11, hf⟩ := job hf
    refine g_iast (pc := 23) dX8_asks_23 sh_243 eM11 ?_
    refine g_iinc (pc := 24) (lv' := [some (.ref 221), some (.int x1), some (.int (z7 + 1)), none]) (z7 + 1) dX8_asks_24 rfl rfl (by decide) rfl ?_
    refine g_goto (pc := 27) 2 dX8_asks_27 rfl ?_
    have hih : jGG μ_X8_asks 4 2 [some (.ref 221), some (.int x1), some (.int (z7 + 1)), none] [] M11 (fun M' r' => M' = Mz ∧ r' = some (.int r)) := ih5 (z7 + 1, M11) (Option.some.inj hf).symm
    exact g_weakK hih ⟨rfl, ⟨rfl, ⟨rfl, trivial⟩⟩⟩
def f_X8_windows (N : Nat) (M : JMem) (x1 : Int32) : Option (JMem × Int32) := (if (jin3 x1.toInt64 0 100000) = 0 then some (M, (-100002)) else (f_X8_isSimple N M).bind fun v1 => (if v1 = 0 then some (M, (-100003)) else ((jLp (σ := Int32 × JMem) (ρ := JMem) N (fun ((z8, M9) : Int32 × JMem) => (if 32 ≤ z8 then some (Sum.inr M9) else (jwr M9 244 32 z8 0).bind fun M11 => some (Sum.inl (z8 + 1, M11)))) (0, M)).bind fun t10 => (f_X8_asks N t10 x1).bind fun (M13, v14) => (some (jup M13 221 30 1)).bind fun M15 => (some (jup M15 221 31 (M15 221 11))).bind fun M16 => ((jLp (σ := Int32 × JMem) (ρ := JMem) N (fun ((z23, M24) : Int32 × JMem) => (if 32 ≤ z23 then some (Sum.inr M24) else (jrd M24 242 32 z23).bind fun v26 => (jwr M24 245 32 z23 v26).bind fun M27 => (jrd M27 243 32 z23).bind fun v28 => (jwr M27 246 32 z23 v28).bind fun M29 => (jrd M29 244 32 z23).bind fun v30 => (jwr M29 247 32 z23 v30).bind fun M31 => some (Sum.inl (z23 + 1, M31)))) (0, M16)).bind fun t25 => (if v14 = 0 then some (t25, 0) else some (t25, 1))))))
set_option maxHeartbeats 4000000 in
theorem c_X8_windows {N : Nat} {M : JMem} {x1 : Int32} {Mz : JMem} {r : Int32} (hf : f_X8_windows N M x1 = some (Mz, r)) : jCo yX8_windows μ_X8_windows 5 M [.ref 221, .int x1] Mz (some (.int r)) := by
  refine jCt_of (by decide +kernel) rfl (by simp [Value.category]) (Nat.le_of_ble_eq_true rfl) ?_
  unfold f_X8_windows at hf
  show jGG μ_X8_windows 5 0 [some (.ref 221), some (.int x1), none, none] [] M (fun M' r' => M' = Mz ∧ r' = some (.int r))
  refine g_iload_n (pc := 0) dX8_windows_0 rfl rfl ?_
  refine g_i2l (pc := 1) dX8_windows_1 ?_
  refine g_lconst (pc := 2) 0 dX8_windows_2 rfl ?_
  refine g_ldc2 (pc := 3) 100000 dX8_windows_3 lcl_X8_274 ?_
  refine g_callS (pc := 6) [.long x1.toInt64, .long 0, .long 100000] [] dX8_windows_6 ml_X8_124 ck_X8_in cs_X8_in rfl (by decide) (Nat.le_of_ble_eq_true rfl) c_in ?_
  show jGG μ_X8_windows 5 9 [some (.ref 221), some (.int x1), none, none] [.int (jin3 x1.toInt64 0 100000)] M (fun M' r' => M' = Mz ∧ r' = some (.int r))
  refine g_if_ne (pc := 9) 15 dX8_windows_9 rfl (fun hc35 => ?_) (fun hc35 => ?_)
  · replace hf := jifn hc35 hf
    refine g_aload_n (pc := 15) dX8_windows_15 rfl rfl ?_
    obtain ⟨v1, ev1, hf⟩ := job hf
    refine g_callV (pc := 16) [] [] dX8_windows_16 ml_X8_161 ck_X8_isSimple cv_X8_isSimple sh_221 rfl (by decide) (Nat.le_of_ble_eq_true rfl) (c_X8_isSimple ev1) ?_
    show jGG μ_X8_windows 5 19 [some (.ref 221), some (.int x1), none, none] [.int v1] M (fun M' r' => M' = Mz ∧ r' = some (.int r))
    refine g_if_ne (pc := 19) 25 dX8_windows_19 rfl (fun hc34 => ?_) (fun hc34 => ?_)
    · replace hf := jifn hc34 hf
      refine g_iconst (pc := 25) 0 dX8_windows_25 rfl ?_
      refine g_istore_n (pc := 26) (lv' := [some (.ref 221), some (.int x1), some (.int 0), none]) dX8_windows_26 rfl (by decide) rfl ?_
      obtain ⟨t10, y3, hy2⟩ := job hf
      have K4 : jGG μ_X8_windows 5 46 [some (.ref 221), some (.int x1), none, none] [] t10 (fun M' r' => M' = Mz ∧ r' = some (.int r)) := by
        replace hf := hy2
        refine g_aload_n (pc := 46) dX8_windows_46 rfl rfl ?_
        refine g_iload_n (pc := 47) dX8_windows_47 rfl rfl ?_
        obtain ⟨⟨M13, v14⟩, ev14, hf⟩ := job hf
        refine g_callV (pc := 48) [.int x1] [] dX8_windows_48 ml_X8_276 ck_X8_asks cv_X8_asks sh_221 rfl (by decide) (Nat.le_of_ble_eq_true rfl) (c_X8_asks ev14) ?_
        show jGG μ_X8_windows 5 51 [some (.ref 221), some (.int x1), none, none] [.int v14] M13 (fun M' r' => M' = Mz ∧ r' = some (.int r))
        refine g_istore_n (pc := 51) (lv' := [some (.ref 221), some (.int x1), some (.int v14), none]) dX8_windows_51 rfl (by decide) rfl ?_
        refine g_aload_n (pc := 52) dX8_windows_52 rfl rfl ?_
        refine g_iconst (pc := 53) 1 dX8_windows_53 rfl ?_
        refine g_putZ (pc := 54) dX8_windows_54 fp_X8_279 (Or.inr rfl) sh_221 rfl ?_
        obtain ⟨M15, eM15, hf⟩ := job hf
        rw [Option.some.inj eM15]
        refine g_aload_n (pc := 57) dX8_windows_57 rfl rfl ?_
        refine g_aload_n (pc := 58) dX8_windows_58 rfl rfl ?_
        refine g_getI (pc := 59) dX8_windows_59 fl_X8_143 sh_221 rfl ?_
        refine g_putI (pc := 62) dX8_windows_62 fp_X8_282 sh_221 rfl ?_
        obtain ⟨M16, eM16, hf⟩ := job hf
        rw [Option.some.inj eM16]
        refine g_iconst (pc := 65) 0 dX8_windows_65 rfl ?_
        refine g_istore_n (pc := 66) (lv' := [some (.ref 221), some (.int x1), some (.int v14), some (.int 0)]) dX8_windows_66 rfl (by decide) rfl ?_
        obtain ⟨t25, y18, hy17⟩ := job hf
        have K19 : jGG μ_X8_windows 5 115 [none, none, some (.int v14), none] [] t25 (fun M' r' => M' = Mz ∧ r' = some (.int r)) := by
          replace hf := hy17
          refine g_iload_n (pc := 115) dX8_windows_115 rfl rfl ?_
          refine g_if_eq (pc := 116) 123 dX8_windows_116 rfl (fun hc33 => ?_) (fun hc33 => ?_)
          · replace hf := jifp hc33 hf
            refine g_iconst (pc := 123) 0 dX8_windows_123 rfl ?_
            obtain ⟨rfl, rfl⟩ := Prod.mk.inj (Option.some.inj hf)
            exact g_iret (pc := 124) dX8_windows_124 rfl ⟨rfl, rfl⟩
          · replace hf := jifn hc33 hf
            refine g_iconst (pc := 119) 1 dX8_windows_119 rfl ?_
            refine g_goto (pc := 120) 124 dX8_windows_120 rfl ?_
            obtain ⟨rfl, rfl⟩ := Prod.mk.inj (Option.some.inj hf)
            exact g_iret (pc := 124) dX8_windows_124 rfl ⟨rfl, rfl⟩
        refine g_weak (lv' := [some (.ref 221), none, some (.int v14), some (.int 0)]) ⟨rfl, ⟨rfl, ⟨rfl, trivial⟩⟩⟩ ?_
        refine jLp_ind (P := fun ((z23, M24) : Int32 × JMem) => jGG μ_X8_windows 5 67 [some (.ref 221), none, some (.int v14), some (.int z23)] [] M24 (fun M' r' => M' = Mz ∧ r' = some (.int r))) ?_ N _ y18
        rintro ⟨z23, M24⟩ x_22 hf ih21 hx20
        show jGG μ_X8_windows 5 67 [some (.ref 221), none, some (.int v14), some (.int z23)] [] M24 (fun M' r' => M' = Mz ∧ r' = some (.int r))
        refine g_iload_n (pc := 67) dX8_windows_67 rfl rfl ?_
        refine g_bipush (pc := 68) 32 dX8_windows_68 rfl ?_
        refine g_icmp_ge (pc := 70) 115 dX8_windows_70 rfl (fun hc32 => ?_) (fun hc32 => ?_)
        · replace hf := jifp hc32 hf
          have hf := hx20 _ (Option.some.inj hf).symm
          obtain rfl := hf
          exact g_weakK K19 ⟨rfl, trivial⟩
        · replace hf := jifn hc32 hf
          refine g_aload_n (pc := 73) dX8_windows_73 rfl rfl ?_
          refine g_getR (pc := 74) dX8_windows_74 fl_X8_80 sh_221 rfl ?_
          refine g_iload_n (pc := 77) dX8_windows_77 rfl rfl ?_
          refine g_aload_n (pc := 78) dX8_windows_78 rfl rfl ?_
          refine g_getR (pc := 79) dX8_windows_79 fl_X8_71 sh_221 rfl ?_
          refine g_iload_n (pc := 82) dX8_windows_82 rfl rfl ?_
          obtain ⟨v26, ev26, hf⟩ := job hf
          refine g_iald (pc := 83) dX8_windows_83 sh_242 ev26 ?_
          obtain ⟨M27, eM27, hf⟩ := job hf
          refine g_iast (pc := 84) dX8_windows_84 sh_245 eM27 ?_
          refine g_aload_n (pc := 85) dX8_windows_85 rfl rfl ?_
          refine g_getR (pc := 86) dX8_windows_86 fl_X8_83 sh_221 rfl ?_
          refine g_iload_n (pc := 89) dX8_windows_89 rfl rfl ?_
          refine g_aload_n (pc := 90) dX8_windows_90 rfl rfl ?_
          refine g_getR (pc := 91) dX8_windows_91 fl_X8_74 sh_221 rfl ?_
          refine g_iload_n (pc := 94) dX8_windows_94 rfl rfl ?_
          obtain ⟨v28, ev28, hf⟩ := job hf
          refine g_iald (pc := 95) dX8_windows_95 sh_243 ev28 ?_
          obtain ⟨M29, eM29, hf⟩ := job hf
          refine g_iast (pc := 96) dX8_windows_96 sh_246 eM29 ?_
          refine g_aload_n (pc := 97) dX8_windows_97 rfl rfl ?_
          refine g_getR (pc := 98) dX8_windows_98 fl_X8_86 sh_221 rfl ?_
          refine g_iload_n (pc := 101) dX8_windows_101 rfl rfl ?_
          refine g_aload_n (pc := 102) dX8_windows_102 rfl rfl ?_
          refine g_getR (pc := 103) dX8_windows_103 fl_X8_77 sh_221 rfl ?_
          refine g_iload_n (pc := 106) dX8_windows_106 rfl rfl ?_
          obtain ⟨v30, ev30, hf⟩ := job hf
          refine g_iald (pc := 107) dX8_windows_107 sh_244 ev30 ?_
          obtain ⟨M31, eM31, hf⟩ := job hf
          refine g_iast (pc := 108) dX8_windows_108 sh_247 eM31 ?_
          refine g_iinc (pc := 109) (lv' := [some (.ref 221), none, some (.int v14), some (.int (z23 + 1))]) (z23 + 1) dX8_windows_109 rfl rfl (by decide) rfl ?_
          refine g_goto (pc := 112) 67 dX8_windows_112 rfl ?_
          have hih : jGG μ_X8_windows 5 67 [some (.ref 221), none, some (.int v14), some (.int (z23 + 1))] [] M31 (fun M' r' => M' = Mz ∧ r' = some (.int r)) := ih21 (z23 + 1, M31) (Option.some.inj hf).symm
          exact g_weakK hih ⟨rfl, ⟨rfl, ⟨rfl, trivial⟩⟩⟩
      refine g_weak (lv' := [some (.ref 221), some (.int x1), some (.int 0), none]) ⟨rfl, ⟨rfl, ⟨rfl, trivial⟩⟩⟩ ?_
      refine jLp_ind (P := fun ((z8, M9) : Int32 × JMem) => jGG μ_X8_windows 5 27 [some (.ref 221), some (.int x1), some (.int z8), none] [] M9 (fun M' r' => M' = Mz ∧ r' = some (.int r))) ?_ N _ y3
      rintro ⟨z8, M9⟩ x_7 hf ih6 hx5
      show jGG μ_X8_windows 5 27 [some (.ref 221), some (.int x1), some (.int z8), none] [] M9 (fun M' r' => M' = Mz ∧ r' = some (.int r))
      refine g_iload_n (pc := 27) dX8_windows_27 rfl rfl ?_
      refine g_bipush (pc := 28) 32 dX8_windows_28 rfl ?_
      refine g_icmp_ge (pc := 30) 46 dX8_windows_30 rfl (fun hc12 => ?_) (fun hc12 => ?_)
      · replace hf := jifp hc12 hf
        have hf := hx5 _ (Option.some.inj hf).symm
        obtain rfl := hf
        exact g_weakK K4 ⟨rfl, ⟨rfl, trivial⟩⟩
      · replace hf := jifn hc12 hf
        refine g_aload_n (pc := 33) dX8_windows_33 rfl rfl ?_
        refine g_getR (pc := 34) dX8_windows_34 fl_X8_77 sh_221 rfl ?_
        refine g_iload_n (pc := 37) dX8_windows_37 rfl rfl ?_
        refine g_iconst (pc := 38) 0 dX8_windows_38 rfl ?_
        obtain ⟨M11, eM11, hf⟩ := job hf
        refine g_iast (pc := 39) dX8_windows_39 sh_244 eM11 ?_
        refine g_iinc (pc := 40) (lv' := [some (.ref 221), some (.int x1), some (.int (z8 + 1)), none]) (z8 + 1) dX8_windows_40 rfl rfl (by decide) rfl ?_
        refine g_goto (pc := 43) 27 dX8_windows_43 rfl ?_
        have hih : jGG μ_X8_windows 5 27 [some (.ref 221), some (.int x1), some (.int (z8 + 1)), none] [] M11 (fun M' r' => M' = Mz ∧ r' = some (.int r)) := ih6 (z8 + 1, M11) (Option.some.inj hf).symm
        exact g_weakK hih ⟨rfl, ⟨rfl, ⟨rfl, trivial⟩⟩⟩
    · replace hf := jifp hc34 hf
      refine g_ldc (pc := 22) (-100003) dX8_windows_22 lc_X8_179 ?_
      obtain ⟨rfl, rfl⟩ := Prod.mk.inj (Option.some.inj hf)
      exact g_iret (pc := 24) dX8_windows_24 rfl ⟨rfl, rfl⟩
  · replace hf := jifp hc35 hf
    refine g_ldc (pc := 12) (-100002) dX8_windows_12 lc_X8_132 ?_
    obtain ⟨rfl, rfl⟩ := Prod.mk.inj (Option.some.inj hf)
    exact g_iret (pc := 14) dX8_windows_14 rfl ⟨rfl, rfl⟩
def f_X8_window (N : Nat) (M : JMem) (x1 : Int32) (x2 : Int32) : Option (Int32) := (f_X8_isStep M x1).bind fun v1 => (if v1 = 0 then some (-100001) else (if (jin3 x2.toInt64 0 2) = 0 then some (-100002) else (if (M 221 30) = 0 then some (-1) else (if x1 < (M 221 31) then ((jLp (σ := Int32 × Int32) (ρ := Int32) N (fun ((z8, z9) : Int32 × Int32) => (if (M 221 31) ≤ z9 then some (Sum.inr z8) else (jrd M 247 32 x1).bind fun v11 => some (Sum.inl (z8 + ((jushr v11 z9) &&& 1), z9 + 1)))) (0, 0)).bind fun t10 => (if x2 = 0 then (jrd M 245 32 x1).bind fun v15 => some v15 else (if x2 = 1 then (jrd M 246 32 x1).bind fun v13 => some v13 else some t10))) else some (-1)))))
set_option maxHeartbeats 4000000 in
theorem c_X8_window {N : Nat} {M : JMem} {x1 : Int32} {x2 : Int32} {r : Int32} (hf : f_X8_window N M x1 x2 = some r) : jCo yX8_window μ_X8_window 3 M [.ref 221, .int x1, .int x2] M (some (.int r)) := by
  refine jCt_of (by decide +kernel) rfl (by simp [Value.category]) (Nat.le_of_ble_eq_true rfl) ?_
  unfold f_X8_window at hf
  show jGG μ_X8_window 3 0 [some (.ref 221), some (.int x1), some (.int x2), none, none] [] M (fun M' r' => M' = M ∧ r' = some (.int r))
  refine g_aload_n (pc := 0) dX8_window_0 rfl rfl ?_
  refine g_iload_n (pc := 1) dX8_window_1 rfl rfl ?_
  obtain ⟨v1, ev1, hf⟩ := job hf
  refine g_callV (pc := 2) [.int x1] [] dX8_window_2 ml_X8_153 ck_X8_isStep cv_X8_isStep sh_221 rfl (by decide) (Nat.le_of_ble_eq_true rfl) (c_X8_isStep ev1) ?_
  show jGG μ_X8_window 3 5 [some (.ref 221), some (.int x1), some (.int x2), none, none] [.int v1] M (fun M' r' => M' = M ∧ r' = some (.int r))
  refine g_if_ne (pc := 5) 11 dX8_window_5 rfl (fun hc20 => ?_) (fun hc20 => ?_)
  · replace hf := jifn hc20 hf
    refine g_iload_n (pc := 11) dX8_window_11 rfl rfl ?_
    refine g_i2l (pc := 12) dX8_window_12 ?_
    refine g_lconst (pc := 13) 0 dX8_window_13 rfl ?_
    refine g_ldc2 (pc := 14) 2 dX8_window_14 lcl_X8_174 ?_
    refine g_callS (pc := 17) [.long x2.toInt64, .long 0, .long 2] [] dX8_window_17 ml_X8_124 ck_X8_in cs_X8_in rfl (by decide) (Nat.le_of_ble_eq_true rfl) c_in ?_
    show jGG μ_X8_window 3 20 [some (.ref 221), some (.int x1), some (.int x2), none, none] [.int (jin3 x2.toInt64 0 2)] M (fun M' r' => M' = M ∧ r' = some (.int r))
    refine g_if_ne (pc := 20) 26 dX8_window_20 rfl (fun hc19 => ?_) (fun hc19 => ?_)
    · replace hf := jifn hc19 hf
      refine g_aload_n (pc := 26) dX8_window_26 rfl rfl ?_
      refine g_getI (pc := 27) dX8_window_27 fl_X8_279 sh_221 rfl ?_
      refine g_if_eq (pc := 30) 41 dX8_window_30 rfl (fun hc18 => ?_) (fun hc18 => ?_)
      · replace hf := jifp hc18 hf
        refine g_iconst (pc := 41) (-1) dX8_window_41 rfl ?_
        obtain rfl := Option.some.inj hf
        exact g_iret (pc := 42) dX8_window_42 rfl ⟨rfl, rfl⟩
      · replace hf := jifn hc18 hf
        refine g_iload_n (pc := 33) dX8_window_33 rfl rfl ?_
        refine g_aload_n (pc := 34) dX8_window_34 rfl rfl ?_
        refine g_getI (pc := 35) dX8_window_35 fl_X8_282 sh_221 rfl ?_
        refine g_icmp_lt (pc := 38) 43 dX8_window_38 rfl (fun hc17 => ?_) (fun hc17 => ?_)
        · replace hf := jifp hc17 hf
          refine g_iconst (pc := 43) 0 dX8_window_43 rfl ?_
          refine g_istore_n (pc := 44) (lv' := [some (.ref 221), some (.int x1), some (.int x2), some (.int 0), none]) dX8_window_44 rfl (by decide) rfl ?_
          refine g_iconst (pc := 45) 0 dX8_window_45 rfl ?_
          refine g_istore (pc := 46) (lv' := [some (.ref 221), some (.int x1), some (.int x2), some (.int 0), some (.int 0)]) dX8_window_46 (by decide) rfl ?_
          obtain ⟨t10, y3, hy2⟩ := job hf
          have K4 : jGG μ_X8_window 3 77 [some (.ref 221), some (.int x1), some (.int x2), some (.int t10), none] [] M (fun M' r' => M' = M ∧ r' = some (.int r)) := by
            replace hf := hy2
            refine g_iload_n (pc := 77) dX8_window_77 rfl rfl ?_
            refine g_if_ne (pc := 78) 90 dX8_window_78 rfl (fun hc16 => ?_) (fun hc16 => ?_)
            · replace hf := jifn hc16 hf
              refine g_iload_n (pc := 90) dX8_window_90 rfl rfl ?_
              refine g_iconst (pc := 91) 1 dX8_window_91 rfl ?_
              refine g_icmp_ne (pc := 92) 104 dX8_window_92 rfl (fun hc14 => ?_) (fun hc14 => ?_)
              · replace hf := jifn hc14 hf
                refine g_iload_n (pc := 104) dX8_window_104 rfl rfl ?_
                obtain rfl := Option.some.inj hf
                exact g_iret (pc := 105) dX8_window_105 rfl ⟨rfl, rfl⟩
              · replace hf := jifp hc14 hf
                refine g_aload_n (pc := 95) dX8_window_95 rfl rfl ?_
                refine g_getR (pc := 96) dX8_window_96 fl_X8_83 sh_221 rfl ?_
                refine g_iload_n (pc := 99) dX8_window_99 rfl rfl ?_
                obtain ⟨v13, ev13, hf⟩ := job hf
                refine g_iald (pc := 100) dX8_window_100 sh_246 ev13 ?_
                refine g_goto (pc := 101) 105 dX8_window_101 rfl ?_
                obtain rfl := Option.some.inj hf
                exact g_iret (pc := 105) dX8_window_105 rfl ⟨rfl, rfl⟩
            · replace hf := jifp hc16 hf
              refine g_aload_n (pc := 81) dX8_window_81 rfl rfl ?_
              refine g_getR (pc := 82) dX8_window_82 fl_X8_80 sh_221 rfl ?_
              refine g_iload_n (pc := 85) dX8_window_85 rfl rfl ?_
              obtain ⟨v15, ev15, hf⟩ := job hf
              refine g_iald (pc := 86) dX8_window_86 sh_245 ev15 ?_
              refine g_goto (pc := 87) 105 dX8_window_87 rfl ?_
              obtain rfl := Option.some.inj hf
              exact g_iret (pc := 105) dX8_window_105 rfl ⟨rfl, rfl⟩
          refine g_weak (lv' := [some (.ref 221), some (.int x1), some (.int x2), some (.int 0), some (.int 0)]) ⟨rfl, ⟨rfl, ⟨rfl, ⟨rfl, ⟨rfl, trivial⟩⟩⟩⟩⟩ ?_
          refine jLp_ind (P := fun ((z8, z9) : Int32 × Int32) => jGG μ_X8_window 3 48 [some (.ref 221), some (.int x1), some (.int x2), some (.int z8), some (.int z9)] [] M (fun M' r' => M' = M ∧ r' = some (.int r))) ?_ N _ y3
          rintro ⟨z8, z9⟩ x_7 hf ih6 hx5
          show jGG μ_X8_window 3 48 [some (.ref 221), some (.int x1), some (.int x2), some (.int z8), some (.int z9)] [] M (fun M' r' => M' = M ∧ r' = some (.int r))
          refine g_iload (pc := 48) dX8_window_48 rfl ?_
          refine g_aload_n (pc := 50) dX8_window_50 rfl rfl ?_
          refine g_getI (pc := 51) dX8_window_51 fl_X8_282 sh_221 rfl ?_
          refine g_icmp_ge (pc := 54) 77 dX8_window_54 rfl (fun hc12 => ?_) (fun hc12 => ?_)
          · replace hf := jifp hc12 hf
            have hf := hx5 _ (Option.some.inj hf).symm
            obtain rfl := hf
            exact g_weakK K4 ⟨rfl, ⟨rfl, ⟨rfl, ⟨rfl, trivial⟩⟩⟩⟩
          · replace hf := jifn hc12 hf
            refine g_iload_n (pc := 57) dX8_window_57 rfl rfl ?_
            refine g_aload_n (pc := 58) dX8_window_58 rfl rfl ?_
            refine g_getR (pc := 59) dX8_window_59 fl_X8_86 sh_221 rfl ?_
            refine g_iload_n (pc := 62) dX8_window_62 rfl rfl ?_
            obtain ⟨v11, ev11, hf⟩ := job hf
            refine g_iald (pc := 63) dX8_window_63 sh_247 ev11 ?_
            refine g_iload (pc := 64) dX8_window_64 rfl ?_
            refine g_iushr (pc := 66) dX8_window_66 ?_
            refine g_iconst (pc := 67) 1 dX8_window_67 rfl ?_
            refine g_iand (pc := 68) dX8_window_68 ?_
            refine g_iadd (pc := 69) dX8_window_69 ?_
            refine g_istore_n (pc := 70) (lv' := [some (.ref 221), some (.int x1), some (.int x2), some (.int (z8 + ((jushr v11 z9) &&& 1))), some (.int z9)]) dX8_window_70 rfl (by decide) rfl ?_
            refine g_iinc (pc := 71) (lv' := [some (.ref 221), some (.int x1), some (.int x2), some (.int (z8 + ((jushr v11 z9) &&& 1))), some (.int (z9 + 1))]) (z9 + 1) dX8_window_71 rfl rfl (by decide) rfl ?_
            refine g_goto (pc := 74) 48 dX8_window_74 rfl ?_
            have hih : jGG μ_X8_window 3 48 [some (.ref 221), some (.int x1), some (.int x2), some (.int (z8 + ((jushr v11 z9) &&& 1))), some (.int (z9 + 1))] [] M (fun M' r' => M' = M ∧ r' = some (.int r)) := ih6 (z8 + ((jushr v11 z9) &&& 1), z9 + 1) (Option.some.inj hf).symm
            exact g_weakK hih ⟨rfl, ⟨rfl, ⟨rfl, ⟨rfl, ⟨rfl, trivial⟩⟩⟩⟩⟩
        · replace hf := jifn hc17 hf
          refine g_iconst (pc := 41) (-1) dX8_window_41 rfl ?_
          obtain rfl := Option.some.inj hf
          exact g_iret (pc := 42) dX8_window_42 rfl ⟨rfl, rfl⟩
    · replace hf := jifp hc19 hf
      refine g_ldc (pc := 23) (-100002) dX8_window_23 lc_X8_132 ?_
      obtain rfl := Option.some.inj hf
      exact g_iret (pc := 25) dX8_window_25 rfl ⟨rfl, rfl⟩
  · replace hf := jifp hc20 hf
    refine g_ldc (pc := 8) (-100001) dX8_window_8 lc_X8_146 ?_
    obtain rfl := Option.some.inj hf
    exact g_iret (pc := 10) dX8_window_10 rfl ⟨rfl, rfl⟩
def f_X8_must (M : JMem) (x1 : Int32) (x2 : Int32) : Option (Int32) := (f_X8_isStep M x1).bind fun v1 => (if v1 = 0 then some (-100001) else (f_X8_isStep M x2).bind fun v2 => (if v2 = 0 then some (-100001) else (((jcase (α := Int32) (β := Unit) (if (M 221 30) = 0 then some (Sum.inr ()) else (if (M 221 31) ≤ x1 then some (Sum.inr ()) else (if (M 221 31) ≤ x2 then some (Sum.inr ()) else some (Sum.inl (1))))) fun _ => some (0)) : Option (Int32)).bind fun u16 => (if u16 = 0 then some 0 else (jrd M 247 32 x1).bind fun v17 => (if ((jushr v17 x2) &&& 1) = 1 then some 1 else (jrd M 247 32 x2).bind fun v18 => (if ((jushr v18 x1) &&& 1) = 1 then some 2 else some 0))))))
set_option maxHeartbeats 4000000 in
theorem c_X8_must {M : JMem} {x1 : Int32} {x2 : Int32} {r : Int32} (hf : f_X8_must M x1 x2 = some r) : jCo yX8_must μ_X8_must 3 M [.ref 221, .int x1, .int x2] M (some (.int r)) := by
  refine jCt_of (by decide +kernel) rfl (by simp [Value.category]) (Nat.le_of_ble_eq_true rfl) ?_
  unfold f_X8_must at hf
  show jGG μ_X8_must 3 0 [some (.ref 221), some (.int x1), some (.int x2), none] [] M (fun M' r' => M' = M ∧ r' = some (.int r))
  refine g_aload_n (pc := 0) dX8_must_0 rfl rfl ?_
  refine g_iload_n (pc := 1) dX8_must_1 rfl rfl ?_
  obtain ⟨v1, ev1, hf⟩ := job hf
  refine g_callV (pc := 2) [.int x1] [] dX8_must_2 ml_X8_153 ck_X8_isStep cv_X8_isStep sh_221 rfl (by decide) (Nat.le_of_ble_eq_true rfl) (c_X8_isStep ev1) ?_
  show jGG μ_X8_must 3 5 [some (.ref 221), some (.int x1), some (.int x2), none] [.int v1] M (fun M' r' => M' = M ∧ r' = some (.int r))
  refine g_if_eq (pc := 5) 16 dX8_must_5 rfl (fun hc23 => ?_) (fun hc23 => ?_)
  · replace hf := jifp hc23 hf
    refine g_ldc (pc := 16) (-100001) dX8_must_16 lc_X8_146 ?_
    obtain rfl := Option.some.inj hf
    exact g_iret (pc := 18) dX8_must_18 rfl ⟨rfl, rfl⟩
  · replace hf := jifn hc23 hf
    refine g_aload_n (pc := 8) dX8_must_8 rfl rfl ?_
    refine g_iload_n (pc := 9) dX8_must_9 rfl rfl ?_
    obtain ⟨v2, ev2, hf⟩ := job hf
    refine g_callV (pc := 10) [.int x2] [] dX8_must_10 ml_X8_153 ck_X8_isStep cv_X8_isStep sh_221 rfl (by decide) (Nat.le_of_ble_eq_true rfl) (c_X8_isStep ev2) ?_
    show jGG μ_X8_must 3 13 [some (.ref 221), some (.int x1), some (.int x2), none] [.int v2] M (fun M' r' => M' = M ∧ r' = some (.int r))
    refine g_if_ne (pc := 13) 19 dX8_must_13 rfl (fun hc22 => ?_) (fun hc22 => ?_)
    · replace hf := jifn hc22 hf
      refine g_aload_n (pc := 19) dX8_must_19 rfl rfl ?_
      refine g_getI (pc := 20) dX8_must_20 fl_X8_279 sh_221 rfl ?_
      obtain ⟨u16, hf, hy4⟩ := job hf
      have K6 : (hbu16 : u16 = 0 ∨ u16 = 1) → jGG μ_X8_must 3 47 [some (.ref 221), some (.int x1), some (.int x2), none] [.int u16] M (fun M' r' => M' = M ∧ r' = some (.int r)) := by
        intro hbu16
        replace hf := hy4
        refine g_istore_n (pc := 47) (lv' := [some (.ref 221), some (.int x1), some (.int x2), some (.int u16)]) dX8_must_47 rfl (by decide) rfl ?_
        refine g_iload_n (pc := 48) dX8_must_48 rfl rfl ?_
        refine g_if_ne (pc := 49) 56 dX8_must_49 rfl (fun hc21 => ?_) (fun hc21 => ?_)
        · replace hf := jifn hc21 hf
          refine g_aload_n (pc := 56) dX8_must_56 rfl rfl ?_
          refine g_getR (pc := 57) dX8_must_57 fl_X8_86 sh_221 rfl ?_
          refine g_iload_n (pc := 60) dX8_must_60 rfl rfl ?_
          obtain ⟨v17, ev17, hf⟩ := job hf
          refine g_iald (pc := 61) dX8_must_61 sh_247 ev17 ?_
          refine g_iload_n (pc := 62) dX8_must_62 rfl rfl ?_
          refine g_iushr (pc := 63) dX8_must_63 ?_
          refine g_iconst (pc := 64) 1 dX8_must_64 rfl ?_
          refine g_iand (pc := 65) dX8_must_65 ?_
          refine g_iconst (pc := 66) 1 dX8_must_66 rfl ?_
          refine g_icmp_ne (pc := 67) 74 dX8_must_67 rfl (fun hc20 => ?_) (fun hc20 => ?_)
          · replace hf := jifn hc20 hf
            refine g_aload_n (pc := 74) dX8_must_74 rfl rfl ?_
            refine g_getR (pc := 75) dX8_must_75 fl_X8_86 sh_221 rfl ?_
            refine g_iload_n (pc := 78) dX8_must_78 rfl rfl ?_
            obtain ⟨v18, ev18, hf⟩ := job hf
            refine g_iald (pc := 79) dX8_must_79 sh_247 ev18 ?_
            refine g_iload_n (pc := 80) dX8_must_80 rfl rfl ?_
            refine g_iushr (pc := 81) dX8_must_81 ?_
            refine g_iconst (pc := 82) 1 dX8_must_82 rfl ?_
            refine g_iand (pc := 83) dX8_must_83 ?_
            refine g_iconst (pc := 84) 1 dX8_must_84 rfl ?_
            refine g_icmp_ne (pc := 85) 92 dX8_must_85 rfl (fun hc19 => ?_) (fun hc19 => ?_)
            · replace hf := jifn hc19 hf
              refine g_iconst (pc := 92) 0 dX8_must_92 rfl ?_
              obtain rfl := Option.some.inj hf
              exact g_iret (pc := 93) dX8_must_93 rfl ⟨rfl, rfl⟩
            · replace hf := jifp hc19 hf
              refine g_iconst (pc := 88) 2 dX8_must_88 rfl ?_
              refine g_goto (pc := 89) 93 dX8_must_89 rfl ?_
              obtain rfl := Option.some.inj hf
              exact g_iret (pc := 93) dX8_must_93 rfl ⟨rfl, rfl⟩
          · replace hf := jifp hc20 hf
            refine g_iconst (pc := 70) 1 dX8_must_70 rfl ?_
            refine g_goto (pc := 71) 93 dX8_must_71 rfl ?_
            obtain rfl := Option.some.inj hf
            exact g_iret (pc := 93) dX8_must_93 rfl ⟨rfl, rfl⟩
        · replace hf := jifp hc21 hf
          refine g_iconst (pc := 52) 0 dX8_must_52 rfl ?_
          refine g_goto (pc := 53) 93 dX8_must_53 rfl ?_
          obtain rfl := Option.some.inj hf
          exact g_iret (pc := 93) dX8_must_93 rfl ⟨rfl, rfl⟩
      obtain ⟨y10, hf, hy9⟩ := jcb hf
      have K11 : y10 = Sum.inr () → jGG μ_X8_must 3 46 [some (.ref 221), some (.int x1), some (.int x2), none] [] M (fun M' r' => M' = M ∧ r' = some (.int r)) := by
        intro hyy
        subst hyy
        replace hf := hy9
        refine g_iconst (pc := 46) 0 dX8_must_46 rfl ?_
        obtain rfl := Option.some.inj hf
        exact g_weakK (K6 (Or.inl rfl)) ⟨rfl, ⟨rfl, ⟨rfl, trivial⟩⟩⟩
      refine g_if_eq (pc := 23) 46 dX8_must_23 rfl (fun hc15 => ?_) (fun hc15 => ?_)
      · replace hf := jifp hc15 hf
        exact g_weakK (K11 (Option.some.inj hf).symm) ⟨rfl, ⟨rfl, ⟨rfl, trivial⟩⟩⟩
      · replace hf := jifn hc15 hf
        refine g_iload_n (pc := 26) dX8_must_26 rfl rfl ?_
        refine g_aload_n (pc := 27) dX8_must_27 rfl rfl ?_
        refine g_getI (pc := 28) dX8_must_28 fl_X8_282 sh_221 rfl ?_
        refine g_icmp_ge (pc := 31) 46 dX8_must_31 rfl (fun hc14 => ?_) (fun hc14 => ?_)
        · replace hf := jifp hc14 hf
          exact g_weakK (K11 (Option.some.inj hf).symm) ⟨rfl, ⟨rfl, ⟨rfl, trivial⟩⟩⟩
        · replace hf := jifn hc14 hf
          refine g_iload_n (pc := 34) dX8_must_34 rfl rfl ?_
          refine g_aload_n (pc := 35) dX8_must_35 rfl rfl ?_
          refine g_getI (pc := 36) dX8_must_36 fl_X8_282 sh_221 rfl ?_
          refine g_icmp_ge (pc := 39) 46 dX8_must_39 rfl (fun hc13 => ?_) (fun hc13 => ?_)
          · replace hf := jifp hc13 hf
            exact g_weakK (K11 (Option.some.inj hf).symm) ⟨rfl, ⟨rfl, ⟨rfl, trivial⟩⟩⟩
          · replace hf := jifn hc13 hf
            refine g_iconst (pc := 42) 1 dX8_must_42 rfl ?_
            refine g_goto (pc := 43) 47 dX8_must_43 rfl ?_
            obtain rfl := Option.some.inj hf
            replace hf := hy9
            obtain rfl := Option.some.inj hf
            exact g_weakK (K6 (Or.inr rfl)) ⟨rfl, ⟨rfl, ⟨rfl, trivial⟩⟩⟩
    · replace hf := jifp hc22 hf
      refine g_ldc (pc := 16) (-100001) dX8_must_16 lc_X8_146 ?_
      obtain rfl := Option.some.inj hf
      exact g_iret (pc := 18) dX8_must_18 rfl ⟨rfl, rfl⟩
def f_X8_gather (N : Nat) (M : JMem) (x1 : Int32) : Option (JMem) := (some (jup M 221 36 0)).bind fun M1 => ((jLp (σ := Int32 × JMem) (ρ := JMem) N (fun ((z8, M9) : Int32 × JMem) => (if (M9 221 11) ≤ z8 then some (Sum.inr M9) else (jwr M9 249 32 z8 0).bind fun M11 => ((jLp (σ := Int32 × JMem) (ρ := JMem) N (fun ((z18, M19) : Int32 × JMem) => (jrd M19 230 32 z8).bind fun v21 => (if v21 ≤ z18 then some (Sum.inr M19) else (jrd M19 249 32 z8).bind fun v22 => (jrd M19 227 32 z8).bind fun v23 => (jrd M19 226 96 ((8 * v23) + z18)).bind fun v24 => (jrd M19 229 32 v24).bind fun v25 => (jwr M19 249 32 z8 (v22 + v25)).bind fun M26 => some (Sum.inl (z18 + 1, M26)))) (0, M11)).bind fun t20 => (f_X8_rest N t20 z8).bind fun v28 => (jrd t20 229 32 z8).bind fun v29 => (jwr t20 250 32 z8 (v28 - v29)).bind fun M30 => (jrd M30 229 32 z8).bind fun v31 => (jwr M30 251 32 z8 v31).bind fun M32 => (f_X8_isOn M32 z8 x1).bind fun v33 => (((if v33 = 0 then some (M32) else (jwr M32 248 32 (M32 221 36) z8).bind fun M39 => (some (jup M39 221 36 ((M39 221 36) + 1))).bind fun M40 => some (M40)) : Option (JMem)).bind fun M42 => some (Sum.inl (z8 + 1, M42)))))) (0, M1)).bind fun t10 => some t10)
set_option maxHeartbeats 4000000 in
theorem c_X8_gather {N : Nat} {M : JMem} {x1 : Int32} {Mz : JMem} (hf : f_X8_gather N M x1 = some Mz) : jCo yX8_gather μ_X8_gather 2 M [.ref 221, .int x1] Mz none := by
  refine jCt_of (by decide +kernel) rfl (by simp [Value.category]) (Nat.le_of_ble_eq_true rfl) ?_
  unfold f_X8_gather at hf
  show jGG μ_X8_gather 2 0 [some (.ref 221), some (.int x1), none, none] [] M (fun M' r' => M' = Mz ∧ r' = none)
  refine g_aload_n (pc := 0) dX8_gather_0 rfl rfl ?_
  refine g_iconst (pc := 1) 0 dX8_gather_1 rfl ?_
  refine g_putI (pc := 2) dX8_gather_2 fp_X8_285 sh_221 rfl ?_
  obtain ⟨M1, eM1, hf⟩ := job hf
  rw [Option.some.inj eM1]
  refine g_iconst (pc := 5) 0 dX8_gather_5 rfl ?_
  refine g_istore_n (pc := 6) (lv' := [some (.ref 221), some (.int x1), some (.int 0), none]) dX8_gather_6 rfl (by decide) rfl ?_
  obtain ⟨t10, y3, hy2⟩ := job hf
  have K4 : jGG μ_X8_gather 2 135 [none, none, none, none] [] t10 (fun M' r' => M' = Mz ∧ r' = none) := by
    replace hf := hy2
    obtain rfl := Option.some.inj hf
    exact g_vret (pc := 135) dX8_gather_135 rfl ⟨rfl, rfl⟩
  refine g_weak (lv' := [some (.ref 221), some (.int x1), some (.int 0), none]) ⟨rfl, ⟨rfl, ⟨rfl, trivial⟩⟩⟩ ?_
  refine jLp_ind (P := fun ((z8, M9) : Int32 × JMem) => jGG μ_X8_gather 2 7 [some (.ref 221), some (.int x1), some (.int z8), none] [] M9 (fun M' r' => M' = Mz ∧ r' = none)) ?_ N _ y3
  rintro ⟨z8, M9⟩ x_7 hf ih6 hx5
  show jGG μ_X8_gather 2 7 [some (.ref 221), some (.int x1), some (.int z8), none] [] M9 (fun M' r' => M' = Mz ∧ r' = none)
  refine g_iload_n (pc := 7) dX8_gather_7 rfl rfl ?_
  refine g_aload_n (pc := 8) dX8_gather_8 rfl rfl ?_
  refine g_getI (pc := 9) dX8_gather_9 fl_X8_143 sh_221 rfl ?_
  refine g_icmp_ge (pc := 12) 135 dX8_gather_12 rfl (fun hc43 => ?_) (fun hc43 => ?_)
  · replace hf := jifp hc43 hf
    have hf := hx5 _ (Option.some.inj hf).symm
    obtain rfl := hf
    exact g_weakK K4 trivial
  · replace hf := jifn hc43 hf
    refine g_aload_n (pc := 15) dX8_gather_15 rfl rfl ?_
    refine g_getR (pc := 16) dX8_gather_16 fl_X8_92 sh_221 rfl ?_
    refine g_iload_n (pc := 19) dX8_gather_19 rfl rfl ?_
    refine g_iconst (pc := 20) 0 dX8_gather_20 rfl ?_
    obtain ⟨M11, eM11, hf⟩ := job hf
    refine g_iast (pc := 21) dX8_gather_21 sh_249 eM11 ?_
    refine g_iconst (pc := 22) 0 dX8_gather_22 rfl ?_
    refine g_istore_n (pc := 23) (lv' := [some (.ref 221), some (.int x1), some (.int z8), some (.int 0)]) dX8_gather_23 rfl (by decide) rfl ?_
    obtain ⟨t20, y13, hy12⟩ := job hf
    have K14 : jGG μ_X8_gather 2 70 [some (.ref 221), some (.int x1), some (.int z8), none] [] t20 (fun M' r' => M' = Mz ∧ r' = none) := by
      replace hf := hy12
      refine g_aload_n (pc := 70) dX8_gather_70 rfl rfl ?_
      refine g_getR (pc := 71) dX8_gather_71 fl_X8_95 sh_221 rfl ?_
      refine g_iload_n (pc := 74) dX8_gather_74 rfl rfl ?_
      refine g_aload_n (pc := 75) dX8_gather_75 rfl rfl ?_
      refine g_iload_n (pc := 76) dX8_gather_76 rfl rfl ?_
      obtain ⟨v28, ev28, hf⟩ := job hf
      refine g_callV (pc := 77) [.int z8] [.int z8, .ref 250] dX8_gather_77 ml_X8_224 ck_X8_rest cv_X8_rest sh_221 rfl (by decide) (Nat.le_of_ble_eq_true rfl) (c_X8_rest ev28) ?_
      show jGG μ_X8_gather 2 80 [some (.ref 221), some (.int x1), some (.int z8), none] [.int v28, .int z8, .ref 250] t20 (fun M' r' => M' = Mz ∧ r' = none)
      refine g_aload_n (pc := 80) dX8_gather_80 rfl rfl ?_
      refine g_getR (pc := 81) dX8_gather_81 fl_X8_31 sh_221 rfl ?_
      refine g_iload_n (pc := 84) dX8_gather_84 rfl rfl ?_
      obtain ⟨v29, ev29, hf⟩ := job hf
      refine g_iald (pc := 85) dX8_gather_85 sh_229 ev29 ?_
      refine g_isub (pc := 86) dX8_gather_86 ?_
      obtain ⟨M30, eM30, hf⟩ := job hf
      refine g_iast (pc := 87) dX8_gather_87 sh_250 eM30 ?_
      refine g_aload_n (pc := 88) dX8_gather_88 rfl rfl ?_
      refine g_getR (pc := 89) dX8_gather_89 fl_X8_98 sh_221 rfl ?_
      refine g_iload_n (pc := 92) dX8_gather_92 rfl rfl ?_
      refine g_aload_n (pc := 93) dX8_gather_93 rfl rfl ?_
      refine g_getR (pc := 94) dX8_gather_94 fl_X8_31 sh_221 rfl ?_
      refine g_iload_n (pc := 97) dX8_gather_97 rfl rfl ?_
      obtain ⟨v31, ev31, hf⟩ := job hf
      refine g_iald (pc := 98) dX8_gather_98 sh_229 ev31 ?_
      obtain ⟨M32, eM32, hf⟩ := job hf
      refine g_iast (pc := 99) dX8_gather_99 sh_251 eM32 ?_
      refine g_aload_n (pc := 100) dX8_gather_100 rfl rfl ?_
      refine g_iload_n (pc := 101) dX8_gather_101 rfl rfl ?_
      refine g_iload_n (pc := 102) dX8_gather_102 rfl rfl ?_
      obtain ⟨v33, ev33, hf⟩ := job hf
      refine g_callV (pc := 103) [.int z8, .int x1] [] dX8_gather_103 ml_X8_248 ck_X8_isOn cv_X8_isOn sh_221 rfl (by decide) (Nat.le_of_ble_eq_true rfl) (c_X8_isOn ev33) ?_
      show jGG μ_X8_gather 2 106 [some (.ref 221), some (.int x1), some (.int z8), none] [.int v33] M32 (fun M' r' => M' = Mz ∧ r' = none)
      obtain ⟨M42, hf, hy35⟩ := job hf
      have K37 : jGG μ_X8_gather 2 129 [some (.ref 221), some (.int x1), some (.int z8), none] [] M42 (fun M' r' => M' = Mz ∧ r' = none) := by
        replace hf := hy35
        refine g_iinc (pc := 129) (lv' := [some (.ref 221), some (.int x1), some (.int (z8 + 1)), none]) (z8 + 1) dX8_gather_129 rfl rfl (by decide) rfl ?_
        refine g_goto (pc := 132) 7 dX8_gather_132 rfl ?_
        have hih : jGG μ_X8_gather 2 7 [some (.ref 221), some (.int x1), some (.int (z8 + 1)), none] [] M42 (fun M' r' => M' = Mz ∧ r' = none) := ih6 (z8 + 1, M42) (Option.some.inj hf).symm
        exact g_weakK hih ⟨rfl, ⟨rfl, ⟨rfl, trivial⟩⟩⟩
      refine g_if_eq (pc := 106) 129 dX8_gather_106 rfl (fun hc41 => ?_) (fun hc41 => ?_)
      · replace hf := jifp hc41 hf
        obtain rfl := Option.some.inj hf
        exact g_weakK (K37) ⟨rfl, ⟨rfl, ⟨rfl, trivial⟩⟩⟩
      · replace hf := jifn hc41 hf
        refine g_aload_n (pc := 109) dX8_gather_109 rfl rfl ?_
        refine g_getR (pc := 110) dX8_gather_110 fl_X8_89 sh_221 rfl ?_
        refine g_aload_n (pc := 113) dX8_gather_113 rfl rfl ?_
        refine g_getI (pc := 114) dX8_gather_114 fl_X8_285 sh_221 rfl ?_
        refine g_iload_n (pc := 117) dX8_gather_117 rfl rfl ?_
        obtain ⟨M39, eM39, hf⟩ := job hf
        refine g_iast (pc := 118) dX8_gather_118 sh_248 eM39 ?_
        refine g_aload_n (pc := 119) dX8_gather_119 rfl rfl ?_
        refine g_dup (pc := 120) dX8_gather_120 rfl ?_
        refine g_getI (pc := 121) dX8_gather_121 fl_X8_285 sh_221 rfl ?_
        refine g_iconst (pc := 124) 1 dX8_gather_124 rfl ?_
        refine g_iadd (pc := 125) dX8_gather_125 ?_
        refine g_putI (pc := 126) dX8_gather_126 fp_X8_285 sh_221 rfl ?_
        obtain ⟨M40, eM40, hf⟩ := job hf
        rw [Option.some.inj eM40]
        obtain rfl := Option.some.inj hf
        exact g_weakK (K37) ⟨rfl, ⟨rfl, ⟨rfl, trivial⟩⟩⟩
    refine g_weak (lv' := [some (.ref 221), some (.int x1), some (.int z8), some (.int 0)]) ⟨rfl, ⟨rfl, ⟨rfl, ⟨rfl, trivial⟩⟩⟩⟩ ?_
    refine jLp_ind (P := fun ((z18, M19) : Int32 × JMem) => jGG μ_X8_gather 2 24 [some (.ref 221), some (.int x1), some (.int z8), some (.int z18)] [] M19 (fun M' r' => M' = Mz ∧ r' = none)) ?_ N _ y13
    rintro ⟨z18, M19⟩ x_17 hf ih16 hx15
    show jGG μ_X8_gather 2 24 [some (.ref 221), some (.int x1), some (.int z8), some (.int z18)] [] M19 (fun M' r' => M' = Mz ∧ r' = none)
    refine g_iload_n (pc := 24) dX8_gather_24 rfl rfl ?_
    refine g_aload_n (pc := 25) dX8_gather_25 rfl rfl ?_
    refine g_getR (pc := 26) dX8_gather_26 fl_X8_34 sh_221 rfl ?_
    refine g_iload_n (pc := 29) dX8_gather_29 rfl rfl ?_
    obtain ⟨v21, ev21, hf⟩ := job hf
    refine g_iald (pc := 30) dX8_gather_30 sh_230 ev21 ?_
    refine g_icmp_ge (pc := 31) 70 dX8_gather_31 rfl (fun hc27 => ?_) (fun hc27 => ?_)
    · replace hf := jifp hc27 hf
      have hf := hx15 _ (Option.some.inj hf).symm
      obtain rfl := hf
      exact g_weakK K14 ⟨rfl, ⟨rfl, ⟨rfl, trivial⟩⟩⟩
    · replace hf := jifn hc27 hf
      refine g_aload_n (pc := 34) dX8_gather_34 rfl rfl ?_
      refine g_getR (pc := 35) dX8_gather_35 fl_X8_92 sh_221 rfl ?_
      refine g_iload_n (pc := 38) dX8_gather_38 rfl rfl ?_
      refine g_dup2 (pc := 39) dX8_gather_39 rfl rfl ?_
      obtain ⟨v22, ev22, hf⟩ := job hf
      refine g_iald (pc := 40) dX8_gather_40 sh_249 ev22 ?_
      refine g_aload_n (pc := 41) dX8_gather_41 rfl rfl ?_
      refine g_getR (pc := 42) dX8_gather_42 fl_X8_31 sh_221 rfl ?_
      refine g_aload_n (pc := 45) dX8_gather_45 rfl rfl ?_
      refine g_getR (pc := 46) dX8_gather_46 fl_X8_22 sh_221 rfl ?_
      refine g_bipush (pc := 49) 8 dX8_gather_49 rfl ?_
      refine g_aload_n (pc := 51) dX8_gather_51 rfl rfl ?_
      refine g_getR (pc := 52) dX8_gather_52 fl_X8_25 sh_221 rfl ?_
      refine g_iload_n (pc := 55) dX8_gather_55 rfl rfl ?_
      obtain ⟨v23, ev23, hf⟩ := job hf
      refine g_iald (pc := 56) dX8_gather_56 sh_227 ev23 ?_
      refine g_imul (pc := 57) dX8_gather_57 ?_
      refine g_iload_n (pc := 58) dX8_gather_58 rfl rfl ?_
      refine g_iadd (pc := 59) dX8_gather_59 ?_
      obtain ⟨v24, ev24, hf⟩ := job hf
      refine g_iald (pc := 60) dX8_gather_60 sh_226 ev24 ?_
      obtain ⟨v25, ev25, hf⟩ := job hf
      refine g_iald (pc := 61) dX8_gather_61 sh_229 ev25 ?_
      refine g_iadd (pc := 62) dX8_gather_62 ?_
      obtain ⟨M26, eM26, hf⟩ := job hf
      refine g_iast (pc := 63) dX8_gather_63 sh_249 eM26 ?_
      refine g_iinc (pc := 64) (lv' := [some (.ref 221), some (.int x1), some (.int z8), some (.int (z18 + 1))]) (z18 + 1) dX8_gather_64 rfl rfl (by decide) rfl ?_
      refine g_goto (pc := 67) 24 dX8_gather_67 rfl ?_
      have hih : jGG μ_X8_gather 2 24 [some (.ref 221), some (.int x1), some (.int z8), some (.int (z18 + 1))] [] M26 (fun M' r' => M' = Mz ∧ r' = none) := ih16 (z18 + 1, M26) (Option.some.inj hf).symm
      exact g_weakK hih ⟨rfl, ⟨rfl, ⟨rfl, ⟨rfl, trivial⟩⟩⟩⟩
