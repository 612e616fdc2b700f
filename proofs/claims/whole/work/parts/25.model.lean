def f_X8_found (M : JMem) (x1 : Int32) : Option (Int32) := (if x1 = 0 then some (M 221 45) else (if x1 = 1 then some (M 221 46) else (if x1 = 2 then some (M 221 47) else some (-100002))))
set_option maxHeartbeats 4000000 in
theorem c_X8_found {M : JMem} {x1 : Int32} {r : Int32} (hf : f_X8_found M x1 = some r) : jCo yX8_found μ_X8_found 1 M [.ref 221, .int x1] M (some (.int r)) := by
  refine jCt_of (by decide +kernel) rfl (by simp [Value.category]) (Nat.le_of_ble_eq_true rfl) ?_
  unfold f_X8_found at hf
  show jGG μ_X8_found 1 0 [some (.ref 221), some (.int x1)] [] M (fun M' r' => M' = M ∧ r' = some (.int r))
  refine g_iload_n (pc := 0) dX8_found_0 rfl rfl ?_
  refine g_if_ne (pc := 1) 11 dX8_found_1 rfl (fun hc3 => ?_) (fun hc3 => ?_)
  · replace hf := jifn hc3 hf
    refine g_iload_n (pc := 11) dX8_found_11 rfl rfl ?_
    refine g_iconst (pc := 12) 1 dX8_found_12 rfl ?_
    refine g_icmp_ne (pc := 13) 23 dX8_found_13 rfl (fun hc2 => ?_) (fun hc2 => ?_)
    · replace hf := jifn hc2 hf
      refine g_iload_n (pc := 23) dX8_found_23 rfl rfl ?_
      refine g_iconst (pc := 24) 2 dX8_found_24 rfl ?_
      refine g_icmp_ne (pc := 25) 35 dX8_found_25 rfl (fun hc1 => ?_) (fun hc1 => ?_)
      · replace hf := jifn hc1 hf
        refine g_ldc (pc := 35) (-100002) dX8_found_35 lc_X8_132 ?_
        obtain rfl := Option.some.inj hf
        exact g_iret (pc := 37) dX8_found_37 rfl ⟨rfl, rfl⟩
      · replace hf := jifp hc1 hf
        refine g_aload_n (pc := 28) dX8_found_28 rfl rfl ?_
        refine g_getI (pc := 29) dX8_found_29 fl_X8_308 sh_221 rfl ?_
        refine g_goto (pc := 32) 37 dX8_found_32 rfl ?_
        obtain rfl := Option.some.inj hf
        exact g_iret (pc := 37) dX8_found_37 rfl ⟨rfl, rfl⟩
    · replace hf := jifp hc2 hf
      refine g_aload_n (pc := 16) dX8_found_16 rfl rfl ?_
      refine g_getI (pc := 17) dX8_found_17 fl_X8_317 sh_221 rfl ?_
      refine g_goto (pc := 20) 37 dX8_found_20 rfl ?_
      obtain rfl := Option.some.inj hf
      exact g_iret (pc := 37) dX8_found_37 rfl ⟨rfl, rfl⟩
  · replace hf := jifp hc3 hf
    refine g_aload_n (pc := 4) dX8_found_4 rfl rfl ?_
    refine g_getI (pc := 5) dX8_found_5 fl_X8_305 sh_221 rfl ?_
    refine g_goto (pc := 8) 37 dX8_found_8 rfl ?_
    obtain rfl := Option.some.inj hf
    exact g_iret (pc := 37) dX8_found_37 rfl ⟨rfl, rfl⟩
def f_X8_fail (N : Nat) (M : JMem) (x1 : Int32) (x2 : Int32) (x3 : Int32) : Option (JMem × Int32) := (if (jin3 x1.toInt64 0 (((M 221 2) - 1).toInt64)) = 0 then some (M, (-100001)) else (if (jin3 x2.toInt64 0 100000) = 0 then some (M, (-100002)) else (if (jin3 x3.toInt64 0 10000) = 0 then some (M, (-100002)) else (f_X8_work N M).bind fun (M1, v2) => (if v2 = 0 then some (M1, (-100003)) else ((jLp (σ := Int32 × JMem) (ρ := JMem) N (fun ((z9, M10) : Int32 × JMem) => (if (M10 221 11) ≤ z9 then some (Sum.inr M10) else (jrd M10 237 32 z9).bind fun v12 => (jrd M10 229 32 z9).bind fun v13 => (((jcase (α := Int32) (β := Unit) (if (v12 + v13) ≤ x2 then some (Sum.inr ()) else (jrd M10 237 32 z9).bind fun v24 => (jcase (α := (Int32) ⊕ (Unit)) (β := Unit) (if x2 ≤ v24 then some (Sum.inr ()) else (f_X8_isOn M10 z9 x1).bind fun v30 => (if v30 = 0 then some (Sum.inl (Sum.inr ())) else some (Sum.inr ()))) fun _ => some (Sum.inl (0)))) fun _ => some (1)) : Option (Int32)).bind fun u34 => (jwr M10 258 32 z9 u34).bind fun M35 => (jrd M35 258 32 z9).bind fun v36 => (if jb01 v36 = true then some () else none).bind fun _ => (jwr M35 238 32 z9 v36).bind fun M37 => some (Sum.inl (z9 + 1, M37))))) (0, M1)).bind fun t11 => ((jLp (σ := Int32 × JMem) (ρ := JMem) N (fun ((z46, M47) : Int32 × JMem) => (if z46 = 0 then some (Sum.inr M47) else ((jLp (σ := Int32 × Int32 × JMem) (ρ := Int32 × JMem) N (fun ((z55, z56, M57) : Int32 × Int32 × JMem) => (if (M57 221 11) ≤ z56 then some (Sum.inr (z55, M57)) else (jrd M57 238 32 z56).bind fun v60 => (((if v60 = 0 then (f_X8_isReady N M57 z56).bind fun v66 => (if v66 = 0 then some ((z55, M57)) else (f_X8_ahead M57 z56).bind fun v67 => (((if 0 ≤ v67 then (jrd M57 237 32 v67).bind fun v73 => (jrd M57 229 32 v67).bind fun v74 => some ((v73 + v74)) else some (0)) : Option (Int32)).bind fun u76 => (jrd M57 228 32 z56).bind fun v77 => (f_X8_placeOf N M57 z56).bind fun v78 => (f_X8_fromOrder N M57 v77 v78 z56).bind fun (M79, v80) => (((if u76 ≤ v80 then some (v80) else some (u76)) : Option (Int32)).bind fun u87 => (f_X8_isOn M79 z56 x1).bind fun v88 => (((if v88 = 0 then some (x2) else some ((x2 + x3))) : Option (Int32)).bind fun u95 => (((if u87 ≤ u95 then some (u95) else some (u87)) : Option (Int32)).bind fun u102 => (jwr M79 237 32 z56 u102).bind fun M103 => (jwr M103 238 32 z56 1).bind fun M104 => some ((1, M104))))))) else some ((z55, M57))) : Option (Int32 × JMem)).bind fun (u107, M108) => some (Sum.inl (u107, z56 + 1, M108))))) (0, 0, M47)).bind fun (t58, t59) => some (Sum.inl (t58, t59))))) (1, t11)).bind fun t48 => ((jLp (σ := Int32 × Int32 × JMem) (ρ := Int32 × JMem) N (fun ((z117, z118, M119) : Int32 × Int32 × JMem) => (if (M119 221 11) ≤ z118 then some (Sum.inr (z117, M119)) else (jrd M119 237 32 z118).bind fun v122 => (jwr M119 257 32 z118 v122).bind fun M123 => (jrd M123 237 32 z118).bind fun v124 => (jrd M123 229 32 z118).bind fun v125 => (((if (v124 + v125) ≤ z117 then some (z117) else (jrd M123 237 32 z118).bind fun v131 => (jrd M123 229 32 z118).bind fun v132 => some ((v131 + v132))) : Option (Int32)).bind fun u134 => some (Sum.inl (u134, z118 + 1, M123))))) (0, 0, t48)).bind fun (t120, t121) => (some (jup t121 221 49 1)).bind fun M136 => (some (jup M136 221 50 (M136 221 11))).bind fun M137 => some (M137, t120))))))))
set_option maxHeartbeats 4000000 in
theorem c_X8_fail {N : Nat} {M : JMem} {x1 : Int32} {x2 : Int32} {x3 : Int32} {Mz : JMem} {r : Int32} (hf : f_X8_fail N M x1 x2 x3 = some (Mz, r)) : jCo yX8_fail μ_X8_fail 4 M [.ref 221, .int x1, .int x2, .int x3] Mz (some (.int r)) := by
  refine jCt_of (by decide +kernel) rfl (by simp [Value.category]) (Nat.le_of_ble_eq_true rfl) ?_
  unfold f_X8_fail at hf
  show jGG μ_X8_fail 4 0 [some (.ref 221), some (.int x1), some (.int x2), some (.int x3), none, none, none, none, none, none] [] M (fun M' r' => M' = Mz ∧ r' = some (.int r))
  refine g_iload_n (pc := 0) dX8_fail_0 rfl rfl ?_
  refine g_i2l (pc := 1) dX8_fail_1 ?_
  refine g_lconst (pc := 2) 0 dX8_fail_2 rfl ?_
  refine g_aload_n (pc := 3) dX8_fail_3 rfl rfl ?_
  refine g_getI (pc := 4) dX8_fail_4 fl_X8_133 sh_221 rfl ?_
  refine g_iconst (pc := 7) 1 dX8_fail_7 rfl ?_
  refine g_isub (pc := 8) dX8_fail_8 ?_
  refine g_i2l (pc := 9) dX8_fail_9 ?_
  refine g_callS (pc := 10) [.long x1.toInt64, .long 0, .long (((M 221 2) - 1).toInt64)] [] dX8_fail_10 ml_X8_124 ck_X8_in cs_X8_in rfl (by decide) (Nat.le_of_ble_eq_true rfl) c_in ?_
  show jGG μ_X8_fail 4 13 [some (.ref 221), some (.int x1), some (.int x2), some (.int x3), none, none, none, none, none, none] [.int (jin3 x1.toInt64 0 (((M 221 2) - 1).toInt64))] M (fun M' r' => M' = Mz ∧ r' = some (.int r))
  refine g_if_ne (pc := 13) 19 dX8_fail_13 rfl (fun hc141 => ?_) (fun hc141 => ?_)
  · replace hf := jifn hc141 hf
    refine g_iload_n (pc := 19) dX8_fail_19 rfl rfl ?_
    refine g_i2l (pc := 20) dX8_fail_20 ?_
    refine g_lconst (pc := 21) 0 dX8_fail_21 rfl ?_
    refine g_ldc2 (pc := 22) 100000 dX8_fail_22 lcl_X8_274 ?_
    refine g_callS (pc := 25) [.long x2.toInt64, .long 0, .long 100000] [] dX8_fail_25 ml_X8_124 ck_X8_in cs_X8_in rfl (by decide) (Nat.le_of_ble_eq_true rfl) c_in ?_
    show jGG μ_X8_fail 4 28 [some (.ref 221), some (.int x1), some (.int x2), some (.int x3), none, none, none, none, none, none] [.int (jin3 x2.toInt64 0 100000)] M (fun M' r' => M' = Mz ∧ r' = some (.int r))
    refine g_if_eq (pc := 28) 43 dX8_fail_28 rfl (fun hc140 => ?_) (fun hc140 => ?_)
    · replace hf := jifp hc140 hf
      refine g_ldc (pc := 43) (-100002) dX8_fail_43 lc_X8_132 ?_
      obtain ⟨rfl, rfl⟩ := Prod.mk.inj (Option.some.inj hf)
      exact g_iret (pc := 45) dX8_fail_45 rfl ⟨rfl, rfl⟩
    · replace hf := jifn hc140 hf
      refine g_iload_n (pc := 31) dX8_fail_31 rfl rfl ?_
      refine g_i2l (pc := 32) dX8_fail_32 ?_
      refine g_lconst (pc := 33) 0 dX8_fail_33 rfl ?_
      refine g_ldc2 (pc := 34) 10000 dX8_fail_34 lcl_X8_329 ?_
      refine g_callS (pc := 37) [.long x3.toInt64, .long 0, .long 10000] [] dX8_fail_37 ml_X8_124 ck_X8_in cs_X8_in rfl (by decide) (Nat.le_of_ble_eq_true rfl) c_in ?_
      show jGG μ_X8_fail 4 40 [some (.ref 221), some (.int x1), some (.int x2), some (.int x3), none, none, none, none, none, none] [.int (jin3 x3.toInt64 0 10000)] M (fun M' r' => M' = Mz ∧ r' = some (.int r))
      refine g_if_ne (pc := 40) 46 dX8_fail_40 rfl (fun hc139 => ?_) (fun hc139 => ?_)
      · replace hf := jifn hc139 hf
        refine g_aload_n (pc := 46) dX8_fail_46 rfl rfl ?_
        obtain ⟨⟨M1, v2⟩, ev2, hf⟩ := job hf
        refine g_callV (pc := 47) [] [] dX8_fail_47 ml_X8_192 ck_X8_work cv_X8_work sh_221 rfl (by decide) (Nat.le_of_ble_eq_true rfl) (c_X8_work ev2) ?_
        show jGG μ_X8_fail 4 50 [some (.ref 221), some (.int x1), some (.int x2), some (.int x3), none, none, none, none, none, none] [.int v2] M1 (fun M' r' => M' = Mz ∧ r' = some (.int r))
        refine g_if_ne (pc := 50) 56 dX8_fail_50 rfl (fun hc138 => ?_) (fun hc138 => ?_)
        · replace hf := jifn hc138 hf
          refine g_iconst (pc := 56) 0 dX8_fail_56 rfl ?_
          refine g_istore (pc := 57) (lv' := [some (.ref 221), some (.int x1), some (.int x2), some (.int x3), some (.int 0), none, none, none, none, none]) dX8_fail_57 (by decide) rfl ?_
          obtain ⟨t11, y4, hy3⟩ := job hf
          have K5 : jGG μ_X8_fail 4 144 [some (.ref 221), some (.int x1), some (.int x2), some (.int x3), none, none, none, none, none, none] [] t11 (fun M' r' => M' = Mz ∧ r' = some (.int r)) := by
            replace hf := hy3
            refine g_iconst (pc := 144) 1 dX8_fail_144 rfl ?_
            refine g_istore (pc := 145) (lv' := [some (.ref 221), some (.int x1), some (.int x2), some (.int x3), some (.int 1), none, none, none, none, none]) dX8_fail_145 (by decide) rfl ?_
            obtain ⟨t48, y41, hy40⟩ := job hf
            have K42 : jGG μ_X8_fail 4 317 [some (.ref 221), none, none, none, none, none, none, none, none, none] [] t48 (fun M' r' => M' = Mz ∧ r' = some (.int r)) := by
              replace hf := hy40
              refine g_iconst (pc := 317) 0 dX8_fail_317 rfl ?_
              refine g_istore (pc := 318) (lv' := [some (.ref 221), none, none, none, none, some (.int 0), none, none, none, none]) dX8_fail_318 (by decide) rfl ?_
              refine g_iconst (pc := 320) 0 dX8_fail_320 rfl ?_
              refine g_istore (pc := 321) (lv' := [some (.ref 221), none, none, none, none, some (.int 0), some (.int 0), none, none, none]) dX8_fail_321 (by decide) rfl ?_
              obtain ⟨⟨t120, t121⟩, y112, hy111⟩ := job hf
              have K113 : jGG μ_X8_fail 4 394 [some (.ref 221), none, none, none, none, some (.int t120), none, none, none, none] [] t121 (fun M' r' => M' = Mz ∧ r' = some (.int r)) := by
                replace hf := hy111
                refine g_aload_n (pc := 394) dX8_fail_394 rfl rfl ?_
                refine g_iconst (pc := 395) 1 dX8_fail_395 rfl ?_
                refine g_putZ (pc := 396) dX8_fail_396 fp_X8_331 (Or.inr rfl) sh_221 rfl ?_
                obtain ⟨M136, eM136, hf⟩ := job hf
                rw [Option.some.inj eM136]
                refine g_aload_n (pc := 399) dX8_fail_399 rfl rfl ?_
                refine g_aload_n (pc := 400) dX8_fail_400 rfl rfl ?_
                refine g_getI (pc := 401) dX8_fail_401 fl_X8_143 sh_221 rfl ?_
                refine g_putI (pc := 404) dX8_fail_404 fp_X8_334 sh_221 rfl ?_
                obtain ⟨M137, eM137, hf⟩ := job hf
                rw [Option.some.inj eM137]
                refine g_iload (pc := 407) dX8_fail_407 rfl ?_
                obtain ⟨rfl, rfl⟩ := Prod.mk.inj (Option.some.inj hf)
                exact g_iret (pc := 409) dX8_fail_409 rfl ⟨rfl, rfl⟩
              refine g_weak (lv' := [some (.ref 221), none, none, none, none, some (.int 0), some (.int 0), none, none, none]) ⟨rfl, ⟨rfl, ⟨rfl, trivial⟩⟩⟩ ?_
              refine jLp_ind (P := fun ((z117, z118, M119) : Int32 × Int32 × JMem) => jGG μ_X8_fail 4 323 [some (.ref 221), none, none, none, none, some (.int z117), some (.int z118), none, none, none] [] M119 (fun M' r' => M' = Mz ∧ r' = some (.int r))) ?_ N _ y112
              rintro ⟨z117, z118, M119⟩ x_116 hf ih115 hx114
              show jGG μ_X8_fail 4 323 [some (.ref 221), none, none, none, none, some (.int z117), some (.int z118), none, none, none] [] M119 (fun M' r' => M' = Mz ∧ r' = some (.int r))
              refine g_iload (pc := 323) dX8_fail_323 rfl ?_
              refine g_aload_n (pc := 325) dX8_fail_325 rfl rfl ?_
              refine g_getI (pc := 326) dX8_fail_326 fl_X8_143 sh_221 rfl ?_
              refine g_icmp_ge (pc := 329) 394 dX8_fail_329 rfl (fun hc135 => ?_) (fun hc135 => ?_)
              · replace hf := jifp hc135 hf
                have hf := hx114 _ (Option.some.inj hf).symm
                obtain ⟨rfl, rfl⟩ := jp2 hf
                exact g_weakK K113 ⟨rfl, ⟨rfl, trivial⟩⟩
              · replace hf := jifn hc135 hf
                refine g_aload_n (pc := 332) dX8_fail_332 rfl rfl ?_
                refine g_getR (pc := 333) dX8_fail_333 fl_X8_116 sh_221 rfl ?_
                refine g_iload (pc := 336) dX8_fail_336 rfl ?_
                refine g_aload_n (pc := 338) dX8_fail_338 rfl rfl ?_
                refine g_getR (pc := 339) dX8_fail_339 fl_X8_55 sh_221 rfl ?_
                refine g_iload (pc := 342) dX8_fail_342 rfl ?_
                obtain ⟨v122, ev122, hf⟩ := job hf
                refine g_iald (pc := 344) dX8_fail_344 sh_237 ev122 ?_
                obtain ⟨M123, eM123, hf⟩ := job hf
                refine g_iast (pc := 345) dX8_fail_345 sh_257 eM123 ?_
                refine g_aload_n (pc := 346) dX8_fail_346 rfl rfl ?_
                refine g_getR (pc := 347) dX8_fail_347 fl_X8_55 sh_221 rfl ?_
                refine g_iload (pc := 350) dX8_fail_350 rfl ?_
                obtain ⟨v124, ev124, hf⟩ := job hf
                refine g_iald (pc := 352) dX8_fail_352 sh_237 ev124 ?_
                refine g_aload_n (pc := 353) dX8_fail_353 rfl rfl ?_
                refine g_getR (pc := 354) dX8_fail_354 fl_X8_31 sh_221 rfl ?_
                refine g_iload (pc := 357) dX8_fail_357 rfl ?_
                obtain ⟨v125, ev125, hf⟩ := job hf
                refine g_iald (pc := 359) dX8_fail_359 sh_229 ev125 ?_
                refine g_iadd (pc := 360) dX8_fail_360 ?_
                refine g_iload (pc := 361) dX8_fail_361 rfl ?_
                obtain ⟨u134, hf, hy127⟩ := job hf
                have K129 : jGG μ_X8_fail 4 386 [some (.ref 221), none, none, none, none, none, some (.int z118), none, none, none] [.int u134] M123 (fun M' r' => M' = Mz ∧ r' = some (.int r)) := by
                  replace hf := hy127
                  refine g_istore (pc := 386) (lv' := [some (.ref 221), none, none, none, none, some (.int u134), some (.int z118), none, none, none]) dX8_fail_386 (by decide) rfl ?_
                  refine g_iinc (pc := 388) (lv' := [some (.ref 221), none, none, none, none, some (.int u134), some (.int (z118 + 1)), none, none, none]) (z118 + 1) dX8_fail_388 rfl rfl (by decide) rfl ?_
                  refine g_goto (pc := 391) 323 dX8_fail_391 rfl ?_
                  have hih : jGG μ_X8_fail 4 323 [some (.ref 221), none, none, none, none, some (.int u134), some (.int (z118 + 1)), none, none, none] [] M123 (fun M' r' => M' = Mz ∧ r' = some (.int r)) := ih115 (u134, z118 + 1, M123) (Option.some.inj hf).symm
                  exact g_weakK hih ⟨rfl, ⟨rfl, ⟨rfl, trivial⟩⟩⟩
                refine g_icmp_le (pc := 363) 384 dX8_fail_363 rfl (fun hc133 => ?_) (fun hc133 => ?_)
                · replace hf := jifp hc133 hf
                  refine g_iload (pc := 384) dX8_fail_384 rfl ?_
                  obtain rfl := Option.some.inj hf
                  exact g_weakK (K129) ⟨rfl, ⟨rfl, trivial⟩⟩
                · replace hf := jifn hc133 hf
                  refine g_aload_n (pc := 366) dX8_fail_366 rfl rfl ?_
                  refine g_getR (pc := 367) dX8_fail_367 fl_X8_55 sh_221 rfl ?_
                  refine g_iload (pc := 370) dX8_fail_370 rfl ?_
                  obtain ⟨v131, ev131, hf⟩ := job hf
                  refine g_iald (pc := 372) dX8_fail_372 sh_237 ev131 ?_
                  refine g_aload_n (pc := 373) dX8_fail_373 rfl rfl ?_
                  refine g_getR (pc := 374) dX8_fail_374 fl_X8_31 sh_221 rfl ?_
                  refine g_iload (pc := 377) dX8_fail_377 rfl ?_
                  obtain ⟨v132, ev132, hf⟩ := job hf
                  refine g_iald (pc := 379) dX8_fail_379 sh_229 ev132 ?_
                  refine g_iadd (pc := 380) dX8_fail_380 ?_
                  refine g_goto (pc := 381) 386 dX8_fail_381 rfl ?_
                  obtain rfl := Option.some.inj hf
                  exact g_weakK (K129) ⟨rfl, ⟨rfl, trivial⟩⟩
            refine g_weak (lv' := [some (.ref 221), some (.int x1), some (.int x2), some (.int x3), some (.int 1), none, none, none, none, none]) ⟨rfl, ⟨rfl, ⟨rfl, ⟨rfl, ⟨rfl, trivial⟩⟩⟩⟩⟩ ?_
            refine jLp_ind (P := fun ((z46, M47) : Int32 × JMem) => jGG μ_X8_fail 4 147 [some (.ref 221), some (.int x1), some (.int x2), some (.int x3), some (.int z46), none, none, none, none, none] [] M47 (fun M' r' => M' = Mz ∧ r' = some (.int r))) ?_ N _ y41
            rintro ⟨z46, M47⟩ x_45 hf ih44 hx43
            show jGG μ_X8_fail 4 147 [some (.ref 221), some (.int x1), some (.int x2), some (.int x3), some (.int z46), none, none, none, none, none] [] M47 (fun M' r' => M' = Mz ∧ r' = some (.int r))
            refine g_iload (pc := 147) dX8_fail_147 rfl ?_
            refine g_if_eq (pc := 149) 317 dX8_fail_149 rfl (fun hc110 => ?_) (fun hc110 => ?_)
            · replace hf := jifp hc110 hf
              have hf := hx43 _ (Option.some.inj hf).symm
              obtain rfl := hf
              exact g_weakK K42 ⟨rfl, trivial⟩
            · replace hf := jifn hc110 hf
              refine g_iconst (pc := 152) 0 dX8_fail_152 rfl ?_
              refine g_istore (pc := 153) (lv' := [some (.ref 221), some (.int x1), some (.int x2), some (.int x3), some (.int 0), none, none, none, none, none]) dX8_fail_153 (by decide) rfl ?_
              refine g_iconst (pc := 155) 0 dX8_fail_155 rfl ?_
              refine g_istore (pc := 156) (lv' := [some (.ref 221), some (.int x1), some (.int x2), some (.int x3), some (.int 0), some (.int 0), none, none, none, none]) dX8_fail_156 (by decide) rfl ?_
              obtain ⟨⟨t58, t59⟩, y50, hy49⟩ := job hf
              have K51 : jGG μ_X8_fail 4 314 [some (.ref 221), some (.int x1), some (.int x2), some (.int x3), some (.int t58), none, none, none, none, none] [] t59 (fun M' r' => M' = Mz ∧ r' = some (.int r)) := by
                replace hf := hy49
                refine g_goto (pc := 314) 147 dX8_fail_314 rfl ?_
                have hih : jGG μ_X8_fail 4 147 [some (.ref 221), some (.int x1), some (.int x2), some (.int x3), some (.int t58), none, none, none, none, none] [] t59 (fun M' r' => M' = Mz ∧ r' = some (.int r)) := ih44 (t58, t59) (Option.some.inj hf).symm
                exact g_weakK hih ⟨rfl, ⟨rfl, ⟨rfl, ⟨rfl, ⟨rfl, trivial⟩⟩⟩⟩⟩
              refine g_weak (lv' := [some (.ref 221), some (.int x1), some (.int x2), some (.int x3), some (.int 0), some (.int 0), none, none, none, none]) ⟨rfl, ⟨rfl, ⟨rfl, ⟨rfl, ⟨rfl, ⟨rfl, trivial⟩⟩⟩⟩⟩⟩ ?_
              refine jLp_ind (P := fun ((z55, z56, M57) : Int32 × Int32 × JMem) => jGG μ_X8_fail 4 158 [some (.ref 221), some (.int x1), some (.int x2), some (.int x3), some (.int z55), some (.int z56), none, none, none, none] [] M57 (fun M' r' => M' = Mz ∧ r' = some (.int r))) ?_ N _ y50
              rintro ⟨z55, z56, M57⟩ x_54 hf ih53 hx52
              show jGG μ_X8_fail 4 158 [some (.ref 221), some (.int x1), some (.int x2), some (.int x3), some (.int z55), some (.int z56), none, none, none, none] [] M57 (fun M' r' => M' = Mz ∧ r' = some (.int r))
              refine g_iload (pc := 158) dX8_fail_158 rfl ?_
              refine g_aload_n (pc := 160) dX8_fail_160 rfl rfl ?_
              refine g_getI (pc := 161) dX8_fail_161 fl_X8_143 sh_221 rfl ?_
              refine g_icmp_ge (pc := 164) 314 dX8_fail_164 rfl (fun hc109 => ?_) (fun hc109 => ?_)
              · replace hf := jifp hc109 hf
                have hf := hx52 _ (Option.some.inj hf).symm
                obtain ⟨rfl, rfl⟩ := jp2 hf
                exact g_weakK K51 ⟨rfl, ⟨rfl, ⟨rfl, ⟨rfl, ⟨rfl, trivial⟩⟩⟩⟩⟩
              · replace hf := jifn hc109 hf
                refine g_aload_n (pc := 167) dX8_fail_167 rfl rfl ?_
                refine g_getR (pc := 168) dX8_fail_168 fl_X8_58 sh_221 rfl ?_
                refine g_iload (pc := 171) dX8_fail_171 rfl ?_
                obtain ⟨v60, ev60, hf⟩ := job hf
                refine g_bald (pc := 173) dX8_fail_173 sh_238 ev60 ?_
                obtain ⟨⟨u107, M108⟩, hf, hy62⟩ := job hf
                have K64 : jGG μ_X8_fail 4 308 [some (.ref 221), some (.int x1), some (.int x2), some (.int x3), some (.int u107), some (.int z56), none, none, none, none] [] M108 (fun M' r' => M' = Mz ∧ r' = some (.int r)) := by
                  replace hf := hy62
                  refine g_iinc (pc := 308) (lv' := [some (.ref 221), some (.int x1), some (.int x2), some (.int x3), some (.int u107), some (.int (z56 + 1)), none, none, none, none]) (z56 + 1) dX8_fail_308 rfl rfl (by decide) rfl ?_
                  refine g_goto (pc := 311) 158 dX8_fail_311 rfl ?_
                  have hih : jGG μ_X8_fail 4 158 [some (.ref 221), some (.int x1), some (.int x2), some (.int x3), some (.int u107), some (.int (z56 + 1)), none, none, none, none] [] M108 (fun M' r' => M' = Mz ∧ r' = some (.int r)) := ih53 (u107, z56 + 1, M108) (Option.some.inj hf).symm
                  exact g_weakK hih ⟨rfl, ⟨rfl, ⟨rfl, ⟨rfl, ⟨rfl, ⟨rfl, trivial⟩⟩⟩⟩⟩⟩
                refine g_if_ne (pc := 174) 308 dX8_fail_174 rfl (fun hc106 => ?_) (fun hc106 => ?_)
                · replace hf := jifn hc106 hf
                  obtain ⟨rfl, rfl⟩ := jp2 (Option.some.inj hf)
                  exact g_weakK (K64) ⟨rfl, ⟨rfl, ⟨rfl, ⟨rfl, ⟨rfl, ⟨rfl, trivial⟩⟩⟩⟩⟩⟩
                · replace hf := jifp hc106 hf
                  refine g_aload_n (pc := 177) dX8_fail_177 rfl rfl ?_
                  refine g_iload (pc := 178) dX8_fail_178 rfl ?_
                  obtain ⟨v66, ev66, hf⟩ := job hf
                  refine g_callV (pc := 180) [.int z56] [] dX8_fail_180 ml_X8_186 ck_X8_isReady cv_X8_isReady sh_221 rfl (by decide) (Nat.le_of_ble_eq_true rfl) (c_X8_isReady ev66) ?_
                  show jGG μ_X8_fail 4 183 [some (.ref 221), some (.int x1), some (.int x2), some (.int x3), some (.int z55), some (.int z56), none, none, none, none] [.int v66] M57 (fun M' r' => M' = Mz ∧ r' = some (.int r))
                  refine g_if_eq (pc := 183) 308 dX8_fail_183 rfl (fun hc105 => ?_) (fun hc105 => ?_)
                  · replace hf := jifp hc105 hf
                    obtain ⟨rfl, rfl⟩ := jp2 (Option.some.inj hf)
                    exact g_weakK (K64) ⟨rfl, ⟨rfl, ⟨rfl, ⟨rfl, ⟨rfl, ⟨rfl, trivial⟩⟩⟩⟩⟩⟩
                  · replace hf := jifn hc105 hf
                    refine g_aload_n (pc := 186) dX8_fail_186 rfl rfl ?_
                    refine g_iload (pc := 187) dX8_fail_187 rfl ?_
                    obtain ⟨v67, ev67, hf⟩ := job hf
                    refine g_callV (pc := 189) [.int z56] [] dX8_fail_189 ml_X8_180 ck_X8_ahead cv_X8_ahead sh_221 rfl (by decide) (Nat.le_of_ble_eq_true rfl) (c_X8_ahead ev67) ?_
                    show jGG μ_X8_fail 4 192 [some (.ref 221), some (.int x1), some (.int x2), some (.int x3), some (.int z55), some (.int z56), none, none, none, none] [.int v67] M57 (fun M' r' => M' = Mz ∧ r' = some (.int r))
                    refine g_istore (pc := 192) (lv' := [some (.ref 221), some (.int x1), some (.int x2), some (.int x3), some (.int z55), some (.int z56), some (.int v67), none, none, none]) dX8_fail_192 (by decide) rfl ?_
                    refine g_iload (pc := 194) dX8_fail_194 rfl ?_
                    obtain ⟨u76, hf, hy69⟩ := job hf
                    have K71 : jGG μ_X8_fail 4 218 [some (.ref 221), some (.int x1), some (.int x2), some (.int x3), none, some (.int z56), none, none, none, none] [.int u76] M57 (fun M' r' => M' = Mz ∧ r' = some (.int r)) := by
                      replace hf := hy69
                      refine g_istore (pc := 218) (lv' := [some (.ref 221), some (.int x1), some (.int x2), some (.int x3), none, some (.int z56), none, some (.int u76), none, none]) dX8_fail_218 (by decide) rfl ?_
                      refine g_aload_n (pc := 220) dX8_fail_220 rfl rfl ?_
                      refine g_aload_n (pc := 221) dX8_fail_221 rfl rfl ?_
                      refine g_getR (pc := 222) dX8_fail_222 fl_X8_28 sh_221 rfl ?_
                      refine g_iload (pc := 225) dX8_fail_225 rfl ?_
                      obtain ⟨v77, ev77, hf⟩ := job hf
                      refine g_iald (pc := 227) dX8_fail_227 sh_228 ev77 ?_
                      refine g_aload_n (pc := 228) dX8_fail_228 rfl rfl ?_
                      refine g_iload (pc := 229) dX8_fail_229 rfl ?_
                      obtain ⟨v78, ev78, hf⟩ := job hf
                      refine g_callV (pc := 231) [.int z56] [.int v77, .ref 221] dX8_fail_231 ml_X8_157 ck_X8_placeOf cv_X8_placeOf sh_221 rfl (by decide) (Nat.le_of_ble_eq_true rfl) (c_X8_placeOf ev78) ?_
                      show jGG μ_X8_fail 4 234 [some (.ref 221), some (.int x1), some (.int x2), some (.int x3), none, some (.int z56), none, some (.int u76), none, none] [.int v78, .int v77, .ref 221] M57 (fun M' r' => M' = Mz ∧ r' = some (.int r))
                      refine g_iload (pc := 234) dX8_fail_234 rfl ?_
                      obtain ⟨⟨M79, v80⟩, ev80, hf⟩ := job hf
                      refine g_callV (pc := 236) [.int v77, .int v78, .int z56] [] dX8_fail_236 ml_X8_189 ck_X8_fromOrder cv_X8_fromOrder sh_221 rfl (by decide) (Nat.le_of_ble_eq_true rfl) (c_X8_fromOrder ev80) ?_
                      show jGG μ_X8_fail 4 239 [some (.ref 221), some (.int x1), some (.int x2), some (.int x3), none, some (.int z56), none, some (.int u76), none, none] [.int v80] M79 (fun M' r' => M' = Mz ∧ r' = some (.int r))
                      refine g_istore (pc := 239) (lv' := [some (.ref 221), some (.int x1), some (.int x2), some (.int x3), none, some (.int z56), none, some (.int u76), some (.int v80), none]) dX8_fail_239 (by decide) rfl ?_
                      refine g_iload (pc := 241) dX8_fail_241 rfl ?_
                      refine g_iload (pc := 243) dX8_fail_243 rfl ?_
                      obtain ⟨u87, hf, hy82⟩ := job hf
                      have K84 : jGG μ_X8_fail 4 255 [some (.ref 221), some (.int x1), some (.int x2), some (.int x3), none, some (.int z56), none, none, none, none] [.int u87] M79 (fun M' r' => M' = Mz ∧ r' = some (.int r)) := by
                        replace hf := hy82
                        refine g_istore (pc := 255) (lv' := [some (.ref 221), some (.int x1), some (.int x2), some (.int x3), none, some (.int z56), none, some (.int u87), none, none]) dX8_fail_255 (by decide) rfl ?_
                        refine g_aload_n (pc := 257) dX8_fail_257 rfl rfl ?_
                        refine g_iload (pc := 258) dX8_fail_258 rfl ?_
                        refine g_iload_n (pc := 260) dX8_fail_260 rfl rfl ?_
                        obtain ⟨v88, ev88, hf⟩ := job hf
                        refine g_callV (pc := 261) [.int z56, .int x1] [] dX8_fail_261 ml_X8_248 ck_X8_isOn cv_X8_isOn sh_221 rfl (by decide) (Nat.le_of_ble_eq_true rfl) (c_X8_isOn ev88) ?_
                        show jGG μ_X8_fail 4 264 [some (.ref 221), some (.int x1), some (.int x2), some (.int x3), none, some (.int z56), none, some (.int u87), none, none] [.int v88] M79 (fun M' r' => M' = Mz ∧ r' = some (.int r))
                        obtain ⟨u95, hf, hy90⟩ := job hf
                        have K92 : jGG μ_X8_fail 4 274 [some (.ref 221), some (.int x1), some (.int x2), some (.int x3), none, some (.int z56), none, some (.int u87), none, none] [.int u95] M79 (fun M' r' => M' = Mz ∧ r' = some (.int r)) := by
                          replace hf := hy90
                          refine g_istore (pc := 274) (lv' := [some (.ref 221), some (.int x1), some (.int x2), some (.int x3), none, some (.int z56), none, some (.int u87), none, some (.int u95)]) dX8_fail_274 (by decide) rfl ?_
                          refine g_aload_n (pc := 276) dX8_fail_276 rfl rfl ?_
                          refine g_getR (pc := 277) dX8_fail_277 fl_X8_55 sh_221 rfl ?_
                          refine g_iload (pc := 280) dX8_fail_280 rfl ?_
                          refine g_iload (pc := 282) dX8_fail_282 rfl ?_
                          refine g_iload (pc := 284) dX8_fail_284 rfl ?_
                          obtain ⟨u102, hf, hy97⟩ := job hf
                          have K99 : jGG μ_X8_fail 4 296 [some (.ref 221), some (.int x1), some (.int x2), some (.int x3), none, some (.int z56), none, none, none, none] [.int u102, .int z56, .ref 237] M79 (fun M' r' => M' = Mz ∧ r' = some (.int r)) := by
                            replace hf := hy97
                            obtain ⟨M103, eM103, hf⟩ := job hf
                            refine g_iast (pc := 296) dX8_fail_296 sh_237 eM103 ?_
                            refine g_aload_n (pc := 297) dX8_fail_297 rfl rfl ?_
                            refine g_getR (pc := 298) dX8_fail_298 fl_X8_58 sh_221 rfl ?_
                            refine g_iload (pc := 301) dX8_fail_301 rfl ?_
                            refine g_iconst (pc := 303) 1 dX8_fail_303 rfl ?_
                            obtain ⟨M104, eM104, hf⟩ := job hf
                            refine g_bast (pc := 304) dX8_fail_304 sh_238 (Or.inr rfl) eM104 ?_
                            refine g_iconst (pc := 305) 1 dX8_fail_305 rfl ?_
                            refine g_istore (pc := 306) (lv' := [some (.ref 221), some (.int x1), some (.int x2), some (.int x3), some (.int 1), some (.int z56), none, none, none, none]) dX8_fail_306 (by decide) rfl ?_
                            obtain ⟨rfl, rfl⟩ := jp2 (Option.some.inj hf)
                            exact g_weakK (K64) ⟨rfl, ⟨rfl, ⟨rfl, ⟨rfl, ⟨rfl, ⟨rfl, trivial⟩⟩⟩⟩⟩⟩
                          refine g_icmp_le (pc := 286) 294 dX8_fail_286 rfl (fun hc101 => ?_) (fun hc101 => ?_)
                          · replace hf := jifp hc101 hf
                            refine g_iload (pc := 294) dX8_fail_294 rfl ?_
                            obtain rfl := Option.some.inj hf
                            exact g_weakK (K99) ⟨rfl, ⟨rfl, ⟨rfl, ⟨rfl, ⟨rfl, trivial⟩⟩⟩⟩⟩
                          · replace hf := jifn hc101 hf
                            refine g_iload (pc := 289) dX8_fail_289 rfl ?_
                            refine g_goto (pc := 291) 296 dX8_fail_291 rfl ?_
                            obtain rfl := Option.some.inj hf
                            exact g_weakK (K99) ⟨rfl, ⟨rfl, ⟨rfl, ⟨rfl, ⟨rfl, trivial⟩⟩⟩⟩⟩
                        refine g_if_eq (pc := 264) 273 dX8_fail_264 rfl (fun hc94 => ?_) (fun hc94 => ?_)
                        · replace hf := jifp hc94 hf
                          refine g_iload_n (pc := 273) dX8_fail_273 rfl rfl ?_
                          obtain rfl := Option.some.inj hf
                          exact g_weakK (K92) ⟨rfl, ⟨rfl, ⟨rfl, ⟨rfl, ⟨rfl, ⟨rfl, trivial⟩⟩⟩⟩⟩⟩
                        · replace hf := jifn hc94 hf
                          refine g_iload_n (pc := 267) dX8_fail_267 rfl rfl ?_
                          refine g_iload_n (pc := 268) dX8_fail_268 rfl rfl ?_
                          refine g_iadd (pc := 269) dX8_fail_269 ?_
                          refine g_goto (pc := 270) 274 dX8_fail_270 rfl ?_
                          obtain rfl := Option.some.inj hf
                          exact g_weakK (K92) ⟨rfl, ⟨rfl, ⟨rfl, ⟨rfl, ⟨rfl, ⟨rfl, trivial⟩⟩⟩⟩⟩⟩
                      refine g_icmp_le (pc := 245) 253 dX8_fail_245 rfl (fun hc86 => ?_) (fun hc86 => ?_)
                      · replace hf := jifp hc86 hf
                        refine g_iload (pc := 253) dX8_fail_253 rfl ?_
                        obtain rfl := Option.some.inj hf
                        exact g_weakK (K84) ⟨rfl, ⟨rfl, ⟨rfl, ⟨rfl, ⟨rfl, trivial⟩⟩⟩⟩⟩
                      · replace hf := jifn hc86 hf
                        refine g_iload (pc := 248) dX8_fail_248 rfl ?_
                        refine g_goto (pc := 250) 255 dX8_fail_250 rfl ?_
                        obtain rfl := Option.some.inj hf
                        exact g_weakK (K84) ⟨rfl, ⟨rfl, ⟨rfl, ⟨rfl, ⟨rfl, trivial⟩⟩⟩⟩⟩
                    refine g_if_ge (pc := 196) 203 dX8_fail_196 rfl (fun hc75 => ?_) (fun hc75 => ?_)
                    · replace hf := jifp hc75 hf
                      refine g_aload_n (pc := 203) dX8_fail_203 rfl rfl ?_
                      refine g_getR (pc := 204) dX8_fail_204 fl_X8_55 sh_221 rfl ?_
                      refine g_iload (pc := 207) dX8_fail_207 rfl ?_
                      obtain ⟨v73, ev73, hf⟩ := job hf
                      refine g_iald (pc := 209) dX8_fail_209 sh_237 ev73 ?_
                      refine g_aload_n (pc := 210) dX8_fail_210 rfl rfl ?_
                      refine g_getR (pc := 211) dX8_fail_211 fl_X8_31 sh_221 rfl ?_
                      refine g_iload (pc := 214) dX8_fail_214 rfl ?_
                      obtain ⟨v74, ev74, hf⟩ := job hf
                      refine g_iald (pc := 216) dX8_fail_216 sh_229 ev74 ?_
                      refine g_iadd (pc := 217) dX8_fail_217 ?_
                      obtain rfl := Option.some.inj hf
                      exact g_weakK (K71) ⟨rfl, ⟨rfl, ⟨rfl, ⟨rfl, ⟨rfl, trivial⟩⟩⟩⟩⟩
                    · replace hf := jifn hc75 hf
                      refine g_iconst (pc := 199) 0 dX8_fail_199 rfl ?_
                      refine g_goto (pc := 200) 218 dX8_fail_200 rfl ?_
                      obtain rfl := Option.some.inj hf
                      exact g_weakK (K71) ⟨rfl, ⟨rfl, ⟨rfl, ⟨rfl, ⟨rfl, trivial⟩⟩⟩⟩⟩
          refine g_weak (lv' := [some (.ref 221), some (.int x1), some (.int x2), some (.int x3), some (.int 0), none, none, none, none, none]) ⟨rfl, ⟨rfl, ⟨rfl, ⟨rfl, ⟨rfl, trivial⟩⟩⟩⟩⟩ ?_
          refine jLp_ind (P := fun ((z9, M10) : Int32 × JMem) => jGG μ_X8_fail 4 59 [some (.ref 221), some (.int x1), some (.int x2), some (.int x3), some (.int z9), none, none, none, none, none] [] M10 (fun M' r' => M' = Mz ∧ r' = some (.int r))) ?_ N _ y4
          rintro ⟨z9, M10⟩ x_8 hf ih7 hx6
          show jGG μ_X8_fail 4 59 [some (.ref 221), some (.int x1), some (.int x2), some (.int x3), some (.int z9), none, none, none, none, none] [] M10 (fun M' r' => M' = Mz ∧ r' = some (.int r))
          refine g_iload (pc := 59) dX8_fail_59 rfl ?_
          refine g_aload_n (pc := 61) dX8_fail_61 rfl rfl ?_
          refine g_getI (pc := 62) dX8_fail_62 fl_X8_143 sh_221 rfl ?_
          refine g_icmp_ge (pc := 65) 144 dX8_fail_65 rfl (fun hc39 => ?_) (fun hc39 => ?_)
          · replace hf := jifp hc39 hf
            have hf := hx6 _ (Option.some.inj hf).symm
            obtain rfl := hf
            exact g_weakK K5 ⟨rfl, ⟨rfl, ⟨rfl, ⟨rfl, trivial⟩⟩⟩⟩
          · replace hf := jifn hc39 hf
            refine g_aload_n (pc := 68) dX8_fail_68 rfl rfl ?_
            refine g_getR (pc := 69) dX8_fail_69 fl_X8_55 sh_221 rfl ?_
            refine g_iload (pc := 72) dX8_fail_72 rfl ?_
            obtain ⟨v12, ev12, hf⟩ := job hf
            refine g_iald (pc := 74) dX8_fail_74 sh_237 ev12 ?_
            refine g_aload_n (pc := 75) dX8_fail_75 rfl rfl ?_
            refine g_getR (pc := 76) dX8_fail_76 fl_X8_31 sh_221 rfl ?_
            refine g_iload (pc := 79) dX8_fail_79 rfl ?_
            obtain ⟨v13, ev13, hf⟩ := job hf
            refine g_iald (pc := 81) dX8_fail_81 sh_229 ev13 ?_
            refine g_iadd (pc := 82) dX8_fail_82 ?_
            refine g_istore (pc := 83) (lv' := [some (.ref 221), some (.int x1), some (.int x2), some (.int x3), some (.int z9), some (.int (v12 + v13)), none, none, none, none]) dX8_fail_83 (by decide) rfl ?_
            refine g_aload_n (pc := 85) dX8_fail_85 rfl rfl ?_
            refine g_getR (pc := 86) dX8_fail_86 fl_X8_119 sh_221 rfl ?_
            refine g_iload (pc := 89) dX8_fail_89 rfl ?_
            refine g_iload (pc := 91) dX8_fail_91 rfl ?_
            refine g_iload_n (pc := 93) dX8_fail_93 rfl rfl ?_
            obtain ⟨u34, hf, hy15⟩ := job hf
            have K17 : (hbu34 : u34 = 0 ∨ u34 = 1) → jGG μ_X8_fail 4 123 [some (.ref 221), some (.int x1), some (.int x2), some (.int x3), some (.int z9), none, none, none, none, none] [.int u34, .int z9, .ref 258] M10 (fun M' r' => M' = Mz ∧ r' = some (.int r)) := by
              intro hbu34
              replace hf := hy15
              obtain ⟨M35, eM35, hf⟩ := job hf
              refine g_bast (pc := 123) dX8_fail_123 sh_258 hbu34 eM35 ?_
              refine g_aload_n (pc := 124) dX8_fail_124 rfl rfl ?_
              refine g_getR (pc := 125) dX8_fail_125 fl_X8_58 sh_221 rfl ?_
              refine g_iload (pc := 128) dX8_fail_128 rfl ?_
              refine g_aload_n (pc := 130) dX8_fail_130 rfl rfl ?_
              refine g_getR (pc := 131) dX8_fail_131 fl_X8_119 sh_221 rfl ?_
              refine g_iload (pc := 134) dX8_fail_134 rfl ?_
              obtain ⟨v36, ev36, hf⟩ := job hf
              refine g_bald (pc := 136) dX8_fail_136 sh_258 ev36 ?_
              obtain ⟨_, ehb38, hf⟩ := job hf
              have hb38 := jb01_of (jgd ehb38)
              obtain ⟨M37, eM37, hf⟩ := job hf
              refine g_bast (pc := 137) dX8_fail_137 sh_238 hb38 eM37 ?_
              refine g_iinc (pc := 138) (lv' := [some (.ref 221), some (.int x1), some (.int x2), some (.int x3), some (.int (z9 + 1)), none, none, none, none, none]) (z9 + 1) dX8_fail_138 rfl rfl (by decide) rfl ?_
              refine g_goto (pc := 141) 59 dX8_fail_141 rfl ?_
              have hih : jGG μ_X8_fail 4 59 [some (.ref 221), some (.int x1), some (.int x2), some (.int x3), some (.int (z9 + 1)), none, none, none, none, none] [] M37 (fun M' r' => M' = Mz ∧ r' = some (.int r)) := ih7 (z9 + 1, M37) (Option.some.inj hf).symm
              exact g_weakK hih ⟨rfl, ⟨rfl, ⟨rfl, ⟨rfl, ⟨rfl, trivial⟩⟩⟩⟩⟩
            obtain ⟨y21, hf, hy20⟩ := jcb hf
            have K22 : y21 = Sum.inr () → jGG μ_X8_fail 4 118 [some (.ref 221), some (.int x1), some (.int x2), some (.int x3), some (.int z9), none, none, none, none, none] [.int z9, .ref 258] M10 (fun M' r' => M' = Mz ∧ r' = some (.int r)) := by
              intro hyy
              subst hyy
              replace hf := hy20
              refine g_iconst (pc := 118) 1 dX8_fail_118 rfl ?_
              refine g_goto (pc := 119) 123 dX8_fail_119 rfl ?_
              obtain rfl := Option.some.inj hf
              exact g_weakK (K17 (Or.inr rfl)) ⟨rfl, ⟨rfl, ⟨rfl, ⟨rfl, ⟨rfl, trivial⟩⟩⟩⟩⟩
            refine g_icmp_le (pc := 94) 118 dX8_fail_94 rfl (fun hc33 => ?_) (fun hc33 => ?_)
            · replace hf := jifp hc33 hf
              exact g_weakK (K22 (Option.some.inj hf).symm) ⟨rfl, ⟨rfl, ⟨rfl, ⟨rfl, ⟨rfl, trivial⟩⟩⟩⟩⟩
            · replace hf := jifn hc33 hf
              refine g_aload_n (pc := 97) dX8_fail_97 rfl rfl ?_
              refine g_getR (pc := 98) dX8_fail_98 fl_X8_55 sh_221 rfl ?_
              refine g_iload (pc := 101) dX8_fail_101 rfl ?_
              obtain ⟨v24, ev24, hf⟩ := job hf
              refine g_iald (pc := 103) dX8_fail_103 sh_237 ev24 ?_
              refine g_iload_n (pc := 104) dX8_fail_104 rfl rfl ?_
              obtain ⟨y27, hf, hy26⟩ := jcb hf
              have K28 : y27 = Sum.inr () → jGG μ_X8_fail 4 122 [some (.ref 221), some (.int x1), some (.int x2), some (.int x3), some (.int z9), none, none, none, none, none] [.int z9, .ref 258] M10 (fun M' r' => M' = Mz ∧ r' = some (.int r)) := by
                intro hyy
                subst hyy
                replace hf := hy26
                refine g_iconst (pc := 122) 0 dX8_fail_122 rfl ?_
                obtain rfl := Option.some.inj hf
                replace hf := hy20
                obtain rfl := Option.some.inj hf
                exact g_weakK (K17 (Or.inl rfl)) ⟨rfl, ⟨rfl, ⟨rfl, ⟨rfl, ⟨rfl, trivial⟩⟩⟩⟩⟩
              refine g_icmp_ge (pc := 105) 122 dX8_fail_105 rfl (fun hc32 => ?_) (fun hc32 => ?_)
              · replace hf := jifp hc32 hf
                exact g_weakK (K28 (Option.some.inj hf).symm) ⟨rfl, ⟨rfl, ⟨rfl, ⟨rfl, ⟨rfl, trivial⟩⟩⟩⟩⟩
              · replace hf := jifn hc32 hf
                refine g_aload_n (pc := 108) dX8_fail_108 rfl rfl ?_
                refine g_iload (pc := 109) dX8_fail_109 rfl ?_
                refine g_iload_n (pc := 111) dX8_fail_111 rfl rfl ?_
                obtain ⟨v30, ev30, hf⟩ := job hf
                refine g_callV (pc := 112) [.int z9, .int x1] [.int z9, .ref 258] dX8_fail_112 ml_X8_248 ck_X8_isOn cv_X8_isOn sh_221 rfl (by decide) (Nat.le_of_ble_eq_true rfl) (c_X8_isOn ev30) ?_
                show jGG μ_X8_fail 4 115 [some (.ref 221), some (.int x1), some (.int x2), some (.int x3), some (.int z9), some (.int (v12 + v13)), none, none, none, none] [.int v30, .int z9, .ref 258] M10 (fun M' r' => M' = Mz ∧ r' = some (.int r))
                refine g_if_ne (pc := 115) 122 dX8_fail_115 rfl (fun hc31 => ?_) (fun hc31 => ?_)
                · replace hf := jifn hc31 hf
                  exact g_weakK (K28 (Option.some.inj hf).symm) ⟨rfl, ⟨rfl, ⟨rfl, ⟨rfl, ⟨rfl, trivial⟩⟩⟩⟩⟩
                · replace hf := jifp hc31 hf
                  obtain rfl := Option.some.inj hf
                  replace hf := hy26
                  exact g_weakK (K22 (Option.some.inj hf).symm) ⟨rfl, ⟨rfl, ⟨rfl, ⟨rfl, ⟨rfl, trivial⟩⟩⟩⟩⟩
        · replace hf := jifp hc138 hf
          refine g_ldc (pc := 53) (-100003) dX8_fail_53 lc_X8_179 ?_
          obtain ⟨rfl, rfl⟩ := Prod.mk.inj (Option.some.inj hf)
          exact g_iret (pc := 55) dX8_fail_55 rfl ⟨rfl, rfl⟩
      · replace hf := jifp hc139 hf
        refine g_ldc (pc := 43) (-100002) dX8_fail_43 lc_X8_132 ?_
        obtain ⟨rfl, rfl⟩ := Prod.mk.inj (Option.some.inj hf)
        exact g_iret (pc := 45) dX8_fail_45 rfl ⟨rfl, rfl⟩
  · replace hf := jifp hc141 hf
    refine g_ldc (pc := 16) (-100001) dX8_fail_16 lc_X8_146 ?_
    obtain ⟨rfl, rfl⟩ := Prod.mk.inj (Option.some.inj hf)
    exact g_iret (pc := 18) dX8_fail_18 rfl ⟨rfl, rfl⟩
def f_X8_mended (M : JMem) (x1 : Int32) (x2 : Int32) : Option (Int32) := (f_X8_isStep M x1).bind fun v1 => (if v1 = 0 then some (-100001) else (if (jin3 x2.toInt64 0 1) = 0 then some (-100002) else (if (M 221 49) = 0 then some (-1) else (if x1 < (M 221 50) then (if x2 = 0 then (jrd M 257 32 x1).bind fun v4 => some v4 else (jrd M 258 32 x1).bind fun v2 => (if v2 = 0 then some 0 else some 1)) else some (-1)))))
set_option maxHeartbeats 4000000 in
theorem c_X8_mended {M : JMem} {x1 : Int32} {x2 : Int32} {r : Int32} (hf : f_X8_mended M x1 x2 = some r) : jCo yX8_mended μ_X8_mended 3 M [.ref 221, .int x1, .int x2] M (some (.int r)) := by
  refine jCt_of (by decide +kernel) rfl (by simp [Value.category]) (Nat.le_of_ble_eq_true rfl) ?_
  unfold f_X8_mended at hf
  show jGG μ_X8_mended 3 0 [some (.ref 221), some (.int x1), some (.int x2)] [] M (fun M' r' => M' = M ∧ r' = some (.int r))
  refine g_aload_n (pc := 0) dX8_mended_0 rfl rfl ?_
  refine g_iload_n (pc := 1) dX8_mended_1 rfl rfl ?_
  obtain ⟨v1, ev1, hf⟩ := job hf
  refine g_callV (pc := 2) [.int x1] [] dX8_mended_2 ml_X8_153 ck_X8_isStep cv_X8_isStep sh_221 rfl (by decide) (Nat.le_of_ble_eq_true rfl) (c_X8_isStep ev1) ?_
  show jGG μ_X8_mended 3 5 [some (.ref 221), some (.int x1), some (.int x2)] [.int v1] M (fun M' r' => M' = M ∧ r' = some (.int r))
  refine g_if_ne (pc := 5) 11 dX8_mended_5 rfl (fun hc9 => ?_) (fun hc9 => ?_)
  · replace hf := jifn hc9 hf
    refine g_iload_n (pc := 11) dX8_mended_11 rfl rfl ?_
    refine g_i2l (pc := 12) dX8_mended_12 ?_
    refine g_lconst (pc := 13) 0 dX8_mended_13 rfl ?_
    refine g_lconst (pc := 14) 1 dX8_mended_14 rfl ?_
    refine g_callS (pc := 15) [.long x2.toInt64, .long 0, .long 1] [] dX8_mended_15 ml_X8_124 ck_X8_in cs_X8_in rfl (by decide) (Nat.le_of_ble_eq_true rfl) c_in ?_
    show jGG μ_X8_mended 3 18 [some (.ref 221), some (.int x1), some (.int x2)] [.int (jin3 x2.toInt64 0 1)] M (fun M' r' => M' = M ∧ r' = some (.int r))
    refine g_if_ne (pc := 18) 24 dX8_mended_18 rfl (fun hc8 => ?_) (fun hc8 => ?_)
    · replace hf := jifn hc8 hf
      refine g_aload_n (pc := 24) dX8_mended_24 rfl rfl ?_
      refine g_getI (pc := 25) dX8_mended_25 fl_X8_331 sh_221 rfl ?_
      refine g_if_eq (pc := 28) 39 dX8_mended_28 rfl (fun hc7 => ?_) (fun hc7 => ?_)
      · replace hf := jifp hc7 hf
        refine g_iconst (pc := 39) (-1) dX8_mended_39 rfl ?_
        obtain rfl := Option.some.inj hf
        exact g_iret (pc := 40) dX8_mended_40 rfl ⟨rfl, rfl⟩
      · replace hf := jifn hc7 hf
        refine g_iload_n (pc := 31) dX8_mended_31 rfl rfl ?_
        refine g_aload_n (pc := 32) dX8_mended_32 rfl rfl ?_
        refine g_getI (pc := 33) dX8_mended_33 fl_X8_334 sh_221 rfl ?_
        refine g_icmp_lt (pc := 36) 41 dX8_mended_36 rfl (fun hc6 => ?_) (fun hc6 => ?_)
        · replace hf := jifp hc6 hf
          refine g_iload_n (pc := 41) dX8_mended_41 rfl rfl ?_
          refine g_if_ne (pc := 42) 54 dX8_mended_42 rfl (fun hc5 => ?_) (fun hc5 => ?_)
          · replace hf := jifn hc5 hf
            refine g_aload_n (pc := 54) dX8_mended_54 rfl rfl ?_
            refine g_getR (pc := 55) dX8_mended_55 fl_X8_119 sh_221 rfl ?_
            refine g_iload_n (pc := 58) dX8_mended_58 rfl rfl ?_
            obtain ⟨v2, ev2, hf⟩ := job hf
            refine g_bald (pc := 59) dX8_mended_59 sh_258 ev2 ?_
            refine g_if_eq (pc := 60) 67 dX8_mended_60 rfl (fun hc3 => ?_) (fun hc3 => ?_)
            · replace hf := jifp hc3 hf
              refine g_iconst (pc := 67) 0 dX8_mended_67 rfl ?_
              obtain rfl := Option.some.inj hf
              exact g_iret (pc := 68) dX8_mended_68 rfl ⟨rfl, rfl⟩
            · replace hf := jifn hc3 hf
              refine g_iconst (pc := 63) 1 dX8_mended_63 rfl ?_
              refine g_goto (pc := 64) 68 dX8_mended_64 rfl ?_
              obtain rfl := Option.some.inj hf
              exact g_iret (pc := 68) dX8_mended_68 rfl ⟨rfl, rfl⟩
          · replace hf := jifp hc5 hf
            refine g_aload_n (pc := 45) dX8_mended_45 rfl rfl ?_
            refine g_getR (pc := 46) dX8_mended_46 fl_X8_116 sh_221 rfl ?_
            refine g_iload_n (pc := 49) dX8_mended_49 rfl rfl ?_
            obtain ⟨v4, ev4, hf⟩ := job hf
            refine g_iald (pc := 50) dX8_mended_50 sh_257 ev4 ?_
            refine g_goto (pc := 51) 68 dX8_mended_51 rfl ?_
            obtain rfl := Option.some.inj hf
            exact g_iret (pc := 68) dX8_mended_68 rfl ⟨rfl, rfl⟩
        · replace hf := jifn hc6 hf
          refine g_iconst (pc := 39) (-1) dX8_mended_39 rfl ?_
          obtain rfl := Option.some.inj hf
          exact g_iret (pc := 40) dX8_mended_40 rfl ⟨rfl, rfl⟩
    · replace hf := jifp hc8 hf
      refine g_ldc (pc := 21) (-100002) dX8_mended_21 lc_X8_132 ?_
      obtain rfl := Option.some.inj hf
      exact g_iret (pc := 23) dX8_mended_23 rfl ⟨rfl, rfl⟩
  · replace hf := jifp hc9 hf
    refine g_ldc (pc := 8) (-100001) dX8_mended_8 lc_X8_146 ?_
    obtain rfl := Option.some.inj hf
    exact g_iret (pc := 10) dX8_mended_10 rfl ⟨rfl, rfl⟩
