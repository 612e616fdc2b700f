def f_X8_code (M : JMem) : Option (Int32) := some (M 221 14)
set_option maxHeartbeats 4000000 in
theorem c_X8_code {M : JMem} {r : Int32} (hf : f_X8_code M = some r) : jCo yX8_code μ_X8_code 1 M [.ref 221] M (some (.int r)) := by
  refine jCt_of (by decide +kernel) rfl (by simp [Value.category]) (Nat.le_of_ble_eq_true rfl) ?_
  unfold f_X8_code at hf
  show jGG μ_X8_code 1 0 [some (.ref 221)] [] M (fun M' r' => M' = M ∧ r' = some (.int r))
  refine g_aload_n (pc := 0) dX8_code_0 rfl rfl ?_
  refine g_getI (pc := 1) dX8_code_1 fl_X8_176 sh_221 rfl ?_
  obtain rfl := Option.some.inj hf
  exact g_iret (pc := 4) dX8_code_4 rfl ⟨rfl, rfl⟩
def f_X8_ahead (M : JMem) (x1 : Int32) : Option (Int32) := (jrd M 230 32 x1).bind fun v1 => (if v1 = 0 then some (-1) else (jrd M 227 32 x1).bind fun v2 => (jrd M 230 32 x1).bind fun v3 => (jrd M 226 96 (((8 * v2) + v3) - 1)).bind fun v4 => some v4)
set_option maxHeartbeats 4000000 in
theorem c_X8_ahead {M : JMem} {x1 : Int32} {r : Int32} (hf : f_X8_ahead M x1 = some r) : jCo yX8_ahead μ_X8_ahead 1 M [.ref 221, .int x1] M (some (.int r)) := by
  refine jCt_of (by decide +kernel) rfl (by simp [Value.category]) (Nat.le_of_ble_eq_true rfl) ?_
  unfold f_X8_ahead at hf
  show jGG μ_X8_ahead 1 0 [some (.ref 221), some (.int x1)] [] M (fun M' r' => M' = M ∧ r' = some (.int r))
  refine g_aload_n (pc := 0) dX8_ahead_0 rfl rfl ?_
  refine g_getR (pc := 1) dX8_ahead_1 fl_X8_34 sh_221 rfl ?_
  refine g_iload_n (pc := 4) dX8_ahead_4 rfl rfl ?_
  obtain ⟨v1, ev1, hf⟩ := job hf
  refine g_iald (pc := 5) dX8_ahead_5 sh_230 ev1 ?_
  refine g_if_ne (pc := 6) 13 dX8_ahead_6 rfl (fun hc5 => ?_) (fun hc5 => ?_)
  · replace hf := jifn hc5 hf
    refine g_aload_n (pc := 13) dX8_ahead_13 rfl rfl ?_
    refine g_getR (pc := 14) dX8_ahead_14 fl_X8_22 sh_221 rfl ?_
    refine g_bipush (pc := 17) 8 dX8_ahead_17 rfl ?_
    refine g_aload_n (pc := 19) dX8_ahead_19 rfl rfl ?_
    refine g_getR (pc := 20) dX8_ahead_20 fl_X8_25 sh_221 rfl ?_
    refine g_iload_n (pc := 23) dX8_ahead_23 rfl rfl ?_
    obtain ⟨v2, ev2, hf⟩ := job hf
    refine g_iald (pc := 24) dX8_ahead_24 sh_227 ev2 ?_
    refine g_imul (pc := 25) dX8_ahead_25 ?_
    refine g_aload_n (pc := 26) dX8_ahead_26 rfl rfl ?_
    refine g_getR (pc := 27) dX8_ahead_27 fl_X8_34 sh_221 rfl ?_
    refine g_iload_n (pc := 30) dX8_ahead_30 rfl rfl ?_
    obtain ⟨v3, ev3, hf⟩ := job hf
    refine g_iald (pc := 31) dX8_ahead_31 sh_230 ev3 ?_
    refine g_iadd (pc := 32) dX8_ahead_32 ?_
    refine g_iconst (pc := 33) 1 dX8_ahead_33 rfl ?_
    refine g_isub (pc := 34) dX8_ahead_34 ?_
    obtain ⟨v4, ev4, hf⟩ := job hf
    refine g_iald (pc := 35) dX8_ahead_35 sh_226 ev4 ?_
    obtain rfl := Option.some.inj hf
    exact g_iret (pc := 36) dX8_ahead_36 rfl ⟨rfl, rfl⟩
  · replace hf := jifp hc5 hf
    refine g_iconst (pc := 9) (-1) dX8_ahead_9 rfl ?_
    refine g_goto (pc := 10) 36 dX8_ahead_10 rfl ?_
    obtain rfl := Option.some.inj hf
    exact g_iret (pc := 36) dX8_ahead_36 rfl ⟨rfl, rfl⟩
def f_X8_behind (M : JMem) (x1 : Int32) : Option (Int32) := (jrd M 230 32 x1).bind fun v1 => (jrd M 227 32 x1).bind fun v2 => (jrd M 225 12 v2).bind fun v3 => (if (v1 + 1) = v3 then some (-1) else (jrd M 227 32 x1).bind fun v4 => (jrd M 230 32 x1).bind fun v5 => (jrd M 226 96 (((8 * v4) + v5) + 1)).bind fun v6 => some v6)
set_option maxHeartbeats 4000000 in
theorem c_X8_behind {M : JMem} {x1 : Int32} {r : Int32} (hf : f_X8_behind M x1 = some r) : jCo yX8_behind μ_X8_behind 1 M [.ref 221, .int x1] M (some (.int r)) := by
  refine jCt_of (by decide +kernel) rfl (by simp [Value.category]) (Nat.le_of_ble_eq_true rfl) ?_
  unfold f_X8_behind at hf
  show jGG μ_X8_behind 1 0 [some (.ref 221), some (.int x1)] [] M (fun M' r' => M' = M ∧ r' = some (.int r))
  refine g_aload_n (pc := 0) dX8_behind_0 rfl rfl ?_
  refine g_getR (pc := 1) dX8_behind_1 fl_X8_34 sh_221 rfl ?_
  refine g_iload_n (pc := 4) dX8_behind_4 rfl rfl ?_
  obtain ⟨v1, ev1, hf⟩ := job hf
  refine g_iald (pc := 5) dX8_behind_5 sh_230 ev1 ?_
  refine g_iconst (pc := 6) 1 dX8_behind_6 rfl ?_
  refine g_iadd (pc := 7) dX8_behind_7 ?_
  refine g_aload_n (pc := 8) dX8_behind_8 rfl rfl ?_
  refine g_getR (pc := 9) dX8_behind_9 fl_X8_19 sh_221 rfl ?_
  refine g_aload_n (pc := 12) dX8_behind_12 rfl rfl ?_
  refine g_getR (pc := 13) dX8_behind_13 fl_X8_25 sh_221 rfl ?_
  refine g_iload_n (pc := 16) dX8_behind_16 rfl rfl ?_
  obtain ⟨v2, ev2, hf⟩ := job hf
  refine g_iald (pc := 17) dX8_behind_17 sh_227 ev2 ?_
  obtain ⟨v3, ev3, hf⟩ := job hf
  refine g_iald (pc := 18) dX8_behind_18 sh_225 ev3 ?_
  refine g_icmp_ne (pc := 19) 26 dX8_behind_19 rfl (fun hc7 => ?_) (fun hc7 => ?_)
  · replace hf := jifn hc7 hf
    refine g_aload_n (pc := 26) dX8_behind_26 rfl rfl ?_
    refine g_getR (pc := 27) dX8_behind_27 fl_X8_22 sh_221 rfl ?_
    refine g_bipush (pc := 30) 8 dX8_behind_30 rfl ?_
    refine g_aload_n (pc := 32) dX8_behind_32 rfl rfl ?_
    refine g_getR (pc := 33) dX8_behind_33 fl_X8_25 sh_221 rfl ?_
    refine g_iload_n (pc := 36) dX8_behind_36 rfl rfl ?_
    obtain ⟨v4, ev4, hf⟩ := job hf
    refine g_iald (pc := 37) dX8_behind_37 sh_227 ev4 ?_
    refine g_imul (pc := 38) dX8_behind_38 ?_
    refine g_aload_n (pc := 39) dX8_behind_39 rfl rfl ?_
    refine g_getR (pc := 40) dX8_behind_40 fl_X8_34 sh_221 rfl ?_
    refine g_iload_n (pc := 43) dX8_behind_43 rfl rfl ?_
    obtain ⟨v5, ev5, hf⟩ := job hf
    refine g_iald (pc := 44) dX8_behind_44 sh_230 ev5 ?_
    refine g_iadd (pc := 45) dX8_behind_45 ?_
    refine g_iconst (pc := 46) 1 dX8_behind_46 rfl ?_
    refine g_iadd (pc := 47) dX8_behind_47 ?_
    obtain ⟨v6, ev6, hf⟩ := job hf
    refine g_iald (pc := 48) dX8_behind_48 sh_226 ev6 ?_
    obtain rfl := Option.some.inj hf
    exact g_iret (pc := 49) dX8_behind_49 rfl ⟨rfl, rfl⟩
  · replace hf := jifp hc7 hf
    refine g_iconst (pc := 22) (-1) dX8_behind_22 rfl ?_
    refine g_goto (pc := 23) 49 dX8_behind_23 rfl ?_
    obtain rfl := Option.some.inj hf
    exact g_iret (pc := 49) dX8_behind_49 rfl ⟨rfl, rfl⟩
def f_X8_fromOrder (N : Nat) (M : JMem) (x1 : Int32) (x2 : Int32) (x3 : Int32) : Option (JMem × Int32) := (jrd M 222 8 x1).bind fun v1 => (if v1 = 1 then some (M, 0) else (if x2 = 0 then some (M, 0) else (jrd M 231 256 (((32 * x1) + x2) - 1)).bind fun v2 => (jrd M 222 8 x1).bind fun v3 => (if v3 = 3 then (jrd M 237 32 v2).bind fun v4 => (jrd M 223 8 x1).bind fun v5 => (if x2 < v5 then some (M, v4) else ((jLp (σ := Int32 × JMem) (ρ := JMem) N (fun ((z12, M13) : Int32 × JMem) => (if x2 ≤ z12 then some (Sum.inr M13) else (jrd M13 231 256 ((32 * x1) + z12)).bind fun v15 => (jrd M13 237 32 v15).bind fun v16 => (jrd M13 229 32 v15).bind fun v17 => ((jLp (σ := Int32 × JMem) (ρ := Int32 × JMem) N (fun ((z24, M25) : Int32 × JMem) => (if z24 ≤ 0 then some (Sum.inr (z24, M25)) else (jrd M25 239 32 (z24 - 1)).bind fun v28 => (if (v16 + v17) ≤ v28 then some (Sum.inr (z24, M25)) else (jrd M25 239 32 (z24 - 1)).bind fun v29 => (jwr M25 239 32 z24 v29).bind fun M30 => some (Sum.inl (z24 + (-1), M30))))) (z12, M13)).bind fun (t26, t27) => (jwr t27 239 32 t26 (v16 + v17)).bind fun M33 => some (Sum.inl (z12 + 1, M33))))) (0, M)).bind fun t14 => (jrd t14 239 32 (v5 - 1)).bind fun v35 => (((if v35 ≤ v4 then some (v4) else (jrd t14 239 32 (v5 - 1)).bind fun v41 => some (v41)) : Option (Int32)).bind fun u43 => some (t14, u43)))) else (jrd M 222 8 x1).bind fun v45 => (((jcase (α := Int32) (β := Unit) (if v45 = 2 then (jrd M 227 32 v2).bind fun v56 => (jrd M 224 12 v56).bind fun v57 => (jrd M 227 32 x3).bind fun v58 => (jrd M 224 12 v58).bind fun v59 => (if v57 = v59 then some (Sum.inr ()) else (jrd M 223 8 x1).bind fun v60 => some (Sum.inl (v60))) else some (Sum.inr ())) fun _ => some (0)) : Option (Int32)).bind fun u63 => (jrd M 237 32 v2).bind fun v64 => (jrd M 229 32 v2).bind fun v65 => some (M, (v64 + v65) + u63)))))
set_option maxHeartbeats 4000000 in
theorem c_X8_fromOrder {N : Nat} {M : JMem} {x1 : Int32} {x2 : Int32} {x3 : Int32} {Mz : JMem} {r : Int32} (hf : f_X8_fromOrder N M x1 x2 x3 = some (Mz, r)) : jCo yX8_fromOrder μ_X8_fromOrder 1 M [.ref 221, .int x1, .int x2, .int x3] Mz (some (.int r)) := by
  refine jCt_of (by decide +kernel) rfl (by simp [Value.category]) (Nat.le_of_ble_eq_true rfl) ?_
  unfold f_X8_fromOrder at hf
  show jGG μ_X8_fromOrder 1 0 [some (.ref 221), some (.int x1), some (.int x2), some (.int x3), none, none, none, none, none, none, none] [] M (fun M' r' => M' = Mz ∧ r' = some (.int r))
  refine g_aload_n (pc := 0) dX8_fromOrder_0 rfl rfl ?_
  refine g_getR (pc := 1) dX8_fromOrder_1 fl_X8_7 sh_221 rfl ?_
  refine g_iload_n (pc := 4) dX8_fromOrder_4 rfl rfl ?_
  obtain ⟨v1, ev1, hf⟩ := job hf
  refine g_iald (pc := 5) dX8_fromOrder_5 sh_222 ev1 ?_
  refine g_iconst (pc := 6) 1 dX8_fromOrder_6 rfl ?_
  refine g_icmp_eq (pc := 7) 14 dX8_fromOrder_7 rfl (fun hc68 => ?_) (fun hc68 => ?_)
  · replace hf := jifp hc68 hf
    refine g_iconst (pc := 14) 0 dX8_fromOrder_14 rfl ?_
    obtain ⟨rfl, rfl⟩ := Prod.mk.inj (Option.some.inj hf)
    exact g_iret (pc := 15) dX8_fromOrder_15 rfl ⟨rfl, rfl⟩
  · replace hf := jifn hc68 hf
    refine g_iload_n (pc := 10) dX8_fromOrder_10 rfl rfl ?_
    refine g_if_ne (pc := 11) 16 dX8_fromOrder_11 rfl (fun hc67 => ?_) (fun hc67 => ?_)
    · replace hf := jifn hc67 hf
      refine g_aload_n (pc := 16) dX8_fromOrder_16 rfl rfl ?_
      refine g_getR (pc := 17) dX8_fromOrder_17 fl_X8_37 sh_221 rfl ?_
      refine g_bipush (pc := 20) 32 dX8_fromOrder_20 rfl ?_
      refine g_iload_n (pc := 22) dX8_fromOrder_22 rfl rfl ?_
      refine g_imul (pc := 23) dX8_fromOrder_23 ?_
      refine g_iload_n (pc := 24) dX8_fromOrder_24 rfl rfl ?_
      refine g_iadd (pc := 25) dX8_fromOrder_25 ?_
      refine g_iconst (pc := 26) 1 dX8_fromOrder_26 rfl ?_
      refine g_isub (pc := 27) dX8_fromOrder_27 ?_
      obtain ⟨v2, ev2, hf⟩ := job hf
      refine g_iald (pc := 28) dX8_fromOrder_28 sh_231 ev2 ?_
      refine g_istore (pc := 29) (lv' := [some (.ref 221), some (.int x1), some (.int x2), some (.int x3), some (.int v2), none, none, none, none, none, none]) dX8_fromOrder_29 (by decide) rfl ?_
      refine g_aload_n (pc := 31) dX8_fromOrder_31 rfl rfl ?_
      refine g_getR (pc := 32) dX8_fromOrder_32 fl_X8_7 sh_221 rfl ?_
      refine g_iload_n (pc := 35) dX8_fromOrder_35 rfl rfl ?_
      obtain ⟨v3, ev3, hf⟩ := job hf
      refine g_iald (pc := 36) dX8_fromOrder_36 sh_222 ev3 ?_
      refine g_iconst (pc := 37) 3 dX8_fromOrder_37 rfl ?_
      refine g_icmp_eq (pc := 38) 108 dX8_fromOrder_38 rfl (fun hc66 => ?_) (fun hc66 => ?_)
      · replace hf := jifp hc66 hf
        refine g_aload_n (pc := 108) dX8_fromOrder_108 rfl rfl ?_
        refine g_getR (pc := 109) dX8_fromOrder_109 fl_X8_55 sh_221 rfl ?_
        refine g_iload (pc := 112) dX8_fromOrder_112 rfl ?_
        obtain ⟨v4, ev4, hf⟩ := job hf
        refine g_iald (pc := 114) dX8_fromOrder_114 sh_237 ev4 ?_
        refine g_istore (pc := 115) (lv' := [some (.ref 221), some (.int x1), some (.int x2), some (.int x3), some (.int v2), some (.int v4), none, none, none, none, none]) dX8_fromOrder_115 (by decide) rfl ?_
        refine g_aload_n (pc := 117) dX8_fromOrder_117 rfl rfl ?_
        refine g_getR (pc := 118) dX8_fromOrder_118 fl_X8_13 sh_221 rfl ?_
        refine g_iload_n (pc := 121) dX8_fromOrder_121 rfl rfl ?_
        obtain ⟨v5, ev5, hf⟩ := job hf
        refine g_iald (pc := 122) dX8_fromOrder_122 sh_223 ev5 ?_
        refine g_istore (pc := 123) (lv' := [some (.ref 221), some (.int x1), some (.int x2), some (.int x3), some (.int v2), some (.int v4), some (.int v5), none, none, none, none]) dX8_fromOrder_123 (by decide) rfl ?_
        refine g_iload_n (pc := 125) dX8_fromOrder_125 rfl rfl ?_
        refine g_iload (pc := 126) dX8_fromOrder_126 rfl ?_
        refine g_icmp_lt (pc := 128) 261 dX8_fromOrder_128 rfl (fun hc44 => ?_) (fun hc44 => ?_)
        · replace hf := jifp hc44 hf
          refine g_iload (pc := 261) dX8_fromOrder_261 rfl ?_
          obtain ⟨rfl, rfl⟩ := Prod.mk.inj (Option.some.inj hf)
          exact g_iret (pc := 263) dX8_fromOrder_263 rfl ⟨rfl, rfl⟩
        · replace hf := jifn hc44 hf
          refine g_iconst (pc := 131) 0 dX8_fromOrder_131 rfl ?_
          refine g_istore (pc := 132) (lv' := [some (.ref 221), some (.int x1), some (.int x2), some (.int x3), some (.int v2), some (.int v4), some (.int v5), some (.int 0), none, none, none]) dX8_fromOrder_132 (by decide) rfl ?_
          obtain ⟨t14, y7, hy6⟩ := job hf
          have K8 : jGG μ_X8_fromOrder 1 231 [some (.ref 221), none, none, none, none, some (.int v4), some (.int v5), none, none, none, none] [] t14 (fun M' r' => M' = Mz ∧ r' = some (.int r)) := by
            replace hf := hy6
            refine g_aload_n (pc := 231) dX8_fromOrder_231 rfl rfl ?_
            refine g_getR (pc := 232) dX8_fromOrder_232 fl_X8_62 sh_221 rfl ?_
            refine g_iload (pc := 235) dX8_fromOrder_235 rfl ?_
            refine g_iconst (pc := 237) 1 dX8_fromOrder_237 rfl ?_
            refine g_isub (pc := 238) dX8_fromOrder_238 ?_
            obtain ⟨v35, ev35, hf⟩ := job hf
            refine g_iald (pc := 239) dX8_fromOrder_239 sh_239 ev35 ?_
            refine g_iload (pc := 240) dX8_fromOrder_240 rfl ?_
            obtain ⟨u43, hf, hy37⟩ := job hf
            have K39 : jGG μ_X8_fromOrder 1 259 [none, none, none, none, none, none, none, none, none, none, none] [.int u43] t14 (fun M' r' => M' = Mz ∧ r' = some (.int r)) := by
              replace hf := hy37
              refine g_istore (pc := 259) (lv' := [none, none, none, none, none, some (.int u43), none, none, none, none, none]) dX8_fromOrder_259 (by decide) rfl ?_
              refine g_iload (pc := 261) dX8_fromOrder_261 rfl ?_
              obtain ⟨rfl, rfl⟩ := Prod.mk.inj (Option.some.inj hf)
              exact g_iret (pc := 263) dX8_fromOrder_263 rfl ⟨rfl, rfl⟩
            refine g_icmp_le (pc := 242) 257 dX8_fromOrder_242 rfl (fun hc42 => ?_) (fun hc42 => ?_)
            · replace hf := jifp hc42 hf
              refine g_iload (pc := 257) dX8_fromOrder_257 rfl ?_
              obtain rfl := Option.some.inj hf
              exact g_weakK (K39) trivial
            · replace hf := jifn hc42 hf
              refine g_aload_n (pc := 245) dX8_fromOrder_245 rfl rfl ?_
              refine g_getR (pc := 246) dX8_fromOrder_246 fl_X8_62 sh_221 rfl ?_
              refine g_iload (pc := 249) dX8_fromOrder_249 rfl ?_
              refine g_iconst (pc := 251) 1 dX8_fromOrder_251 rfl ?_
              refine g_isub (pc := 252) dX8_fromOrder_252 ?_
              obtain ⟨v41, ev41, hf⟩ := job hf
              refine g_iald (pc := 253) dX8_fromOrder_253 sh_239 ev41 ?_
              refine g_goto (pc := 254) 259 dX8_fromOrder_254 rfl ?_
              obtain rfl := Option.some.inj hf
              exact g_weakK (K39) trivial
          refine g_weak (lv' := [some (.ref 221), some (.int x1), some (.int x2), none, none, some (.int v4), some (.int v5), some (.int 0), none, none, none]) ⟨rfl, ⟨rfl, ⟨rfl, ⟨rfl, ⟨rfl, ⟨rfl, trivial⟩⟩⟩⟩⟩⟩ ?_
          refine jLp_ind (P := fun ((z12, M13) : Int32 × JMem) => jGG μ_X8_fromOrder 1 134 [some (.ref 221), some (.int x1), some (.int x2), none, none, some (.int v4), some (.int v5), some (.int z12), none, none, none] [] M13 (fun M' r' => M' = Mz ∧ r' = some (.int r))) ?_ N _ y7
          rintro ⟨z12, M13⟩ x_11 hf ih10 hx9
          show jGG μ_X8_fromOrder 1 134 [some (.ref 221), some (.int x1), some (.int x2), none, none, some (.int v4), some (.int v5), some (.int z12), none, none, none] [] M13 (fun M' r' => M' = Mz ∧ r' = some (.int r))
          refine g_iload (pc := 134) dX8_fromOrder_134 rfl ?_
          refine g_iload_n (pc := 136) dX8_fromOrder_136 rfl rfl ?_
          refine g_icmp_ge (pc := 137) 231 dX8_fromOrder_137 rfl (fun hc34 => ?_) (fun hc34 => ?_)
          · replace hf := jifp hc34 hf
            have hf := hx9 _ (Option.some.inj hf).symm
            obtain rfl := hf
            exact g_weakK K8 ⟨rfl, ⟨rfl, ⟨rfl, trivial⟩⟩⟩
          · replace hf := jifn hc34 hf
            refine g_aload_n (pc := 140) dX8_fromOrder_140 rfl rfl ?_
            refine g_getR (pc := 141) dX8_fromOrder_141 fl_X8_37 sh_221 rfl ?_
            refine g_bipush (pc := 144) 32 dX8_fromOrder_144 rfl ?_
            refine g_iload_n (pc := 146) dX8_fromOrder_146 rfl rfl ?_
            refine g_imul (pc := 147) dX8_fromOrder_147 ?_
            refine g_iload (pc := 148) dX8_fromOrder_148 rfl ?_
            refine g_iadd (pc := 150) dX8_fromOrder_150 ?_
            obtain ⟨v15, ev15, hf⟩ := job hf
            refine g_iald (pc := 151) dX8_fromOrder_151 sh_231 ev15 ?_
            refine g_istore (pc := 152) (lv' := [some (.ref 221), some (.int x1), some (.int x2), none, none, some (.int v4), some (.int v5), some (.int z12), some (.int v15), none, none]) dX8_fromOrder_152 (by decide) rfl ?_
            refine g_aload_n (pc := 154) dX8_fromOrder_154 rfl rfl ?_
            refine g_getR (pc := 155) dX8_fromOrder_155 fl_X8_55 sh_221 rfl ?_
            refine g_iload (pc := 158) dX8_fromOrder_158 rfl ?_
            obtain ⟨v16, ev16, hf⟩ := job hf
            refine g_iald (pc := 160) dX8_fromOrder_160 sh_237 ev16 ?_
            refine g_aload_n (pc := 161) dX8_fromOrder_161 rfl rfl ?_
            refine g_getR (pc := 162) dX8_fromOrder_162 fl_X8_31 sh_221 rfl ?_
            refine g_iload (pc := 165) dX8_fromOrder_165 rfl ?_
            obtain ⟨v17, ev17, hf⟩ := job hf
            refine g_iald (pc := 167) dX8_fromOrder_167 sh_229 ev17 ?_
            refine g_iadd (pc := 168) dX8_fromOrder_168 ?_
            refine g_istore (pc := 169) (lv' := [some (.ref 221), some (.int x1), some (.int x2), none, none, some (.int v4), some (.int v5), some (.int z12), some (.int v15), some (.int (v16 + v17)), none]) dX8_fromOrder_169 (by decide) rfl ?_
            refine g_iload (pc := 171) dX8_fromOrder_171 rfl ?_
            refine g_istore (pc := 173) (lv' := [some (.ref 221), some (.int x1), some (.int x2), none, none, some (.int v4), some (.int v5), some (.int z12), some (.int v15), some (.int (v16 + v17)), some (.int z12)]) dX8_fromOrder_173 (by decide) rfl ?_
            obtain ⟨⟨t26, t27⟩, y19, hy18⟩ := job hf
            have K20 : jGG μ_X8_fromOrder 1 216 [some (.ref 221), some (.int x1), some (.int x2), none, none, some (.int v4), some (.int v5), some (.int z12), none, some (.int (v16 + v17)), some (.int t26)] [] t27 (fun M' r' => M' = Mz ∧ r' = some (.int r)) := by
              replace hf := hy18
              refine g_aload_n (pc := 216) dX8_fromOrder_216 rfl rfl ?_
              refine g_getR (pc := 217) dX8_fromOrder_217 fl_X8_62 sh_221 rfl ?_
              refine g_iload (pc := 220) dX8_fromOrder_220 rfl ?_
              refine g_iload (pc := 222) dX8_fromOrder_222 rfl ?_
              obtain ⟨M33, eM33, hf⟩ := job hf
              refine g_iast (pc := 224) dX8_fromOrder_224 sh_239 eM33 ?_
              refine g_iinc (pc := 225) (lv' := [some (.ref 221), some (.int x1), some (.int x2), none, none, some (.int v4), some (.int v5), some (.int (z12 + 1)), none, some (.int (v16 + v17)), some (.int t26)]) (z12 + 1) dX8_fromOrder_225 rfl rfl (by decide) rfl ?_
              refine g_goto (pc := 228) 134 dX8_fromOrder_228 rfl ?_
              have hih : jGG μ_X8_fromOrder 1 134 [some (.ref 221), some (.int x1), some (.int x2), none, none, some (.int v4), some (.int v5), some (.int (z12 + 1)), none, none, none] [] M33 (fun M' r' => M' = Mz ∧ r' = some (.int r)) := ih10 (z12 + 1, M33) (Option.some.inj hf).symm
              exact g_weakK hih ⟨rfl, ⟨rfl, ⟨rfl, ⟨rfl, ⟨rfl, ⟨rfl, trivial⟩⟩⟩⟩⟩⟩
            refine g_weak (lv' := [some (.ref 221), some (.int x1), some (.int x2), none, none, some (.int v4), some (.int v5), some (.int z12), none, some (.int (v16 + v17)), some (.int z12)]) ⟨rfl, ⟨rfl, ⟨rfl, ⟨rfl, ⟨rfl, ⟨rfl, ⟨rfl, ⟨rfl, trivial⟩⟩⟩⟩⟩⟩⟩⟩ ?_
            refine jLp_ind (P := fun ((z24, M25) : Int32 × JMem) => jGG μ_X8_fromOrder 1 175 [some (.ref 221), some (.int x1), some (.int x2), none, none, some (.int v4), some (.int v5), some (.int z12), none, some (.int (v16 + v17)), some (.int z24)] [] M25 (fun M' r' => M' = Mz ∧ r' = some (.int r))) ?_ N _ y19
            rintro ⟨z24, M25⟩ x_23 hf ih22 hx21
            show jGG μ_X8_fromOrder 1 175 [some (.ref 221), some (.int x1), some (.int x2), none, none, some (.int v4), some (.int v5), some (.int z12), none, some (.int (v16 + v17)), some (.int z24)] [] M25 (fun M' r' => M' = Mz ∧ r' = some (.int r))
            refine g_iload (pc := 175) dX8_fromOrder_175 rfl ?_
            refine g_if_le (pc := 177) 216 dX8_fromOrder_177 rfl (fun hc32 => ?_) (fun hc32 => ?_)
            · replace hf := jifp hc32 hf
              have hf := hx21 _ (Option.some.inj hf).symm
              obtain ⟨rfl, rfl⟩ := jp2 hf
              exact g_weakK K20 ⟨rfl, ⟨rfl, ⟨rfl, ⟨rfl, ⟨rfl, ⟨rfl, ⟨rfl, ⟨rfl, trivial⟩⟩⟩⟩⟩⟩⟩⟩
            · replace hf := jifn hc32 hf
              refine g_aload_n (pc := 180) dX8_fromOrder_180 rfl rfl ?_
              refine g_getR (pc := 181) dX8_fromOrder_181 fl_X8_62 sh_221 rfl ?_
              refine g_iload (pc := 184) dX8_fromOrder_184 rfl ?_
              refine g_iconst (pc := 186) 1 dX8_fromOrder_186 rfl ?_
              refine g_isub (pc := 187) dX8_fromOrder_187 ?_
              obtain ⟨v28, ev28, hf⟩ := job hf
              refine g_iald (pc := 188) dX8_fromOrder_188 sh_239 ev28 ?_
              refine g_iload (pc := 189) dX8_fromOrder_189 rfl ?_
              refine g_icmp_ge (pc := 191) 216 dX8_fromOrder_191 rfl (fun hc31 => ?_) (fun hc31 => ?_)
              · replace hf := jifp hc31 hf
                have hf := hx21 _ (Option.some.inj hf).symm
                obtain ⟨rfl, rfl⟩ := jp2 hf
                exact g_weakK K20 ⟨rfl, ⟨rfl, ⟨rfl, ⟨rfl, ⟨rfl, ⟨rfl, ⟨rfl, ⟨rfl, trivial⟩⟩⟩⟩⟩⟩⟩⟩
              · replace hf := jifn hc31 hf
                refine g_aload_n (pc := 194) dX8_fromOrder_194 rfl rfl ?_
                refine g_getR (pc := 195) dX8_fromOrder_195 fl_X8_62 sh_221 rfl ?_
                refine g_iload (pc := 198) dX8_fromOrder_198 rfl ?_
                refine g_aload_n (pc := 200) dX8_fromOrder_200 rfl rfl ?_
                refine g_getR (pc := 201) dX8_fromOrder_201 fl_X8_62 sh_221 rfl ?_
                refine g_iload (pc := 204) dX8_fromOrder_204 rfl ?_
                refine g_iconst (pc := 206) 1 dX8_fromOrder_206 rfl ?_
                refine g_isub (pc := 207) dX8_fromOrder_207 ?_
                obtain ⟨v29, ev29, hf⟩ := job hf
                refine g_iald (pc := 208) dX8_fromOrder_208 sh_239 ev29 ?_
                obtain ⟨M30, eM30, hf⟩ := job hf
                refine g_iast (pc := 209) dX8_fromOrder_209 sh_239 eM30 ?_
                refine g_iinc (pc := 210) (lv' := [some (.ref 221), some (.int x1), some (.int x2), none, none, some (.int v4), some (.int v5), some (.int z12), none, some (.int (v16 + v17)), some (.int (z24 + (-1)))]) (z24 + (-1)) dX8_fromOrder_210 rfl rfl (by decide) rfl ?_
                refine g_goto (pc := 213) 175 dX8_fromOrder_213 rfl ?_
                have hih : jGG μ_X8_fromOrder 1 175 [some (.ref 221), some (.int x1), some (.int x2), none, none, some (.int v4), some (.int v5), some (.int z12), none, some (.int (v16 + v17)), some (.int (z24 + (-1)))] [] M30 (fun M' r' => M' = Mz ∧ r' = some (.int r)) := ih22 (z24 + (-1), M30) (Option.some.inj hf).symm
                exact g_weakK hih ⟨rfl, ⟨rfl, ⟨rfl, ⟨rfl, ⟨rfl, ⟨rfl, ⟨rfl, ⟨rfl, trivial⟩⟩⟩⟩⟩⟩⟩⟩
      · replace hf := jifn hc66 hf
        refine g_aload_n (pc := 41) dX8_fromOrder_41 rfl rfl ?_
        refine g_getR (pc := 42) dX8_fromOrder_42 fl_X8_7 sh_221 rfl ?_
        refine g_iload_n (pc := 45) dX8_fromOrder_45 rfl rfl ?_
        obtain ⟨v45, ev45, hf⟩ := job hf
        refine g_iald (pc := 46) dX8_fromOrder_46 sh_222 ev45 ?_
        refine g_iconst (pc := 47) 2 dX8_fromOrder_47 rfl ?_
        obtain ⟨u63, hf, hy47⟩ := job hf
        have K49 : jGG μ_X8_fromOrder 1 87 [some (.ref 221), none, none, none, some (.int v2), none, none, none, none, none, none] [.int u63] M (fun M' r' => M' = Mz ∧ r' = some (.int r)) := by
          replace hf := hy47
          refine g_istore (pc := 87) (lv' := [some (.ref 221), none, none, none, some (.int v2), some (.int u63), none, none, none, none, none]) dX8_fromOrder_87 (by decide) rfl ?_
          refine g_aload_n (pc := 89) dX8_fromOrder_89 rfl rfl ?_
          refine g_getR (pc := 90) dX8_fromOrder_90 fl_X8_55 sh_221 rfl ?_
          refine g_iload (pc := 93) dX8_fromOrder_93 rfl ?_
          obtain ⟨v64, ev64, hf⟩ := job hf
          refine g_iald (pc := 95) dX8_fromOrder_95 sh_237 ev64 ?_
          refine g_aload_n (pc := 96) dX8_fromOrder_96 rfl rfl ?_
          refine g_getR (pc := 97) dX8_fromOrder_97 fl_X8_31 sh_221 rfl ?_
          refine g_iload (pc := 100) dX8_fromOrder_100 rfl ?_
          obtain ⟨v65, ev65, hf⟩ := job hf
          refine g_iald (pc := 102) dX8_fromOrder_102 sh_229 ev65 ?_
          refine g_iadd (pc := 103) dX8_fromOrder_103 ?_
          refine g_iload (pc := 104) dX8_fromOrder_104 rfl ?_
          refine g_iadd (pc := 106) dX8_fromOrder_106 ?_
          obtain ⟨rfl, rfl⟩ := Prod.mk.inj (Option.some.inj hf)
          exact g_iret (pc := 107) dX8_fromOrder_107 rfl ⟨rfl, rfl⟩
        obtain ⟨y53, hf, hy52⟩ := jcb hf
        have K54 : y53 = Sum.inr () → jGG μ_X8_fromOrder 1 86 [some (.ref 221), none, none, none, some (.int v2), none, none, none, none, none, none] [] M (fun M' r' => M' = Mz ∧ r' = some (.int r)) := by
          intro hyy
          subst hyy
          replace hf := hy52
          refine g_iconst (pc := 86) 0 dX8_fromOrder_86 rfl ?_
          obtain rfl := Option.some.inj hf
          exact g_weakK (K49) ⟨rfl, ⟨rfl, trivial⟩⟩
        refine g_icmp_ne (pc := 48) 86 dX8_fromOrder_48 rfl (fun hc62 => ?_) (fun hc62 => ?_)
        · replace hf := jifn hc62 hf
          exact g_weakK (K54 (Option.some.inj hf).symm) ⟨rfl, ⟨rfl, trivial⟩⟩
        · replace hf := jifp hc62 hf
          refine g_aload_n (pc := 51) dX8_fromOrder_51 rfl rfl ?_
          refine g_getR (pc := 52) dX8_fromOrder_52 fl_X8_16 sh_221 rfl ?_
          refine g_aload_n (pc := 55) dX8_fromOrder_55 rfl rfl ?_
          refine g_getR (pc := 56) dX8_fromOrder_56 fl_X8_25 sh_221 rfl ?_
          refine g_iload (pc := 59) dX8_fromOrder_59 rfl ?_
          obtain ⟨v56, ev56, hf⟩ := job hf
          refine g_iald (pc := 61) dX8_fromOrder_61 sh_227 ev56 ?_
          obtain ⟨v57, ev57, hf⟩ := job hf
          refine g_iald (pc := 62) dX8_fromOrder_62 sh_224 ev57 ?_
          refine g_aload_n (pc := 63) dX8_fromOrder_63 rfl rfl ?_
          refine g_getR (pc := 64) dX8_fromOrder_64 fl_X8_16 sh_221 rfl ?_
          refine g_aload_n (pc := 67) dX8_fromOrder_67 rfl rfl ?_
          refine g_getR (pc := 68) dX8_fromOrder_68 fl_X8_25 sh_221 rfl ?_
          refine g_iload_n (pc := 71) dX8_fromOrder_71 rfl rfl ?_
          obtain ⟨v58, ev58, hf⟩ := job hf
          refine g_iald (pc := 72) dX8_fromOrder_72 sh_227 ev58 ?_
          obtain ⟨v59, ev59, hf⟩ := job hf
          refine g_iald (pc := 73) dX8_fromOrder_73 sh_224 ev59 ?_
          refine g_icmp_eq (pc := 74) 86 dX8_fromOrder_74 rfl (fun hc61 => ?_) (fun hc61 => ?_)
          · replace hf := jifp hc61 hf
            exact g_weakK (K54 (Option.some.inj hf).symm) ⟨rfl, ⟨rfl, trivial⟩⟩
          · replace hf := jifn hc61 hf
            refine g_aload_n (pc := 77) dX8_fromOrder_77 rfl rfl ?_
            refine g_getR (pc := 78) dX8_fromOrder_78 fl_X8_13 sh_221 rfl ?_
            refine g_iload_n (pc := 81) dX8_fromOrder_81 rfl rfl ?_
            obtain ⟨v60, ev60, hf⟩ := job hf
            refine g_iald (pc := 82) dX8_fromOrder_82 sh_223 ev60 ?_
            refine g_goto (pc := 83) 87 dX8_fromOrder_83 rfl ?_
            obtain rfl := Option.some.inj hf
            replace hf := hy52
            obtain rfl := Option.some.inj hf
            exact g_weakK (K49) ⟨rfl, ⟨rfl, trivial⟩⟩
    · replace hf := jifp hc67 hf
      refine g_iconst (pc := 14) 0 dX8_fromOrder_14 rfl ?_
      obtain ⟨rfl, rfl⟩ := Prod.mk.inj (Option.some.inj hf)
      exact g_iret (pc := 15) dX8_fromOrder_15 rfl ⟨rfl, rfl⟩
def f_X8_isReady (N : Nat) (M : JMem) (x1 : Int32) : Option (Int32) := (f_X8_ahead M x1).bind fun v1 => (jcase (α := Int32) (β := Unit) (if v1 < 0 then some (Sum.inr ()) else (jrd M 238 32 v1).bind fun v7 => (if v7 = 0 then some (Sum.inl 0) else some (Sum.inr ()))) fun _ => (jrd M 228 32 x1).bind fun v10 => (f_X8_placeOf N M x1).bind fun v11 => ((jLp (σ := Int32 × Int32) (ρ := Int32) N (fun ((z18, z19) : Int32 × Int32) => (if z19 < 0 then some (Sum.inr z18) else (if z18 = 0 then some (Sum.inr z18) else (jrd M 222 8 v10).bind fun v21 => (if v21 = 1 then some (Sum.inr z18) else (jrd M 231 256 ((32 * v10) + z19)).bind fun v22 => (jrd M 238 32 v22).bind fun v23 => some (Sum.inl (v23, z19 + (-1))))))) (1, v11 - 1)).bind fun t20 => (if jb01 t20 = true then some () else none).bind fun _ => some t20))
set_option maxHeartbeats 4000000 in
theorem c_X8_isReady {N : Nat} {M : JMem} {x1 : Int32} {r : Int32} (hf : f_X8_isReady N M x1 = some r) : jCo yX8_isReady μ_X8_isReady 2 M [.ref 221, .int x1] M (some (.int r)) := by
  refine jCt_of (by decide +kernel) rfl (by simp [Value.category]) (Nat.le_of_ble_eq_true rfl) ?_
  unfold f_X8_isReady at hf
  show jGG μ_X8_isReady 2 0 [some (.ref 221), some (.int x1), none, none, none, none] [] M (fun M' r' => M' = M ∧ r' = some (.int r))
  refine g_aload_n (pc := 0) dX8_isReady_0 rfl rfl ?_
  refine g_iload_n (pc := 1) dX8_isReady_1 rfl rfl ?_
  obtain ⟨v1, ev1, hf⟩ := job hf
  refine g_callV (pc := 2) [.int x1] [] dX8_isReady_2 ml_X8_180 ck_X8_ahead cv_X8_ahead sh_221 rfl (by decide) (Nat.le_of_ble_eq_true rfl) (c_X8_ahead ev1) ?_
  show jGG μ_X8_isReady 2 5 [some (.ref 221), some (.int x1), none, none, none, none] [.int v1] M (fun M' r' => M' = M ∧ r' = some (.int r))
  refine g_istore_n (pc := 5) (lv' := [some (.ref 221), some (.int x1), some (.int v1), none, none, none]) dX8_isReady_5 rfl (by decide) rfl ?_
  refine g_iload_n (pc := 6) dX8_isReady_6 rfl rfl ?_
  obtain ⟨y4, hf, hy3⟩ := jcb hf
  have K5 : y4 = Sum.inr () → jGG μ_X8_isReady 2 21 [some (.ref 221), some (.int x1), none, none, none, none] [] M (fun M' r' => M' = M ∧ r' = some (.int r)) := by
    intro hyy
    subst hyy
    replace hf := hy3
    refine g_aload_n (pc := 21) dX8_isReady_21 rfl rfl ?_
    refine g_getR (pc := 22) dX8_isReady_22 fl_X8_28 sh_221 rfl ?_
    refine g_iload_n (pc := 25) dX8_isReady_25 rfl rfl ?_
    obtain ⟨v10, ev10, hf⟩ := job hf
    refine g_iald (pc := 26) dX8_isReady_26 sh_228 ev10 ?_
    refine g_istore_n (pc := 27) (lv' := [some (.ref 221), some (.int x1), none, some (.int v10), none, none]) dX8_isReady_27 rfl (by decide) rfl ?_
    refine g_iconst (pc := 28) 1 dX8_isReady_28 rfl ?_
    refine g_istore (pc := 29) (lv' := [some (.ref 221), some (.int x1), none, some (.int v10), some (.int 1), none]) dX8_isReady_29 (by decide) rfl ?_
    refine g_aload_n (pc := 31) dX8_isReady_31 rfl rfl ?_
    refine g_iload_n (pc := 32) dX8_isReady_32 rfl rfl ?_
    obtain ⟨v11, ev11, hf⟩ := job hf
    refine g_callV (pc := 33) [.int x1] [] dX8_isReady_33 ml_X8_157 ck_X8_placeOf cv_X8_placeOf sh_221 rfl (by decide) (Nat.le_of_ble_eq_true rfl) (c_X8_placeOf ev11) ?_
    show jGG μ_X8_isReady 2 36 [some (.ref 221), some (.int x1), none, some (.int v10), some (.int 1), none] [.int v11] M (fun M' r' => M' = M ∧ r' = some (.int r))
    refine g_iconst (pc := 36) 1 dX8_isReady_36 rfl ?_
    refine g_isub (pc := 37) dX8_isReady_37 ?_
    refine g_istore (pc := 38) (lv' := [some (.ref 221), some (.int x1), none, some (.int v10), some (.int 1), some (.int (v11 - 1))]) dX8_isReady_38 (by decide) rfl ?_
    obtain ⟨t20, y13, hy12⟩ := job hf
    have K14 : jGG μ_X8_isReady 2 85 [none, none, none, none, some (.int t20), none] [] M (fun M' r' => M' = M ∧ r' = some (.int r)) := by
      replace hf := hy12
      refine g_iload (pc := 85) dX8_isReady_85 rfl ?_
      obtain ⟨_, ehb27, hf⟩ := job hf
      have hb27 := jb01_of (jgd ehb27)
      obtain rfl := Option.some.inj hf
      exact g_zret (pc := 87) dX8_isReady_87 rfl hb27 ⟨rfl, rfl⟩
    refine g_weak (lv' := [some (.ref 221), none, none, some (.int v10), some (.int 1), some (.int (v11 - 1))]) ⟨rfl, ⟨rfl, ⟨rfl, ⟨rfl, trivial⟩⟩⟩⟩ ?_
    refine jLp_ind (P := fun ((z18, z19) : Int32 × Int32) => jGG μ_X8_isReady 2 40 [some (.ref 221), none, none, some (.int v10), some (.int z18), some (.int z19)] [] M (fun M' r' => M' = M ∧ r' = some (.int r))) ?_ N _ y13
    rintro ⟨z18, z19⟩ x_17 hf ih16 hx15
    show jGG μ_X8_isReady 2 40 [some (.ref 221), none, none, some (.int v10), some (.int z18), some (.int z19)] [] M (fun M' r' => M' = M ∧ r' = some (.int r))
    refine g_iload (pc := 40) dX8_isReady_40 rfl ?_
    refine g_if_lt (pc := 42) 85 dX8_isReady_42 rfl (fun hc26 => ?_) (fun hc26 => ?_)
    · replace hf := jifp hc26 hf
      have hf := hx15 _ (Option.some.inj hf).symm
      obtain rfl := hf
      exact g_weakK K14 ⟨rfl, trivial⟩
    · replace hf := jifn hc26 hf
      refine g_iload (pc := 45) dX8_isReady_45 rfl ?_
      refine g_if_eq (pc := 47) 85 dX8_isReady_47 rfl (fun hc25 => ?_) (fun hc25 => ?_)
      · replace hf := jifp hc25 hf
        have hf := hx15 _ (Option.some.inj hf).symm
        obtain rfl := hf
        exact g_weakK K14 ⟨rfl, trivial⟩
      · replace hf := jifn hc25 hf
        refine g_aload_n (pc := 50) dX8_isReady_50 rfl rfl ?_
        refine g_getR (pc := 51) dX8_isReady_51 fl_X8_7 sh_221 rfl ?_
        refine g_iload_n (pc := 54) dX8_isReady_54 rfl rfl ?_
        obtain ⟨v21, ev21, hf⟩ := job hf
        refine g_iald (pc := 55) dX8_isReady_55 sh_222 ev21 ?_
        refine g_iconst (pc := 56) 1 dX8_isReady_56 rfl ?_
        refine g_icmp_eq (pc := 57) 85 dX8_isReady_57 rfl (fun hc24 => ?_) (fun hc24 => ?_)
        · replace hf := jifp hc24 hf
          have hf := hx15 _ (Option.some.inj hf).symm
          obtain rfl := hf
          exact g_weakK K14 ⟨rfl, trivial⟩
        · replace hf := jifn hc24 hf
          refine g_aload_n (pc := 60) dX8_isReady_60 rfl rfl ?_
          refine g_getR (pc := 61) dX8_isReady_61 fl_X8_58 sh_221 rfl ?_
          refine g_aload_n (pc := 64) dX8_isReady_64 rfl rfl ?_
          refine g_getR (pc := 65) dX8_isReady_65 fl_X8_37 sh_221 rfl ?_
          refine g_bipush (pc := 68) 32 dX8_isReady_68 rfl ?_
          refine g_iload_n (pc := 70) dX8_isReady_70 rfl rfl ?_
          refine g_imul (pc := 71) dX8_isReady_71 ?_
          refine g_iload (pc := 72) dX8_isReady_72 rfl ?_
          refine g_iadd (pc := 74) dX8_isReady_74 ?_
          obtain ⟨v22, ev22, hf⟩ := job hf
          refine g_iald (pc := 75) dX8_isReady_75 sh_231 ev22 ?_
          obtain ⟨v23, ev23, hf⟩ := job hf
          refine g_bald (pc := 76) dX8_isReady_76 sh_238 ev23 ?_
          refine g_istore (pc := 77) (lv' := [some (.ref 221), none, none, some (.int v10), some (.int v23), some (.int z19)]) dX8_isReady_77 (by decide) rfl ?_
          refine g_iinc (pc := 79) (lv' := [some (.ref 221), none, none, some (.int v10), some (.int v23), some (.int (z19 + (-1)))]) (z19 + (-1)) dX8_isReady_79 rfl rfl (by decide) rfl ?_
          refine g_goto (pc := 82) 40 dX8_isReady_82 rfl ?_
          have hih : jGG μ_X8_isReady 2 40 [some (.ref 221), none, none, some (.int v10), some (.int v23), some (.int (z19 + (-1)))] [] M (fun M' r' => M' = M ∧ r' = some (.int r)) := ih16 (v23, z19 + (-1)) (Option.some.inj hf).symm
          exact g_weakK hih ⟨rfl, ⟨rfl, ⟨rfl, ⟨rfl, trivial⟩⟩⟩⟩
  refine g_if_lt (pc := 7) 21 dX8_isReady_7 rfl (fun hc9 => ?_) (fun hc9 => ?_)
  · replace hf := jifp hc9 hf
    exact g_weakK (K5 (Option.some.inj hf).symm) ⟨rfl, ⟨rfl, trivial⟩⟩
  · replace hf := jifn hc9 hf
    refine g_aload_n (pc := 10) dX8_isReady_10 rfl rfl ?_
    refine g_getR (pc := 11) dX8_isReady_11 fl_X8_58 sh_221 rfl ?_
    refine g_iload_n (pc := 14) dX8_isReady_14 rfl rfl ?_
    obtain ⟨v7, ev7, hf⟩ := job hf
    refine g_bald (pc := 15) dX8_isReady_15 sh_238 ev7 ?_
    refine g_if_ne (pc := 16) 21 dX8_isReady_16 rfl (fun hc8 => ?_) (fun hc8 => ?_)
    · replace hf := jifn hc8 hf
      exact g_weakK (K5 (Option.some.inj hf).symm) ⟨rfl, ⟨rfl, trivial⟩⟩
    · replace hf := jifp hc8 hf
      refine g_iconst (pc := 19) 0 dX8_isReady_19 rfl ?_
      obtain rfl := Option.some.inj hf
      replace hf := hy3
      obtain rfl := Option.some.inj hf
      exact g_zret (pc := 20) dX8_isReady_20 rfl (Or.inl rfl) ⟨rfl, rfl⟩
def f_X8_work (N : Nat) (M : JMem) : Option (JMem × Int32) := ((jLp (σ := Int32 × JMem) (ρ := JMem) N (fun ((z7, M8) : Int32 × JMem) => (if (M8 221 11) ≤ z7 then some (Sum.inr M8) else (jwr M8 238 32 z7 0).bind fun M10 => some (Sum.inl (z7 + 1, M10)))) (0, M)).bind fun t9 => (some (jup t9 221 21 0)).bind fun M12 => ((jLp (σ := Int32 × Int32 × JMem) (ρ := Int32 × JMem) N (fun ((z19, z20, M21) : Int32 × Int32 × JMem) => (if z20 = 0 then some (Sum.inr (z19, M21)) else ((jLp (σ := Int32 × Int32 × Int32 × JMem) (ρ := Int32 × Int32 × JMem) N (fun ((z30, z31, z32, M33) : Int32 × Int32 × Int32 × JMem) => (if (M33 221 11) ≤ z32 then some (Sum.inr (z30, z31, M33)) else (jrd M33 238 32 z32).bind fun v37 => (((if v37 = 0 then (f_X8_isReady N M33 z32).bind fun v43 => (if v43 = 0 then some ((z30, z31, M33)) else (f_X8_ahead M33 z32).bind fun v44 => (((if 0 ≤ v44 then (jrd M33 237 32 v44).bind fun v50 => (jrd M33 229 32 v44).bind fun v51 => some ((v50 + v51)) else some (0)) : Option (Int32)).bind fun u53 => (jrd M33 228 32 z32).bind fun v54 => (f_X8_placeOf N M33 z32).bind fun v55 => (f_X8_fromOrder N M33 v54 v55 z32).bind fun (M56, v57) => (((if u53 ≤ v57 then some (v57) else some (u53)) : Option (Int32)).bind fun u64 => (jwr M56 237 32 z32 u64).bind fun M65 => (jwr M65 238 32 z32 1).bind fun M66 => (jrd M66 237 32 z32).bind fun v67 => (jrd M66 229 32 z32).bind fun v68 => (((if (v67 + v68) ≤ (M66 221 21) then some ((M66 221 21)) else (jrd M66 237 32 z32).bind fun v74 => (jrd M66 229 32 z32).bind fun v75 => some ((v74 + v75))) : Option (Int32)).bind fun u77 => (some (jup M66 221 21 u77)).bind fun M78 => some ((z30 + 1, 1, M78)))))) else some ((z30, z31, M33))) : Option (Int32 × Int32 × JMem)).bind fun (u81, u82, M83) => some (Sum.inl (u81, u82, z32 + 1, M83))))) (z19, 0, 0, M21)).bind fun (t34, t35, t36) => some (Sum.inl (t34, t35, t36))))) (0, 1, M12)).bind fun (t22, t23) => (if t22 = (t23 221 11) then some (t23, 1) else some (t23, 0))))
set_option maxHeartbeats 4000000 in
theorem c_X8_work {N : Nat} {M : JMem} {Mz : JMem} {r : Int32} (hf : f_X8_work N M = some (Mz, r)) : jCo yX8_work μ_X8_work 3 M [.ref 221] Mz (some (.int r)) := by
  refine jCt_of (by decide +kernel) rfl (by simp [Value.category]) (Nat.le_of_ble_eq_true rfl) ?_
  unfold f_X8_work at hf
  show jGG μ_X8_work 3 0 [some (.ref 221), none, none, none, none, none, none] [] M (fun M' r' => M' = Mz ∧ r' = some (.int r))
  refine g_iconst (pc := 0) 0 dX8_work_0 rfl ?_
  refine g_istore_n (pc := 1) (lv' := [some (.ref 221), some (.int 0), none, none, none, none, none]) dX8_work_1 rfl (by decide) rfl ?_
  obtain ⟨t9, y2, hy1⟩ := job hf
  have K3 : jGG μ_X8_work 3 23 [some (.ref 221), none, none, none, none, none, none] [] t9 (fun M' r' => M' = Mz ∧ r' = some (.int r)) := by
    replace hf := hy1
    refine g_aload_n (pc := 23) dX8_work_23 rfl rfl ?_
    refine g_iconst (pc := 24) 0 dX8_work_24 rfl ?_
    refine g_putI (pc := 25) dX8_work_25 fp_X8_183 sh_221 rfl ?_
    obtain ⟨M12, eM12, hf⟩ := job hf
    rw [Option.some.inj eM12]
    refine g_iconst (pc := 28) 0 dX8_work_28 rfl ?_
    refine g_istore_n (pc := 29) (lv' := [some (.ref 221), some (.int 0), none, none, none, none, none]) dX8_work_29 rfl (by decide) rfl ?_
    refine g_iconst (pc := 30) 1 dX8_work_30 rfl ?_
    refine g_istore_n (pc := 31) (lv' := [some (.ref 221), some (.int 0), some (.int 1), none, none, none, none]) dX8_work_31 rfl (by decide) rfl ?_
    obtain ⟨⟨t22, t23⟩, y14, hy13⟩ := job hf
    have K15 : jGG μ_X8_work 3 201 [some (.ref 221), some (.int t22), none, none, none, none, none] [] t23 (fun M' r' => M' = Mz ∧ r' = some (.int r)) := by
      replace hf := hy13
      refine g_iload_n (pc := 201) dX8_work_201 rfl rfl ?_
      refine g_aload_n (pc := 202) dX8_work_202 rfl rfl ?_
      refine g_getI (pc := 203) dX8_work_203 fl_X8_143 sh_221 rfl ?_
      refine g_icmp_ne (pc := 206) 213 dX8_work_206 rfl (fun hc86 => ?_) (fun hc86 => ?_)
      · replace hf := jifn hc86 hf
        refine g_iconst (pc := 213) 0 dX8_work_213 rfl ?_
        obtain ⟨rfl, rfl⟩ := Prod.mk.inj (Option.some.inj hf)
        exact g_zret (pc := 214) dX8_work_214 rfl (Or.inl rfl) ⟨rfl, rfl⟩
      · replace hf := jifp hc86 hf
        refine g_iconst (pc := 209) 1 dX8_work_209 rfl ?_
        refine g_goto (pc := 210) 214 dX8_work_210 rfl ?_
        obtain ⟨rfl, rfl⟩ := Prod.mk.inj (Option.some.inj hf)
        exact g_zret (pc := 214) dX8_work_214 rfl (Or.inr rfl) ⟨rfl, rfl⟩
    refine g_weak (lv' := [some (.ref 221), some (.int 0), some (.int 1), none, none, none, none]) ⟨rfl, ⟨rfl, ⟨rfl, trivial⟩⟩⟩ ?_
    refine jLp_ind (P := fun ((z19, z20, M21) : Int32 × Int32 × JMem) => jGG μ_X8_work 3 32 [some (.ref 221), some (.int z19), some (.int z20), none, none, none, none] [] M21 (fun M' r' => M' = Mz ∧ r' = some (.int r))) ?_ N _ y14
    rintro ⟨z19, z20, M21⟩ x_18 hf ih17 hx16
    show jGG μ_X8_work 3 32 [some (.ref 221), some (.int z19), some (.int z20), none, none, none, none] [] M21 (fun M' r' => M' = Mz ∧ r' = some (.int r))
    refine g_iload_n (pc := 32) dX8_work_32 rfl rfl ?_
    refine g_if_eq (pc := 33) 201 dX8_work_33 rfl (fun hc85 => ?_) (fun hc85 => ?_)
    · replace hf := jifp hc85 hf
      have hf := hx16 _ (Option.some.inj hf).symm
      obtain ⟨rfl, rfl⟩ := jp2 hf
      exact g_weakK K15 ⟨rfl, ⟨rfl, trivial⟩⟩
    · replace hf := jifn hc85 hf
      refine g_iconst (pc := 36) 0 dX8_work_36 rfl ?_
      refine g_istore_n (pc := 37) (lv' := [some (.ref 221), some (.int z19), some (.int 0), none, none, none, none]) dX8_work_37 rfl (by decide) rfl ?_
      refine g_iconst (pc := 38) 0 dX8_work_38 rfl ?_
      refine g_istore_n (pc := 39) (lv' := [some (.ref 221), some (.int z19), some (.int 0), some (.int 0), none, none, none]) dX8_work_39 rfl (by decide) rfl ?_
      obtain ⟨⟨t34, t35, t36⟩, y25, hy24⟩ := job hf
      have K26 : jGG μ_X8_work 3 198 [some (.ref 221), some (.int t34), some (.int t35), none, none, none, none] [] t36 (fun M' r' => M' = Mz ∧ r' = some (.int r)) := by
        replace hf := hy24
        refine g_goto (pc := 198) 32 dX8_work_198 rfl ?_
        have hih : jGG μ_X8_work 3 32 [some (.ref 221), some (.int t34), some (.int t35), none, none, none, none] [] t36 (fun M' r' => M' = Mz ∧ r' = some (.int r)) := ih17 (t34, t35, t36) (Option.some.inj hf).symm
        exact g_weakK hih ⟨rfl, ⟨rfl, ⟨rfl, trivial⟩⟩⟩
      refine g_weak (lv' := [some (.ref 221), some (.int z19), some (.int 0), some (.int 0), none, none, none]) ⟨rfl, ⟨rfl, ⟨rfl, ⟨rfl, trivial⟩⟩⟩⟩ ?_
      refine jLp_ind (P := fun ((z30, z31, z32, M33) : Int32 × Int32 × Int32 × JMem) => jGG μ_X8_work 3 40 [some (.ref 221), some (.int z30), some (.int z31), some (.int z32), none, none, none] [] M33 (fun M' r' => M' = Mz ∧ r' = some (.int r))) ?_ N _ y25
      rintro ⟨z30, z31, z32, M33⟩ x_29 hf ih28 hx27
      show jGG μ_X8_work 3 40 [some (.ref 221), some (.int z30), some (.int z31), some (.int z32), none, none, none] [] M33 (fun M' r' => M' = Mz ∧ r' = some (.int r))
      refine g_iload_n (pc := 40) dX8_work_40 rfl rfl ?_
      refine g_aload_n (pc := 41) dX8_work_41 rfl rfl ?_
      refine g_getI (pc := 42) dX8_work_42 fl_X8_143 sh_221 rfl ?_
      refine g_icmp_ge (pc := 45) 198 dX8_work_45 rfl (fun hc84 => ?_) (fun hc84 => ?_)
      · replace hf := jifp hc84 hf
        have hf := hx27 _ (Option.some.inj hf).symm
        obtain ⟨rfl, rfl, rfl⟩ := jp3 hf
        exact g_weakK K26 ⟨rfl, ⟨rfl, ⟨rfl, trivial⟩⟩⟩
      · replace hf := jifn hc84 hf
        refine g_aload_n (pc := 48) dX8_work_48 rfl rfl ?_
        refine g_getR (pc := 49) dX8_work_49 fl_X8_58 sh_221 rfl ?_
        refine g_iload_n (pc := 52) dX8_work_52 rfl rfl ?_
        obtain ⟨v37, ev37, hf⟩ := job hf
        refine g_bald (pc := 53) dX8_work_53 sh_238 ev37 ?_
        obtain ⟨⟨u81, u82, M83⟩, hf, hy39⟩ := job hf
        have K41 : jGG μ_X8_work 3 192 [some (.ref 221), some (.int u81), some (.int u82), some (.int z32), none, none, none] [] M83 (fun M' r' => M' = Mz ∧ r' = some (.int r)) := by
          replace hf := hy39
          refine g_iinc (pc := 192) (lv' := [some (.ref 221), some (.int u81), some (.int u82), some (.int (z32 + 1)), none, none, none]) (z32 + 1) dX8_work_192 rfl rfl (by decide) rfl ?_
          refine g_goto (pc := 195) 40 dX8_work_195 rfl ?_
          have hih : jGG μ_X8_work 3 40 [some (.ref 221), some (.int u81), some (.int u82), some (.int (z32 + 1)), none, none, none] [] M83 (fun M' r' => M' = Mz ∧ r' = some (.int r)) := ih28 (u81, u82, z32 + 1, M83) (Option.some.inj hf).symm
          exact g_weakK hih ⟨rfl, ⟨rfl, ⟨rfl, ⟨rfl, trivial⟩⟩⟩⟩
        refine g_if_ne (pc := 54) 192 dX8_work_54 rfl (fun hc80 => ?_) (fun hc80 => ?_)
        · replace hf := jifn hc80 hf
          obtain ⟨rfl, rfl, rfl⟩ := jp3 (Option.some.inj hf)
          exact g_weakK (K41) ⟨rfl, ⟨rfl, ⟨rfl, ⟨rfl, trivial⟩⟩⟩⟩
        · replace hf := jifp hc80 hf
          refine g_aload_n (pc := 57) dX8_work_57 rfl rfl ?_
          refine g_iload_n (pc := 58) dX8_work_58 rfl rfl ?_
          obtain ⟨v43, ev43, hf⟩ := job hf
          refine g_callV (pc := 59) [.int z32] [] dX8_work_59 ml_X8_186 ck_X8_isReady cv_X8_isReady sh_221 rfl (by decide) (Nat.le_of_ble_eq_true rfl) (c_X8_isReady ev43) ?_
          show jGG μ_X8_work 3 62 [some (.ref 221), some (.int z30), some (.int z31), some (.int z32), none, none, none] [.int v43] M33 (fun M' r' => M' = Mz ∧ r' = some (.int r))
          refine g_if_eq (pc := 62) 192 dX8_work_62 rfl (fun hc79 => ?_) (fun hc79 => ?_)
          · replace hf := jifp hc79 hf
            obtain ⟨rfl, rfl, rfl⟩ := jp3 (Option.some.inj hf)
            exact g_weakK (K41) ⟨rfl, ⟨rfl, ⟨rfl, ⟨rfl, trivial⟩⟩⟩⟩
          · replace hf := jifn hc79 hf
            refine g_aload_n (pc := 65) dX8_work_65 rfl rfl ?_
            refine g_iload_n (pc := 66) dX8_work_66 rfl rfl ?_
            obtain ⟨v44, ev44, hf⟩ := job hf
            refine g_callV (pc := 67) [.int z32] [] dX8_work_67 ml_X8_180 ck_X8_ahead cv_X8_ahead sh_221 rfl (by decide) (Nat.le_of_ble_eq_true rfl) (c_X8_ahead ev44) ?_
            show jGG μ_X8_work 3 70 [some (.ref 221), some (.int z30), some (.int z31), some (.int z32), none, none, none] [.int v44] M33 (fun M' r' => M' = Mz ∧ r' = some (.int r))
            refine g_istore (pc := 70) (lv' := [some (.ref 221), some (.int z30), some (.int z31), some (.int z32), some (.int v44), none, none]) dX8_work_70 (by decide) rfl ?_
            refine g_iload (pc := 72) dX8_work_72 rfl ?_
            obtain ⟨u53, hf, hy46⟩ := job hf
            have K48 : jGG μ_X8_work 3 96 [some (.ref 221), some (.int z30), none, some (.int z32), none, none, none] [.int u53] M33 (fun M' r' => M' = Mz ∧ r' = some (.int r)) := by
              replace hf := hy46
              refine g_istore (pc := 96) (lv' := [some (.ref 221), some (.int z30), none, some (.int z32), none, some (.int u53), none]) dX8_work_96 (by decide) rfl ?_
              refine g_aload_n (pc := 98) dX8_work_98 rfl rfl ?_
              refine g_aload_n (pc := 99) dX8_work_99 rfl rfl ?_
              refine g_getR (pc := 100) dX8_work_100 fl_X8_28 sh_221 rfl ?_
              refine g_iload_n (pc := 103) dX8_work_103 rfl rfl ?_
              obtain ⟨v54, ev54, hf⟩ := job hf
              refine g_iald (pc := 104) dX8_work_104 sh_228 ev54 ?_
              refine g_aload_n (pc := 105) dX8_work_105 rfl rfl ?_
              refine g_iload_n (pc := 106) dX8_work_106 rfl rfl ?_
              obtain ⟨v55, ev55, hf⟩ := job hf
              refine g_callV (pc := 107) [.int z32] [.int v54, .ref 221] dX8_work_107 ml_X8_157 ck_X8_placeOf cv_X8_placeOf sh_221 rfl (by decide) (Nat.le_of_ble_eq_true rfl) (c_X8_placeOf ev55) ?_
              show jGG μ_X8_work 3 110 [some (.ref 221), some (.int z30), none, some (.int z32), none, some (.int u53), none] [.int v55, .int v54, .ref 221] M33 (fun M' r' => M' = Mz ∧ r' = some (.int r))
              refine g_iload_n (pc := 110) dX8_work_110 rfl rfl ?_
              obtain ⟨⟨M56, v57⟩, ev57, hf⟩ := job hf
              refine g_callV (pc := 111) [.int v54, .int v55, .int z32] [] dX8_work_111 ml_X8_189 ck_X8_fromOrder cv_X8_fromOrder sh_221 rfl (by decide) (Nat.le_of_ble_eq_true rfl) (c_X8_fromOrder ev57) ?_
              show jGG μ_X8_work 3 114 [some (.ref 221), some (.int z30), none, some (.int z32), none, some (.int u53), none] [.int v57] M56 (fun M' r' => M' = Mz ∧ r' = some (.int r))
              refine g_istore (pc := 114) (lv' := [some (.ref 221), some (.int z30), none, some (.int z32), none, some (.int u53), some (.int v57)]) dX8_work_114 (by decide) rfl ?_
              refine g_aload_n (pc := 116) dX8_work_116 rfl rfl ?_
              refine g_getR (pc := 117) dX8_work_117 fl_X8_55 sh_221 rfl ?_
              refine g_iload_n (pc := 120) dX8_work_120 rfl rfl ?_
              refine g_iload (pc := 121) dX8_work_121 rfl ?_
              refine g_iload (pc := 123) dX8_work_123 rfl ?_
              obtain ⟨u64, hf, hy59⟩ := job hf
              have K61 : jGG μ_X8_work 3 135 [some (.ref 221), some (.int z30), none, some (.int z32), none, none, none] [.int u64, .int z32, .ref 237] M56 (fun M' r' => M' = Mz ∧ r' = some (.int r)) := by
                replace hf := hy59
                obtain ⟨M65, eM65, hf⟩ := job hf
                refine g_iast (pc := 135) dX8_work_135 sh_237 eM65 ?_
                refine g_aload_n (pc := 136) dX8_work_136 rfl rfl ?_
                refine g_getR (pc := 137) dX8_work_137 fl_X8_58 sh_221 rfl ?_
                refine g_iload_n (pc := 140) dX8_work_140 rfl rfl ?_
                refine g_iconst (pc := 141) 1 dX8_work_141 rfl ?_
                obtain ⟨M66, eM66, hf⟩ := job hf
                refine g_bast (pc := 142) dX8_work_142 sh_238 (Or.inr rfl) eM66 ?_
                refine g_iinc (pc := 143) (lv' := [some (.ref 221), some (.int (z30 + 1)), none, some (.int z32), none, none, none]) (z30 + 1) dX8_work_143 rfl rfl (by decide) rfl ?_
                refine g_iconst (pc := 146) 1 dX8_work_146 rfl ?_
                refine g_istore_n (pc := 147) (lv' := [some (.ref 221), some (.int (z30 + 1)), some (.int 1), some (.int z32), none, none, none]) dX8_work_147 rfl (by decide) rfl ?_
                refine g_aload_n (pc := 148) dX8_work_148 rfl rfl ?_
                refine g_aload_n (pc := 149) dX8_work_149 rfl rfl ?_
                refine g_getR (pc := 150) dX8_work_150 fl_X8_55 sh_221 rfl ?_
                refine g_iload_n (pc := 153) dX8_work_153 rfl rfl ?_
                obtain ⟨v67, ev67, hf⟩ := job hf
                refine g_iald (pc := 154) dX8_work_154 sh_237 ev67 ?_
                refine g_aload_n (pc := 155) dX8_work_155 rfl rfl ?_
                refine g_getR (pc := 156) dX8_work_156 fl_X8_31 sh_221 rfl ?_
                refine g_iload_n (pc := 159) dX8_work_159 rfl rfl ?_
                obtain ⟨v68, ev68, hf⟩ := job hf
                refine g_iald (pc := 160) dX8_work_160 sh_229 ev68 ?_
                refine g_iadd (pc := 161) dX8_work_161 ?_
                refine g_aload_n (pc := 162) dX8_work_162 rfl rfl ?_
                refine g_getI (pc := 163) dX8_work_163 fl_X8_183 sh_221 rfl ?_
                obtain ⟨u77, hf, hy70⟩ := job hf
                have K72 : jGG μ_X8_work 3 189 [some (.ref 221), some (.int (z30 + 1)), some (.int 1), some (.int z32), none, none, none] [.int u77, .ref 221] M66 (fun M' r' => M' = Mz ∧ r' = some (.int r)) := by
                  replace hf := hy70
                  refine g_putI (pc := 189) dX8_work_189 fp_X8_183 sh_221 rfl ?_
                  obtain ⟨M78, eM78, hf⟩ := job hf
                  rw [Option.some.inj eM78]
                  obtain ⟨rfl, rfl, rfl⟩ := jp3 (Option.some.inj hf)
                  exact g_weakK (K41) ⟨rfl, ⟨rfl, ⟨rfl, ⟨rfl, trivial⟩⟩⟩⟩
                refine g_icmp_le (pc := 166) 185 dX8_work_166 rfl (fun hc76 => ?_) (fun hc76 => ?_)
                · replace hf := jifp hc76 hf
                  refine g_aload_n (pc := 185) dX8_work_185 rfl rfl ?_
                  refine g_getI (pc := 186) dX8_work_186 fl_X8_183 sh_221 rfl ?_
                  obtain rfl := Option.some.inj hf
                  exact g_weakK (K72) ⟨rfl, ⟨rfl, ⟨rfl, ⟨rfl, trivial⟩⟩⟩⟩
                · replace hf := jifn hc76 hf
                  refine g_aload_n (pc := 169) dX8_work_169 rfl rfl ?_
                  refine g_getR (pc := 170) dX8_work_170 fl_X8_55 sh_221 rfl ?_
                  refine g_iload_n (pc := 173) dX8_work_173 rfl rfl ?_
                  obtain ⟨v74, ev74, hf⟩ := job hf
                  refine g_iald (pc := 174) dX8_work_174 sh_237 ev74 ?_
                  refine g_aload_n (pc := 175) dX8_work_175 rfl rfl ?_
                  refine g_getR (pc := 176) dX8_work_176 fl_X8_31 sh_221 rfl ?_
                  refine g_iload_n (pc := 179) dX8_work_179 rfl rfl ?_
                  obtain ⟨v75, ev75, hf⟩ := job hf
                  refine g_iald (pc := 180) dX8_work_180 sh_229 ev75 ?_
                  refine g_iadd (pc := 181) dX8_work_181 ?_
                  refine g_goto (pc := 182) 189 dX8_work_182 rfl ?_
                  obtain rfl := Option.some.inj hf
                  exact g_weakK (K72) ⟨rfl, ⟨rfl, ⟨rfl, ⟨rfl, trivial⟩⟩⟩⟩
              refine g_icmp_le (pc := 125) 133 dX8_work_125 rfl (fun hc63 => ?_) (fun hc63 => ?_)
              · replace hf := jifp hc63 hf
                refine g_iload (pc := 133) dX8_work_133 rfl ?_
                obtain rfl := Option.some.inj hf
                exact g_weakK (K61) ⟨rfl, ⟨rfl, ⟨rfl, trivial⟩⟩⟩
              · replace hf := jifn hc63 hf
                refine g_iload (pc := 128) dX8_work_128 rfl ?_
                refine g_goto (pc := 130) 135 dX8_work_130 rfl ?_
                obtain rfl := Option.some.inj hf
                exact g_weakK (K61) ⟨rfl, ⟨rfl, ⟨rfl, trivial⟩⟩⟩
            refine g_if_ge (pc := 74) 81 dX8_work_74 rfl (fun hc52 => ?_) (fun hc52 => ?_)
            · replace hf := jifp hc52 hf
              refine g_aload_n (pc := 81) dX8_work_81 rfl rfl ?_
              refine g_getR (pc := 82) dX8_work_82 fl_X8_55 sh_221 rfl ?_
              refine g_iload (pc := 85) dX8_work_85 rfl ?_
              obtain ⟨v50, ev50, hf⟩ := job hf
              refine g_iald (pc := 87) dX8_work_87 sh_237 ev50 ?_
              refine g_aload_n (pc := 88) dX8_work_88 rfl rfl ?_
              refine g_getR (pc := 89) dX8_work_89 fl_X8_31 sh_221 rfl ?_
              refine g_iload (pc := 92) dX8_work_92 rfl ?_
              obtain ⟨v51, ev51, hf⟩ := job hf
              refine g_iald (pc := 94) dX8_work_94 sh_229 ev51 ?_
              refine g_iadd (pc := 95) dX8_work_95 ?_
              obtain rfl := Option.some.inj hf
              exact g_weakK (K48) ⟨rfl, ⟨rfl, ⟨rfl, trivial⟩⟩⟩
            · replace hf := jifn hc52 hf
              refine g_iconst (pc := 77) 0 dX8_work_77 rfl ?_
              refine g_goto (pc := 78) 96 dX8_work_78 rfl ?_
              obtain rfl := Option.some.inj hf
              exact g_weakK (K48) ⟨rfl, ⟨rfl, ⟨rfl, trivial⟩⟩⟩
  refine g_weak (lv' := [some (.ref 221), some (.int 0), none, none, none, none, none]) ⟨rfl, ⟨rfl, trivial⟩⟩ ?_
  refine jLp_ind (P := fun ((z7, M8) : Int32 × JMem) => jGG μ_X8_work 3 2 [some (.ref 221), some (.int z7), none, none, none, none, none] [] M8 (fun M' r' => M' = Mz ∧ r' = some (.int r))) ?_ N _ y2
  rintro ⟨z7, M8⟩ x_6 hf ih5 hx4
  show jGG μ_X8_work 3 2 [some (.ref 221), some (.int z7), none, none, none, none, none] [] M8 (fun M' r' => M' = Mz ∧ r' = some (.int r))
  refine g_iload_n (pc := 2) dX8_work_2 rfl rfl ?_
  refine g_aload_n (pc := 3) dX8_work_3 rfl rfl ?_
  refine g_getI (pc := 4) dX8_work_4 fl_X8_143 sh_221 rfl ?_
  refine g_icmp_ge (pc := 7) 23 dX8_work_7 rfl (fun hc11 => ?_) (fun hc11 => ?_)
  · replace hf := jifp hc11 hf
    have hf := hx4 _ (Option.some.inj hf).symm
    obtain rfl := hf
    exact g_weakK K3 ⟨rfl, trivial⟩
  · replace hf := jifn hc11 hf
    refine g_aload_n (pc := 10) dX8_work_10 rfl rfl ?_
    refine g_getR (pc := 11) dX8_work_11 fl_X8_58 sh_221 rfl ?_
    refine g_iload_n (pc := 14) dX8_work_14 rfl rfl ?_
    refine g_iconst (pc := 15) 0 dX8_work_15 rfl ?_
    obtain ⟨M10, eM10, hf⟩ := job hf
    refine g_bast (pc := 16) dX8_work_16 sh_238 (Or.inl rfl) eM10 ?_
    refine g_iinc (pc := 17) (lv' := [some (.ref 221), some (.int (z7 + 1)), none, none, none, none, none]) (z7 + 1) dX8_work_17 rfl rfl (by decide) rfl ?_
    refine g_goto (pc := 20) 2 dX8_work_20 rfl ?_
    have hih : jGG μ_X8_work 3 2 [some (.ref 221), some (.int (z7 + 1)), none, none, none, none, none] [] M10 (fun M' r' => M' = Mz ∧ r' = some (.int r)) := ih5 (z7 + 1, M10) (Option.some.inj hf).symm
    exact g_weakK hih ⟨rfl, ⟨rfl, trivial⟩⟩
def f_X8_exchange (M : JMem) (x1 : Int32) (x2 : Int32) : Option (JMem) := (jrd M 231 256 ((32 * x1) + x2)).bind fun v1 => (jrd M 231 256 (((32 * x1) + x2) + 1)).bind fun v2 => (jwr M 231 256 ((32 * x1) + x2) v2).bind fun M3 => (jwr M3 231 256 (((32 * x1) + x2) + 1) v1).bind fun M4 => some M4
set_option maxHeartbeats 4000000 in
theorem c_X8_exchange {M : JMem} {x1 : Int32} {x2 : Int32} {Mz : JMem} (hf : f_X8_exchange M x1 x2 = some Mz) : jCo yX8_exchange μ_X8_exchange 1 M [.ref 221, .int x1, .int x2] Mz none := by
  refine jCt_of (by decide +kernel) rfl (by simp [Value.category]) (Nat.le_of_ble_eq_true rfl) ?_
  unfold f_X8_exchange at hf
  show jGG μ_X8_exchange 1 0 [some (.ref 221), some (.int x1), some (.int x2), none] [] M (fun M' r' => M' = Mz ∧ r' = none)
  refine g_aload_n (pc := 0) dX8_exchange_0 rfl rfl ?_
  refine g_getR (pc := 1) dX8_exchange_1 fl_X8_37 sh_221 rfl ?_
  refine g_bipush (pc := 4) 32 dX8_exchange_4 rfl ?_
  refine g_iload_n (pc := 6) dX8_exchange_6 rfl rfl ?_
  refine g_imul (pc := 7) dX8_exchange_7 ?_
  refine g_iload_n (pc := 8) dX8_exchange_8 rfl rfl ?_
  refine g_iadd (pc := 9) dX8_exchange_9 ?_
  obtain ⟨v1, ev1, hf⟩ := job hf
  refine g_iald (pc := 10) dX8_exchange_10 sh_231 ev1 ?_
  refine g_istore_n (pc := 11) (lv' := [some (.ref 221), some (.int x1), some (.int x2), some (.int v1)]) dX8_exchange_11 rfl (by decide) rfl ?_
  refine g_aload_n (pc := 12) dX8_exchange_12 rfl rfl ?_
  refine g_getR (pc := 13) dX8_exchange_13 fl_X8_37 sh_221 rfl ?_
  refine g_bipush (pc := 16) 32 dX8_exchange_16 rfl ?_
  refine g_iload_n (pc := 18) dX8_exchange_18 rfl rfl ?_
  refine g_imul (pc := 19) dX8_exchange_19 ?_
  refine g_iload_n (pc := 20) dX8_exchange_20 rfl rfl ?_
  refine g_iadd (pc := 21) dX8_exchange_21 ?_
  refine g_aload_n (pc := 22) dX8_exchange_22 rfl rfl ?_
  refine g_getR (pc := 23) dX8_exchange_23 fl_X8_37 sh_221 rfl ?_
  refine g_bipush (pc := 26) 32 dX8_exchange_26 rfl ?_
  refine g_iload_n (pc := 28) dX8_exchange_28 rfl rfl ?_
  refine g_imul (pc := 29) dX8_exchange_29 ?_
  refine g_iload_n (pc := 30) dX8_exchange_30 rfl rfl ?_
  refine g_iadd (pc := 31) dX8_exchange_31 ?_
  refine g_iconst (pc := 32) 1 dX8_exchange_32 rfl ?_
  refine g_iadd (pc := 33) dX8_exchange_33 ?_
  obtain ⟨v2, ev2, hf⟩ := job hf
  refine g_iald (pc := 34) dX8_exchange_34 sh_231 ev2 ?_
  obtain ⟨M3, eM3, hf⟩ := job hf
  refine g_iast (pc := 35) dX8_exchange_35 sh_231 eM3 ?_
  refine g_aload_n (pc := 36) dX8_exchange_36 rfl rfl ?_
  refine g_getR (pc := 37) dX8_exchange_37 fl_X8_37 sh_221 rfl ?_
  refine g_bipush (pc := 40) 32 dX8_exchange_40 rfl ?_
  refine g_iload_n (pc := 42) dX8_exchange_42 rfl rfl ?_
  refine g_imul (pc := 43) dX8_exchange_43 ?_
  refine g_iload_n (pc := 44) dX8_exchange_44 rfl rfl ?_
  refine g_iadd (pc := 45) dX8_exchange_45 ?_
  refine g_iconst (pc := 46) 1 dX8_exchange_46 rfl ?_
  refine g_iadd (pc := 47) dX8_exchange_47 ?_
  refine g_iload_n (pc := 48) dX8_exchange_48 rfl rfl ?_
  obtain ⟨M4, eM4, hf⟩ := job hf
  refine g_iast (pc := 49) dX8_exchange_49 sh_231 eM4 ?_
  obtain rfl := Option.some.inj hf
  exact g_vret (pc := 50) dX8_exchange_50 rfl ⟨rfl, rfl⟩
def f_X8_swap (N : Nat) (M : JMem) (x1 : Int32) (x2 : Int32) : Option (JMem × Int32) := (if (jin3 x1.toInt64 0 (((M 221 2) - 1).toInt64)) = 0 then some (M, (-100001)) else (jrd M 232 8 x1).bind fun v1 => (if (jin3 x2.toInt64 0 ((v1 - 2).toInt64)) = 0 then some (M, (-100002)) else (jrd M 222 8 x1).bind fun v2 => (if v2 = 1 then some (M, (-100003)) else (f_X8_work N M).bind fun (M3, v4) => (f_X8_exchange M3 x1 x2).bind fun M5 => (if v4 = 0 then some (M5, 1) else (f_X8_work N M5).bind fun (M6, v7) => (if v7 = 0 then (f_X8_exchange M6 x1 x2).bind fun M8 => some (M8, 0) else some (M6, 1))))))
set_option maxHeartbeats 4000000 in
theorem c_X8_swap {N : Nat} {M : JMem} {x1 : Int32} {x2 : Int32} {Mz : JMem} {r : Int32} (hf : f_X8_swap N M x1 x2 = some (Mz, r)) : jCo yX8_swap μ_X8_swap 4 M [.ref 221, .int x1, .int x2] Mz (some (.int r)) := by
  refine jCt_of (by decide +kernel) rfl (by simp [Value.category]) (Nat.le_of_ble_eq_true rfl) ?_
  unfold f_X8_swap at hf
  show jGG μ_X8_swap 4 0 [some (.ref 221), some (.int x1), some (.int x2), none] [] M (fun M' r' => M' = Mz ∧ r' = some (.int r))
  refine g_iload_n (pc := 0) dX8_swap_0 rfl rfl ?_
  refine g_i2l (pc := 1) dX8_swap_1 ?_
  refine g_lconst (pc := 2) 0 dX8_swap_2 rfl ?_
  refine g_aload_n (pc := 3) dX8_swap_3 rfl rfl ?_
  refine g_getI (pc := 4) dX8_swap_4 fl_X8_133 sh_221 rfl ?_
  refine g_iconst (pc := 7) 1 dX8_swap_7 rfl ?_
  refine g_isub (pc := 8) dX8_swap_8 ?_
  refine g_i2l (pc := 9) dX8_swap_9 ?_
  refine g_callS (pc := 10) [.long x1.toInt64, .long 0, .long (((M 221 2) - 1).toInt64)] [] dX8_swap_10 ml_X8_124 ck_X8_in cs_X8_in rfl (by decide) (Nat.le_of_ble_eq_true rfl) c_in ?_
  show jGG μ_X8_swap 4 13 [some (.ref 221), some (.int x1), some (.int x2), none] [.int (jin3 x1.toInt64 0 (((M 221 2) - 1).toInt64))] M (fun M' r' => M' = Mz ∧ r' = some (.int r))
  refine g_if_ne (pc := 13) 19 dX8_swap_13 rfl (fun hc13 => ?_) (fun hc13 => ?_)
  · replace hf := jifn hc13 hf
    refine g_iload_n (pc := 19) dX8_swap_19 rfl rfl ?_
    refine g_i2l (pc := 20) dX8_swap_20 ?_
    refine g_lconst (pc := 21) 0 dX8_swap_21 rfl ?_
    refine g_aload_n (pc := 22) dX8_swap_22 rfl rfl ?_
    refine g_getR (pc := 23) dX8_swap_23 fl_X8_40 sh_221 rfl ?_
    refine g_iload_n (pc := 26) dX8_swap_26 rfl rfl ?_
    obtain ⟨v1, ev1, hf⟩ := job hf
    refine g_iald (pc := 27) dX8_swap_27 sh_232 ev1 ?_
    refine g_iconst (pc := 28) 2 dX8_swap_28 rfl ?_
    refine g_isub (pc := 29) dX8_swap_29 ?_
    refine g_i2l (pc := 30) dX8_swap_30 ?_
    refine g_callS (pc := 31) [.long x2.toInt64, .long 0, .long ((v1 - 2).toInt64)] [] dX8_swap_31 ml_X8_124 ck_X8_in cs_X8_in rfl (by decide) (Nat.le_of_ble_eq_true rfl) c_in ?_
    show jGG μ_X8_swap 4 34 [some (.ref 221), some (.int x1), some (.int x2), none] [.int (jin3 x2.toInt64 0 ((v1 - 2).toInt64))] M (fun M' r' => M' = Mz ∧ r' = some (.int r))
    refine g_if_ne (pc := 34) 40 dX8_swap_34 rfl (fun hc12 => ?_) (fun hc12 => ?_)
    · replace hf := jifn hc12 hf
      refine g_aload_n (pc := 40) dX8_swap_40 rfl rfl ?_
      refine g_getR (pc := 41) dX8_swap_41 fl_X8_7 sh_221 rfl ?_
      refine g_iload_n (pc := 44) dX8_swap_44 rfl rfl ?_
      obtain ⟨v2, ev2, hf⟩ := job hf
      refine g_iald (pc := 45) dX8_swap_45 sh_222 ev2 ?_
      refine g_iconst (pc := 46) 1 dX8_swap_46 rfl ?_
      refine g_icmp_ne (pc := 47) 53 dX8_swap_47 rfl (fun hc11 => ?_) (fun hc11 => ?_)
      · replace hf := jifn hc11 hf
        refine g_aload_n (pc := 53) dX8_swap_53 rfl rfl ?_
        obtain ⟨⟨M3, v4⟩, ev4, hf⟩ := job hf
        refine g_callV (pc := 54) [] [] dX8_swap_54 ml_X8_192 ck_X8_work cv_X8_work sh_221 rfl (by decide) (Nat.le_of_ble_eq_true rfl) (c_X8_work ev4) ?_
        show jGG μ_X8_swap 4 57 [some (.ref 221), some (.int x1), some (.int x2), none] [.int v4] M3 (fun M' r' => M' = Mz ∧ r' = some (.int r))
        refine g_istore_n (pc := 57) (lv' := [some (.ref 221), some (.int x1), some (.int x2), some (.int v4)]) dX8_swap_57 rfl (by decide) rfl ?_
        refine g_aload_n (pc := 58) dX8_swap_58 rfl rfl ?_
        refine g_iload_n (pc := 59) dX8_swap_59 rfl rfl ?_
        refine g_iload_n (pc := 60) dX8_swap_60 rfl rfl ?_
        obtain ⟨M5, eM5, hf⟩ := job hf
        refine g_callV (pc := 61) [.int x1, .int x2] [] dX8_swap_61 ml_X8_195 ck_X8_exchange cv_X8_exchange sh_221 rfl (by decide) (Nat.le_of_ble_eq_true rfl) (c_X8_exchange eM5) ?_
        show jGG μ_X8_swap 4 64 [some (.ref 221), some (.int x1), some (.int x2), some (.int v4)] [] M5 (fun M' r' => M' = Mz ∧ r' = some (.int r))
        refine g_iload_n (pc := 64) dX8_swap_64 rfl rfl ?_
        refine g_if_eq (pc := 65) 83 dX8_swap_65 rfl (fun hc10 => ?_) (fun hc10 => ?_)
        · replace hf := jifp hc10 hf
          refine g_iconst (pc := 83) 1 dX8_swap_83 rfl ?_
          obtain ⟨rfl, rfl⟩ := Prod.mk.inj (Option.some.inj hf)
          exact g_iret (pc := 84) dX8_swap_84 rfl ⟨rfl, rfl⟩
        · replace hf := jifn hc10 hf
          refine g_aload_n (pc := 68) dX8_swap_68 rfl rfl ?_
          obtain ⟨⟨M6, v7⟩, ev7, hf⟩ := job hf
          refine g_callV (pc := 69) [] [] dX8_swap_69 ml_X8_192 ck_X8_work cv_X8_work sh_221 rfl (by decide) (Nat.le_of_ble_eq_true rfl) (c_X8_work ev7) ?_
          show jGG μ_X8_swap 4 72 [some (.ref 221), some (.int x1), some (.int x2), some (.int v4)] [.int v7] M6 (fun M' r' => M' = Mz ∧ r' = some (.int r))
          refine g_if_ne (pc := 72) 83 dX8_swap_72 rfl (fun hc9 => ?_) (fun hc9 => ?_)
          · replace hf := jifn hc9 hf
            refine g_iconst (pc := 83) 1 dX8_swap_83 rfl ?_
            obtain ⟨rfl, rfl⟩ := Prod.mk.inj (Option.some.inj hf)
            exact g_iret (pc := 84) dX8_swap_84 rfl ⟨rfl, rfl⟩
          · replace hf := jifp hc9 hf
            refine g_aload_n (pc := 75) dX8_swap_75 rfl rfl ?_
            refine g_iload_n (pc := 76) dX8_swap_76 rfl rfl ?_
            refine g_iload_n (pc := 77) dX8_swap_77 rfl rfl ?_
            obtain ⟨M8, eM8, hf⟩ := job hf
            refine g_callV (pc := 78) [.int x1, .int x2] [] dX8_swap_78 ml_X8_195 ck_X8_exchange cv_X8_exchange sh_221 rfl (by decide) (Nat.le_of_ble_eq_true rfl) (c_X8_exchange eM8) ?_
            show jGG μ_X8_swap 4 81 [some (.ref 221), some (.int x1), some (.int x2), some (.int v4)] [] M8 (fun M' r' => M' = Mz ∧ r' = some (.int r))
            refine g_iconst (pc := 81) 0 dX8_swap_81 rfl ?_
            obtain ⟨rfl, rfl⟩ := Prod.mk.inj (Option.some.inj hf)
            exact g_iret (pc := 82) dX8_swap_82 rfl ⟨rfl, rfl⟩
      · replace hf := jifp hc11 hf
        refine g_ldc (pc := 50) (-100003) dX8_swap_50 lc_X8_179 ?_
        obtain ⟨rfl, rfl⟩ := Prod.mk.inj (Option.some.inj hf)
        exact g_iret (pc := 52) dX8_swap_52 rfl ⟨rfl, rfl⟩
    · replace hf := jifp hc12 hf
      refine g_ldc (pc := 37) (-100002) dX8_swap_37 lc_X8_132 ?_
      obtain ⟨rfl, rfl⟩ := Prod.mk.inj (Option.some.inj hf)
      exact g_iret (pc := 39) dX8_swap_39 rfl ⟨rfl, rfl⟩
  · replace hf := jifp hc13 hf
    refine g_ldc (pc := 16) (-100001) dX8_swap_16 lc_X8_146 ?_
    obtain ⟨rfl, rfl⟩ := Prod.mk.inj (Option.some.inj hf)
    exact g_iret (pc := 18) dX8_swap_18 rfl ⟨rfl, rfl⟩
def f_X8_lay (N : Nat) (M : JMem) (x1 : Int32) (x2 : Int32) : Option (JMem × Int32) := (f_X8_isStep M x1).bind fun v1 => (if v1 = 0 then some (M, (-100001)) else (jrd M 228 32 x1).bind fun v2 => (jrd M 232 8 v2).bind fun v3 => (if (jin3 x2.toInt64 0 ((v3 - 1).toInt64)) = 0 then some (M, (-100002)) else (f_X8_placeOf N M x1).bind fun v4 => ((jLp (σ := Int32 × JMem) (ρ := Int32 × JMem) N (fun ((z11, M12) : Int32 × JMem) => (if x2 ≤ z11 then some (Sum.inr (z11, M12)) else (f_X8_exchange M12 v2 z11).bind fun M15 => some (Sum.inl (z11 + 1, M15)))) (v4, M)).bind fun (t13, t14) => ((jLp (σ := Int32 × JMem) (ρ := JMem) N (fun ((z23, M24) : Int32 × JMem) => (if z23 ≤ x2 then some (Sum.inr M24) else (f_X8_exchange M24 v2 (z23 - 1)).bind fun M26 => some (Sum.inl (z23 + (-1), M26)))) (t13, t14)).bind fun t25 => (f_X8_work N t25).bind fun (M28, v29) => (if v29 = 0 then some (M28, 0) else some (M28, 1))))))
set_option maxHeartbeats 4000000 in
theorem c_X8_lay {N : Nat} {M : JMem} {x1 : Int32} {x2 : Int32} {Mz : JMem} {r : Int32} (hf : f_X8_lay N M x1 x2 = some (Mz, r)) : jCo yX8_lay μ_X8_lay 4 M [.ref 221, .int x1, .int x2] Mz (some (.int r)) := by
  refine jCt_of (by decide +kernel) rfl (by simp [Value.category]) (Nat.le_of_ble_eq_true rfl) ?_
  unfold f_X8_lay at hf
  show jGG μ_X8_lay 4 0 [some (.ref 221), some (.int x1), some (.int x2), none, none] [] M (fun M' r' => M' = Mz ∧ r' = some (.int r))
  refine g_aload_n (pc := 0) dX8_lay_0 rfl rfl ?_
  refine g_iload_n (pc := 1) dX8_lay_1 rfl rfl ?_
  obtain ⟨v1, ev1, hf⟩ := job hf
  refine g_callV (pc := 2) [.int x1] [] dX8_lay_2 ml_X8_153 ck_X8_isStep cv_X8_isStep sh_221 rfl (by decide) (Nat.le_of_ble_eq_true rfl) (c_X8_isStep ev1) ?_
  show jGG μ_X8_lay 4 5 [some (.ref 221), some (.int x1), some (.int x2), none, none] [.int v1] M (fun M' r' => M' = Mz ∧ r' = some (.int r))
  refine g_if_ne (pc := 5) 11 dX8_lay_5 rfl (fun hc32 => ?_) (fun hc32 => ?_)
  · replace hf := jifn hc32 hf
    refine g_aload_n (pc := 11) dX8_lay_11 rfl rfl ?_
    refine g_getR (pc := 12) dX8_lay_12 fl_X8_28 sh_221 rfl ?_
    refine g_iload_n (pc := 15) dX8_lay_15 rfl rfl ?_
    obtain ⟨v2, ev2, hf⟩ := job hf
    refine g_iald (pc := 16) dX8_lay_16 sh_228 ev2 ?_
    refine g_istore_n (pc := 17) (lv' := [some (.ref 221), some (.int x1), some (.int x2), some (.int v2), none]) dX8_lay_17 rfl (by decide) rfl ?_
    refine g_iload_n (pc := 18) dX8_lay_18 rfl rfl ?_
    refine g_i2l (pc := 19) dX8_lay_19 ?_
    refine g_lconst (pc := 20) 0 dX8_lay_20 rfl ?_
    refine g_aload_n (pc := 21) dX8_lay_21 rfl rfl ?_
    refine g_getR (pc := 22) dX8_lay_22 fl_X8_40 sh_221 rfl ?_
    refine g_iload_n (pc := 25) dX8_lay_25 rfl rfl ?_
    obtain ⟨v3, ev3, hf⟩ := job hf
    refine g_iald (pc := 26) dX8_lay_26 sh_232 ev3 ?_
    refine g_iconst (pc := 27) 1 dX8_lay_27 rfl ?_
    refine g_isub (pc := 28) dX8_lay_28 ?_
    refine g_i2l (pc := 29) dX8_lay_29 ?_
    refine g_callS (pc := 30) [.long x2.toInt64, .long 0, .long ((v3 - 1).toInt64)] [] dX8_lay_30 ml_X8_124 ck_X8_in cs_X8_in rfl (by decide) (Nat.le_of_ble_eq_true rfl) c_in ?_
    show jGG μ_X8_lay 4 33 [some (.ref 221), some (.int x1), some (.int x2), some (.int v2), none] [.int (jin3 x2.toInt64 0 ((v3 - 1).toInt64))] M (fun M' r' => M' = Mz ∧ r' = some (.int r))
    refine g_if_ne (pc := 33) 39 dX8_lay_33 rfl (fun hc31 => ?_) (fun hc31 => ?_)
    · replace hf := jifn hc31 hf
      refine g_aload_n (pc := 39) dX8_lay_39 rfl rfl ?_
      refine g_iload_n (pc := 40) dX8_lay_40 rfl rfl ?_
      obtain ⟨v4, ev4, hf⟩ := job hf
      refine g_callV (pc := 41) [.int x1] [] dX8_lay_41 ml_X8_157 ck_X8_placeOf cv_X8_placeOf sh_221 rfl (by decide) (Nat.le_of_ble_eq_true rfl) (c_X8_placeOf ev4) ?_
      show jGG μ_X8_lay 4 44 [some (.ref 221), some (.int x1), some (.int x2), some (.int v2), none] [.int v4] M (fun M' r' => M' = Mz ∧ r' = some (.int r))
      refine g_istore (pc := 44) (lv' := [some (.ref 221), some (.int x1), some (.int x2), some (.int v2), some (.int v4)]) dX8_lay_44 (by decide) rfl ?_
      obtain ⟨⟨t13, t14⟩, y6, hy5⟩ := job hf
      have K7 : jGG μ_X8_lay 4 65 [some (.ref 221), none, some (.int x2), some (.int v2), some (.int t13)] [] t14 (fun M' r' => M' = Mz ∧ r' = some (.int r)) := by
        replace hf := hy5
        obtain ⟨t25, y18, hy17⟩ := job hf
        have K19 : jGG μ_X8_lay 4 86 [some (.ref 221), none, none, none, none] [] t25 (fun M' r' => M' = Mz ∧ r' = some (.int r)) := by
          replace hf := hy17
          refine g_aload_n (pc := 86) dX8_lay_86 rfl rfl ?_
          obtain ⟨⟨M28, v29⟩, ev29, hf⟩ := job hf
          refine g_callV (pc := 87) [] [] dX8_lay_87 ml_X8_192 ck_X8_work cv_X8_work sh_221 rfl (by decide) (Nat.le_of_ble_eq_true rfl) (c_X8_work ev29) ?_
          show jGG μ_X8_lay 4 90 [some (.ref 221), none, none, none, none] [.int v29] M28 (fun M' r' => M' = Mz ∧ r' = some (.int r))
          refine g_if_eq (pc := 90) 97 dX8_lay_90 rfl (fun hc30 => ?_) (fun hc30 => ?_)
          · replace hf := jifp hc30 hf
            refine g_iconst (pc := 97) 0 dX8_lay_97 rfl ?_
            obtain ⟨rfl, rfl⟩ := Prod.mk.inj (Option.some.inj hf)
            exact g_iret (pc := 98) dX8_lay_98 rfl ⟨rfl, rfl⟩
          · replace hf := jifn hc30 hf
            refine g_iconst (pc := 93) 1 dX8_lay_93 rfl ?_
            refine g_goto (pc := 94) 98 dX8_lay_94 rfl ?_
            obtain ⟨rfl, rfl⟩ := Prod.mk.inj (Option.some.inj hf)
            exact g_iret (pc := 98) dX8_lay_98 rfl ⟨rfl, rfl⟩
        refine g_weak (lv' := [some (.ref 221), none, some (.int x2), some (.int v2), some (.int t13)]) ⟨rfl, ⟨rfl, ⟨rfl, ⟨rfl, trivial⟩⟩⟩⟩ ?_
        refine jLp_ind (P := fun ((z23, M24) : Int32 × JMem) => jGG μ_X8_lay 4 65 [some (.ref 221), none, some (.int x2), some (.int v2), some (.int z23)] [] M24 (fun M' r' => M' = Mz ∧ r' = some (.int r))) ?_ N _ y18
        rintro ⟨z23, M24⟩ x_22 hf ih21 hx20
        show jGG μ_X8_lay 4 65 [some (.ref 221), none, some (.int x2), some (.int v2), some (.int z23)] [] M24 (fun M' r' => M' = Mz ∧ r' = some (.int r))
        refine g_iload (pc := 65) dX8_lay_65 rfl ?_
        refine g_iload_n (pc := 67) dX8_lay_67 rfl rfl ?_
        refine g_icmp_le (pc := 68) 86 dX8_lay_68 rfl (fun hc27 => ?_) (fun hc27 => ?_)
        · replace hf := jifp hc27 hf
          have hf := hx20 _ (Option.some.inj hf).symm
          obtain rfl := hf
          exact g_weakK K19 ⟨rfl, trivial⟩
        · replace hf := jifn hc27 hf
          refine g_aload_n (pc := 71) dX8_lay_71 rfl rfl ?_
          refine g_iload_n (pc := 72) dX8_lay_72 rfl rfl ?_
          refine g_iload (pc := 73) dX8_lay_73 rfl ?_
          refine g_iconst (pc := 75) 1 dX8_lay_75 rfl ?_
          refine g_isub (pc := 76) dX8_lay_76 ?_
          obtain ⟨M26, eM26, hf⟩ := job hf
          refine g_callV (pc := 77) [.int v2, .int (z23 - 1)] [] dX8_lay_77 ml_X8_195 ck_X8_exchange cv_X8_exchange sh_221 rfl (by decide) (Nat.le_of_ble_eq_true rfl) (c_X8_exchange eM26) ?_
          show jGG μ_X8_lay 4 80 [some (.ref 221), none, some (.int x2), some (.int v2), some (.int z23)] [] M26 (fun M' r' => M' = Mz ∧ r' = some (.int r))
          refine g_iinc (pc := 80) (lv' := [some (.ref 221), none, some (.int x2), some (.int v2), some (.int (z23 + (-1)))]) (z23 + (-1)) dX8_lay_80 rfl rfl (by decide) rfl ?_
          refine g_goto (pc := 83) 65 dX8_lay_83 rfl ?_
          have hih : jGG μ_X8_lay 4 65 [some (.ref 221), none, some (.int x2), some (.int v2), some (.int (z23 + (-1)))] [] M26 (fun M' r' => M' = Mz ∧ r' = some (.int r)) := ih21 (z23 + (-1), M26) (Option.some.inj hf).symm
          exact g_weakK hih ⟨rfl, ⟨rfl, ⟨rfl, ⟨rfl, trivial⟩⟩⟩⟩
      refine g_weak (lv' := [some (.ref 221), none, some (.int x2), some (.int v2), some (.int v4)]) ⟨rfl, ⟨rfl, ⟨rfl, ⟨rfl, trivial⟩⟩⟩⟩ ?_
      refine jLp_ind (P := fun ((z11, M12) : Int32 × JMem) => jGG μ_X8_lay 4 46 [some (.ref 221), none, some (.int x2), some (.int v2), some (.int z11)] [] M12 (fun M' r' => M' = Mz ∧ r' = some (.int r))) ?_ N _ y6
      rintro ⟨z11, M12⟩ x_10 hf ih9 hx8
      show jGG μ_X8_lay 4 46 [some (.ref 221), none, some (.int x2), some (.int v2), some (.int z11)] [] M12 (fun M' r' => M' = Mz ∧ r' = some (.int r))
      refine g_iload (pc := 46) dX8_lay_46 rfl ?_
      refine g_iload_n (pc := 48) dX8_lay_48 rfl rfl ?_
      refine g_icmp_ge (pc := 49) 65 dX8_lay_49 rfl (fun hc16 => ?_) (fun hc16 => ?_)
      · replace hf := jifp hc16 hf
        have hf := hx8 _ (Option.some.inj hf).symm
        obtain ⟨rfl, rfl⟩ := jp2 hf
        exact g_weakK K7 ⟨rfl, ⟨rfl, ⟨rfl, ⟨rfl, trivial⟩⟩⟩⟩
      · replace hf := jifn hc16 hf
        refine g_aload_n (pc := 52) dX8_lay_52 rfl rfl ?_
        refine g_iload_n (pc := 53) dX8_lay_53 rfl rfl ?_
        refine g_iload (pc := 54) dX8_lay_54 rfl ?_
        obtain ⟨M15, eM15, hf⟩ := job hf
        refine g_callV (pc := 56) [.int v2, .int z11] [] dX8_lay_56 ml_X8_195 ck_X8_exchange cv_X8_exchange sh_221 rfl (by decide) (Nat.le_of_ble_eq_true rfl) (c_X8_exchange eM15) ?_
        show jGG μ_X8_lay 4 59 [some (.ref 221), none, some (.int x2), some (.int v2), some (.int z11)] [] M15 (fun M' r' => M' = Mz ∧ r' = some (.int r))
        refine g_iinc (pc := 59) (lv' := [some (.ref 221), none, some (.int x2), some (.int v2), some (.int (z11 + 1))]) (z11 + 1) dX8_lay_59 rfl rfl (by decide) rfl ?_
        refine g_goto (pc := 62) 46 dX8_lay_62 rfl ?_
        have hih : jGG μ_X8_lay 4 46 [some (.ref 221), none, some (.int x2), some (.int v2), some (.int (z11 + 1))] [] M15 (fun M' r' => M' = Mz ∧ r' = some (.int r)) := ih9 (z11 + 1, M15) (Option.some.inj hf).symm
        exact g_weakK hih ⟨rfl, ⟨rfl, ⟨rfl, ⟨rfl, trivial⟩⟩⟩⟩
    · replace hf := jifp hc31 hf
      refine g_ldc (pc := 36) (-100002) dX8_lay_36 lc_X8_132 ?_
      obtain ⟨rfl, rfl⟩ := Prod.mk.inj (Option.some.inj hf)
      exact g_iret (pc := 38) dX8_lay_38 rfl ⟨rfl, rfl⟩
  · replace hf := jifp hc32 hf
    refine g_ldc (pc := 8) (-100001) dX8_lay_8 lc_X8_146 ?_
    obtain ⟨rfl, rfl⟩ := Prod.mk.inj (Option.some.inj hf)
    exact g_iret (pc := 10) dX8_lay_10 rfl ⟨rfl, rfl⟩
def f_X8_end (N : Nat) (M : JMem) : Option (JMem × Int32) := (f_X8_work N M).bind fun (M1, v2) => (if v2 = 0 then some (M1, (-1)) else some (M1, M1 221 21))
set_option maxHeartbeats 4000000 in
theorem c_X8_end {N : Nat} {M : JMem} {Mz : JMem} {r : Int32} (hf : f_X8_end N M = some (Mz, r)) : jCo yX8_end μ_X8_end 4 M [.ref 221] Mz (some (.int r)) := by
  refine jCt_of (by decide +kernel) rfl (by simp [Value.category]) (Nat.le_of_ble_eq_true rfl) ?_
  unfold f_X8_end at hf
  show jGG μ_X8_end 4 0 [some (.ref 221)] [] M (fun M' r' => M' = Mz ∧ r' = some (.int r))
  refine g_aload_n (pc := 0) dX8_end_0 rfl rfl ?_
  obtain ⟨⟨M1, v2⟩, ev2, hf⟩ := job hf
  refine g_callV (pc := 1) [] [] dX8_end_1 ml_X8_192 ck_X8_work cv_X8_work sh_221 rfl (by decide) (Nat.le_of_ble_eq_true rfl) (c_X8_work ev2) ?_
  show jGG μ_X8_end 4 4 [some (.ref 221)] [.int v2] M1 (fun M' r' => M' = Mz ∧ r' = some (.int r))
  refine g_if_eq (pc := 4) 14 dX8_end_4 rfl (fun hc3 => ?_) (fun hc3 => ?_)
  · replace hf := jifp hc3 hf
    refine g_iconst (pc := 14) (-1) dX8_end_14 rfl ?_
    obtain ⟨rfl, rfl⟩ := Prod.mk.inj (Option.some.inj hf)
    exact g_iret (pc := 15) dX8_end_15 rfl ⟨rfl, rfl⟩
  · replace hf := jifn hc3 hf
    refine g_aload_n (pc := 7) dX8_end_7 rfl rfl ?_
    refine g_getI (pc := 8) dX8_end_8 fl_X8_183 sh_221 rfl ?_
    refine g_goto (pc := 11) 15 dX8_end_11 rfl ?_
    obtain ⟨rfl, rfl⟩ := Prod.mk.inj (Option.some.inj hf)
    exact g_iret (pc := 15) dX8_end_15 rfl ⟨rfl, rfl⟩
def f_X8_begin (N : Nat) (M : JMem) (x1 : Int32) : Option (JMem × Int32) := (f_X8_isStep M x1).bind fun v1 => (if v1 = 0 then some (M, (-100001)) else (f_X8_work N M).bind fun (M2, v3) => (if v3 = 0 then some (M2, (-100003)) else (jrd M2 237 32 x1).bind fun v4 => some (M2, v4)))
set_option maxHeartbeats 4000000 in
theorem c_X8_begin {N : Nat} {M : JMem} {x1 : Int32} {Mz : JMem} {r : Int32} (hf : f_X8_begin N M x1 = some (Mz, r)) : jCo yX8_begin μ_X8_begin 4 M [.ref 221, .int x1] Mz (some (.int r)) := by
  refine jCt_of (by decide +kernel) rfl (by simp [Value.category]) (Nat.le_of_ble_eq_true rfl) ?_
  unfold f_X8_begin at hf
  show jGG μ_X8_begin 4 0 [some (.ref 221), some (.int x1)] [] M (fun M' r' => M' = Mz ∧ r' = some (.int r))
  refine g_aload_n (pc := 0) dX8_begin_0 rfl rfl ?_
  refine g_iload_n (pc := 1) dX8_begin_1 rfl rfl ?_
  obtain ⟨v1, ev1, hf⟩ := job hf
  refine g_callV (pc := 2) [.int x1] [] dX8_begin_2 ml_X8_153 ck_X8_isStep cv_X8_isStep sh_221 rfl (by decide) (Nat.le_of_ble_eq_true rfl) (c_X8_isStep ev1) ?_
  show jGG μ_X8_begin 4 5 [some (.ref 221), some (.int x1)] [.int v1] M (fun M' r' => M' = Mz ∧ r' = some (.int r))
  refine g_if_ne (pc := 5) 13 dX8_begin_5 rfl (fun hc6 => ?_) (fun hc6 => ?_)
  · replace hf := jifn hc6 hf
    refine g_aload_n (pc := 13) dX8_begin_13 rfl rfl ?_
    obtain ⟨⟨M2, v3⟩, ev3, hf⟩ := job hf
    refine g_callV (pc := 14) [] [] dX8_begin_14 ml_X8_192 ck_X8_work cv_X8_work sh_221 rfl (by decide) (Nat.le_of_ble_eq_true rfl) (c_X8_work ev3) ?_
    show jGG μ_X8_begin 4 17 [some (.ref 221), some (.int x1)] [.int v3] M2 (fun M' r' => M' = Mz ∧ r' = some (.int r))
    refine g_if_eq (pc := 17) 29 dX8_begin_17 rfl (fun hc5 => ?_) (fun hc5 => ?_)
    · replace hf := jifp hc5 hf
      refine g_ldc (pc := 29) (-100003) dX8_begin_29 lc_X8_179 ?_
      obtain ⟨rfl, rfl⟩ := Prod.mk.inj (Option.some.inj hf)
      exact g_iret (pc := 31) dX8_begin_31 rfl ⟨rfl, rfl⟩
    · replace hf := jifn hc5 hf
      refine g_aload_n (pc := 20) dX8_begin_20 rfl rfl ?_
      refine g_getR (pc := 21) dX8_begin_21 fl_X8_55 sh_221 rfl ?_
      refine g_iload_n (pc := 24) dX8_begin_24 rfl rfl ?_
      obtain ⟨v4, ev4, hf⟩ := job hf
      refine g_iald (pc := 25) dX8_begin_25 sh_237 ev4 ?_
      refine g_goto (pc := 26) 31 dX8_begin_26 rfl ?_
      obtain ⟨rfl, rfl⟩ := Prod.mk.inj (Option.some.inj hf)
      exact g_iret (pc := 31) dX8_begin_31 rfl ⟨rfl, rfl⟩
  · replace hf := jifp hc6 hf
    refine g_ldc (pc := 8) (-100001) dX8_begin_8 lc_X8_146 ?_
    refine g_goto (pc := 10) 31 dX8_begin_10 rfl ?_
    obtain ⟨rfl, rfl⟩ := Prod.mk.inj (Option.some.inj hf)
    exact g_iret (pc := 31) dX8_begin_31 rfl ⟨rfl, rfl⟩
def f_X8_next (N : Nat) (M : JMem) (x1 : Int32) : Option (Int32) := (jrd M 228 32 x1).bind fun v1 => (f_X8_placeOf N M x1).bind fun v2 => (jrd M 222 8 v1).bind fun v3 => (if v3 = 0 then (jrd M 232 8 v1).bind fun v4 => (if v4 ≤ (v2 + 1) then some (-1) else (jrd M 231 256 (((32 * v1) + v2) + 1)).bind fun v5 => some v5) else some (-1))
set_option maxHeartbeats 4000000 in
theorem c_X8_next {N : Nat} {M : JMem} {x1 : Int32} {r : Int32} (hf : f_X8_next N M x1 = some r) : jCo yX8_next μ_X8_next 2 M [.ref 221, .int x1] M (some (.int r)) := by
  refine jCt_of (by decide +kernel) rfl (by simp [Value.category]) (Nat.le_of_ble_eq_true rfl) ?_
  unfold f_X8_next at hf
  show jGG μ_X8_next 2 0 [some (.ref 221), some (.int x1), none, none] [] M (fun M' r' => M' = M ∧ r' = some (.int r))
  refine g_aload_n (pc := 0) dX8_next_0 rfl rfl ?_
  refine g_getR (pc := 1) dX8_next_1 fl_X8_28 sh_221 rfl ?_
  refine g_iload_n (pc := 4) dX8_next_4 rfl rfl ?_
  obtain ⟨v1, ev1, hf⟩ := job hf
  refine g_iald (pc := 5) dX8_next_5 sh_228 ev1 ?_
  refine g_istore_n (pc := 6) (lv' := [some (.ref 221), some (.int x1), some (.int v1), none]) dX8_next_6 rfl (by decide) rfl ?_
  refine g_aload_n (pc := 7) dX8_next_7 rfl rfl ?_
  refine g_iload_n (pc := 8) dX8_next_8 rfl rfl ?_
  obtain ⟨v2, ev2, hf⟩ := job hf
  refine g_callV (pc := 9) [.int x1] [] dX8_next_9 ml_X8_157 ck_X8_placeOf cv_X8_placeOf sh_221 rfl (by decide) (Nat.le_of_ble_eq_true rfl) (c_X8_placeOf ev2) ?_
  show jGG μ_X8_next 2 12 [some (.ref 221), some (.int x1), some (.int v1), none] [.int v2] M (fun M' r' => M' = M ∧ r' = some (.int r))
  refine g_istore_n (pc := 12) (lv' := [some (.ref 221), some (.int x1), some (.int v1), some (.int v2)]) dX8_next_12 rfl (by decide) rfl ?_
  refine g_aload_n (pc := 13) dX8_next_13 rfl rfl ?_
  refine g_getR (pc := 14) dX8_next_14 fl_X8_7 sh_221 rfl ?_
  refine g_iload_n (pc := 17) dX8_next_17 rfl rfl ?_
  obtain ⟨v3, ev3, hf⟩ := job hf
  refine g_iald (pc := 18) dX8_next_18 sh_222 ev3 ?_
  refine g_if_ne (pc := 19) 50 dX8_next_19 rfl (fun hc7 => ?_) (fun hc7 => ?_)
  · replace hf := jifn hc7 hf
    refine g_iconst (pc := 50) (-1) dX8_next_50 rfl ?_
    obtain rfl := Option.some.inj hf
    exact g_iret (pc := 51) dX8_next_51 rfl ⟨rfl, rfl⟩
  · replace hf := jifp hc7 hf
    refine g_iload_n (pc := 22) dX8_next_22 rfl rfl ?_
    refine g_iconst (pc := 23) 1 dX8_next_23 rfl ?_
    refine g_iadd (pc := 24) dX8_next_24 ?_
    refine g_aload_n (pc := 25) dX8_next_25 rfl rfl ?_
    refine g_getR (pc := 26) dX8_next_26 fl_X8_40 sh_221 rfl ?_
    refine g_iload_n (pc := 29) dX8_next_29 rfl rfl ?_
    obtain ⟨v4, ev4, hf⟩ := job hf
    refine g_iald (pc := 30) dX8_next_30 sh_232 ev4 ?_
    refine g_icmp_ge (pc := 31) 50 dX8_next_31 rfl (fun hc6 => ?_) (fun hc6 => ?_)
    · replace hf := jifp hc6 hf
      refine g_iconst (pc := 50) (-1) dX8_next_50 rfl ?_
      obtain rfl := Option.some.inj hf
      exact g_iret (pc := 51) dX8_next_51 rfl ⟨rfl, rfl⟩
    · replace hf := jifn hc6 hf
      refine g_aload_n (pc := 34) dX8_next_34 rfl rfl ?_
      refine g_getR (pc := 35) dX8_next_35 fl_X8_37 sh_221 rfl ?_
      refine g_bipush (pc := 38) 32 dX8_next_38 rfl ?_
      refine g_iload_n (pc := 40) dX8_next_40 rfl rfl ?_
      refine g_imul (pc := 41) dX8_next_41 ?_
      refine g_iload_n (pc := 42) dX8_next_42 rfl rfl ?_
      refine g_iadd (pc := 43) dX8_next_43 ?_
      refine g_iconst (pc := 44) 1 dX8_next_44 rfl ?_
      refine g_iadd (pc := 45) dX8_next_45 ?_
      obtain ⟨v5, ev5, hf⟩ := job hf
      refine g_iald (pc := 46) dX8_next_46 sh_231 ev5 ?_
      refine g_goto (pc := 47) 51 dX8_next_47 rfl ?_
      obtain rfl := Option.some.inj hf
      exact g_iret (pc := 51) dX8_next_51 rfl ⟨rfl, rfl⟩
def f_X8_workTails (N : Nat) (M : JMem) : Option (JMem) := ((jLp (σ := Int32 × JMem) (ρ := JMem) N (fun ((z7, M8) : Int32 × JMem) => (if (M8 221 11) ≤ z7 then some (Sum.inr M8) else (jwr M8 238 32 z7 0).bind fun M10 => some (Sum.inl (z7 + 1, M10)))) (0, M)).bind fun t9 => ((jLp (σ := Int32 × JMem) (ρ := JMem) N (fun ((z18, M19) : Int32 × JMem) => (if (M19 221 11) ≤ z18 then some (Sum.inr M19) else ((jLp (σ := Int32 × Int32) (ρ := Int32) N (fun ((z27, z28) : Int32 × Int32) => (if (M19 221 11) ≤ z28 then some (Sum.inr z27) else (jrd M19 238 32 z28).bind fun v30 => (((if v30 = 0 then (jcase (α := Int32) (β := Unit) (if z27 < 0 then some (Sum.inr ()) else (jrd M19 237 32 z28).bind fun v41 => (jrd M19 237 32 z27).bind fun v42 => (if v41 ≤ v42 then some (Sum.inl (z27)) else some (Sum.inr ()))) fun _ => some (z28)) else some (z27)) : Option (Int32)).bind fun u46 => some (Sum.inl (u46, z28 + 1))))) ((-1), 0)).bind fun t29 => (f_X8_behind M19 t29).bind fun v48 => (f_X8_next N M19 t29).bind fun v49 => (((if 0 ≤ v48 then (jrd M19 229 32 v48).bind fun v55 => (jrd M19 240 32 v48).bind fun v56 => some ((v55 + v56)) else some (0)) : Option (Int32)).bind fun u58 => (((if 0 ≤ v49 then (jrd M19 229 32 v49).bind fun v64 => (jrd M19 240 32 v49).bind fun v65 => some ((v64 + v65)) else some (0)) : Option (Int32)).bind fun u67 => (((if u58 ≤ u67 then some (u67) else some (u58)) : Option (Int32)).bind fun u74 => (jwr M19 240 32 t29 u74).bind fun M75 => (jwr M75 238 32 t29 1).bind fun M76 => some (Sum.inl (z18 + 1, M76)))))))) (0, t9)).bind fun t20 => some t20))
set_option maxHeartbeats 4000000 in
theorem c_X8_workTails {N : Nat} {M : JMem} {Mz : JMem} (hf : f_X8_workTails N M = some Mz) : jCo yX8_workTails μ_X8_workTails 3 M [.ref 221] Mz none := by
  refine jCt_of (by decide +kernel) rfl (by simp [Value.category]) (Nat.le_of_ble_eq_true rfl) ?_
  unfold f_X8_workTails at hf
  show jGG μ_X8_workTails 3 0 [some (.ref 221), none, none, none, none, none, none] [] M (fun M' r' => M' = Mz ∧ r' = none)
  refine g_iconst (pc := 0) 0 dX8_workTails_0 rfl ?_
  refine g_istore_n (pc := 1) (lv' := [some (.ref 221), some (.int 0), none, none, none, none, none]) dX8_workTails_1 rfl (by decide) rfl ?_
  obtain ⟨t9, y2, hy1⟩ := job hf
  have K3 : jGG μ_X8_workTails 3 23 [some (.ref 221), none, none, none, none, none, none] [] t9 (fun M' r' => M' = Mz ∧ r' = none) := by
    replace hf := hy1
    refine g_iconst (pc := 23) 0 dX8_workTails_23 rfl ?_
    refine g_istore_n (pc := 24) (lv' := [some (.ref 221), some (.int 0), none, none, none, none, none]) dX8_workTails_24 rfl (by decide) rfl ?_
    obtain ⟨t20, y13, hy12⟩ := job hf
    have K14 : jGG μ_X8_workTails 3 176 [none, none, none, none, none, none, none] [] t20 (fun M' r' => M' = Mz ∧ r' = none) := by
      replace hf := hy12
      obtain rfl := Option.some.inj hf
      exact g_vret (pc := 176) dX8_workTails_176 rfl ⟨rfl, rfl⟩
    refine g_weak (lv' := [some (.ref 221), some (.int 0), none, none, none, none, none]) ⟨rfl, ⟨rfl, trivial⟩⟩ ?_
    refine jLp_ind (P := fun ((z18, M19) : Int32 × JMem) => jGG μ_X8_workTails 3 25 [some (.ref 221), some (.int z18), none, none, none, none, none] [] M19 (fun M' r' => M' = Mz ∧ r' = none)) ?_ N _ y13
    rintro ⟨z18, M19⟩ x_17 hf ih16 hx15
    show jGG μ_X8_workTails 3 25 [some (.ref 221), some (.int z18), none, none, none, none, none] [] M19 (fun M' r' => M' = Mz ∧ r' = none)
    refine g_iload_n (pc := 25) dX8_workTails_25 rfl rfl ?_
    refine g_aload_n (pc := 26) dX8_workTails_26 rfl rfl ?_
    refine g_getI (pc := 27) dX8_workTails_27 fl_X8_143 sh_221 rfl ?_
    refine g_icmp_ge (pc := 30) 176 dX8_workTails_30 rfl (fun hc77 => ?_) (fun hc77 => ?_)
    · replace hf := jifp hc77 hf
      have hf := hx15 _ (Option.some.inj hf).symm
      obtain rfl := hf
      exact g_weakK K14 trivial
    · replace hf := jifn hc77 hf
      refine g_iconst (pc := 33) (-1) dX8_workTails_33 rfl ?_
      refine g_istore_n (pc := 34) (lv' := [some (.ref 221), some (.int z18), some (.int ((-1))), none, none, none, none]) dX8_workTails_34 rfl (by decide) rfl ?_
      refine g_iconst (pc := 35) 0 dX8_workTails_35 rfl ?_
      refine g_istore_n (pc := 36) (lv' := [some (.ref 221), some (.int z18), some (.int ((-1))), some (.int 0), none, none, none]) dX8_workTails_36 rfl (by decide) rfl ?_
      obtain ⟨t29, y22, hy21⟩ := job hf
      have K23 : jGG μ_X8_workTails 3 81 [some (.ref 221), some (.int z18), some (.int t29), none, none, none, none] [] M19 (fun M' r' => M' = Mz ∧ r' = none) := by
        replace hf := hy21
        refine g_aload_n (pc := 81) dX8_workTails_81 rfl rfl ?_
        refine g_iload_n (pc := 82) dX8_workTails_82 rfl rfl ?_
        obtain ⟨v48, ev48, hf⟩ := job hf
        refine g_callV (pc := 83) [.int t29] [] dX8_workTails_83 ml_X8_199 ck_X8_behind cv_X8_behind sh_221 rfl (by decide) (Nat.le_of_ble_eq_true rfl) (c_X8_behind ev48) ?_
        show jGG μ_X8_workTails 3 86 [some (.ref 221), some (.int z18), some (.int t29), none, none, none, none] [.int v48] M19 (fun M' r' => M' = Mz ∧ r' = none)
        refine g_istore_n (pc := 86) (lv' := [some (.ref 221), some (.int z18), some (.int t29), some (.int v48), none, none, none]) dX8_workTails_86 rfl (by decide) rfl ?_
        refine g_aload_n (pc := 87) dX8_workTails_87 rfl rfl ?_
        refine g_iload_n (pc := 88) dX8_workTails_88 rfl rfl ?_
        obtain ⟨v49, ev49, hf⟩ := job hf
        refine g_callV (pc := 89) [.int t29] [] dX8_workTails_89 ml_X8_202 ck_X8_next cv_X8_next sh_221 rfl (by decide) (Nat.le_of_ble_eq_true rfl) (c_X8_next ev49) ?_
        show jGG μ_X8_workTails 3 92 [some (.ref 221), some (.int z18), some (.int t29), some (.int v48), none, none, none] [.int v49] M19 (fun M' r' => M' = Mz ∧ r' = none)
        refine g_istore (pc := 92) (lv' := [some (.ref 221), some (.int z18), some (.int t29), some (.int v48), some (.int v49), none, none]) dX8_workTails_92 (by decide) rfl ?_
        refine g_iload_n (pc := 94) dX8_workTails_94 rfl rfl ?_
        obtain ⟨u58, hf, hy51⟩ := job hf
        have K53 : jGG μ_X8_workTails 3 115 [some (.ref 221), some (.int z18), some (.int t29), none, some (.int v49), none, none] [.int u58] M19 (fun M' r' => M' = Mz ∧ r' = none) := by
          replace hf := hy51
          refine g_istore (pc := 115) (lv' := [some (.ref 221), some (.int z18), some (.int t29), none, some (.int v49), some (.int u58), none]) dX8_workTails_115 (by decide) rfl ?_
          refine g_iload (pc := 117) dX8_workTails_117 rfl ?_
          obtain ⟨u67, hf, hy60⟩ := job hf
          have K62 : jGG μ_X8_workTails 3 141 [some (.ref 221), some (.int z18), some (.int t29), none, none, some (.int u58), none] [.int u67] M19 (fun M' r' => M' = Mz ∧ r' = none) := by
            replace hf := hy60
            refine g_istore (pc := 141) (lv' := [some (.ref 221), some (.int z18), some (.int t29), none, none, some (.int u58), some (.int u67)]) dX8_workTails_141 (by decide) rfl ?_
            refine g_aload_n (pc := 143) dX8_workTails_143 rfl rfl ?_
            refine g_getR (pc := 144) dX8_workTails_144 fl_X8_65 sh_221 rfl ?_
            refine g_iload_n (pc := 147) dX8_workTails_147 rfl rfl ?_
            refine g_iload (pc := 148) dX8_workTails_148 rfl ?_
            refine g_iload (pc := 150) dX8_workTails_150 rfl ?_
            obtain ⟨u74, hf, hy69⟩ := job hf
            have K71 : jGG μ_X8_workTails 3 162 [some (.ref 221), some (.int z18), some (.int t29), none, none, none, none] [.int u74, .int t29, .ref 240] M19 (fun M' r' => M' = Mz ∧ r' = none) := by
              replace hf := hy69
              obtain ⟨M75, eM75, hf⟩ := job hf
              refine g_iast (pc := 162) dX8_workTails_162 sh_240 eM75 ?_
              refine g_aload_n (pc := 163) dX8_workTails_163 rfl rfl ?_
              refine g_getR (pc := 164) dX8_workTails_164 fl_X8_58 sh_221 rfl ?_
              refine g_iload_n (pc := 167) dX8_workTails_167 rfl rfl ?_
              refine g_iconst (pc := 168) 1 dX8_workTails_168 rfl ?_
              obtain ⟨M76, eM76, hf⟩ := job hf
              refine g_bast (pc := 169) dX8_workTails_169 sh_238 (Or.inr rfl) eM76 ?_
              refine g_iinc (pc := 170) (lv' := [some (.ref 221), some (.int (z18 + 1)), some (.int t29), none, none, none, none]) (z18 + 1) dX8_workTails_170 rfl rfl (by decide) rfl ?_
              refine g_goto (pc := 173) 25 dX8_workTails_173 rfl ?_
              have hih : jGG μ_X8_workTails 3 25 [some (.ref 221), some (.int (z18 + 1)), none, none, none, none, none] [] M76 (fun M' r' => M' = Mz ∧ r' = none) := ih16 (z18 + 1, M76) (Option.some.inj hf).symm
              exact g_weakK hih ⟨rfl, ⟨rfl, trivial⟩⟩
            refine g_icmp_le (pc := 152) 160 dX8_workTails_152 rfl (fun hc73 => ?_) (fun hc73 => ?_)
            · replace hf := jifp hc73 hf
              refine g_iload (pc := 160) dX8_workTails_160 rfl ?_
              obtain rfl := Option.some.inj hf
              exact g_weakK (K71) ⟨rfl, ⟨rfl, ⟨rfl, trivial⟩⟩⟩
            · replace hf := jifn hc73 hf
              refine g_iload (pc := 155) dX8_workTails_155 rfl ?_
              refine g_goto (pc := 157) 162 dX8_workTails_157 rfl ?_
              obtain rfl := Option.some.inj hf
              exact g_weakK (K71) ⟨rfl, ⟨rfl, ⟨rfl, trivial⟩⟩⟩
          refine g_if_ge (pc := 119) 126 dX8_workTails_119 rfl (fun hc66 => ?_) (fun hc66 => ?_)
          · replace hf := jifp hc66 hf
            refine g_aload_n (pc := 126) dX8_workTails_126 rfl rfl ?_
            refine g_getR (pc := 127) dX8_workTails_127 fl_X8_31 sh_221 rfl ?_
            refine g_iload (pc := 130) dX8_workTails_130 rfl ?_
            obtain ⟨v64, ev64, hf⟩ := job hf
            refine g_iald (pc := 132) dX8_workTails_132 sh_229 ev64 ?_
            refine g_aload_n (pc := 133) dX8_workTails_133 rfl rfl ?_
            refine g_getR (pc := 134) dX8_workTails_134 fl_X8_65 sh_221 rfl ?_
            refine g_iload (pc := 137) dX8_workTails_137 rfl ?_
            obtain ⟨v65, ev65, hf⟩ := job hf
            refine g_iald (pc := 139) dX8_workTails_139 sh_240 ev65 ?_
            refine g_iadd (pc := 140) dX8_workTails_140 ?_
            obtain rfl := Option.some.inj hf
            exact g_weakK (K62) ⟨rfl, ⟨rfl, ⟨rfl, ⟨rfl, trivial⟩⟩⟩⟩
          · replace hf := jifn hc66 hf
            refine g_iconst (pc := 122) 0 dX8_workTails_122 rfl ?_
            refine g_goto (pc := 123) 141 dX8_workTails_123 rfl ?_
            obtain rfl := Option.some.inj hf
            exact g_weakK (K62) ⟨rfl, ⟨rfl, ⟨rfl, ⟨rfl, trivial⟩⟩⟩⟩
        refine g_if_ge (pc := 95) 102 dX8_workTails_95 rfl (fun hc57 => ?_) (fun hc57 => ?_)
        · replace hf := jifp hc57 hf
          refine g_aload_n (pc := 102) dX8_workTails_102 rfl rfl ?_
          refine g_getR (pc := 103) dX8_workTails_103 fl_X8_31 sh_221 rfl ?_
          refine g_iload_n (pc := 106) dX8_workTails_106 rfl rfl ?_
          obtain ⟨v55, ev55, hf⟩ := job hf
          refine g_iald (pc := 107) dX8_workTails_107 sh_229 ev55 ?_
          refine g_aload_n (pc := 108) dX8_workTails_108 rfl rfl ?_
          refine g_getR (pc := 109) dX8_workTails_109 fl_X8_65 sh_221 rfl ?_
          refine g_iload_n (pc := 112) dX8_workTails_112 rfl rfl ?_
          obtain ⟨v56, ev56, hf⟩ := job hf
          refine g_iald (pc := 113) dX8_workTails_113 sh_240 ev56 ?_
          refine g_iadd (pc := 114) dX8_workTails_114 ?_
          obtain rfl := Option.some.inj hf
          exact g_weakK (K53) ⟨rfl, ⟨rfl, ⟨rfl, ⟨rfl, trivial⟩⟩⟩⟩
        · replace hf := jifn hc57 hf
          refine g_iconst (pc := 98) 0 dX8_workTails_98 rfl ?_
          refine g_goto (pc := 99) 115 dX8_workTails_99 rfl ?_
          obtain rfl := Option.some.inj hf
          exact g_weakK (K53) ⟨rfl, ⟨rfl, ⟨rfl, ⟨rfl, trivial⟩⟩⟩⟩
      refine g_weak (lv' := [some (.ref 221), some (.int z18), some (.int ((-1))), some (.int 0), none, none, none]) ⟨rfl, ⟨rfl, ⟨rfl, ⟨rfl, trivial⟩⟩⟩⟩ ?_
      refine jLp_ind (P := fun ((z27, z28) : Int32 × Int32) => jGG μ_X8_workTails 3 37 [some (.ref 221), some (.int z18), some (.int z27), some (.int z28), none, none, none] [] M19 (fun M' r' => M' = Mz ∧ r' = none)) ?_ N _ y22
      rintro ⟨z27, z28⟩ x_26 hf ih25 hx24
      show jGG μ_X8_workTails 3 37 [some (.ref 221), some (.int z18), some (.int z27), some (.int z28), none, none, none] [] M19 (fun M' r' => M' = Mz ∧ r' = none)
      refine g_iload_n (pc := 37) dX8_workTails_37 rfl rfl ?_
      refine g_aload_n (pc := 38) dX8_workTails_38 rfl rfl ?_
      refine g_getI (pc := 39) dX8_workTails_39 fl_X8_143 sh_221 rfl ?_
      refine g_icmp_ge (pc := 42) 81 dX8_workTails_42 rfl (fun hc47 => ?_) (fun hc47 => ?_)
      · replace hf := jifp hc47 hf
        have hf := hx24 _ (Option.some.inj hf).symm
        obtain rfl := hf
        exact g_weakK K23 ⟨rfl, ⟨rfl, ⟨rfl, trivial⟩⟩⟩
      · replace hf := jifn hc47 hf
        refine g_aload_n (pc := 45) dX8_workTails_45 rfl rfl ?_
        refine g_getR (pc := 46) dX8_workTails_46 fl_X8_58 sh_221 rfl ?_
        refine g_iload_n (pc := 49) dX8_workTails_49 rfl rfl ?_
        obtain ⟨v30, ev30, hf⟩ := job hf
        refine g_bald (pc := 50) dX8_workTails_50 sh_238 ev30 ?_
        obtain ⟨u46, hf, hy32⟩ := job hf
        have K34 : jGG μ_X8_workTails 3 75 [some (.ref 221), some (.int z18), some (.int u46), some (.int z28), none, none, none] [] M19 (fun M' r' => M' = Mz ∧ r' = none) := by
          replace hf := hy32
          refine g_iinc (pc := 75) (lv' := [some (.ref 221), some (.int z18), some (.int u46), some (.int (z28 + 1)), none, none, none]) (z28 + 1) dX8_workTails_75 rfl rfl (by decide) rfl ?_
          refine g_goto (pc := 78) 37 dX8_workTails_78 rfl ?_
          have hih : jGG μ_X8_workTails 3 37 [some (.ref 221), some (.int z18), some (.int u46), some (.int (z28 + 1)), none, none, none] [] M19 (fun M' r' => M' = Mz ∧ r' = none) := ih25 (u46, z28 + 1) (Option.some.inj hf).symm
          exact g_weakK hih ⟨rfl, ⟨rfl, ⟨rfl, ⟨rfl, trivial⟩⟩⟩⟩
        refine g_if_ne (pc := 51) 75 dX8_workTails_51 rfl (fun hc45 => ?_) (fun hc45 => ?_)
        · replace hf := jifn hc45 hf
          obtain rfl := Option.some.inj hf
          exact g_weakK (K34) ⟨rfl, ⟨rfl, ⟨rfl, ⟨rfl, trivial⟩⟩⟩⟩
        · replace hf := jifp hc45 hf
          refine g_iload_n (pc := 54) dX8_workTails_54 rfl rfl ?_
          obtain ⟨y38, hf, hy37⟩ := jcb hf
          have K39 : y38 = Sum.inr () → jGG μ_X8_workTails 3 73 [some (.ref 221), some (.int z18), none, some (.int z28), none, none, none] [] M19 (fun M' r' => M' = Mz ∧ r' = none) := by
            intro hyy
            subst hyy
            replace hf := hy37
            refine g_iload_n (pc := 73) dX8_workTails_73 rfl rfl ?_
            refine g_istore_n (pc := 74) (lv' := [some (.ref 221), some (.int z18), some (.int z28), some (.int z28), none, none, none]) dX8_workTails_74 rfl (by decide) rfl ?_
            obtain rfl := Option.some.inj hf
            exact g_weakK (K34) ⟨rfl, ⟨rfl, ⟨rfl, ⟨rfl, trivial⟩⟩⟩⟩
          refine g_if_lt (pc := 55) 73 dX8_workTails_55 rfl (fun hc44 => ?_) (fun hc44 => ?_)
          · replace hf := jifp hc44 hf
            exact g_weakK (K39 (Option.some.inj hf).symm) ⟨rfl, ⟨rfl, ⟨rfl, trivial⟩⟩⟩
          · replace hf := jifn hc44 hf
            refine g_aload_n (pc := 58) dX8_workTails_58 rfl rfl ?_
            refine g_getR (pc := 59) dX8_workTails_59 fl_X8_55 sh_221 rfl ?_
            refine g_iload_n (pc := 62) dX8_workTails_62 rfl rfl ?_
            obtain ⟨v41, ev41, hf⟩ := job hf
            refine g_iald (pc := 63) dX8_workTails_63 sh_237 ev41 ?_
            refine g_aload_n (pc := 64) dX8_workTails_64 rfl rfl ?_
            refine g_getR (pc := 65) dX8_workTails_65 fl_X8_55 sh_221 rfl ?_
            refine g_iload_n (pc := 68) dX8_workTails_68 rfl rfl ?_
            obtain ⟨v42, ev42, hf⟩ := job hf
            refine g_iald (pc := 69) dX8_workTails_69 sh_237 ev42 ?_
            refine g_icmp_le (pc := 70) 75 dX8_workTails_70 rfl (fun hc43 => ?_) (fun hc43 => ?_)
            · replace hf := jifp hc43 hf
              obtain rfl := Option.some.inj hf
              replace hf := hy37
              obtain rfl := Option.some.inj hf
              exact g_weakK (K34) ⟨rfl, ⟨rfl, ⟨rfl, ⟨rfl, trivial⟩⟩⟩⟩
            · replace hf := jifn hc43 hf
              exact g_weakK (K39 (Option.some.inj hf).symm) ⟨rfl, ⟨rfl, ⟨rfl, trivial⟩⟩⟩
  refine g_weak (lv' := [some (.ref 221), some (.int 0), none, none, none, none, none]) ⟨rfl, ⟨rfl, trivial⟩⟩ ?_
  refine jLp_ind (P := fun ((z7, M8) : Int32 × JMem) => jGG μ_X8_workTails 3 2 [some (.ref 221), some (.int z7), none, none, none, none, none] [] M8 (fun M' r' => M' = Mz ∧ r' = none)) ?_ N _ y2
  rintro ⟨z7, M8⟩ x_6 hf ih5 hx4
  show jGG μ_X8_workTails 3 2 [some (.ref 221), some (.int z7), none, none, none, none, none] [] M8 (fun M' r' => M' = Mz ∧ r' = none)
  refine g_iload_n (pc := 2) dX8_workTails_2 rfl rfl ?_
  refine g_aload_n (pc := 3) dX8_workTails_3 rfl rfl ?_
  refine g_getI (pc := 4) dX8_workTails_4 fl_X8_143 sh_221 rfl ?_
  refine g_icmp_ge (pc := 7) 23 dX8_workTails_7 rfl (fun hc11 => ?_) (fun hc11 => ?_)
  · replace hf := jifp hc11 hf
    have hf := hx4 _ (Option.some.inj hf).symm
    obtain rfl := hf
    exact g_weakK K3 ⟨rfl, trivial⟩
  · replace hf := jifn hc11 hf
    refine g_aload_n (pc := 10) dX8_workTails_10 rfl rfl ?_
    refine g_getR (pc := 11) dX8_workTails_11 fl_X8_58 sh_221 rfl ?_
    refine g_iload_n (pc := 14) dX8_workTails_14 rfl rfl ?_
    refine g_iconst (pc := 15) 0 dX8_workTails_15 rfl ?_
    obtain ⟨M10, eM10, hf⟩ := job hf
    refine g_bast (pc := 16) dX8_workTails_16 sh_238 (Or.inl rfl) eM10 ?_
    refine g_iinc (pc := 17) (lv' := [some (.ref 221), some (.int (z7 + 1)), none, none, none, none, none]) (z7 + 1) dX8_workTails_17 rfl rfl (by decide) rfl ?_
    refine g_goto (pc := 20) 2 dX8_workTails_20 rfl ?_
    have hih : jGG μ_X8_workTails 3 2 [some (.ref 221), some (.int (z7 + 1)), none, none, none, none, none] [] M10 (fun M' r' => M' = Mz ∧ r' = none) := ih5 (z7 + 1, M10) (Option.some.inj hf).symm
    exact g_weakK hih ⟨rfl, ⟨rfl, trivial⟩⟩
def f_X8_hasTails (N : Nat) (M : JMem) : Option (JMem × Int32) := (f_X8_isSimple N M).bind fun v1 => (if v1 = 0 then some (M, 0) else (f_X8_work N M).bind fun (M2, v3) => (if v3 = 0 then some (M2, 0) else (f_X8_workTails N M2).bind fun M4 => some (M4, 1)))
set_option maxHeartbeats 4000000 in
theorem c_X8_hasTails {N : Nat} {M : JMem} {Mz : JMem} {r : Int32} (hf : f_X8_hasTails N M = some (Mz, r)) : jCo yX8_hasTails μ_X8_hasTails 4 M [.ref 221] Mz (some (.int r)) := by
  refine jCt_of (by decide +kernel) rfl (by simp [Value.category]) (Nat.le_of_ble_eq_true rfl) ?_
  unfold f_X8_hasTails at hf
  show jGG μ_X8_hasTails 4 0 [some (.ref 221)] [] M (fun M' r' => M' = Mz ∧ r' = some (.int r))
  refine g_aload_n (pc := 0) dX8_hasTails_0 rfl rfl ?_
  obtain ⟨v1, ev1, hf⟩ := job hf
  refine g_callV (pc := 1) [] [] dX8_hasTails_1 ml_X8_161 ck_X8_isSimple cv_X8_isSimple sh_221 rfl (by decide) (Nat.le_of_ble_eq_true rfl) (c_X8_isSimple ev1) ?_
  show jGG μ_X8_hasTails 4 4 [some (.ref 221)] [.int v1] M (fun M' r' => M' = Mz ∧ r' = some (.int r))
  refine g_if_eq (pc := 4) 14 dX8_hasTails_4 rfl (fun hc6 => ?_) (fun hc6 => ?_)
  · replace hf := jifp hc6 hf
    refine g_iconst (pc := 14) 0 dX8_hasTails_14 rfl ?_
    obtain ⟨rfl, rfl⟩ := Prod.mk.inj (Option.some.inj hf)
    exact g_zret (pc := 15) dX8_hasTails_15 rfl (Or.inl rfl) ⟨rfl, rfl⟩
  · replace hf := jifn hc6 hf
    refine g_aload_n (pc := 7) dX8_hasTails_7 rfl rfl ?_
    obtain ⟨⟨M2, v3⟩, ev3, hf⟩ := job hf
    refine g_callV (pc := 8) [] [] dX8_hasTails_8 ml_X8_192 ck_X8_work cv_X8_work sh_221 rfl (by decide) (Nat.le_of_ble_eq_true rfl) (c_X8_work ev3) ?_
    show jGG μ_X8_hasTails 4 11 [some (.ref 221)] [.int v3] M2 (fun M' r' => M' = Mz ∧ r' = some (.int r))
    refine g_if_ne (pc := 11) 16 dX8_hasTails_11 rfl (fun hc5 => ?_) (fun hc5 => ?_)
    · replace hf := jifn hc5 hf
      refine g_aload_n (pc := 16) dX8_hasTails_16 rfl rfl ?_
      obtain ⟨M4, eM4, hf⟩ := job hf
      refine g_callV (pc := 17) [] [] dX8_hasTails_17 ml_X8_205 ck_X8_workTails cv_X8_workTails sh_221 rfl (by decide) (Nat.le_of_ble_eq_true rfl) (c_X8_workTails eM4) ?_
      show jGG μ_X8_hasTails 4 20 [some (.ref 221)] [] M4 (fun M' r' => M' = Mz ∧ r' = some (.int r))
      refine g_iconst (pc := 20) 1 dX8_hasTails_20 rfl ?_
      obtain ⟨rfl, rfl⟩ := Prod.mk.inj (Option.some.inj hf)
      exact g_zret (pc := 21) dX8_hasTails_21 rfl (Or.inr rfl) ⟨rfl, rfl⟩
    · replace hf := jifp hc5 hf
      refine g_iconst (pc := 14) 0 dX8_hasTails_14 rfl ?_
      obtain ⟨rfl, rfl⟩ := Prod.mk.inj (Option.some.inj hf)
      exact g_zret (pc := 15) dX8_hasTails_15 rfl (Or.inl rfl) ⟨rfl, rfl⟩
