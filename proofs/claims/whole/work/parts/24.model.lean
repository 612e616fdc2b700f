def f_X8_cutBound (N : Nat) (M : JMem) : Option (JMem × Int32) := ((jLp (σ := Int32 × Int32 × Int32 × JMem) (ρ := Int32 × JMem) N (fun ((z7, z8, z9, M10) : Int32 × Int32 × Int32 × JMem) => (if z9 ≤ 0 then some (Sum.inr (z8, M10)) else ((jLp (σ := Int32 × Int32 × Int32) (ρ := Int32 × Int32) N (fun ((z19, z20, z21) : Int32 × Int32 × Int32) => (if (M10 221 36) ≤ z21 then some (Sum.inr (z19, z20)) else (jrd M10 248 32 z21).bind fun v24 => (jrd M10 251 32 v24).bind fun v25 => (((jcase (α := Int32 × Int32) (β := Unit) (if v25 ≤ 0 then some (Sum.inr ()) else (jrd M10 249 32 v24).bind fun v36 => (if z7 < v36 then some (Sum.inr ()) else (((jcase (α := Int32) (β := Unit) (if z19 < 0 then some (Sum.inr ()) else (jrd M10 250 32 v24).bind fun v47 => (jrd M10 250 32 z19).bind fun v48 => (if v47 ≤ v48 then some (Sum.inl (z19)) else some (Sum.inr ()))) fun _ => some (v24)) : Option (Int32)).bind fun u51 => some (Sum.inl ((u51, z20)))))) fun _ => (jrd M10 251 32 v24).bind fun v54 => (if v54 ≤ 0 then some ((z19, z20)) else (jrd M10 249 32 v24).bind fun v55 => (((if z20 ≤ v55 then some (z20) else (jrd M10 249 32 v24).bind fun v61 => some (v61)) : Option (Int32)).bind fun u63 => some ((z19, u63))))) : Option (Int32 × Int32)).bind fun (u65, u66) => some (Sum.inl (u65, u66, z21 + 1))))) ((-1), 1000000, 0)).bind fun (t22, t23) => (if 0 ≤ t22 then (jrd M10 251 32 t22).bind fun v68 => (((if t23 ≤ (z7 + v68) then some (t23) else (jrd M10 251 32 t22).bind fun v74 => some ((z7 + v74))) : Option (Int32)).bind fun u76 => (jrd M10 251 32 t22).bind fun v77 => (jwr M10 251 32 t22 (v77 - (u76 - z7))).bind fun M78 => (jrd M78 251 32 t22).bind fun v79 => (((if v79 = 0 then (jrd M78 250 32 t22).bind fun v85 => (((if (u76 + v85) ≤ z8 then some (z8) else (jrd M78 250 32 t22).bind fun v91 => some ((u76 + v91))) : Option (Int32)).bind fun u93 => some ((u93, z9 + (-1)))) else some ((z8, z9))) : Option (Int32 × Int32)).bind fun (u95, u96) => some (Sum.inl (u76, u95, u96, M78)))) else some (Sum.inl (t23, z8, z9, M10)))))) (0, 0, M 221 36, M)).bind fun (t11, t12) => some (t12, t11))
set_option maxHeartbeats 4000000 in
theorem c_X8_cutBound {N : Nat} {M : JMem} {Mz : JMem} {r : Int32} (hf : f_X8_cutBound N M = some (Mz, r)) : jCo yX8_cutBound μ_X8_cutBound 1 M [.ref 221] Mz (some (.int r)) := by
  refine jCt_of (by decide +kernel) rfl (by simp [Value.category]) (Nat.le_of_ble_eq_true rfl) ?_
  unfold f_X8_cutBound at hf
  show jGG μ_X8_cutBound 1 0 [some (.ref 221), none, none, none, none, none, none, none] [] M (fun M' r' => M' = Mz ∧ r' = some (.int r))
  refine g_iconst (pc := 0) 0 dX8_cutBound_0 rfl ?_
  refine g_istore_n (pc := 1) (lv' := [some (.ref 221), some (.int 0), none, none, none, none, none, none]) dX8_cutBound_1 rfl (by decide) rfl ?_
  refine g_iconst (pc := 2) 0 dX8_cutBound_2 rfl ?_
  refine g_istore_n (pc := 3) (lv' := [some (.ref 221), some (.int 0), some (.int 0), none, none, none, none, none]) dX8_cutBound_3 rfl (by decide) rfl ?_
  refine g_aload_n (pc := 4) dX8_cutBound_4 rfl rfl ?_
  refine g_getI (pc := 5) dX8_cutBound_5 fl_X8_285 sh_221 rfl ?_
  refine g_istore_n (pc := 8) (lv' := [some (.ref 221), some (.int 0), some (.int 0), some (.int (M 221 36)), none, none, none, none]) dX8_cutBound_8 rfl (by decide) rfl ?_
  obtain ⟨⟨t11, t12⟩, y2, hy1⟩ := job hf
  have K3 : jGG μ_X8_cutBound 1 240 [none, none, some (.int t11), none, none, none, none, none] [] t12 (fun M' r' => M' = Mz ∧ r' = some (.int r)) := by
    replace hf := hy1
    refine g_iload_n (pc := 240) dX8_cutBound_240 rfl rfl ?_
    obtain ⟨rfl, rfl⟩ := Prod.mk.inj (Option.some.inj hf)
    exact g_iret (pc := 241) dX8_cutBound_241 rfl ⟨rfl, rfl⟩
  refine g_weak (lv' := [some (.ref 221), some (.int 0), some (.int 0), some (.int (M 221 36)), none, none, none, none]) ⟨rfl, ⟨rfl, ⟨rfl, ⟨rfl, trivial⟩⟩⟩⟩ ?_
  refine jLp_ind (P := fun ((z7, z8, z9, M10) : Int32 × Int32 × Int32 × JMem) => jGG μ_X8_cutBound 1 9 [some (.ref 221), some (.int z7), some (.int z8), some (.int z9), none, none, none, none] [] M10 (fun M' r' => M' = Mz ∧ r' = some (.int r))) ?_ N _ y2
  rintro ⟨z7, z8, z9, M10⟩ x_6 hf ih5 hx4
  show jGG μ_X8_cutBound 1 9 [some (.ref 221), some (.int z7), some (.int z8), some (.int z9), none, none, none, none] [] M10 (fun M' r' => M' = Mz ∧ r' = some (.int r))
  refine g_iload_n (pc := 9) dX8_cutBound_9 rfl rfl ?_
  refine g_if_le (pc := 10) 240 dX8_cutBound_10 rfl (fun hc98 => ?_) (fun hc98 => ?_)
  · replace hf := jifp hc98 hf
    have hf := hx4 _ (Option.some.inj hf).symm
    obtain ⟨rfl, rfl⟩ := jp2 hf
    exact g_weakK K3 ⟨rfl, trivial⟩
  · replace hf := jifn hc98 hf
    refine g_iconst (pc := 13) (-1) dX8_cutBound_13 rfl ?_
    refine g_istore (pc := 14) (lv' := [some (.ref 221), some (.int z7), some (.int z8), some (.int z9), some (.int ((-1))), none, none, none]) dX8_cutBound_14 (by decide) rfl ?_
    refine g_ldcw (pc := 16) 1000000 dX8_cutBound_16 lc_X8_288 ?_
    refine g_istore (pc := 19) (lv' := [some (.ref 221), some (.int z7), some (.int z8), some (.int z9), some (.int ((-1))), some (.int 1000000), none, none]) dX8_cutBound_19 (by decide) rfl ?_
    refine g_iconst (pc := 21) 0 dX8_cutBound_21 rfl ?_
    refine g_istore (pc := 22) (lv' := [some (.ref 221), some (.int z7), some (.int z8), some (.int z9), some (.int ((-1))), some (.int 1000000), some (.int 0), none]) dX8_cutBound_22 (by decide) rfl ?_
    obtain ⟨⟨t22, t23⟩, y14, hy13⟩ := job hf
    have K15 : jGG μ_X8_cutBound 1 139 [some (.ref 221), some (.int z7), some (.int z8), some (.int z9), some (.int t22), some (.int t23), none, none] [] M10 (fun M' r' => M' = Mz ∧ r' = some (.int r)) := by
      replace hf := hy13
      refine g_iload (pc := 139) dX8_cutBound_139 rfl ?_
      refine g_if_ge (pc := 141) 150 dX8_cutBound_141 rfl (fun hc97 => ?_) (fun hc97 => ?_)
      · replace hf := jifp hc97 hf
        refine g_iload_n (pc := 150) dX8_cutBound_150 rfl rfl ?_
        refine g_aload_n (pc := 151) dX8_cutBound_151 rfl rfl ?_
        refine g_getR (pc := 152) dX8_cutBound_152 fl_X8_98 sh_221 rfl ?_
        refine g_iload (pc := 155) dX8_cutBound_155 rfl ?_
        obtain ⟨v68, ev68, hf⟩ := job hf
        refine g_iald (pc := 157) dX8_cutBound_157 sh_251 ev68 ?_
        refine g_iadd (pc := 158) dX8_cutBound_158 ?_
        refine g_iload (pc := 159) dX8_cutBound_159 rfl ?_
        obtain ⟨u76, hf, hy70⟩ := job hf
        have K72 : jGG μ_X8_cutBound 1 178 [some (.ref 221), some (.int z7), some (.int z8), some (.int z9), some (.int t22), none, none, none] [.int u76] M10 (fun M' r' => M' = Mz ∧ r' = some (.int r)) := by
          replace hf := hy70
          refine g_istore (pc := 178) (lv' := [some (.ref 221), some (.int z7), some (.int z8), some (.int z9), some (.int t22), none, some (.int u76), none]) dX8_cutBound_178 (by decide) rfl ?_
          refine g_aload_n (pc := 180) dX8_cutBound_180 rfl rfl ?_
          refine g_getR (pc := 181) dX8_cutBound_181 fl_X8_98 sh_221 rfl ?_
          refine g_iload (pc := 184) dX8_cutBound_184 rfl ?_
          refine g_dup2 (pc := 186) dX8_cutBound_186 rfl rfl ?_
          obtain ⟨v77, ev77, hf⟩ := job hf
          refine g_iald (pc := 187) dX8_cutBound_187 sh_251 ev77 ?_
          refine g_iload (pc := 188) dX8_cutBound_188 rfl ?_
          refine g_iload_n (pc := 190) dX8_cutBound_190 rfl rfl ?_
          refine g_isub (pc := 191) dX8_cutBound_191 ?_
          refine g_isub (pc := 192) dX8_cutBound_192 ?_
          obtain ⟨M78, eM78, hf⟩ := job hf
          refine g_iast (pc := 193) dX8_cutBound_193 sh_251 eM78 ?_
          refine g_iload (pc := 194) dX8_cutBound_194 rfl ?_
          refine g_istore_n (pc := 196) (lv' := [some (.ref 221), some (.int u76), some (.int z8), some (.int z9), some (.int t22), none, some (.int u76), none]) dX8_cutBound_196 rfl (by decide) rfl ?_
          refine g_aload_n (pc := 197) dX8_cutBound_197 rfl rfl ?_
          refine g_getR (pc := 198) dX8_cutBound_198 fl_X8_98 sh_221 rfl ?_
          refine g_iload (pc := 201) dX8_cutBound_201 rfl ?_
          obtain ⟨v79, ev79, hf⟩ := job hf
          refine g_iald (pc := 203) dX8_cutBound_203 sh_251 ev79 ?_
          obtain ⟨⟨u95, u96⟩, hf, hy81⟩ := job hf
          have K83 : jGG μ_X8_cutBound 1 237 [some (.ref 221), some (.int u76), some (.int u95), some (.int u96), none, none, none, none] [] M78 (fun M' r' => M' = Mz ∧ r' = some (.int r)) := by
            replace hf := hy81
            refine g_goto (pc := 237) 9 dX8_cutBound_237 rfl ?_
            have hih : jGG μ_X8_cutBound 1 9 [some (.ref 221), some (.int u76), some (.int u95), some (.int u96), none, none, none, none] [] M78 (fun M' r' => M' = Mz ∧ r' = some (.int r)) := ih5 (u76, u95, u96, M78) (Option.some.inj hf).symm
            exact g_weakK hih ⟨rfl, ⟨rfl, ⟨rfl, ⟨rfl, trivial⟩⟩⟩⟩
          refine g_if_ne (pc := 204) 237 dX8_cutBound_204 rfl (fun hc94 => ?_) (fun hc94 => ?_)
          · replace hf := jifn hc94 hf
            obtain ⟨rfl, rfl⟩ := jp2 (Option.some.inj hf)
            exact g_weakK (K83) ⟨rfl, ⟨rfl, ⟨rfl, ⟨rfl, trivial⟩⟩⟩⟩
          · replace hf := jifp hc94 hf
            refine g_iinc (pc := 207) (lv' := [some (.ref 221), some (.int u76), some (.int z8), some (.int (z9 + (-1))), some (.int t22), none, some (.int u76), none]) (z9 + (-1)) dX8_cutBound_207 rfl rfl (by decide) rfl ?_
            refine g_iload_n (pc := 210) dX8_cutBound_210 rfl rfl ?_
            refine g_aload_n (pc := 211) dX8_cutBound_211 rfl rfl ?_
            refine g_getR (pc := 212) dX8_cutBound_212 fl_X8_95 sh_221 rfl ?_
            refine g_iload (pc := 215) dX8_cutBound_215 rfl ?_
            obtain ⟨v85, ev85, hf⟩ := job hf
            refine g_iald (pc := 217) dX8_cutBound_217 sh_250 ev85 ?_
            refine g_iadd (pc := 218) dX8_cutBound_218 ?_
            refine g_iload_n (pc := 219) dX8_cutBound_219 rfl rfl ?_
            obtain ⟨u93, hf, hy87⟩ := job hf
            have K89 : jGG μ_X8_cutBound 1 236 [some (.ref 221), some (.int u76), none, some (.int (z9 + (-1))), none, none, none, none] [.int u93] M78 (fun M' r' => M' = Mz ∧ r' = some (.int r)) := by
              replace hf := hy87
              refine g_istore_n (pc := 236) (lv' := [some (.ref 221), some (.int u76), some (.int u93), some (.int (z9 + (-1))), none, none, none, none]) dX8_cutBound_236 rfl (by decide) rfl ?_
              obtain ⟨rfl, rfl⟩ := jp2 (Option.some.inj hf)
              exact g_weakK (K83) ⟨rfl, ⟨rfl, ⟨rfl, ⟨rfl, trivial⟩⟩⟩⟩
            refine g_icmp_le (pc := 220) 235 dX8_cutBound_220 rfl (fun hc92 => ?_) (fun hc92 => ?_)
            · replace hf := jifp hc92 hf
              refine g_iload_n (pc := 235) dX8_cutBound_235 rfl rfl ?_
              obtain rfl := Option.some.inj hf
              exact g_weakK (K89) ⟨rfl, ⟨rfl, ⟨rfl, trivial⟩⟩⟩
            · replace hf := jifn hc92 hf
              refine g_iload_n (pc := 223) dX8_cutBound_223 rfl rfl ?_
              refine g_aload_n (pc := 224) dX8_cutBound_224 rfl rfl ?_
              refine g_getR (pc := 225) dX8_cutBound_225 fl_X8_95 sh_221 rfl ?_
              refine g_iload (pc := 228) dX8_cutBound_228 rfl ?_
              obtain ⟨v91, ev91, hf⟩ := job hf
              refine g_iald (pc := 230) dX8_cutBound_230 sh_250 ev91 ?_
              refine g_iadd (pc := 231) dX8_cutBound_231 ?_
              refine g_goto (pc := 232) 236 dX8_cutBound_232 rfl ?_
              obtain rfl := Option.some.inj hf
              exact g_weakK (K89) ⟨rfl, ⟨rfl, ⟨rfl, trivial⟩⟩⟩
        refine g_icmp_ge (pc := 161) 176 dX8_cutBound_161 rfl (fun hc75 => ?_) (fun hc75 => ?_)
        · replace hf := jifp hc75 hf
          refine g_iload (pc := 176) dX8_cutBound_176 rfl ?_
          obtain rfl := Option.some.inj hf
          exact g_weakK (K72) ⟨rfl, ⟨rfl, ⟨rfl, ⟨rfl, ⟨rfl, trivial⟩⟩⟩⟩⟩
        · replace hf := jifn hc75 hf
          refine g_iload_n (pc := 164) dX8_cutBound_164 rfl rfl ?_
          refine g_aload_n (pc := 165) dX8_cutBound_165 rfl rfl ?_
          refine g_getR (pc := 166) dX8_cutBound_166 fl_X8_98 sh_221 rfl ?_
          refine g_iload (pc := 169) dX8_cutBound_169 rfl ?_
          obtain ⟨v74, ev74, hf⟩ := job hf
          refine g_iald (pc := 171) dX8_cutBound_171 sh_251 ev74 ?_
          refine g_iadd (pc := 172) dX8_cutBound_172 ?_
          refine g_goto (pc := 173) 178 dX8_cutBound_173 rfl ?_
          obtain rfl := Option.some.inj hf
          exact g_weakK (K72) ⟨rfl, ⟨rfl, ⟨rfl, ⟨rfl, ⟨rfl, trivial⟩⟩⟩⟩⟩
      · replace hf := jifn hc97 hf
        refine g_iload (pc := 144) dX8_cutBound_144 rfl ?_
        refine g_istore_n (pc := 146) (lv' := [some (.ref 221), some (.int t23), some (.int z8), some (.int z9), some (.int t22), some (.int t23), none, none]) dX8_cutBound_146 rfl (by decide) rfl ?_
        refine g_goto (pc := 147) 9 dX8_cutBound_147 rfl ?_
        have hih : jGG μ_X8_cutBound 1 9 [some (.ref 221), some (.int t23), some (.int z8), some (.int z9), none, none, none, none] [] M10 (fun M' r' => M' = Mz ∧ r' = some (.int r)) := ih5 (t23, z8, z9, M10) (Option.some.inj hf).symm
        exact g_weakK hih ⟨rfl, ⟨rfl, ⟨rfl, ⟨rfl, trivial⟩⟩⟩⟩
    refine g_weak (lv' := [some (.ref 221), some (.int z7), some (.int z8), some (.int z9), some (.int ((-1))), some (.int 1000000), some (.int 0), none]) ⟨rfl, ⟨rfl, ⟨rfl, ⟨rfl, ⟨rfl, ⟨rfl, ⟨rfl, trivial⟩⟩⟩⟩⟩⟩⟩ ?_
    refine jLp_ind (P := fun ((z19, z20, z21) : Int32 × Int32 × Int32) => jGG μ_X8_cutBound 1 24 [some (.ref 221), some (.int z7), some (.int z8), some (.int z9), some (.int z19), some (.int z20), some (.int z21), none] [] M10 (fun M' r' => M' = Mz ∧ r' = some (.int r))) ?_ N _ y14
    rintro ⟨z19, z20, z21⟩ x_18 hf ih17 hx16
    show jGG μ_X8_cutBound 1 24 [some (.ref 221), some (.int z7), some (.int z8), some (.int z9), some (.int z19), some (.int z20), some (.int z21), none] [] M10 (fun M' r' => M' = Mz ∧ r' = some (.int r))
    refine g_iload (pc := 24) dX8_cutBound_24 rfl ?_
    refine g_aload_n (pc := 26) dX8_cutBound_26 rfl rfl ?_
    refine g_getI (pc := 27) dX8_cutBound_27 fl_X8_285 sh_221 rfl ?_
    refine g_icmp_ge (pc := 30) 139 dX8_cutBound_30 rfl (fun hc67 => ?_) (fun hc67 => ?_)
    · replace hf := jifp hc67 hf
      have hf := hx16 _ (Option.some.inj hf).symm
      obtain ⟨rfl, rfl⟩ := jp2 hf
      exact g_weakK K15 ⟨rfl, ⟨rfl, ⟨rfl, ⟨rfl, ⟨rfl, ⟨rfl, trivial⟩⟩⟩⟩⟩⟩
    · replace hf := jifn hc67 hf
      refine g_aload_n (pc := 33) dX8_cutBound_33 rfl rfl ?_
      refine g_getR (pc := 34) dX8_cutBound_34 fl_X8_89 sh_221 rfl ?_
      refine g_iload (pc := 37) dX8_cutBound_37 rfl ?_
      obtain ⟨v24, ev24, hf⟩ := job hf
      refine g_iald (pc := 39) dX8_cutBound_39 sh_248 ev24 ?_
      refine g_istore (pc := 40) (lv' := [some (.ref 221), some (.int z7), some (.int z8), some (.int z9), some (.int z19), some (.int z20), some (.int z21), some (.int v24)]) dX8_cutBound_40 (by decide) rfl ?_
      refine g_aload_n (pc := 42) dX8_cutBound_42 rfl rfl ?_
      refine g_getR (pc := 43) dX8_cutBound_43 fl_X8_98 sh_221 rfl ?_
      refine g_iload (pc := 46) dX8_cutBound_46 rfl ?_
      obtain ⟨v25, ev25, hf⟩ := job hf
      refine g_iald (pc := 48) dX8_cutBound_48 sh_251 ev25 ?_
      obtain ⟨⟨u65, u66⟩, hf, hy27⟩ := job hf
      have K29 : jGG μ_X8_cutBound 1 133 [some (.ref 221), some (.int z7), some (.int z8), some (.int z9), some (.int u65), some (.int u66), some (.int z21), none] [] M10 (fun M' r' => M' = Mz ∧ r' = some (.int r)) := by
        replace hf := hy27
        refine g_iinc (pc := 133) (lv' := [some (.ref 221), some (.int z7), some (.int z8), some (.int z9), some (.int u65), some (.int u66), some (.int (z21 + 1)), none]) (z21 + 1) dX8_cutBound_133 rfl rfl (by decide) rfl ?_
        refine g_goto (pc := 136) 24 dX8_cutBound_136 rfl ?_
        have hih : jGG μ_X8_cutBound 1 24 [some (.ref 221), some (.int z7), some (.int z8), some (.int z9), some (.int u65), some (.int u66), some (.int (z21 + 1)), none] [] M10 (fun M' r' => M' = Mz ∧ r' = some (.int r)) := ih17 (u65, u66, z21 + 1) (Option.some.inj hf).symm
        exact g_weakK hih ⟨rfl, ⟨rfl, ⟨rfl, ⟨rfl, ⟨rfl, ⟨rfl, ⟨rfl, trivial⟩⟩⟩⟩⟩⟩⟩
      obtain ⟨y33, hf, hy32⟩ := jcb hf
      have K34 : y33 = Sum.inr () → jGG μ_X8_cutBound 1 97 [some (.ref 221), some (.int z7), some (.int z8), some (.int z9), some (.int z19), some (.int z20), some (.int z21), some (.int v24)] [] M10 (fun M' r' => M' = Mz ∧ r' = some (.int r)) := by
        intro hyy
        subst hyy
        replace hf := hy32
        refine g_aload_n (pc := 97) dX8_cutBound_97 rfl rfl ?_
        refine g_getR (pc := 98) dX8_cutBound_98 fl_X8_98 sh_221 rfl ?_
        refine g_iload (pc := 101) dX8_cutBound_101 rfl ?_
        obtain ⟨v54, ev54, hf⟩ := job hf
        refine g_iald (pc := 103) dX8_cutBound_103 sh_251 ev54 ?_
        refine g_if_le (pc := 104) 133 dX8_cutBound_104 rfl (fun hc64 => ?_) (fun hc64 => ?_)
        · replace hf := jifp hc64 hf
          obtain ⟨rfl, rfl⟩ := jp2 (Option.some.inj hf)
          exact g_weakK (K29) ⟨rfl, ⟨rfl, ⟨rfl, ⟨rfl, ⟨rfl, ⟨rfl, ⟨rfl, trivial⟩⟩⟩⟩⟩⟩⟩
        · replace hf := jifn hc64 hf
          refine g_aload_n (pc := 107) dX8_cutBound_107 rfl rfl ?_
          refine g_getR (pc := 108) dX8_cutBound_108 fl_X8_92 sh_221 rfl ?_
          refine g_iload (pc := 111) dX8_cutBound_111 rfl ?_
          obtain ⟨v55, ev55, hf⟩ := job hf
          refine g_iald (pc := 113) dX8_cutBound_113 sh_249 ev55 ?_
          refine g_iload (pc := 114) dX8_cutBound_114 rfl ?_
          obtain ⟨u63, hf, hy57⟩ := job hf
          have K59 : jGG μ_X8_cutBound 1 131 [some (.ref 221), some (.int z7), some (.int z8), some (.int z9), some (.int z19), none, some (.int z21), none] [.int u63] M10 (fun M' r' => M' = Mz ∧ r' = some (.int r)) := by
            replace hf := hy57
            refine g_istore (pc := 131) (lv' := [some (.ref 221), some (.int z7), some (.int z8), some (.int z9), some (.int z19), some (.int u63), some (.int z21), none]) dX8_cutBound_131 (by decide) rfl ?_
            obtain ⟨rfl, rfl⟩ := jp2 (Option.some.inj hf)
            exact g_weakK (K29) ⟨rfl, ⟨rfl, ⟨rfl, ⟨rfl, ⟨rfl, ⟨rfl, ⟨rfl, trivial⟩⟩⟩⟩⟩⟩⟩
          refine g_icmp_ge (pc := 116) 129 dX8_cutBound_116 rfl (fun hc62 => ?_) (fun hc62 => ?_)
          · replace hf := jifp hc62 hf
            refine g_iload (pc := 129) dX8_cutBound_129 rfl ?_
            obtain rfl := Option.some.inj hf
            exact g_weakK (K59) ⟨rfl, ⟨rfl, ⟨rfl, ⟨rfl, ⟨rfl, ⟨rfl, trivial⟩⟩⟩⟩⟩⟩
          · replace hf := jifn hc62 hf
            refine g_aload_n (pc := 119) dX8_cutBound_119 rfl rfl ?_
            refine g_getR (pc := 120) dX8_cutBound_120 fl_X8_92 sh_221 rfl ?_
            refine g_iload (pc := 123) dX8_cutBound_123 rfl ?_
            obtain ⟨v61, ev61, hf⟩ := job hf
            refine g_iald (pc := 125) dX8_cutBound_125 sh_249 ev61 ?_
            refine g_goto (pc := 126) 131 dX8_cutBound_126 rfl ?_
            obtain rfl := Option.some.inj hf
            exact g_weakK (K59) ⟨rfl, ⟨rfl, ⟨rfl, ⟨rfl, ⟨rfl, ⟨rfl, trivial⟩⟩⟩⟩⟩⟩
      refine g_if_le (pc := 49) 97 dX8_cutBound_49 rfl (fun hc53 => ?_) (fun hc53 => ?_)
      · replace hf := jifp hc53 hf
        exact g_weakK (K34 (Option.some.inj hf).symm) ⟨rfl, ⟨rfl, ⟨rfl, ⟨rfl, ⟨rfl, ⟨rfl, ⟨rfl, ⟨rfl, trivial⟩⟩⟩⟩⟩⟩⟩⟩
      · replace hf := jifn hc53 hf
        refine g_aload_n (pc := 52) dX8_cutBound_52 rfl rfl ?_
        refine g_getR (pc := 53) dX8_cutBound_53 fl_X8_92 sh_221 rfl ?_
        refine g_iload (pc := 56) dX8_cutBound_56 rfl ?_
        obtain ⟨v36, ev36, hf⟩ := job hf
        refine g_iald (pc := 58) dX8_cutBound_58 sh_249 ev36 ?_
        refine g_iload_n (pc := 59) dX8_cutBound_59 rfl rfl ?_
        refine g_icmp_gt (pc := 60) 97 dX8_cutBound_60 rfl (fun hc52 => ?_) (fun hc52 => ?_)
        · replace hf := jifp hc52 hf
          exact g_weakK (K34 (Option.some.inj hf).symm) ⟨rfl, ⟨rfl, ⟨rfl, ⟨rfl, ⟨rfl, ⟨rfl, ⟨rfl, ⟨rfl, trivial⟩⟩⟩⟩⟩⟩⟩⟩
        · replace hf := jifn hc52 hf
          refine g_iload (pc := 63) dX8_cutBound_63 rfl ?_
          obtain ⟨u51, hf, hy38⟩ := job hf
          have K40 : jGG μ_X8_cutBound 1 92 [some (.ref 221), some (.int z7), some (.int z8), some (.int z9), none, some (.int z20), some (.int z21), none] [.int u51] M10 (fun M' r' => M' = Mz ∧ r' = some (.int r)) := by
            replace hf := hy38
            refine g_istore (pc := 92) (lv' := [some (.ref 221), some (.int z7), some (.int z8), some (.int z9), some (.int u51), some (.int z20), some (.int z21), none]) dX8_cutBound_92 (by decide) rfl ?_
            refine g_goto (pc := 94) 133 dX8_cutBound_94 rfl ?_
            obtain rfl := Option.some.inj hf
            replace hf := hy32
            obtain ⟨rfl, rfl⟩ := jp2 (Option.some.inj hf)
            exact g_weakK (K29) ⟨rfl, ⟨rfl, ⟨rfl, ⟨rfl, ⟨rfl, ⟨rfl, ⟨rfl, trivial⟩⟩⟩⟩⟩⟩⟩
          obtain ⟨y44, hf, hy43⟩ := jcb hf
          have K45 : y44 = Sum.inr () → jGG μ_X8_cutBound 1 85 [some (.ref 221), some (.int z7), some (.int z8), some (.int z9), none, some (.int z20), some (.int z21), some (.int v24)] [] M10 (fun M' r' => M' = Mz ∧ r' = some (.int r)) := by
            intro hyy
            subst hyy
            replace hf := hy43
            refine g_iload (pc := 85) dX8_cutBound_85 rfl ?_
            refine g_goto (pc := 87) 92 dX8_cutBound_87 rfl ?_
            obtain rfl := Option.some.inj hf
            exact g_weakK (K40) ⟨rfl, ⟨rfl, ⟨rfl, ⟨rfl, ⟨rfl, ⟨rfl, trivial⟩⟩⟩⟩⟩⟩
          refine g_if_lt (pc := 65) 85 dX8_cutBound_65 rfl (fun hc50 => ?_) (fun hc50 => ?_)
          · replace hf := jifp hc50 hf
            exact g_weakK (K45 (Option.some.inj hf).symm) ⟨rfl, ⟨rfl, ⟨rfl, ⟨rfl, ⟨rfl, ⟨rfl, ⟨rfl, trivial⟩⟩⟩⟩⟩⟩⟩
          · replace hf := jifn hc50 hf
            refine g_aload_n (pc := 68) dX8_cutBound_68 rfl rfl ?_
            refine g_getR (pc := 69) dX8_cutBound_69 fl_X8_95 sh_221 rfl ?_
            refine g_iload (pc := 72) dX8_cutBound_72 rfl ?_
            obtain ⟨v47, ev47, hf⟩ := job hf
            refine g_iald (pc := 74) dX8_cutBound_74 sh_250 ev47 ?_
            refine g_aload_n (pc := 75) dX8_cutBound_75 rfl rfl ?_
            refine g_getR (pc := 76) dX8_cutBound_76 fl_X8_95 sh_221 rfl ?_
            refine g_iload (pc := 79) dX8_cutBound_79 rfl ?_
            obtain ⟨v48, ev48, hf⟩ := job hf
            refine g_iald (pc := 81) dX8_cutBound_81 sh_250 ev48 ?_
            refine g_icmp_le (pc := 82) 90 dX8_cutBound_82 rfl (fun hc49 => ?_) (fun hc49 => ?_)
            · replace hf := jifp hc49 hf
              refine g_iload (pc := 90) dX8_cutBound_90 rfl ?_
              obtain rfl := Option.some.inj hf
              replace hf := hy43
              obtain rfl := Option.some.inj hf
              exact g_weakK (K40) ⟨rfl, ⟨rfl, ⟨rfl, ⟨rfl, ⟨rfl, ⟨rfl, trivial⟩⟩⟩⟩⟩⟩
            · replace hf := jifn hc49 hf
              exact g_weakK (K45 (Option.some.inj hf).symm) ⟨rfl, ⟨rfl, ⟨rfl, ⟨rfl, ⟨rfl, ⟨rfl, ⟨rfl, trivial⟩⟩⟩⟩⟩⟩⟩
def f_X8_wholeBound (N : Nat) (M : JMem) : Option (JMem × Int32) := (jwr M 252 9 0 ((-1))).bind fun M1 => (jwr M1 253 9 0 0).bind fun M2 => (jwr M2 254 9 0 0).bind fun M3 => ((jLp (σ := Int32 × Int32 × Int32 × JMem) (ρ := Int32 × JMem) N (fun ((z10, z11, z12, M13) : Int32 × Int32 × Int32 × JMem) => (if z11 < 0 then some (Sum.inr (z10, M13)) else (if z11 = (M13 221 36) then (jrd M13 254 9 z11).bind fun v74 => (((if z10 ≤ v74 then some (z10) else (jrd M13 254 9 z11).bind fun v80 => some (v80)) : Option (Int32)).bind fun u82 => some (Sum.inl (u82, z11 + (-1), z12, M13))) else (jrd M13 252 9 z11).bind fun v16 => (((if v16 < 0 then some (z12) else (jrd M13 252 9 z11).bind fun v22 => some ((z12 &&& ((jshl 1 v22) ^^^ ((-1)))))) : Option (Int32)).bind fun u24 => (jrd M13 252 9 z11).bind fun v25 => ((jLp (σ := Int32) (ρ := Int32) N (fun (z32 : Int32) => (if (M13 221 36) ≤ z32 then some (Sum.inr z32) else (if ((jushr u24 z32) &&& 1) = 1 then some (Sum.inl (z32 + 1)) else some (Sum.inr z32)))) (v25 + 1)).bind fun t33 => (if t33 < (M13 221 36) then (jwr M13 252 9 z11 t33).bind fun M36 => (jrd M36 248 32 t33).bind fun v37 => (jrd M36 253 9 z11).bind fun v38 => (jrd M36 249 32 v37).bind fun v39 => (((if v38 ≤ v39 then (jrd M36 249 32 v37).bind fun v45 => some (v45) else (jrd M36 253 9 z11).bind fun v46 => some (v46)) : Option (Int32)).bind fun u48 => (jrd M36 229 32 v37).bind fun v49 => (jrd M36 250 32 v37).bind fun v50 => (jrd M36 254 9 z11).bind fun v51 => (((if ((u48 + v49) + v50) ≤ v51 then (jrd M36 254 9 z11).bind fun v57 => some (v57) else (jrd M36 250 32 v37).bind fun v58 => some (((u48 + v49) + v58))) : Option (Int32)).bind fun u60 => (((if z10 ≤ u60 then some ((z11, u24, M36)) else (jwr M36 252 9 (z11 + 1) ((-1))).bind fun M66 => (jwr M66 253 9 (z11 + 1) (u48 + v49)).bind fun M67 => (jwr M67 254 9 (z11 + 1) u60).bind fun M68 => some ((z11 + 1, u24 ||| (jshl 1 t33), M68))) : Option (Int32 × Int32 × JMem)).bind fun (u70, u71, M72) => some (Sum.inl (z10, u70, u71, M72))))) else some (Sum.inl (z10, z11 + (-1), u24, M13)))))))) (1000000000, 0, 0, M3)).bind fun (t14, t15) => some (t15, t14))
set_option maxHeartbeats 4000000 in
theorem c_X8_wholeBound {N : Nat} {M : JMem} {Mz : JMem} {r : Int32} (hf : f_X8_wholeBound N M = some (Mz, r)) : jCo yX8_wholeBound μ_X8_wholeBound 1 M [.ref 221] Mz (some (.int r)) := by
  refine jCt_of (by decide +kernel) rfl (by simp [Value.category]) (Nat.le_of_ble_eq_true rfl) ?_
  unfold f_X8_wholeBound at hf
  show jGG μ_X8_wholeBound 1 0 [some (.ref 221), none, none, none, none, none, none, none, none] [] M (fun M' r' => M' = Mz ∧ r' = some (.int r))
  refine g_ldcw (pc := 0) 1000000000 dX8_wholeBound_0 lc_X8_289 ?_
  refine g_istore_n (pc := 3) (lv' := [some (.ref 221), some (.int 1000000000), none, none, none, none, none, none, none]) dX8_wholeBound_3 rfl (by decide) rfl ?_
  refine g_iconst (pc := 4) 0 dX8_wholeBound_4 rfl ?_
  refine g_istore_n (pc := 5) (lv' := [some (.ref 221), some (.int 1000000000), some (.int 0), none, none, none, none, none, none]) dX8_wholeBound_5 rfl (by decide) rfl ?_
  refine g_iconst (pc := 6) 0 dX8_wholeBound_6 rfl ?_
  refine g_istore_n (pc := 7) (lv' := [some (.ref 221), some (.int 1000000000), some (.int 0), some (.int 0), none, none, none, none, none]) dX8_wholeBound_7 rfl (by decide) rfl ?_
  refine g_aload_n (pc := 8) dX8_wholeBound_8 rfl rfl ?_
  refine g_getR (pc := 9) dX8_wholeBound_9 fl_X8_101 sh_221 rfl ?_
  refine g_iconst (pc := 12) 0 dX8_wholeBound_12 rfl ?_
  refine g_iconst (pc := 13) (-1) dX8_wholeBound_13 rfl ?_
  obtain ⟨M1, eM1, hf⟩ := job hf
  refine g_iast (pc := 14) dX8_wholeBound_14 sh_252 eM1 ?_
  refine g_aload_n (pc := 15) dX8_wholeBound_15 rfl rfl ?_
  refine g_getR (pc := 16) dX8_wholeBound_16 fl_X8_104 sh_221 rfl ?_
  refine g_iconst (pc := 19) 0 dX8_wholeBound_19 rfl ?_
  refine g_iconst (pc := 20) 0 dX8_wholeBound_20 rfl ?_
  obtain ⟨M2, eM2, hf⟩ := job hf
  refine g_iast (pc := 21) dX8_wholeBound_21 sh_253 eM2 ?_
  refine g_aload_n (pc := 22) dX8_wholeBound_22 rfl rfl ?_
  refine g_getR (pc := 23) dX8_wholeBound_23 fl_X8_107 sh_221 rfl ?_
  refine g_iconst (pc := 26) 0 dX8_wholeBound_26 rfl ?_
  refine g_iconst (pc := 27) 0 dX8_wholeBound_27 rfl ?_
  obtain ⟨M3, eM3, hf⟩ := job hf
  refine g_iast (pc := 28) dX8_wholeBound_28 sh_254 eM3 ?_
  obtain ⟨⟨t14, t15⟩, y5, hy4⟩ := job hf
  have K6 : jGG μ_X8_wholeBound 1 285 [none, some (.int t14), none, none, none, none, none, none, none] [] t15 (fun M' r' => M' = Mz ∧ r' = some (.int r)) := by
    replace hf := hy4
    refine g_iload_n (pc := 285) dX8_wholeBound_285 rfl rfl ?_
    obtain ⟨rfl, rfl⟩ := Prod.mk.inj (Option.some.inj hf)
    exact g_iret (pc := 286) dX8_wholeBound_286 rfl ⟨rfl, rfl⟩
  refine g_weak (lv' := [some (.ref 221), some (.int 1000000000), some (.int 0), some (.int 0), none, none, none, none, none]) ⟨rfl, ⟨rfl, ⟨rfl, ⟨rfl, trivial⟩⟩⟩⟩ ?_
  refine jLp_ind (P := fun ((z10, z11, z12, M13) : Int32 × Int32 × Int32 × JMem) => jGG μ_X8_wholeBound 1 29 [some (.ref 221), some (.int z10), some (.int z11), some (.int z12), none, none, none, none, none] [] M13 (fun M' r' => M' = Mz ∧ r' = some (.int r))) ?_ N _ y5
  rintro ⟨z10, z11, z12, M13⟩ x_9 hf ih8 hx7
  show jGG μ_X8_wholeBound 1 29 [some (.ref 221), some (.int z10), some (.int z11), some (.int z12), none, none, none, none, none] [] M13 (fun M' r' => M' = Mz ∧ r' = some (.int r))
  refine g_iload_n (pc := 29) dX8_wholeBound_29 rfl rfl ?_
  refine g_if_lt (pc := 30) 285 dX8_wholeBound_30 rfl (fun hc84 => ?_) (fun hc84 => ?_)
  · replace hf := jifp hc84 hf
    have hf := hx7 _ (Option.some.inj hf).symm
    obtain ⟨rfl, rfl⟩ := jp2 hf
    exact g_weakK K6 ⟨rfl, trivial⟩
  · replace hf := jifn hc84 hf
    refine g_iload_n (pc := 33) dX8_wholeBound_33 rfl rfl ?_
    refine g_aload_n (pc := 34) dX8_wholeBound_34 rfl rfl ?_
    refine g_getI (pc := 35) dX8_wholeBound_35 fl_X8_285 sh_221 rfl ?_
    refine g_icmp_ne (pc := 38) 68 dX8_wholeBound_38 rfl (fun hc83 => ?_) (fun hc83 => ?_)
    · replace hf := jifn hc83 hf
      refine g_aload_n (pc := 68) dX8_wholeBound_68 rfl rfl ?_
      refine g_getR (pc := 69) dX8_wholeBound_69 fl_X8_101 sh_221 rfl ?_
      refine g_iload_n (pc := 72) dX8_wholeBound_72 rfl rfl ?_
      obtain ⟨v16, ev16, hf⟩ := job hf
      refine g_iald (pc := 73) dX8_wholeBound_73 sh_252 ev16 ?_
      obtain ⟨u24, hf, hy18⟩ := job hf
      have K20 : jGG μ_X8_wholeBound 1 90 [some (.ref 221), some (.int z10), some (.int z11), some (.int u24), none, none, none, none, none] [] M13 (fun M' r' => M' = Mz ∧ r' = some (.int r)) := by
        replace hf := hy18
        refine g_aload_n (pc := 90) dX8_wholeBound_90 rfl rfl ?_
        refine g_getR (pc := 91) dX8_wholeBound_91 fl_X8_101 sh_221 rfl ?_
        refine g_iload_n (pc := 94) dX8_wholeBound_94 rfl rfl ?_
        obtain ⟨v25, ev25, hf⟩ := job hf
        refine g_iald (pc := 95) dX8_wholeBound_95 sh_252 ev25 ?_
        refine g_iconst (pc := 96) 1 dX8_wholeBound_96 rfl ?_
        refine g_iadd (pc := 97) dX8_wholeBound_97 ?_
        refine g_istore (pc := 98) (lv' := [some (.ref 221), some (.int z10), some (.int z11), some (.int u24), some (.int (v25 + 1)), none, none, none, none]) dX8_wholeBound_98 (by decide) rfl ?_
        obtain ⟨t33, y27, hy26⟩ := job hf
        have K28 : jGG μ_X8_wholeBound 1 125 [some (.ref 221), some (.int z10), some (.int z11), some (.int u24), some (.int t33), none, none, none, none] [] M13 (fun M' r' => M' = Mz ∧ r' = some (.int r)) := by
          replace hf := hy26
          refine g_iload (pc := 125) dX8_wholeBound_125 rfl ?_
          refine g_aload_n (pc := 127) dX8_wholeBound_127 rfl rfl ?_
          refine g_getI (pc := 128) dX8_wholeBound_128 fl_X8_285 sh_221 rfl ?_
          refine g_icmp_lt (pc := 131) 140 dX8_wholeBound_131 rfl (fun hc73 => ?_) (fun hc73 => ?_)
          · replace hf := jifp hc73 hf
            refine g_aload_n (pc := 140) dX8_wholeBound_140 rfl rfl ?_
            refine g_getR (pc := 141) dX8_wholeBound_141 fl_X8_101 sh_221 rfl ?_
            refine g_iload_n (pc := 144) dX8_wholeBound_144 rfl rfl ?_
            refine g_iload (pc := 145) dX8_wholeBound_145 rfl ?_
            obtain ⟨M36, eM36, hf⟩ := job hf
            refine g_iast (pc := 147) dX8_wholeBound_147 sh_252 eM36 ?_
            refine g_aload_n (pc := 148) dX8_wholeBound_148 rfl rfl ?_
            refine g_getR (pc := 149) dX8_wholeBound_149 fl_X8_89 sh_221 rfl ?_
            refine g_iload (pc := 152) dX8_wholeBound_152 rfl ?_
            obtain ⟨v37, ev37, hf⟩ := job hf
            refine g_iald (pc := 154) dX8_wholeBound_154 sh_248 ev37 ?_
            refine g_istore (pc := 155) (lv' := [some (.ref 221), some (.int z10), some (.int z11), some (.int u24), some (.int t33), some (.int v37), none, none, none]) dX8_wholeBound_155 (by decide) rfl ?_
            refine g_aload_n (pc := 157) dX8_wholeBound_157 rfl rfl ?_
            refine g_getR (pc := 158) dX8_wholeBound_158 fl_X8_104 sh_221 rfl ?_
            refine g_iload_n (pc := 161) dX8_wholeBound_161 rfl rfl ?_
            obtain ⟨v38, ev38, hf⟩ := job hf
            refine g_iald (pc := 162) dX8_wholeBound_162 sh_253 ev38 ?_
            refine g_aload_n (pc := 163) dX8_wholeBound_163 rfl rfl ?_
            refine g_getR (pc := 164) dX8_wholeBound_164 fl_X8_92 sh_221 rfl ?_
            refine g_iload (pc := 167) dX8_wholeBound_167 rfl ?_
            obtain ⟨v39, ev39, hf⟩ := job hf
            refine g_iald (pc := 169) dX8_wholeBound_169 sh_249 ev39 ?_
            obtain ⟨u48, hf, hy41⟩ := job hf
            have K43 : jGG μ_X8_wholeBound 1 189 [some (.ref 221), some (.int z10), some (.int z11), some (.int u24), some (.int t33), some (.int v37), none, none, none] [.int u48] M36 (fun M' r' => M' = Mz ∧ r' = some (.int r)) := by
              replace hf := hy41
              refine g_istore (pc := 189) (lv' := [some (.ref 221), some (.int z10), some (.int z11), some (.int u24), some (.int t33), some (.int v37), some (.int u48), none, none]) dX8_wholeBound_189 (by decide) rfl ?_
              refine g_iload (pc := 191) dX8_wholeBound_191 rfl ?_
              refine g_aload_n (pc := 193) dX8_wholeBound_193 rfl rfl ?_
              refine g_getR (pc := 194) dX8_wholeBound_194 fl_X8_31 sh_221 rfl ?_
              refine g_iload (pc := 197) dX8_wholeBound_197 rfl ?_
              obtain ⟨v49, ev49, hf⟩ := job hf
              refine g_iald (pc := 199) dX8_wholeBound_199 sh_229 ev49 ?_
              refine g_iadd (pc := 200) dX8_wholeBound_200 ?_
              refine g_istore (pc := 201) (lv' := [some (.ref 221), some (.int z10), some (.int z11), some (.int u24), some (.int t33), some (.int v37), some (.int u48), some (.int (u48 + v49)), none]) dX8_wholeBound_201 (by decide) rfl ?_
              refine g_iload (pc := 203) dX8_wholeBound_203 rfl ?_
              refine g_aload_n (pc := 205) dX8_wholeBound_205 rfl rfl ?_
              refine g_getR (pc := 206) dX8_wholeBound_206 fl_X8_95 sh_221 rfl ?_
              refine g_iload (pc := 209) dX8_wholeBound_209 rfl ?_
              obtain ⟨v50, ev50, hf⟩ := job hf
              refine g_iald (pc := 211) dX8_wholeBound_211 sh_250 ev50 ?_
              refine g_iadd (pc := 212) dX8_wholeBound_212 ?_
              refine g_aload_n (pc := 213) dX8_wholeBound_213 rfl rfl ?_
              refine g_getR (pc := 214) dX8_wholeBound_214 fl_X8_107 sh_221 rfl ?_
              refine g_iload_n (pc := 217) dX8_wholeBound_217 rfl rfl ?_
              obtain ⟨v51, ev51, hf⟩ := job hf
              refine g_iald (pc := 218) dX8_wholeBound_218 sh_254 ev51 ?_
              obtain ⟨u60, hf, hy53⟩ := job hf
              have K55 : jGG μ_X8_wholeBound 1 241 [some (.ref 221), some (.int z10), some (.int z11), some (.int u24), some (.int t33), none, none, some (.int (u48 + v49)), none] [.int u60] M36 (fun M' r' => M' = Mz ∧ r' = some (.int r)) := by
                replace hf := hy53
                refine g_istore (pc := 241) (lv' := [some (.ref 221), some (.int z10), some (.int z11), some (.int u24), some (.int t33), none, none, some (.int (u48 + v49)), some (.int u60)]) dX8_wholeBound_241 (by decide) rfl ?_
                refine g_iload (pc := 243) dX8_wholeBound_243 rfl ?_
                refine g_iload_n (pc := 245) dX8_wholeBound_245 rfl rfl ?_
                obtain ⟨⟨u70, u71, M72⟩, hf, hy62⟩ := job hf
                have K64 : jGG μ_X8_wholeBound 1 282 [some (.ref 221), some (.int z10), some (.int u70), some (.int u71), none, none, none, none, none] [] M72 (fun M' r' => M' = Mz ∧ r' = some (.int r)) := by
                  replace hf := hy62
                  refine g_goto (pc := 282) 29 dX8_wholeBound_282 rfl ?_
                  have hih : jGG μ_X8_wholeBound 1 29 [some (.ref 221), some (.int z10), some (.int u70), some (.int u71), none, none, none, none, none] [] M72 (fun M' r' => M' = Mz ∧ r' = some (.int r)) := ih8 (z10, u70, u71, M72) (Option.some.inj hf).symm
                  exact g_weakK hih ⟨rfl, ⟨rfl, ⟨rfl, ⟨rfl, trivial⟩⟩⟩⟩
                refine g_icmp_ge (pc := 246) 282 dX8_wholeBound_246 rfl (fun hc69 => ?_) (fun hc69 => ?_)
                · replace hf := jifp hc69 hf
                  obtain ⟨rfl, rfl, rfl⟩ := jp3 (Option.some.inj hf)
                  exact g_weakK (K64) ⟨rfl, ⟨rfl, ⟨rfl, ⟨rfl, trivial⟩⟩⟩⟩
                · replace hf := jifn hc69 hf
                  refine g_iload_n (pc := 249) dX8_wholeBound_249 rfl rfl ?_
                  refine g_iconst (pc := 250) 1 dX8_wholeBound_250 rfl ?_
                  refine g_iload (pc := 251) dX8_wholeBound_251 rfl ?_
                  refine g_ishl (pc := 253) dX8_wholeBound_253 ?_
                  refine g_ior (pc := 254) dX8_wholeBound_254 ?_
                  refine g_istore_n (pc := 255) (lv' := [some (.ref 221), some (.int z10), some (.int z11), some (.int (u24 ||| (jshl 1 t33))), some (.int t33), none, none, some (.int (u48 + v49)), some (.int u60)]) dX8_wholeBound_255 rfl (by decide) rfl ?_
                  refine g_iinc (pc := 256) (lv' := [some (.ref 221), some (.int z10), some (.int (z11 + 1)), some (.int (u24 ||| (jshl 1 t33))), some (.int t33), none, none, some (.int (u48 + v49)), some (.int u60)]) (z11 + 1) dX8_wholeBound_256 rfl rfl (by decide) rfl ?_
                  refine g_aload_n (pc := 259) dX8_wholeBound_259 rfl rfl ?_
                  refine g_getR (pc := 260) dX8_wholeBound_260 fl_X8_101 sh_221 rfl ?_
                  refine g_iload_n (pc := 263) dX8_wholeBound_263 rfl rfl ?_
                  refine g_iconst (pc := 264) (-1) dX8_wholeBound_264 rfl ?_
                  obtain ⟨M66, eM66, hf⟩ := job hf
                  refine g_iast (pc := 265) dX8_wholeBound_265 sh_252 eM66 ?_
                  refine g_aload_n (pc := 266) dX8_wholeBound_266 rfl rfl ?_
                  refine g_getR (pc := 267) dX8_wholeBound_267 fl_X8_104 sh_221 rfl ?_
                  refine g_iload_n (pc := 270) dX8_wholeBound_270 rfl rfl ?_
                  refine g_iload (pc := 271) dX8_wholeBound_271 rfl ?_
                  obtain ⟨M67, eM67, hf⟩ := job hf
                  refine g_iast (pc := 273) dX8_wholeBound_273 sh_253 eM67 ?_
                  refine g_aload_n (pc := 274) dX8_wholeBound_274 rfl rfl ?_
                  refine g_getR (pc := 275) dX8_wholeBound_275 fl_X8_107 sh_221 rfl ?_
                  refine g_iload_n (pc := 278) dX8_wholeBound_278 rfl rfl ?_
                  refine g_iload (pc := 279) dX8_wholeBound_279 rfl ?_
                  obtain ⟨M68, eM68, hf⟩ := job hf
                  refine g_iast (pc := 281) dX8_wholeBound_281 sh_254 eM68 ?_
                  obtain ⟨rfl, rfl, rfl⟩ := jp3 (Option.some.inj hf)
                  exact g_weakK (K64) ⟨rfl, ⟨rfl, ⟨rfl, ⟨rfl, trivial⟩⟩⟩⟩
              refine g_icmp_le (pc := 219) 235 dX8_wholeBound_219 rfl (fun hc59 => ?_) (fun hc59 => ?_)
              · replace hf := jifp hc59 hf
                refine g_aload_n (pc := 235) dX8_wholeBound_235 rfl rfl ?_
                refine g_getR (pc := 236) dX8_wholeBound_236 fl_X8_107 sh_221 rfl ?_
                refine g_iload_n (pc := 239) dX8_wholeBound_239 rfl rfl ?_
                obtain ⟨v57, ev57, hf⟩ := job hf
                refine g_iald (pc := 240) dX8_wholeBound_240 sh_254 ev57 ?_
                obtain rfl := Option.some.inj hf
                exact g_weakK (K55) ⟨rfl, ⟨rfl, ⟨rfl, ⟨rfl, ⟨rfl, ⟨rfl, trivial⟩⟩⟩⟩⟩⟩
              · replace hf := jifn hc59 hf
                refine g_iload (pc := 222) dX8_wholeBound_222 rfl ?_
                refine g_aload_n (pc := 224) dX8_wholeBound_224 rfl rfl ?_
                refine g_getR (pc := 225) dX8_wholeBound_225 fl_X8_95 sh_221 rfl ?_
                refine g_iload (pc := 228) dX8_wholeBound_228 rfl ?_
                obtain ⟨v58, ev58, hf⟩ := job hf
                refine g_iald (pc := 230) dX8_wholeBound_230 sh_250 ev58 ?_
                refine g_iadd (pc := 231) dX8_wholeBound_231 ?_
                refine g_goto (pc := 232) 241 dX8_wholeBound_232 rfl ?_
                obtain rfl := Option.some.inj hf
                exact g_weakK (K55) ⟨rfl, ⟨rfl, ⟨rfl, ⟨rfl, ⟨rfl, ⟨rfl, trivial⟩⟩⟩⟩⟩⟩
            refine g_icmp_le (pc := 170) 182 dX8_wholeBound_170 rfl (fun hc47 => ?_) (fun hc47 => ?_)
            · replace hf := jifp hc47 hf
              refine g_aload_n (pc := 182) dX8_wholeBound_182 rfl rfl ?_
              refine g_getR (pc := 183) dX8_wholeBound_183 fl_X8_92 sh_221 rfl ?_
              refine g_iload (pc := 186) dX8_wholeBound_186 rfl ?_
              obtain ⟨v45, ev45, hf⟩ := job hf
              refine g_iald (pc := 188) dX8_wholeBound_188 sh_249 ev45 ?_
              obtain rfl := Option.some.inj hf
              exact g_weakK (K43) ⟨rfl, ⟨rfl, ⟨rfl, ⟨rfl, ⟨rfl, ⟨rfl, trivial⟩⟩⟩⟩⟩⟩
            · replace hf := jifn hc47 hf
              refine g_aload_n (pc := 173) dX8_wholeBound_173 rfl rfl ?_
              refine g_getR (pc := 174) dX8_wholeBound_174 fl_X8_104 sh_221 rfl ?_
              refine g_iload_n (pc := 177) dX8_wholeBound_177 rfl rfl ?_
              obtain ⟨v46, ev46, hf⟩ := job hf
              refine g_iald (pc := 178) dX8_wholeBound_178 sh_253 ev46 ?_
              refine g_goto (pc := 179) 189 dX8_wholeBound_179 rfl ?_
              obtain rfl := Option.some.inj hf
              exact g_weakK (K43) ⟨rfl, ⟨rfl, ⟨rfl, ⟨rfl, ⟨rfl, ⟨rfl, trivial⟩⟩⟩⟩⟩⟩
          · replace hf := jifn hc73 hf
            refine g_iinc (pc := 134) (lv' := [some (.ref 221), some (.int z10), some (.int (z11 + (-1))), some (.int u24), some (.int t33), none, none, none, none]) (z11 + (-1)) dX8_wholeBound_134 rfl rfl (by decide) rfl ?_
            refine g_goto (pc := 137) 29 dX8_wholeBound_137 rfl ?_
            have hih : jGG μ_X8_wholeBound 1 29 [some (.ref 221), some (.int z10), some (.int (z11 + (-1))), some (.int u24), none, none, none, none, none] [] M13 (fun M' r' => M' = Mz ∧ r' = some (.int r)) := ih8 (z10, z11 + (-1), u24, M13) (Option.some.inj hf).symm
            exact g_weakK hih ⟨rfl, ⟨rfl, ⟨rfl, ⟨rfl, trivial⟩⟩⟩⟩
        refine g_weak (lv' := [some (.ref 221), some (.int z10), some (.int z11), some (.int u24), some (.int (v25 + 1)), none, none, none, none]) ⟨rfl, ⟨rfl, ⟨rfl, ⟨rfl, ⟨rfl, trivial⟩⟩⟩⟩⟩ ?_
        refine jLp_ind (P := fun (z32 : Int32) => jGG μ_X8_wholeBound 1 100 [some (.ref 221), some (.int z10), some (.int z11), some (.int u24), some (.int z32), none, none, none, none] [] M13 (fun M' r' => M' = Mz ∧ r' = some (.int r))) ?_ N _ y27
        rintro z32 x_31 hf ih30 hx29
        show jGG μ_X8_wholeBound 1 100 [some (.ref 221), some (.int z10), some (.int z11), some (.int u24), some (.int z32), none, none, none, none] [] M13 (fun M' r' => M' = Mz ∧ r' = some (.int r))
        refine g_iload (pc := 100) dX8_wholeBound_100 rfl ?_
        refine g_aload_n (pc := 102) dX8_wholeBound_102 rfl rfl ?_
        refine g_getI (pc := 103) dX8_wholeBound_103 fl_X8_285 sh_221 rfl ?_
        refine g_icmp_ge (pc := 106) 125 dX8_wholeBound_106 rfl (fun hc35 => ?_) (fun hc35 => ?_)
        · replace hf := jifp hc35 hf
          have hf := hx29 _ (Option.some.inj hf).symm
          obtain rfl := hf
          exact g_weakK K28 ⟨rfl, ⟨rfl, ⟨rfl, ⟨rfl, ⟨rfl, trivial⟩⟩⟩⟩⟩
        · replace hf := jifn hc35 hf
          refine g_iload_n (pc := 109) dX8_wholeBound_109 rfl rfl ?_
          refine g_iload (pc := 110) dX8_wholeBound_110 rfl ?_
          refine g_iushr (pc := 112) dX8_wholeBound_112 ?_
          refine g_iconst (pc := 113) 1 dX8_wholeBound_113 rfl ?_
          refine g_iand (pc := 114) dX8_wholeBound_114 ?_
          refine g_iconst (pc := 115) 1 dX8_wholeBound_115 rfl ?_
          refine g_icmp_ne (pc := 116) 125 dX8_wholeBound_116 rfl (fun hc34 => ?_) (fun hc34 => ?_)
          · replace hf := jifn hc34 hf
            have hf := hx29 _ (Option.some.inj hf).symm
            obtain rfl := hf
            exact g_weakK K28 ⟨rfl, ⟨rfl, ⟨rfl, ⟨rfl, ⟨rfl, trivial⟩⟩⟩⟩⟩
          · replace hf := jifp hc34 hf
            refine g_iinc (pc := 119) (lv' := [some (.ref 221), some (.int z10), some (.int z11), some (.int u24), some (.int (z32 + 1)), none, none, none, none]) (z32 + 1) dX8_wholeBound_119 rfl rfl (by decide) rfl ?_
            refine g_goto (pc := 122) 100 dX8_wholeBound_122 rfl ?_
            have hih : jGG μ_X8_wholeBound 1 100 [some (.ref 221), some (.int z10), some (.int z11), some (.int u24), some (.int (z32 + 1)), none, none, none, none] [] M13 (fun M' r' => M' = Mz ∧ r' = some (.int r)) := ih30 (z32 + 1) (Option.some.inj hf).symm
            exact g_weakK hih ⟨rfl, ⟨rfl, ⟨rfl, ⟨rfl, ⟨rfl, trivial⟩⟩⟩⟩⟩
      refine g_if_lt (pc := 74) 90 dX8_wholeBound_74 rfl (fun hc23 => ?_) (fun hc23 => ?_)
      · replace hf := jifp hc23 hf
        obtain rfl := Option.some.inj hf
        exact g_weakK (K20) ⟨rfl, ⟨rfl, ⟨rfl, ⟨rfl, trivial⟩⟩⟩⟩
      · replace hf := jifn hc23 hf
        refine g_iload_n (pc := 77) dX8_wholeBound_77 rfl rfl ?_
        refine g_iconst (pc := 78) 1 dX8_wholeBound_78 rfl ?_
        refine g_aload_n (pc := 79) dX8_wholeBound_79 rfl rfl ?_
        refine g_getR (pc := 80) dX8_wholeBound_80 fl_X8_101 sh_221 rfl ?_
        refine g_iload_n (pc := 83) dX8_wholeBound_83 rfl rfl ?_
        obtain ⟨v22, ev22, hf⟩ := job hf
        refine g_iald (pc := 84) dX8_wholeBound_84 sh_252 ev22 ?_
        refine g_ishl (pc := 85) dX8_wholeBound_85 ?_
        refine g_iconst (pc := 86) (-1) dX8_wholeBound_86 rfl ?_
        refine g_ixor (pc := 87) dX8_wholeBound_87 ?_
        refine g_iand (pc := 88) dX8_wholeBound_88 ?_
        refine g_istore_n (pc := 89) (lv' := [some (.ref 221), some (.int z10), some (.int z11), some (.int (z12 &&& ((jshl 1 v22) ^^^ ((-1))))), none, none, none, none, none]) dX8_wholeBound_89 rfl (by decide) rfl ?_
        obtain rfl := Option.some.inj hf
        exact g_weakK (K20) ⟨rfl, ⟨rfl, ⟨rfl, ⟨rfl, trivial⟩⟩⟩⟩
    · replace hf := jifp hc83 hf
      refine g_aload_n (pc := 41) dX8_wholeBound_41 rfl rfl ?_
      refine g_getR (pc := 42) dX8_wholeBound_42 fl_X8_107 sh_221 rfl ?_
      refine g_iload_n (pc := 45) dX8_wholeBound_45 rfl rfl ?_
      obtain ⟨v74, ev74, hf⟩ := job hf
      refine g_iald (pc := 46) dX8_wholeBound_46 sh_254 ev74 ?_
      refine g_iload_n (pc := 47) dX8_wholeBound_47 rfl rfl ?_
      obtain ⟨u82, hf, hy76⟩ := job hf
      have K78 : jGG μ_X8_wholeBound 1 61 [some (.ref 221), none, some (.int z11), some (.int z12), none, none, none, none, none] [.int u82] M13 (fun M' r' => M' = Mz ∧ r' = some (.int r)) := by
        replace hf := hy76
        refine g_istore_n (pc := 61) (lv' := [some (.ref 221), some (.int u82), some (.int z11), some (.int z12), none, none, none, none, none]) dX8_wholeBound_61 rfl (by decide) rfl ?_
        refine g_iinc (pc := 62) (lv' := [some (.ref 221), some (.int u82), some (.int (z11 + (-1))), some (.int z12), none, none, none, none, none]) (z11 + (-1)) dX8_wholeBound_62 rfl rfl (by decide) rfl ?_
        refine g_goto (pc := 65) 29 dX8_wholeBound_65 rfl ?_
        have hih : jGG μ_X8_wholeBound 1 29 [some (.ref 221), some (.int u82), some (.int (z11 + (-1))), some (.int z12), none, none, none, none, none] [] M13 (fun M' r' => M' = Mz ∧ r' = some (.int r)) := ih8 (u82, z11 + (-1), z12, M13) (Option.some.inj hf).symm
        exact g_weakK hih ⟨rfl, ⟨rfl, ⟨rfl, ⟨rfl, trivial⟩⟩⟩⟩
      refine g_icmp_ge (pc := 48) 60 dX8_wholeBound_48 rfl (fun hc81 => ?_) (fun hc81 => ?_)
      · replace hf := jifp hc81 hf
        refine g_iload_n (pc := 60) dX8_wholeBound_60 rfl rfl ?_
        obtain rfl := Option.some.inj hf
        exact g_weakK (K78) ⟨rfl, ⟨rfl, ⟨rfl, trivial⟩⟩⟩
      · replace hf := jifn hc81 hf
        refine g_aload_n (pc := 51) dX8_wholeBound_51 rfl rfl ?_
        refine g_getR (pc := 52) dX8_wholeBound_52 fl_X8_107 sh_221 rfl ?_
        refine g_iload_n (pc := 55) dX8_wholeBound_55 rfl rfl ?_
        obtain ⟨v80, ev80, hf⟩ := job hf
        refine g_iald (pc := 56) dX8_wholeBound_56 sh_254 ev80 ?_
        refine g_goto (pc := 57) 61 dX8_wholeBound_57 rfl ?_
        obtain rfl := Option.some.inj hf
        exact g_weakK (K78) ⟨rfl, ⟨rfl, ⟨rfl, trivial⟩⟩⟩
def f_X8_bound (N : Nat) (M : JMem) (x1 : Int32) (x2 : Int32) : Option (JMem × Int32) := (if (jin3 x1.toInt64 0 (((M 221 2) - 1).toInt64)) = 0 then some (M, (-100001)) else (if (jin3 x2.toInt64 0 1) = 0 then some (M, (-100002)) else (f_X8_gather N M x1).bind fun M1 => (jrd M1 222 8 x1).bind fun v2 => (if v2 = 0 then (jcase (α := JMem × Int32) (β := Unit) (if x2 = 1 then (if (M1 221 36) ≤ 8 then some (Sum.inr ()) else some (Sum.inl (M1, (-100003)))) else some (Sum.inr ())) fun _ => (if (M1 221 36) = 0 then some (M1, 0) else (if x2 = 0 then (f_X8_cutBound N M1).bind fun (M12, v13) => some (M12, v13) else (f_X8_wholeBound N M1).bind fun (M10, v11) => some (M10, v11)))) else some (M1, (-100003)))))
set_option maxHeartbeats 4000000 in
theorem c_X8_bound {N : Nat} {M : JMem} {x1 : Int32} {x2 : Int32} {Mz : JMem} {r : Int32} (hf : f_X8_bound N M x1 x2 = some (Mz, r)) : jCo yX8_bound μ_X8_bound 3 M [.ref 221, .int x1, .int x2] Mz (some (.int r)) := by
  refine jCt_of (by decide +kernel) rfl (by simp [Value.category]) (Nat.le_of_ble_eq_true rfl) ?_
  unfold f_X8_bound at hf
  show jGG μ_X8_bound 3 0 [some (.ref 221), some (.int x1), some (.int x2)] [] M (fun M' r' => M' = Mz ∧ r' = some (.int r))
  refine g_iload_n (pc := 0) dX8_bound_0 rfl rfl ?_
  refine g_i2l (pc := 1) dX8_bound_1 ?_
  refine g_lconst (pc := 2) 0 dX8_bound_2 rfl ?_
  refine g_aload_n (pc := 3) dX8_bound_3 rfl rfl ?_
  refine g_getI (pc := 4) dX8_bound_4 fl_X8_133 sh_221 rfl ?_
  refine g_iconst (pc := 7) 1 dX8_bound_7 rfl ?_
  refine g_isub (pc := 8) dX8_bound_8 ?_
  refine g_i2l (pc := 9) dX8_bound_9 ?_
  refine g_callS (pc := 10) [.long x1.toInt64, .long 0, .long (((M 221 2) - 1).toInt64)] [] dX8_bound_10 ml_X8_124 ck_X8_in cs_X8_in rfl (by decide) (Nat.le_of_ble_eq_true rfl) c_in ?_
  show jGG μ_X8_bound 3 13 [some (.ref 221), some (.int x1), some (.int x2)] [.int (jin3 x1.toInt64 0 (((M 221 2) - 1).toInt64))] M (fun M' r' => M' = Mz ∧ r' = some (.int r))
  refine g_if_ne (pc := 13) 19 dX8_bound_13 rfl (fun hc18 => ?_) (fun hc18 => ?_)
  · replace hf := jifn hc18 hf
    refine g_iload_n (pc := 19) dX8_bound_19 rfl rfl ?_
    refine g_i2l (pc := 20) dX8_bound_20 ?_
    refine g_lconst (pc := 21) 0 dX8_bound_21 rfl ?_
    refine g_lconst (pc := 22) 1 dX8_bound_22 rfl ?_
    refine g_callS (pc := 23) [.long x2.toInt64, .long 0, .long 1] [] dX8_bound_23 ml_X8_124 ck_X8_in cs_X8_in rfl (by decide) (Nat.le_of_ble_eq_true rfl) c_in ?_
    show jGG μ_X8_bound 3 26 [some (.ref 221), some (.int x1), some (.int x2)] [.int (jin3 x2.toInt64 0 1)] M (fun M' r' => M' = Mz ∧ r' = some (.int r))
    refine g_if_ne (pc := 26) 32 dX8_bound_26 rfl (fun hc17 => ?_) (fun hc17 => ?_)
    · replace hf := jifn hc17 hf
      refine g_aload_n (pc := 32) dX8_bound_32 rfl rfl ?_
      refine g_iload_n (pc := 33) dX8_bound_33 rfl rfl ?_
      obtain ⟨M1, eM1, hf⟩ := job hf
      refine g_callV (pc := 34) [.int x1] [] dX8_bound_34 ml_X8_290 ck_X8_gather cv_X8_gather sh_221 rfl (by decide) (Nat.le_of_ble_eq_true rfl) (c_X8_gather eM1) ?_
      show jGG μ_X8_bound 3 37 [some (.ref 221), some (.int x1), some (.int x2)] [] M1 (fun M' r' => M' = Mz ∧ r' = some (.int r))
      refine g_aload_n (pc := 37) dX8_bound_37 rfl rfl ?_
      refine g_getR (pc := 38) dX8_bound_38 fl_X8_7 sh_221 rfl ?_
      refine g_iload_n (pc := 41) dX8_bound_41 rfl rfl ?_
      obtain ⟨v2, ev2, hf⟩ := job hf
      refine g_iald (pc := 42) dX8_bound_42 sh_222 ev2 ?_
      refine g_if_ne (pc := 43) 60 dX8_bound_43 rfl (fun hc16 => ?_) (fun hc16 => ?_)
      · replace hf := jifn hc16 hf
        refine g_ldc (pc := 60) (-100003) dX8_bound_60 lc_X8_179 ?_
        obtain ⟨rfl, rfl⟩ := Prod.mk.inj (Option.some.inj hf)
        exact g_iret (pc := 62) dX8_bound_62 rfl ⟨rfl, rfl⟩
      · replace hf := jifp hc16 hf
        refine g_iload_n (pc := 46) dX8_bound_46 rfl rfl ?_
        refine g_iconst (pc := 47) 1 dX8_bound_47 rfl ?_
        obtain ⟨y5, hf, hy4⟩ := jcb hf
        have K6 : y5 = Sum.inr () → jGG μ_X8_bound 3 63 [some (.ref 221), none, some (.int x2)] [] M1 (fun M' r' => M' = Mz ∧ r' = some (.int r)) := by
          intro hyy
          subst hyy
          replace hf := hy4
          refine g_aload_n (pc := 63) dX8_bound_63 rfl rfl ?_
          refine g_getI (pc := 64) dX8_bound_64 fl_X8_285 sh_221 rfl ?_
          refine g_if_ne (pc := 67) 74 dX8_bound_67 rfl (fun hc15 => ?_) (fun hc15 => ?_)
          · replace hf := jifn hc15 hf
            refine g_iload_n (pc := 74) dX8_bound_74 rfl rfl ?_
            refine g_if_ne (pc := 75) 85 dX8_bound_75 rfl (fun hc14 => ?_) (fun hc14 => ?_)
            · replace hf := jifn hc14 hf
              refine g_aload_n (pc := 85) dX8_bound_85 rfl rfl ?_
              obtain ⟨⟨M10, v11⟩, ev11, hf⟩ := job hf
              refine g_callV (pc := 86) [] [] dX8_bound_86 ml_X8_296 ck_X8_wholeBound cv_X8_wholeBound sh_221 rfl (by decide) (Nat.le_of_ble_eq_true rfl) (c_X8_wholeBound ev11) ?_
              show jGG μ_X8_bound 3 89 [some (.ref 221), none, some (.int x2)] [.int v11] M10 (fun M' r' => M' = Mz ∧ r' = some (.int r))
              obtain ⟨rfl, rfl⟩ := Prod.mk.inj (Option.some.inj hf)
              exact g_iret (pc := 89) dX8_bound_89 rfl ⟨rfl, rfl⟩
            · replace hf := jifp hc14 hf
              refine g_aload_n (pc := 78) dX8_bound_78 rfl rfl ?_
              obtain ⟨⟨M12, v13⟩, ev13, hf⟩ := job hf
              refine g_callV (pc := 79) [] [] dX8_bound_79 ml_X8_293 ck_X8_cutBound cv_X8_cutBound sh_221 rfl (by decide) (Nat.le_of_ble_eq_true rfl) (c_X8_cutBound ev13) ?_
              show jGG μ_X8_bound 3 82 [some (.ref 221), none, some (.int x2)] [.int v13] M12 (fun M' r' => M' = Mz ∧ r' = some (.int r))
              refine g_goto (pc := 82) 89 dX8_bound_82 rfl ?_
              obtain ⟨rfl, rfl⟩ := Prod.mk.inj (Option.some.inj hf)
              exact g_iret (pc := 89) dX8_bound_89 rfl ⟨rfl, rfl⟩
          · replace hf := jifp hc15 hf
            refine g_iconst (pc := 70) 0 dX8_bound_70 rfl ?_
            refine g_goto (pc := 71) 89 dX8_bound_71 rfl ?_
            obtain ⟨rfl, rfl⟩ := Prod.mk.inj (Option.some.inj hf)
            exact g_iret (pc := 89) dX8_bound_89 rfl ⟨rfl, rfl⟩
        refine g_icmp_ne (pc := 48) 63 dX8_bound_48 rfl (fun hc9 => ?_) (fun hc9 => ?_)
        · replace hf := jifn hc9 hf
          exact g_weakK (K6 (Option.some.inj hf).symm) ⟨rfl, ⟨rfl, trivial⟩⟩
        · replace hf := jifp hc9 hf
          refine g_aload_n (pc := 51) dX8_bound_51 rfl rfl ?_
          refine g_getI (pc := 52) dX8_bound_52 fl_X8_285 sh_221 rfl ?_
          refine g_bipush (pc := 55) 8 dX8_bound_55 rfl ?_
          refine g_icmp_le (pc := 57) 63 dX8_bound_57 rfl (fun hc8 => ?_) (fun hc8 => ?_)
          · replace hf := jifp hc8 hf
            exact g_weakK (K6 (Option.some.inj hf).symm) ⟨rfl, ⟨rfl, trivial⟩⟩
          · replace hf := jifn hc8 hf
            refine g_ldc (pc := 60) (-100003) dX8_bound_60 lc_X8_179 ?_
            obtain rfl := Option.some.inj hf
            replace hf := hy4
            obtain ⟨rfl, rfl⟩ := Prod.mk.inj (Option.some.inj hf)
            exact g_iret (pc := 62) dX8_bound_62 rfl ⟨rfl, rfl⟩
    · replace hf := jifp hc17 hf
      refine g_ldc (pc := 29) (-100002) dX8_bound_29 lc_X8_132 ?_
      obtain ⟨rfl, rfl⟩ := Prod.mk.inj (Option.some.inj hf)
      exact g_iret (pc := 31) dX8_bound_31 rfl ⟨rfl, rfl⟩
  · replace hf := jifp hc18 hf
    refine g_ldc (pc := 16) (-100001) dX8_bound_16 lc_X8_146 ?_
    obtain ⟨rfl, rfl⟩ := Prod.mk.inj (Option.some.inj hf)
    exact g_iret (pc := 18) dX8_bound_18 rfl ⟨rfl, rfl⟩
def f_X8_pushCase (N : Nat) (M : JMem) : Option (JMem) := ((jLp (σ := Int32 × JMem) (ρ := JMem) N (fun ((z7, M8) : Int32 × JMem) => (if 32 ≤ z7 then some (Sum.inr M8) else (jrd M8 244 32 z7).bind fun v10 => (jwr M8 255 6720 ((32 * (M8 221 44)) + z7) v10).bind fun M11 => some (Sum.inl (z7 + 1, M11)))) (0, M)).bind fun t9 => (some (jup t9 221 44 ((t9 221 44) + 1))).bind fun M13 => some M13)
set_option maxHeartbeats 4000000 in
theorem c_X8_pushCase {N : Nat} {M : JMem} {Mz : JMem} (hf : f_X8_pushCase N M = some Mz) : jCo yX8_pushCase μ_X8_pushCase 1 M [.ref 221] Mz none := by
  refine jCt_of (by decide +kernel) rfl (by simp [Value.category]) (Nat.le_of_ble_eq_true rfl) ?_
  unfold f_X8_pushCase at hf
  show jGG μ_X8_pushCase 1 0 [some (.ref 221), none] [] M (fun M' r' => M' = Mz ∧ r' = none)
  refine g_iconst (pc := 0) 0 dX8_pushCase_0 rfl ?_
  refine g_istore_n (pc := 1) (lv' := [some (.ref 221), some (.int 0)]) dX8_pushCase_1 rfl (by decide) rfl ?_
  obtain ⟨t9, y2, hy1⟩ := job hf
  have K3 : jGG μ_X8_pushCase 1 34 [some (.ref 221), none] [] t9 (fun M' r' => M' = Mz ∧ r' = none) := by
    replace hf := hy1
    refine g_aload_n (pc := 34) dX8_pushCase_34 rfl rfl ?_
    refine g_dup (pc := 35) dX8_pushCase_35 rfl ?_
    refine g_getI (pc := 36) dX8_pushCase_36 fl_X8_299 sh_221 rfl ?_
    refine g_iconst (pc := 39) 1 dX8_pushCase_39 rfl ?_
    refine g_iadd (pc := 40) dX8_pushCase_40 ?_
    refine g_putI (pc := 41) dX8_pushCase_41 fp_X8_299 sh_221 rfl ?_
    obtain ⟨M13, eM13, hf⟩ := job hf
    rw [Option.some.inj eM13]
    obtain rfl := Option.some.inj hf
    exact g_vret (pc := 44) dX8_pushCase_44 rfl ⟨rfl, rfl⟩
  refine g_weak (lv' := [some (.ref 221), some (.int 0)]) ⟨rfl, ⟨rfl, trivial⟩⟩ ?_
  refine jLp_ind (P := fun ((z7, M8) : Int32 × JMem) => jGG μ_X8_pushCase 1 2 [some (.ref 221), some (.int z7)] [] M8 (fun M' r' => M' = Mz ∧ r' = none)) ?_ N _ y2
  rintro ⟨z7, M8⟩ x_6 hf ih5 hx4
  show jGG μ_X8_pushCase 1 2 [some (.ref 221), some (.int z7)] [] M8 (fun M' r' => M' = Mz ∧ r' = none)
  refine g_iload_n (pc := 2) dX8_pushCase_2 rfl rfl ?_
  refine g_bipush (pc := 3) 32 dX8_pushCase_3 rfl ?_
  refine g_icmp_ge (pc := 5) 34 dX8_pushCase_5 rfl (fun hc12 => ?_) (fun hc12 => ?_)
  · replace hf := jifp hc12 hf
    have hf := hx4 _ (Option.some.inj hf).symm
    obtain rfl := hf
    exact g_weakK K3 ⟨rfl, trivial⟩
  · replace hf := jifn hc12 hf
    refine g_aload_n (pc := 8) dX8_pushCase_8 rfl rfl ?_
    refine g_getR (pc := 9) dX8_pushCase_9 fl_X8_110 sh_221 rfl ?_
    refine g_bipush (pc := 12) 32 dX8_pushCase_12 rfl ?_
    refine g_aload_n (pc := 14) dX8_pushCase_14 rfl rfl ?_
    refine g_getI (pc := 15) dX8_pushCase_15 fl_X8_299 sh_221 rfl ?_
    refine g_imul (pc := 18) dX8_pushCase_18 ?_
    refine g_iload_n (pc := 19) dX8_pushCase_19 rfl rfl ?_
    refine g_iadd (pc := 20) dX8_pushCase_20 ?_
    refine g_aload_n (pc := 21) dX8_pushCase_21 rfl rfl ?_
    refine g_getR (pc := 22) dX8_pushCase_22 fl_X8_77 sh_221 rfl ?_
    refine g_iload_n (pc := 25) dX8_pushCase_25 rfl rfl ?_
    obtain ⟨v10, ev10, hf⟩ := job hf
    refine g_iald (pc := 26) dX8_pushCase_26 sh_244 ev10 ?_
    obtain ⟨M11, eM11, hf⟩ := job hf
    refine g_iast (pc := 27) dX8_pushCase_27 sh_255 eM11 ?_
    refine g_iinc (pc := 28) (lv' := [some (.ref 221), some (.int (z7 + 1))]) (z7 + 1) dX8_pushCase_28 rfl rfl (by decide) rfl ?_
    refine g_goto (pc := 31) 2 dX8_pushCase_31 rfl ?_
    have hih : jGG μ_X8_pushCase 1 2 [some (.ref 221), some (.int (z7 + 1))] [] M11 (fun M' r' => M' = Mz ∧ r' = none) := ih5 (z7 + 1, M11) (Option.some.inj hf).symm
    exact g_weakK hih ⟨rfl, ⟨rfl, trivial⟩⟩
def f_X8_popCase (N : Nat) (M : JMem) : Option (JMem) := (some (jup M 221 44 ((M 221 44) - 1))).bind fun M1 => ((jLp (σ := Int32 × JMem) (ρ := JMem) N (fun ((z8, M9) : Int32 × JMem) => (if 32 ≤ z8 then some (Sum.inr M9) else (jrd M9 255 6720 ((32 * (M9 221 44)) + z8)).bind fun v11 => (jwr M9 244 32 z8 v11).bind fun M12 => some (Sum.inl (z8 + 1, M12)))) (0, M1)).bind fun t10 => some t10)
set_option maxHeartbeats 4000000 in
theorem c_X8_popCase {N : Nat} {M : JMem} {Mz : JMem} (hf : f_X8_popCase N M = some Mz) : jCo yX8_popCase μ_X8_popCase 1 M [.ref 221] Mz none := by
  refine jCt_of (by decide +kernel) rfl (by simp [Value.category]) (Nat.le_of_ble_eq_true rfl) ?_
  unfold f_X8_popCase at hf
  show jGG μ_X8_popCase 1 0 [some (.ref 221), none] [] M (fun M' r' => M' = Mz ∧ r' = none)
  refine g_aload_n (pc := 0) dX8_popCase_0 rfl rfl ?_
  refine g_dup (pc := 1) dX8_popCase_1 rfl ?_
  refine g_getI (pc := 2) dX8_popCase_2 fl_X8_299 sh_221 rfl ?_
  refine g_iconst (pc := 5) 1 dX8_popCase_5 rfl ?_
  refine g_isub (pc := 6) dX8_popCase_6 ?_
  refine g_putI (pc := 7) dX8_popCase_7 fp_X8_299 sh_221 rfl ?_
  obtain ⟨M1, eM1, hf⟩ := job hf
  rw [Option.some.inj eM1]
  refine g_iconst (pc := 10) 0 dX8_popCase_10 rfl ?_
  refine g_istore_n (pc := 11) (lv' := [some (.ref 221), some (.int 0)]) dX8_popCase_11 rfl (by decide) rfl ?_
  obtain ⟨t10, y3, hy2⟩ := job hf
  have K4 : jGG μ_X8_popCase 1 44 [none, none] [] t10 (fun M' r' => M' = Mz ∧ r' = none) := by
    replace hf := hy2
    obtain rfl := Option.some.inj hf
    exact g_vret (pc := 44) dX8_popCase_44 rfl ⟨rfl, rfl⟩
  refine g_weak (lv' := [some (.ref 221), some (.int 0)]) ⟨rfl, ⟨rfl, trivial⟩⟩ ?_
  refine jLp_ind (P := fun ((z8, M9) : Int32 × JMem) => jGG μ_X8_popCase 1 12 [some (.ref 221), some (.int z8)] [] M9 (fun M' r' => M' = Mz ∧ r' = none)) ?_ N _ y3
  rintro ⟨z8, M9⟩ x_7 hf ih6 hx5
  show jGG μ_X8_popCase 1 12 [some (.ref 221), some (.int z8)] [] M9 (fun M' r' => M' = Mz ∧ r' = none)
  refine g_iload_n (pc := 12) dX8_popCase_12 rfl rfl ?_
  refine g_bipush (pc := 13) 32 dX8_popCase_13 rfl ?_
  refine g_icmp_ge (pc := 15) 44 dX8_popCase_15 rfl (fun hc13 => ?_) (fun hc13 => ?_)
  · replace hf := jifp hc13 hf
    have hf := hx5 _ (Option.some.inj hf).symm
    obtain rfl := hf
    exact g_weakK K4 trivial
  · replace hf := jifn hc13 hf
    refine g_aload_n (pc := 18) dX8_popCase_18 rfl rfl ?_
    refine g_getR (pc := 19) dX8_popCase_19 fl_X8_77 sh_221 rfl ?_
    refine g_iload_n (pc := 22) dX8_popCase_22 rfl rfl ?_
    refine g_aload_n (pc := 23) dX8_popCase_23 rfl rfl ?_
    refine g_getR (pc := 24) dX8_popCase_24 fl_X8_110 sh_221 rfl ?_
    refine g_bipush (pc := 27) 32 dX8_popCase_27 rfl ?_
    refine g_aload_n (pc := 29) dX8_popCase_29 rfl rfl ?_
    refine g_getI (pc := 30) dX8_popCase_30 fl_X8_299 sh_221 rfl ?_
    refine g_imul (pc := 33) dX8_popCase_33 ?_
    refine g_iload_n (pc := 34) dX8_popCase_34 rfl rfl ?_
    refine g_iadd (pc := 35) dX8_popCase_35 ?_
    obtain ⟨v11, ev11, hf⟩ := job hf
    refine g_iald (pc := 36) dX8_popCase_36 sh_255 ev11 ?_
    obtain ⟨M12, eM12, hf⟩ := job hf
    refine g_iast (pc := 37) dX8_popCase_37 sh_244 eM12 ?_
    refine g_iinc (pc := 38) (lv' := [some (.ref 221), some (.int (z8 + 1))]) (z8 + 1) dX8_popCase_38 rfl rfl (by decide) rfl ?_
    refine g_goto (pc := 41) 12 dX8_popCase_41 rfl ?_
    have hih : jGG μ_X8_popCase 1 12 [some (.ref 221), some (.int (z8 + 1))] [] M12 (fun M' r' => M' = Mz ∧ r' = none) := ih6 (z8 + 1, M12) (Option.some.inj hf).symm
    exact g_weakK hih ⟨rfl, ⟨rfl, trivial⟩⟩
def f_X8_aheadOf (N : Nat) (M : JMem) (x1 : Int32) : Option (Int32) := ((jLp (σ := Int32 × Int32) (ρ := Int32) N (fun ((z7, z8) : Int32 × Int32) => (if (M 221 11) ≤ z8 then some (Sum.inr z7) else (f_X8_isAhead M z8 x1).bind fun v10 => (((if v10 = 0 then some (0) else some (1)) : Option (Int32)).bind fun u17 => some (Sum.inl (z7 + u17, z8 + 1))))) (0, 0)).bind fun t9 => some t9)
set_option maxHeartbeats 4000000 in
theorem c_X8_aheadOf {N : Nat} {M : JMem} {x1 : Int32} {r : Int32} (hf : f_X8_aheadOf N M x1 = some r) : jCo yX8_aheadOf μ_X8_aheadOf 2 M [.ref 221, .int x1] M (some (.int r)) := by
  refine jCt_of (by decide +kernel) rfl (by simp [Value.category]) (Nat.le_of_ble_eq_true rfl) ?_
  unfold f_X8_aheadOf at hf
  show jGG μ_X8_aheadOf 2 0 [some (.ref 221), some (.int x1), none, none] [] M (fun M' r' => M' = M ∧ r' = some (.int r))
  refine g_iconst (pc := 0) 0 dX8_aheadOf_0 rfl ?_
  refine g_istore_n (pc := 1) (lv' := [some (.ref 221), some (.int x1), some (.int 0), none]) dX8_aheadOf_1 rfl (by decide) rfl ?_
  refine g_iconst (pc := 2) 0 dX8_aheadOf_2 rfl ?_
  refine g_istore_n (pc := 3) (lv' := [some (.ref 221), some (.int x1), some (.int 0), some (.int 0)]) dX8_aheadOf_3 rfl (by decide) rfl ?_
  obtain ⟨t9, y2, hy1⟩ := job hf
  have K3 : jGG μ_X8_aheadOf 2 35 [none, none, some (.int t9), none] [] M (fun M' r' => M' = M ∧ r' = some (.int r)) := by
    replace hf := hy1
    refine g_iload_n (pc := 35) dX8_aheadOf_35 rfl rfl ?_
    obtain rfl := Option.some.inj hf
    exact g_iret (pc := 36) dX8_aheadOf_36 rfl ⟨rfl, rfl⟩
  refine g_weak (lv' := [some (.ref 221), some (.int x1), some (.int 0), some (.int 0)]) ⟨rfl, ⟨rfl, ⟨rfl, ⟨rfl, trivial⟩⟩⟩⟩ ?_
  refine jLp_ind (P := fun ((z7, z8) : Int32 × Int32) => jGG μ_X8_aheadOf 2 4 [some (.ref 221), some (.int x1), some (.int z7), some (.int z8)] [] M (fun M' r' => M' = M ∧ r' = some (.int r))) ?_ N _ y2
  rintro ⟨z7, z8⟩ x_6 hf ih5 hx4
  show jGG μ_X8_aheadOf 2 4 [some (.ref 221), some (.int x1), some (.int z7), some (.int z8)] [] M (fun M' r' => M' = M ∧ r' = some (.int r))
  refine g_iload_n (pc := 4) dX8_aheadOf_4 rfl rfl ?_
  refine g_aload_n (pc := 5) dX8_aheadOf_5 rfl rfl ?_
  refine g_getI (pc := 6) dX8_aheadOf_6 fl_X8_143 sh_221 rfl ?_
  refine g_icmp_ge (pc := 9) 35 dX8_aheadOf_9 rfl (fun hc18 => ?_) (fun hc18 => ?_)
  · replace hf := jifp hc18 hf
    have hf := hx4 _ (Option.some.inj hf).symm
    obtain rfl := hf
    exact g_weakK K3 ⟨rfl, trivial⟩
  · replace hf := jifn hc18 hf
    refine g_iload_n (pc := 12) dX8_aheadOf_12 rfl rfl ?_
    refine g_aload_n (pc := 13) dX8_aheadOf_13 rfl rfl ?_
    refine g_iload_n (pc := 14) dX8_aheadOf_14 rfl rfl ?_
    refine g_iload_n (pc := 15) dX8_aheadOf_15 rfl rfl ?_
    obtain ⟨v10, ev10, hf⟩ := job hf
    refine g_callV (pc := 16) [.int z8, .int x1] [.int z7] dX8_aheadOf_16 ml_X8_245 ck_X8_isAhead cv_X8_isAhead sh_221 rfl (by decide) (Nat.le_of_ble_eq_true rfl) (c_X8_isAhead ev10) ?_
    show jGG μ_X8_aheadOf 2 19 [some (.ref 221), some (.int x1), some (.int z7), some (.int z8)] [.int v10, .int z7] M (fun M' r' => M' = M ∧ r' = some (.int r))
    obtain ⟨u17, hf, hy12⟩ := job hf
    have K14 : (hbu17 : u17 = 0 ∨ u17 = 1) → jGG μ_X8_aheadOf 2 27 [some (.ref 221), some (.int x1), none, some (.int z8)] [.int u17, .int z7] M (fun M' r' => M' = M ∧ r' = some (.int r)) := by
      intro hbu17
      replace hf := hy12
      refine g_iadd (pc := 27) dX8_aheadOf_27 ?_
      refine g_istore_n (pc := 28) (lv' := [some (.ref 221), some (.int x1), some (.int (z7 + u17)), some (.int z8)]) dX8_aheadOf_28 rfl (by decide) rfl ?_
      refine g_iinc (pc := 29) (lv' := [some (.ref 221), some (.int x1), some (.int (z7 + u17)), some (.int (z8 + 1))]) (z8 + 1) dX8_aheadOf_29 rfl rfl (by decide) rfl ?_
      refine g_goto (pc := 32) 4 dX8_aheadOf_32 rfl ?_
      have hih : jGG μ_X8_aheadOf 2 4 [some (.ref 221), some (.int x1), some (.int (z7 + u17)), some (.int (z8 + 1))] [] M (fun M' r' => M' = M ∧ r' = some (.int r)) := ih5 (z7 + u17, z8 + 1) (Option.some.inj hf).symm
      exact g_weakK hih ⟨rfl, ⟨rfl, ⟨rfl, ⟨rfl, trivial⟩⟩⟩⟩
    refine g_if_eq (pc := 19) 26 dX8_aheadOf_19 rfl (fun hc16 => ?_) (fun hc16 => ?_)
    · replace hf := jifp hc16 hf
      refine g_iconst (pc := 26) 0 dX8_aheadOf_26 rfl ?_
      obtain rfl := Option.some.inj hf
      exact g_weakK (K14 (Or.inl rfl)) ⟨rfl, ⟨rfl, ⟨rfl, trivial⟩⟩⟩
    · replace hf := jifn hc16 hf
      refine g_iconst (pc := 22) 1 dX8_aheadOf_22 rfl ?_
      refine g_goto (pc := 23) 27 dX8_aheadOf_23 rfl ?_
      obtain rfl := Option.some.inj hf
      exact g_weakK (K14 (Or.inr rfl)) ⟨rfl, ⟨rfl, ⟨rfl, trivial⟩⟩⟩
def f_X8_arrange (N : Nat) (M : JMem) (x1 : Int32) : Option (JMem) := ((jLp (σ := Int32 × Int32 × JMem) (ρ := JMem) N (fun ((z7, z8, M9) : Int32 × Int32 × JMem) => (if (M9 221 11) ≤ z8 then some (Sum.inr M9) else (f_X8_isOn M9 z8 x1).bind fun v11 => (((if v11 = 0 then some ((z7, M9)) else ((jLp (σ := Int32 × JMem) (ρ := Int32 × JMem) N (fun ((z23, M24) : Int32 × JMem) => (if z23 ≤ 0 then some (Sum.inr (z23, M24)) else (jrd M24 231 256 (((32 * x1) + z23) - 1)).bind fun v27 => (f_X8_aheadOf N M24 v27).bind fun v28 => (f_X8_aheadOf N M24 z8).bind fun v29 => (if v28 ≤ v29 then some (Sum.inr (z23, M24)) else (jrd M24 231 256 (((32 * x1) + z23) - 1)).bind fun v30 => (jwr M24 231 256 ((32 * x1) + z23) v30).bind fun M31 => some (Sum.inl (z23 + (-1), M31))))) (z7, M9)).bind fun (t25, t26) => (jwr t26 231 256 ((32 * x1) + t25) z8).bind fun M34 => some ((z7 + 1, M34)))) : Option (Int32 × JMem)).bind fun (u36, M37) => some (Sum.inl (u36, z8 + 1, M37))))) (0, 0, M)).bind fun t10 => some t10)
set_option maxHeartbeats 4000000 in
theorem c_X8_arrange {N : Nat} {M : JMem} {x1 : Int32} {Mz : JMem} (hf : f_X8_arrange N M x1 = some Mz) : jCo yX8_arrange μ_X8_arrange 3 M [.ref 221, .int x1] Mz none := by
  refine jCt_of (by decide +kernel) rfl (by simp [Value.category]) (Nat.le_of_ble_eq_true rfl) ?_
  unfold f_X8_arrange at hf
  show jGG μ_X8_arrange 3 0 [some (.ref 221), some (.int x1), none, none, none] [] M (fun M' r' => M' = Mz ∧ r' = none)
  refine g_iconst (pc := 0) 0 dX8_arrange_0 rfl ?_
  refine g_istore_n (pc := 1) (lv' := [some (.ref 221), some (.int x1), some (.int 0), none, none]) dX8_arrange_1 rfl (by decide) rfl ?_
  refine g_iconst (pc := 2) 0 dX8_arrange_2 rfl ?_
  refine g_istore_n (pc := 3) (lv' := [some (.ref 221), some (.int x1), some (.int 0), some (.int 0), none]) dX8_arrange_3 rfl (by decide) rfl ?_
  obtain ⟨t10, y2, hy1⟩ := job hf
  have K3 : jGG μ_X8_arrange 3 112 [none, none, none, none, none] [] t10 (fun M' r' => M' = Mz ∧ r' = none) := by
    replace hf := hy1
    obtain rfl := Option.some.inj hf
    exact g_vret (pc := 112) dX8_arrange_112 rfl ⟨rfl, rfl⟩
  refine g_weak (lv' := [some (.ref 221), some (.int x1), some (.int 0), some (.int 0), none]) ⟨rfl, ⟨rfl, ⟨rfl, ⟨rfl, trivial⟩⟩⟩⟩ ?_
  refine jLp_ind (P := fun ((z7, z8, M9) : Int32 × Int32 × JMem) => jGG μ_X8_arrange 3 4 [some (.ref 221), some (.int x1), some (.int z7), some (.int z8), none] [] M9 (fun M' r' => M' = Mz ∧ r' = none)) ?_ N _ y2
  rintro ⟨z7, z8, M9⟩ x_6 hf ih5 hx4
  show jGG μ_X8_arrange 3 4 [some (.ref 221), some (.int x1), some (.int z7), some (.int z8), none] [] M9 (fun M' r' => M' = Mz ∧ r' = none)
  refine g_iload_n (pc := 4) dX8_arrange_4 rfl rfl ?_
  refine g_aload_n (pc := 5) dX8_arrange_5 rfl rfl ?_
  refine g_getI (pc := 6) dX8_arrange_6 fl_X8_143 sh_221 rfl ?_
  refine g_icmp_ge (pc := 9) 112 dX8_arrange_9 rfl (fun hc38 => ?_) (fun hc38 => ?_)
  · replace hf := jifp hc38 hf
    have hf := hx4 _ (Option.some.inj hf).symm
    obtain rfl := hf
    exact g_weakK K3 trivial
  · replace hf := jifn hc38 hf
    refine g_aload_n (pc := 12) dX8_arrange_12 rfl rfl ?_
    refine g_iload_n (pc := 13) dX8_arrange_13 rfl rfl ?_
    refine g_iload_n (pc := 14) dX8_arrange_14 rfl rfl ?_
    obtain ⟨v11, ev11, hf⟩ := job hf
    refine g_callV (pc := 15) [.int z8, .int x1] [] dX8_arrange_15 ml_X8_248 ck_X8_isOn cv_X8_isOn sh_221 rfl (by decide) (Nat.le_of_ble_eq_true rfl) (c_X8_isOn ev11) ?_
    show jGG μ_X8_arrange 3 18 [some (.ref 221), some (.int x1), some (.int z7), some (.int z8), none] [.int v11] M9 (fun M' r' => M' = Mz ∧ r' = none)
    obtain ⟨⟨u36, M37⟩, hf, hy13⟩ := job hf
    have K15 : jGG μ_X8_arrange 3 106 [some (.ref 221), some (.int x1), some (.int u36), some (.int z8), none] [] M37 (fun M' r' => M' = Mz ∧ r' = none) := by
      replace hf := hy13
      refine g_iinc (pc := 106) (lv' := [some (.ref 221), some (.int x1), some (.int u36), some (.int (z8 + 1)), none]) (z8 + 1) dX8_arrange_106 rfl rfl (by decide) rfl ?_
      refine g_goto (pc := 109) 4 dX8_arrange_109 rfl ?_
      have hih : jGG μ_X8_arrange 3 4 [some (.ref 221), some (.int x1), some (.int u36), some (.int (z8 + 1)), none] [] M37 (fun M' r' => M' = Mz ∧ r' = none) := ih5 (u36, z8 + 1, M37) (Option.some.inj hf).symm
      exact g_weakK hih ⟨rfl, ⟨rfl, ⟨rfl, ⟨rfl, trivial⟩⟩⟩⟩
    refine g_if_ne (pc := 18) 24 dX8_arrange_18 rfl (fun hc35 => ?_) (fun hc35 => ?_)
    · replace hf := jifn hc35 hf
      refine g_iload_n (pc := 24) dX8_arrange_24 rfl rfl ?_
      refine g_istore (pc := 25) (lv' := [some (.ref 221), some (.int x1), some (.int z7), some (.int z8), some (.int z7)]) dX8_arrange_25 (by decide) rfl ?_
      obtain ⟨⟨t25, t26⟩, y18, hy17⟩ := job hf
      have K19 : jGG μ_X8_arrange 3 90 [some (.ref 221), some (.int x1), some (.int z7), some (.int z8), some (.int t25)] [] t26 (fun M' r' => M' = Mz ∧ r' = none) := by
        replace hf := hy17
        refine g_aload_n (pc := 90) dX8_arrange_90 rfl rfl ?_
        refine g_getR (pc := 91) dX8_arrange_91 fl_X8_37 sh_221 rfl ?_
        refine g_bipush (pc := 94) 32 dX8_arrange_94 rfl ?_
        refine g_iload_n (pc := 96) dX8_arrange_96 rfl rfl ?_
        refine g_imul (pc := 97) dX8_arrange_97 ?_
        refine g_iload (pc := 98) dX8_arrange_98 rfl ?_
        refine g_iadd (pc := 100) dX8_arrange_100 ?_
        refine g_iload_n (pc := 101) dX8_arrange_101 rfl rfl ?_
        obtain ⟨M34, eM34, hf⟩ := job hf
        refine g_iast (pc := 102) dX8_arrange_102 sh_231 eM34 ?_
        refine g_iinc (pc := 103) (lv' := [some (.ref 221), some (.int x1), some (.int (z7 + 1)), some (.int z8), some (.int t25)]) (z7 + 1) dX8_arrange_103 rfl rfl (by decide) rfl ?_
        obtain ⟨rfl, rfl⟩ := jp2 (Option.some.inj hf)
        exact g_weakK (K15) ⟨rfl, ⟨rfl, ⟨rfl, ⟨rfl, trivial⟩⟩⟩⟩
      refine g_weak (lv' := [some (.ref 221), some (.int x1), some (.int z7), some (.int z8), some (.int z7)]) ⟨rfl, ⟨rfl, ⟨rfl, ⟨rfl, ⟨rfl, trivial⟩⟩⟩⟩⟩ ?_
      refine jLp_ind (P := fun ((z23, M24) : Int32 × JMem) => jGG μ_X8_arrange 3 27 [some (.ref 221), some (.int x1), some (.int z7), some (.int z8), some (.int z23)] [] M24 (fun M' r' => M' = Mz ∧ r' = none)) ?_ N _ y18
      rintro ⟨z23, M24⟩ x_22 hf ih21 hx20
      show jGG μ_X8_arrange 3 27 [some (.ref 221), some (.int x1), some (.int z7), some (.int z8), some (.int z23)] [] M24 (fun M' r' => M' = Mz ∧ r' = none)
      refine g_iload (pc := 27) dX8_arrange_27 rfl ?_
      refine g_if_le (pc := 29) 90 dX8_arrange_29 rfl (fun hc33 => ?_) (fun hc33 => ?_)
      · replace hf := jifp hc33 hf
        have hf := hx20 _ (Option.some.inj hf).symm
        obtain ⟨rfl, rfl⟩ := jp2 hf
        exact g_weakK K19 ⟨rfl, ⟨rfl, ⟨rfl, ⟨rfl, ⟨rfl, trivial⟩⟩⟩⟩⟩
      · replace hf := jifn hc33 hf
        refine g_aload_n (pc := 32) dX8_arrange_32 rfl rfl ?_
        refine g_aload_n (pc := 33) dX8_arrange_33 rfl rfl ?_
        refine g_getR (pc := 34) dX8_arrange_34 fl_X8_37 sh_221 rfl ?_
        refine g_bipush (pc := 37) 32 dX8_arrange_37 rfl ?_
        refine g_iload_n (pc := 39) dX8_arrange_39 rfl rfl ?_
        refine g_imul (pc := 40) dX8_arrange_40 ?_
        refine g_iload (pc := 41) dX8_arrange_41 rfl ?_
        refine g_iadd (pc := 43) dX8_arrange_43 ?_
        refine g_iconst (pc := 44) 1 dX8_arrange_44 rfl ?_
        refine g_isub (pc := 45) dX8_arrange_45 ?_
        obtain ⟨v27, ev27, hf⟩ := job hf
        refine g_iald (pc := 46) dX8_arrange_46 sh_231 ev27 ?_
        obtain ⟨v28, ev28, hf⟩ := job hf
        refine g_callV (pc := 47) [.int v27] [] dX8_arrange_47 ml_X8_311 ck_X8_aheadOf cv_X8_aheadOf sh_221 rfl (by decide) (Nat.le_of_ble_eq_true rfl) (c_X8_aheadOf ev28) ?_
        show jGG μ_X8_arrange 3 50 [some (.ref 221), some (.int x1), some (.int z7), some (.int z8), some (.int z23)] [.int v28] M24 (fun M' r' => M' = Mz ∧ r' = none)
        refine g_aload_n (pc := 50) dX8_arrange_50 rfl rfl ?_
        refine g_iload_n (pc := 51) dX8_arrange_51 rfl rfl ?_
        obtain ⟨v29, ev29, hf⟩ := job hf
        refine g_callV (pc := 52) [.int z8] [.int v28] dX8_arrange_52 ml_X8_311 ck_X8_aheadOf cv_X8_aheadOf sh_221 rfl (by decide) (Nat.le_of_ble_eq_true rfl) (c_X8_aheadOf ev29) ?_
        show jGG μ_X8_arrange 3 55 [some (.ref 221), some (.int x1), some (.int z7), some (.int z8), some (.int z23)] [.int v29, .int v28] M24 (fun M' r' => M' = Mz ∧ r' = none)
        refine g_icmp_le (pc := 55) 90 dX8_arrange_55 rfl (fun hc32 => ?_) (fun hc32 => ?_)
        · replace hf := jifp hc32 hf
          have hf := hx20 _ (Option.some.inj hf).symm
          obtain ⟨rfl, rfl⟩ := jp2 hf
          exact g_weakK K19 ⟨rfl, ⟨rfl, ⟨rfl, ⟨rfl, ⟨rfl, trivial⟩⟩⟩⟩⟩
        · replace hf := jifn hc32 hf
          refine g_aload_n (pc := 58) dX8_arrange_58 rfl rfl ?_
          refine g_getR (pc := 59) dX8_arrange_59 fl_X8_37 sh_221 rfl ?_
          refine g_bipush (pc := 62) 32 dX8_arrange_62 rfl ?_
          refine g_iload_n (pc := 64) dX8_arrange_64 rfl rfl ?_
          refine g_imul (pc := 65) dX8_arrange_65 ?_
          refine g_iload (pc := 66) dX8_arrange_66 rfl ?_
          refine g_iadd (pc := 68) dX8_arrange_68 ?_
          refine g_aload_n (pc := 69) dX8_arrange_69 rfl rfl ?_
          refine g_getR (pc := 70) dX8_arrange_70 fl_X8_37 sh_221 rfl ?_
          refine g_bipush (pc := 73) 32 dX8_arrange_73 rfl ?_
          refine g_iload_n (pc := 75) dX8_arrange_75 rfl rfl ?_
          refine g_imul (pc := 76) dX8_arrange_76 ?_
          refine g_iload (pc := 77) dX8_arrange_77 rfl ?_
          refine g_iadd (pc := 79) dX8_arrange_79 ?_
          refine g_iconst (pc := 80) 1 dX8_arrange_80 rfl ?_
          refine g_isub (pc := 81) dX8_arrange_81 ?_
          obtain ⟨v30, ev30, hf⟩ := job hf
          refine g_iald (pc := 82) dX8_arrange_82 sh_231 ev30 ?_
          obtain ⟨M31, eM31, hf⟩ := job hf
          refine g_iast (pc := 83) dX8_arrange_83 sh_231 eM31 ?_
          refine g_iinc (pc := 84) (lv' := [some (.ref 221), some (.int x1), some (.int z7), some (.int z8), some (.int (z23 + (-1)))]) (z23 + (-1)) dX8_arrange_84 rfl rfl (by decide) rfl ?_
          refine g_goto (pc := 87) 27 dX8_arrange_87 rfl ?_
          have hih : jGG μ_X8_arrange 3 27 [some (.ref 221), some (.int x1), some (.int z7), some (.int z8), some (.int (z23 + (-1)))] [] M31 (fun M' r' => M' = Mz ∧ r' = none) := ih21 (z23 + (-1), M31) (Option.some.inj hf).symm
          exact g_weakK hih ⟨rfl, ⟨rfl, ⟨rfl, ⟨rfl, ⟨rfl, trivial⟩⟩⟩⟩⟩
    · replace hf := jifp hc35 hf
      refine g_goto (pc := 21) 106 dX8_arrange_21 rfl ?_
      obtain ⟨rfl, rfl⟩ := jp2 (Option.some.inj hf)
      exact g_weakK (K15) ⟨rfl, ⟨rfl, ⟨rfl, ⟨rfl, trivial⟩⟩⟩⟩
def f_X8_complete (N : Nat) (M : JMem) : Option (JMem) := ((jLp (σ := Int32 × JMem) (ρ := JMem) N (fun ((z7, M8) : Int32 × JMem) => (if 256 ≤ z7 then some (Sum.inr M8) else (jrd M8 231 256 z7).bind fun v10 => (jwr M8 256 256 z7 v10).bind fun M11 => some (Sum.inl (z7 + 1, M11)))) (0, M)).bind fun t9 => ((jLp (σ := Int32 × JMem) (ρ := JMem) N (fun ((z19, M20) : Int32 × JMem) => (if (M20 221 2) ≤ z19 then some (Sum.inr M20) else (jrd M20 222 8 z19).bind fun v22 => (((if v22 = 0 then (f_X8_arrange N M20 z19).bind fun M28 => some (M28) else some (M20)) : Option (JMem)).bind fun M30 => some (Sum.inl (z19 + 1, M30))))) (0, t9)).bind fun t21 => (f_X8_work N t21).bind fun (M32, v33) => (jcase (α := JMem) (β := Unit) (if v33 = 0 then some (Sum.inr ()) else (if (M32 221 45) ≤ (M32 221 21) then some (Sum.inr ()) else (some (jup M32 221 45 (M32 221 21))).bind fun M39 => (some (jup M39 221 47 ((M39 221 47) + 1))).bind fun M40 => some (Sum.inl M40))) fun _ => ((jLp (σ := Int32 × JMem) (ρ := JMem) N (fun ((z49, M50) : Int32 × JMem) => (if 256 ≤ z49 then some (Sum.inr M50) else (jrd M50 256 256 z49).bind fun v52 => (jwr M50 231 256 z49 v52).bind fun M53 => some (Sum.inl (z49 + 1, M53)))) (0, M32)).bind fun t51 => some t51))))
set_option maxHeartbeats 4000000 in
theorem c_X8_complete {N : Nat} {M : JMem} {Mz : JMem} (hf : f_X8_complete N M = some Mz) : jCo yX8_complete μ_X8_complete 4 M [.ref 221] Mz none := by
  refine jCt_of (by decide +kernel) rfl (by simp [Value.category]) (Nat.le_of_ble_eq_true rfl) ?_
  unfold f_X8_complete at hf
  show jGG μ_X8_complete 4 0 [some (.ref 221), none] [] M (fun M' r' => M' = Mz ∧ r' = none)
  refine g_iconst (pc := 0) 0 dX8_complete_0 rfl ?_
  refine g_istore_n (pc := 1) (lv' := [some (.ref 221), some (.int 0)]) dX8_complete_1 rfl (by decide) rfl ?_
  obtain ⟨t9, y2, hy1⟩ := job hf
  have K3 : jGG μ_X8_complete 4 27 [some (.ref 221), none] [] t9 (fun M' r' => M' = Mz ∧ r' = none) := by
    replace hf := hy1
    refine g_iconst (pc := 27) 0 dX8_complete_27 rfl ?_
    refine g_istore_n (pc := 28) (lv' := [some (.ref 221), some (.int 0)]) dX8_complete_28 rfl (by decide) rfl ?_
    obtain ⟨t21, y14, hy13⟩ := job hf
    have K15 : jGG μ_X8_complete 4 57 [some (.ref 221), none] [] t21 (fun M' r' => M' = Mz ∧ r' = none) := by
      replace hf := hy13
      refine g_aload_n (pc := 57) dX8_complete_57 rfl rfl ?_
      obtain ⟨⟨M32, v33⟩, ev33, hf⟩ := job hf
      refine g_callV (pc := 58) [] [] dX8_complete_58 ml_X8_192 ck_X8_work cv_X8_work sh_221 rfl (by decide) (Nat.le_of_ble_eq_true rfl) (c_X8_work ev33) ?_
      show jGG μ_X8_complete 4 61 [some (.ref 221), none] [.int v33] M32 (fun M' r' => M' = Mz ∧ r' = none)
      obtain ⟨y36, hf, hy35⟩ := jcb hf
      have K37 : y36 = Sum.inr () → jGG μ_X8_complete 4 94 [some (.ref 221), none] [] M32 (fun M' r' => M' = Mz ∧ r' = none) := by
        intro hyy
        subst hyy
        replace hf := hy35
        refine g_iconst (pc := 94) 0 dX8_complete_94 rfl ?_
        refine g_istore_n (pc := 95) (lv' := [some (.ref 221), some (.int 0)]) dX8_complete_95 rfl (by decide) rfl ?_
        obtain ⟨t51, y44, hy43⟩ := job hf
        have K45 : jGG μ_X8_complete 4 121 [none, none] [] t51 (fun M' r' => M' = Mz ∧ r' = none) := by
          replace hf := hy43
          obtain rfl := Option.some.inj hf
          exact g_vret (pc := 121) dX8_complete_121 rfl ⟨rfl, rfl⟩
        refine g_weak (lv' := [some (.ref 221), some (.int 0)]) ⟨rfl, ⟨rfl, trivial⟩⟩ ?_
        refine jLp_ind (P := fun ((z49, M50) : Int32 × JMem) => jGG μ_X8_complete 4 96 [some (.ref 221), some (.int z49)] [] M50 (fun M' r' => M' = Mz ∧ r' = none)) ?_ N _ y44
        rintro ⟨z49, M50⟩ x_48 hf ih47 hx46
        show jGG μ_X8_complete 4 96 [some (.ref 221), some (.int z49)] [] M50 (fun M' r' => M' = Mz ∧ r' = none)
        refine g_iload_n (pc := 96) dX8_complete_96 rfl rfl ?_
        refine g_sipush (pc := 97) 256 dX8_complete_97 rfl ?_
        refine g_icmp_ge (pc := 100) 121 dX8_complete_100 rfl (fun hc54 => ?_) (fun hc54 => ?_)
        · replace hf := jifp hc54 hf
          have hf := hx46 _ (Option.some.inj hf).symm
          obtain rfl := hf
          exact g_weakK K45 trivial
        · replace hf := jifn hc54 hf
          refine g_aload_n (pc := 103) dX8_complete_103 rfl rfl ?_
          refine g_getR (pc := 104) dX8_complete_104 fl_X8_37 sh_221 rfl ?_
          refine g_iload_n (pc := 107) dX8_complete_107 rfl rfl ?_
          refine g_aload_n (pc := 108) dX8_complete_108 rfl rfl ?_
          refine g_getR (pc := 109) dX8_complete_109 fl_X8_113 sh_221 rfl ?_
          refine g_iload_n (pc := 112) dX8_complete_112 rfl rfl ?_
          obtain ⟨v52, ev52, hf⟩ := job hf
          refine g_iald (pc := 113) dX8_complete_113 sh_256 ev52 ?_
          obtain ⟨M53, eM53, hf⟩ := job hf
          refine g_iast (pc := 114) dX8_complete_114 sh_231 eM53 ?_
          refine g_iinc (pc := 115) (lv' := [some (.ref 221), some (.int (z49 + 1))]) (z49 + 1) dX8_complete_115 rfl rfl (by decide) rfl ?_
          refine g_goto (pc := 118) 96 dX8_complete_118 rfl ?_
          have hih : jGG μ_X8_complete 4 96 [some (.ref 221), some (.int (z49 + 1))] [] M53 (fun M' r' => M' = Mz ∧ r' = none) := ih47 (z49 + 1, M53) (Option.some.inj hf).symm
          exact g_weakK hih ⟨rfl, ⟨rfl, trivial⟩⟩
      refine g_if_eq (pc := 61) 94 dX8_complete_61 rfl (fun hc42 => ?_) (fun hc42 => ?_)
      · replace hf := jifp hc42 hf
        exact g_weakK (K37 (Option.some.inj hf).symm) ⟨rfl, trivial⟩
      · replace hf := jifn hc42 hf
        refine g_aload_n (pc := 64) dX8_complete_64 rfl rfl ?_
        refine g_getI (pc := 65) dX8_complete_65 fl_X8_183 sh_221 rfl ?_
        refine g_aload_n (pc := 68) dX8_complete_68 rfl rfl ?_
        refine g_getI (pc := 69) dX8_complete_69 fl_X8_305 sh_221 rfl ?_
        refine g_icmp_ge (pc := 72) 94 dX8_complete_72 rfl (fun hc41 => ?_) (fun hc41 => ?_)
        · replace hf := jifp hc41 hf
          exact g_weakK (K37 (Option.some.inj hf).symm) ⟨rfl, trivial⟩
        · replace hf := jifn hc41 hf
          refine g_aload_n (pc := 75) dX8_complete_75 rfl rfl ?_
          refine g_aload_n (pc := 76) dX8_complete_76 rfl rfl ?_
          refine g_getI (pc := 77) dX8_complete_77 fl_X8_183 sh_221 rfl ?_
          refine g_putI (pc := 80) dX8_complete_80 fp_X8_305 sh_221 rfl ?_
          obtain ⟨M39, eM39, hf⟩ := job hf
          rw [Option.some.inj eM39]
          refine g_aload_n (pc := 83) dX8_complete_83 rfl rfl ?_
          refine g_dup (pc := 84) dX8_complete_84 rfl ?_
          refine g_getI (pc := 85) dX8_complete_85 fl_X8_308 sh_221 rfl ?_
          refine g_iconst (pc := 88) 1 dX8_complete_88 rfl ?_
          refine g_iadd (pc := 89) dX8_complete_89 ?_
          refine g_putI (pc := 90) dX8_complete_90 fp_X8_308 sh_221 rfl ?_
          obtain ⟨M40, eM40, hf⟩ := job hf
          rw [Option.some.inj eM40]
          obtain rfl := Option.some.inj hf
          replace hf := hy35
          obtain rfl := Option.some.inj hf
          exact g_vret (pc := 93) dX8_complete_93 rfl ⟨rfl, rfl⟩
    refine g_weak (lv' := [some (.ref 221), some (.int 0)]) ⟨rfl, ⟨rfl, trivial⟩⟩ ?_
    refine jLp_ind (P := fun ((z19, M20) : Int32 × JMem) => jGG μ_X8_complete 4 29 [some (.ref 221), some (.int z19)] [] M20 (fun M' r' => M' = Mz ∧ r' = none)) ?_ N _ y14
    rintro ⟨z19, M20⟩ x_18 hf ih17 hx16
    show jGG μ_X8_complete 4 29 [some (.ref 221), some (.int z19)] [] M20 (fun M' r' => M' = Mz ∧ r' = none)
    refine g_iload_n (pc := 29) dX8_complete_29 rfl rfl ?_
    refine g_aload_n (pc := 30) dX8_complete_30 rfl rfl ?_
    refine g_getI (pc := 31) dX8_complete_31 fl_X8_133 sh_221 rfl ?_
    refine g_icmp_ge (pc := 34) 57 dX8_complete_34 rfl (fun hc31 => ?_) (fun hc31 => ?_)
    · replace hf := jifp hc31 hf
      have hf := hx16 _ (Option.some.inj hf).symm
      obtain rfl := hf
      exact g_weakK K15 ⟨rfl, trivial⟩
    · replace hf := jifn hc31 hf
      refine g_aload_n (pc := 37) dX8_complete_37 rfl rfl ?_
      refine g_getR (pc := 38) dX8_complete_38 fl_X8_7 sh_221 rfl ?_
      refine g_iload_n (pc := 41) dX8_complete_41 rfl rfl ?_
      obtain ⟨v22, ev22, hf⟩ := job hf
      refine g_iald (pc := 42) dX8_complete_42 sh_222 ev22 ?_
      obtain ⟨M30, hf, hy24⟩ := job hf
      have K26 : jGG μ_X8_complete 4 51 [some (.ref 221), some (.int z19)] [] M30 (fun M' r' => M' = Mz ∧ r' = none) := by
        replace hf := hy24
        refine g_iinc (pc := 51) (lv' := [some (.ref 221), some (.int (z19 + 1))]) (z19 + 1) dX8_complete_51 rfl rfl (by decide) rfl ?_
        refine g_goto (pc := 54) 29 dX8_complete_54 rfl ?_
        have hih : jGG μ_X8_complete 4 29 [some (.ref 221), some (.int (z19 + 1))] [] M30 (fun M' r' => M' = Mz ∧ r' = none) := ih17 (z19 + 1, M30) (Option.some.inj hf).symm
        exact g_weakK hih ⟨rfl, ⟨rfl, trivial⟩⟩
      refine g_if_ne (pc := 43) 51 dX8_complete_43 rfl (fun hc29 => ?_) (fun hc29 => ?_)
      · replace hf := jifn hc29 hf
        obtain rfl := Option.some.inj hf
        exact g_weakK (K26) ⟨rfl, ⟨rfl, trivial⟩⟩
      · replace hf := jifp hc29 hf
        refine g_aload_n (pc := 46) dX8_complete_46 rfl rfl ?_
        refine g_iload_n (pc := 47) dX8_complete_47 rfl rfl ?_
        obtain ⟨M28, eM28, hf⟩ := job hf
        refine g_callV (pc := 48) [.int z19] [] dX8_complete_48 ml_X8_302 ck_X8_arrange cv_X8_arrange sh_221 rfl (by decide) (Nat.le_of_ble_eq_true rfl) (c_X8_arrange eM28) ?_
        show jGG μ_X8_complete 4 51 [some (.ref 221), some (.int z19)] [] M28 (fun M' r' => M' = Mz ∧ r' = none)
        obtain rfl := Option.some.inj hf
        exact g_weakK (K26) ⟨rfl, ⟨rfl, trivial⟩⟩
  refine g_weak (lv' := [some (.ref 221), some (.int 0)]) ⟨rfl, ⟨rfl, trivial⟩⟩ ?_
  refine jLp_ind (P := fun ((z7, M8) : Int32 × JMem) => jGG μ_X8_complete 4 2 [some (.ref 221), some (.int z7)] [] M8 (fun M' r' => M' = Mz ∧ r' = none)) ?_ N _ y2
  rintro ⟨z7, M8⟩ x_6 hf ih5 hx4
  show jGG μ_X8_complete 4 2 [some (.ref 221), some (.int z7)] [] M8 (fun M' r' => M' = Mz ∧ r' = none)
  refine g_iload_n (pc := 2) dX8_complete_2 rfl rfl ?_
  refine g_sipush (pc := 3) 256 dX8_complete_3 rfl ?_
  refine g_icmp_ge (pc := 6) 27 dX8_complete_6 rfl (fun hc12 => ?_) (fun hc12 => ?_)
  · replace hf := jifp hc12 hf
    have hf := hx4 _ (Option.some.inj hf).symm
    obtain rfl := hf
    exact g_weakK K3 ⟨rfl, trivial⟩
  · replace hf := jifn hc12 hf
    refine g_aload_n (pc := 9) dX8_complete_9 rfl rfl ?_
    refine g_getR (pc := 10) dX8_complete_10 fl_X8_113 sh_221 rfl ?_
    refine g_iload_n (pc := 13) dX8_complete_13 rfl rfl ?_
    refine g_aload_n (pc := 14) dX8_complete_14 rfl rfl ?_
    refine g_getR (pc := 15) dX8_complete_15 fl_X8_37 sh_221 rfl ?_
    refine g_iload_n (pc := 18) dX8_complete_18 rfl rfl ?_
    obtain ⟨v10, ev10, hf⟩ := job hf
    refine g_iald (pc := 19) dX8_complete_19 sh_231 ev10 ?_
    obtain ⟨M11, eM11, hf⟩ := job hf
    refine g_iast (pc := 20) dX8_complete_20 sh_256 eM11 ?_
    refine g_iinc (pc := 21) (lv' := [some (.ref 221), some (.int (z7 + 1))]) (z7 + 1) dX8_complete_21 rfl rfl (by decide) rfl ?_
    refine g_goto (pc := 24) 2 dX8_complete_24 rfl ?_
    have hih : jGG μ_X8_complete 4 2 [some (.ref 221), some (.int (z7 + 1))] [] M11 (fun M' r' => M' = Mz ∧ r' = none) := ih5 (z7 + 1, M11) (Option.some.inj hf).symm
    exact g_weakK hih ⟨rfl, ⟨rfl, trivial⟩⟩
def f_X8_parts (N : Nat) (M : JMem) : Option (JMem × Int32) := (jcase (α := JMem × Int32) (β := Unit) (jLp (σ := Int32) (ρ := (JMem × Int32) ⊕ (Unit)) N (fun (z7 : Int32) => (if (M 221 11) ≤ z7 then some (Sum.inr (Sum.inr ())) else (jcase (α := (Int32) ⊕ ((JMem × Int32) ⊕ (Unit))) (β := Unit) (jLp (σ := Int32) (ρ := ((Int32) ⊕ ((JMem × Int32) ⊕ (Unit))) ⊕ (Unit)) N (fun (z14 : Int32) => (if (M 221 11) ≤ z14 then some (Sum.inr (Sum.inr ())) else (jrd M 228 32 z7).bind fun v15 => (jrd M 228 32 z14).bind fun v16 => (((jcase (α := Int32) (β := Unit) (if v15 = v16 then (jrd M 228 32 z7).bind fun v27 => (jrd M 222 8 v27).bind fun v28 => (if v28 = 0 then (f_X8_isAhead M z7 z14).bind fun v29 => (if v29 = 0 then (f_X8_isAhead M z14 z7).bind fun v30 => (if v30 = 0 then some (Sum.inl (1)) else some (Sum.inr ())) else some (Sum.inr ())) else some (Sum.inr ())) else some (Sum.inr ())) fun _ => some (0)) : Option (Int32)).bind fun u35 => (if u35 = 0 then some (Sum.inl (z14 + 1)) else (jrd M 244 32 z14).bind fun v36 => (jwr M 244 32 z14 (v36 ||| (jshl 1 z7))).bind fun M37 => (f_X8_pushCase N M37).bind fun M38 => (jrd M38 244 32 z14).bind fun v39 => (jwr M38 244 32 z14 (v39 &&& ((jshl 1 z7) ^^^ ((-1))))).bind fun M40 => (jrd M40 244 32 z7).bind fun v41 => (jwr M40 244 32 z7 (v41 ||| (jshl 1 z14))).bind fun M42 => (f_X8_pushCase N M42).bind fun M43 => some (Sum.inr (Sum.inl (Sum.inr (Sum.inl (M43, 1))))))))) (z7 + 1)) fun _ => some (Sum.inl (z7 + 1))))) 0) fun _ => some (M, 0))
set_option maxHeartbeats 4000000 in
theorem c_X8_parts {N : Nat} {M : JMem} {Mz : JMem} {r : Int32} (hf : f_X8_parts N M = some (Mz, r)) : jCo yX8_parts μ_X8_parts 2 M [.ref 221] Mz (some (.int r)) := by
  refine jCt_of (by decide +kernel) rfl (by simp [Value.category]) (Nat.le_of_ble_eq_true rfl) ?_
  unfold f_X8_parts at hf
  show jGG μ_X8_parts 2 0 [some (.ref 221), none, none, none] [] M (fun M' r' => M' = Mz ∧ r' = some (.int r))
  refine g_iconst (pc := 0) 0 dX8_parts_0 rfl ?_
  refine g_istore_n (pc := 1) (lv' := [some (.ref 221), some (.int 0), none, none]) dX8_parts_1 rfl (by decide) rfl ?_
  obtain ⟨y2, hr48, hy1⟩ := jcb hf
  have K3 : y2 = Sum.inr () → jGG μ_X8_parts 2 139 [none, none, none, none] [] M (fun M' r' => M' = Mz ∧ r' = some (.int r)) := by
    intro hyy
    subst hyy
    replace hf := hy1
    refine g_iconst (pc := 139) 0 dX8_parts_139 rfl ?_
    obtain ⟨rfl, rfl⟩ := Prod.mk.inj (Option.some.inj hf)
    exact g_zret (pc := 140) dX8_parts_140 rfl (Or.inl rfl) ⟨rfl, rfl⟩
  refine g_weak (lv' := [some (.ref 221), some (.int 0), none, none]) ⟨rfl, ⟨rfl, trivial⟩⟩ ?_
  refine jLp_ind (P := fun (z7 : Int32) => jGG μ_X8_parts 2 2 [some (.ref 221), some (.int z7), none, none] [] M (fun M' r' => M' = Mz ∧ r' = some (.int r))) ?_ N _ hr48
  rintro z7 x_6 hf ih5 hx4
  show jGG μ_X8_parts 2 2 [some (.ref 221), some (.int z7), none, none] [] M (fun M' r' => M' = Mz ∧ r' = some (.int r))
  refine g_iload_n (pc := 2) dX8_parts_2 rfl rfl ?_
  refine g_aload_n (pc := 3) dX8_parts_3 rfl rfl ?_
  refine g_getI (pc := 4) dX8_parts_4 fl_X8_143 sh_221 rfl ?_
  refine g_icmp_ge (pc := 7) 139 dX8_parts_7 rfl (fun hc47 => ?_) (fun hc47 => ?_)
  · replace hf := jifp hc47 hf
    have hf := hx4 _ (Option.some.inj hf).symm
    exact g_weakK (K3 hf.symm) trivial
  · replace hf := jifn hc47 hf
    refine g_iload_n (pc := 10) dX8_parts_10 rfl rfl ?_
    refine g_iconst (pc := 11) 1 dX8_parts_11 rfl ?_
    refine g_iadd (pc := 12) dX8_parts_12 ?_
    refine g_istore_n (pc := 13) (lv' := [some (.ref 221), some (.int z7), some (.int (z7 + 1)), none]) dX8_parts_13 rfl (by decide) rfl ?_
    obtain ⟨y9, hr46, hy8⟩ := jcb hf
    have K10 : y9 = Sum.inr () → jGG μ_X8_parts 2 133 [some (.ref 221), some (.int z7), none, none] [] M (fun M' r' => M' = Mz ∧ r' = some (.int r)) := by
      intro hyy
      subst hyy
      replace hf := hy8
      refine g_iinc (pc := 133) (lv' := [some (.ref 221), some (.int (z7 + 1)), none, none]) (z7 + 1) dX8_parts_133 rfl rfl (by decide) rfl ?_
      refine g_goto (pc := 136) 2 dX8_parts_136 rfl ?_
      have hih : jGG μ_X8_parts 2 2 [some (.ref 221), some (.int (z7 + 1)), none, none] [] M (fun M' r' => M' = Mz ∧ r' = some (.int r)) := ih5 (z7 + 1) (Option.some.inj hf).symm
      exact g_weakK hih ⟨rfl, ⟨rfl, trivial⟩⟩
    refine g_weak (lv' := [some (.ref 221), some (.int z7), some (.int (z7 + 1)), none]) ⟨rfl, ⟨rfl, ⟨rfl, trivial⟩⟩⟩ ?_
    refine jLp_ind (P := fun (z14 : Int32) => jGG μ_X8_parts 2 14 [some (.ref 221), some (.int z7), some (.int z14), none] [] M (fun M' r' => M' = Mz ∧ r' = some (.int r))) ?_ N _ hr46
    rintro z14 x_13 hf ih12 hx11
    show jGG μ_X8_parts 2 14 [some (.ref 221), some (.int z7), some (.int z14), none] [] M (fun M' r' => M' = Mz ∧ r' = some (.int r))
    refine g_iload_n (pc := 14) dX8_parts_14 rfl rfl ?_
    refine g_aload_n (pc := 15) dX8_parts_15 rfl rfl ?_
    refine g_getI (pc := 16) dX8_parts_16 fl_X8_143 sh_221 rfl ?_
    refine g_icmp_ge (pc := 19) 133 dX8_parts_19 rfl (fun hc45 => ?_) (fun hc45 => ?_)
    · replace hf := jifp hc45 hf
      have hf := hx11 _ (Option.some.inj hf).symm
      exact g_weakK (K10 hf.symm) ⟨rfl, ⟨rfl, trivial⟩⟩
    · replace hf := jifn hc45 hf
      refine g_aload_n (pc := 22) dX8_parts_22 rfl rfl ?_
      refine g_getR (pc := 23) dX8_parts_23 fl_X8_28 sh_221 rfl ?_
      refine g_iload_n (pc := 26) dX8_parts_26 rfl rfl ?_
      obtain ⟨v15, ev15, hf⟩ := job hf
      refine g_iald (pc := 27) dX8_parts_27 sh_228 ev15 ?_
      refine g_aload_n (pc := 28) dX8_parts_28 rfl rfl ?_
      refine g_getR (pc := 29) dX8_parts_29 fl_X8_28 sh_221 rfl ?_
      refine g_iload_n (pc := 32) dX8_parts_32 rfl rfl ?_
      obtain ⟨v16, ev16, hf⟩ := job hf
      refine g_iald (pc := 33) dX8_parts_33 sh_228 ev16 ?_
      obtain ⟨u35, hf, hy18⟩ := job hf
      have K20 : (hbu35 : u35 = 0 ∨ u35 = 1) → jGG μ_X8_parts 2 74 [some (.ref 221), some (.int z7), some (.int z14), none] [.int u35] M (fun M' r' => M' = Mz ∧ r' = some (.int r)) := by
        intro hbu35
        replace hf := hy18
        refine g_istore_n (pc := 74) (lv' := [some (.ref 221), some (.int z7), some (.int z14), some (.int u35)]) dX8_parts_74 rfl (by decide) rfl ?_
        refine g_iload_n (pc := 75) dX8_parts_75 rfl rfl ?_
        refine g_if_eq (pc := 76) 127 dX8_parts_76 rfl (fun hc44 => ?_) (fun hc44 => ?_)
        · replace hf := jifp hc44 hf
          refine g_iinc (pc := 127) (lv' := [some (.ref 221), some (.int z7), some (.int (z14 + 1)), some (.int u35)]) (z14 + 1) dX8_parts_127 rfl rfl (by decide) rfl ?_
          refine g_goto (pc := 130) 14 dX8_parts_130 rfl ?_
          have hih : jGG μ_X8_parts 2 14 [some (.ref 221), some (.int z7), some (.int (z14 + 1)), none] [] M (fun M' r' => M' = Mz ∧ r' = some (.int r)) := ih12 (z14 + 1) (Option.some.inj hf).symm
          exact g_weakK hih ⟨rfl, ⟨rfl, ⟨rfl, trivial⟩⟩⟩
        · replace hf := jifn hc44 hf
          refine g_aload_n (pc := 79) dX8_parts_79 rfl rfl ?_
          refine g_getR (pc := 80) dX8_parts_80 fl_X8_77 sh_221 rfl ?_
          refine g_iload_n (pc := 83) dX8_parts_83 rfl rfl ?_
          refine g_dup2 (pc := 84) dX8_parts_84 rfl rfl ?_
          obtain ⟨v36, ev36, hf⟩ := job hf
          refine g_iald (pc := 85) dX8_parts_85 sh_244 ev36 ?_
          refine g_iconst (pc := 86) 1 dX8_parts_86 rfl ?_
          refine g_iload_n (pc := 87) dX8_parts_87 rfl rfl ?_
          refine g_ishl (pc := 88) dX8_parts_88 ?_
          refine g_ior (pc := 89) dX8_parts_89 ?_
          obtain ⟨M37, eM37, hf⟩ := job hf
          refine g_iast (pc := 90) dX8_parts_90 sh_244 eM37 ?_
          refine g_aload_n (pc := 91) dX8_parts_91 rfl rfl ?_
          obtain ⟨M38, eM38, hf⟩ := job hf
          refine g_callV (pc := 92) [] [] dX8_parts_92 ml_X8_314 ck_X8_pushCase cv_X8_pushCase sh_221 rfl (by decide) (Nat.le_of_ble_eq_true rfl) (c_X8_pushCase eM38) ?_
          show jGG μ_X8_parts 2 95 [some (.ref 221), some (.int z7), some (.int z14), some (.int u35)] [] M38 (fun M' r' => M' = Mz ∧ r' = some (.int r))
          refine g_aload_n (pc := 95) dX8_parts_95 rfl rfl ?_
          refine g_getR (pc := 96) dX8_parts_96 fl_X8_77 sh_221 rfl ?_
          refine g_iload_n (pc := 99) dX8_parts_99 rfl rfl ?_
          refine g_dup2 (pc := 100) dX8_parts_100 rfl rfl ?_
          obtain ⟨v39, ev39, hf⟩ := job hf
          refine g_iald (pc := 101) dX8_parts_101 sh_244 ev39 ?_
          refine g_iconst (pc := 102) 1 dX8_parts_102 rfl ?_
          refine g_iload_n (pc := 103) dX8_parts_103 rfl rfl ?_
          refine g_ishl (pc := 104) dX8_parts_104 ?_
          refine g_iconst (pc := 105) (-1) dX8_parts_105 rfl ?_
          refine g_ixor (pc := 106) dX8_parts_106 ?_
          refine g_iand (pc := 107) dX8_parts_107 ?_
          obtain ⟨M40, eM40, hf⟩ := job hf
          refine g_iast (pc := 108) dX8_parts_108 sh_244 eM40 ?_
          refine g_aload_n (pc := 109) dX8_parts_109 rfl rfl ?_
          refine g_getR (pc := 110) dX8_parts_110 fl_X8_77 sh_221 rfl ?_
          refine g_iload_n (pc := 113) dX8_parts_113 rfl rfl ?_
          refine g_dup2 (pc := 114) dX8_parts_114 rfl rfl ?_
          obtain ⟨v41, ev41, hf⟩ := job hf
          refine g_iald (pc := 115) dX8_parts_115 sh_244 ev41 ?_
          refine g_iconst (pc := 116) 1 dX8_parts_116 rfl ?_
          refine g_iload_n (pc := 117) dX8_parts_117 rfl rfl ?_
          refine g_ishl (pc := 118) dX8_parts_118 ?_
          refine g_ior (pc := 119) dX8_parts_119 ?_
          obtain ⟨M42, eM42, hf⟩ := job hf
          refine g_iast (pc := 120) dX8_parts_120 sh_244 eM42 ?_
          refine g_aload_n (pc := 121) dX8_parts_121 rfl rfl ?_
          obtain ⟨M43, eM43, hf⟩ := job hf
          refine g_callV (pc := 122) [] [] dX8_parts_122 ml_X8_314 ck_X8_pushCase cv_X8_pushCase sh_221 rfl (by decide) (Nat.le_of_ble_eq_true rfl) (c_X8_pushCase eM43) ?_
          show jGG μ_X8_parts 2 125 [some (.ref 221), some (.int z7), some (.int z14), some (.int u35)] [] M43 (fun M' r' => M' = Mz ∧ r' = some (.int r))
          refine g_iconst (pc := 125) 1 dX8_parts_125 rfl ?_
          have hf := hx11 _ (Option.some.inj hf).symm
          subst hf
          replace hf := hy8
          have hf := hx4 _ (Option.some.inj hf).symm
          subst hf
          replace hf := hy1
          obtain ⟨rfl, rfl⟩ := Prod.mk.inj (Option.some.inj hf)
          exact g_zret (pc := 126) dX8_parts_126 rfl (Or.inr rfl) ⟨rfl, rfl⟩
      obtain ⟨y24, hf, hy23⟩ := jcb hf
      have K25 : y24 = Sum.inr () → jGG μ_X8_parts 2 73 [some (.ref 221), some (.int z7), some (.int z14), none] [] M (fun M' r' => M' = Mz ∧ r' = some (.int r)) := by
        intro hyy
        subst hyy
        replace hf := hy23
        refine g_iconst (pc := 73) 0 dX8_parts_73 rfl ?_
        obtain rfl := Option.some.inj hf
        exact g_weakK (K20 (Or.inl rfl)) ⟨rfl, ⟨rfl, ⟨rfl, trivial⟩⟩⟩
      refine g_icmp_ne (pc := 34) 73 dX8_parts_34 rfl (fun hc34 => ?_) (fun hc34 => ?_)
      · replace hf := jifn hc34 hf
        exact g_weakK (K25 (Option.some.inj hf).symm) ⟨rfl, ⟨rfl, ⟨rfl, trivial⟩⟩⟩
      · replace hf := jifp hc34 hf
        refine g_aload_n (pc := 37) dX8_parts_37 rfl rfl ?_
        refine g_getR (pc := 38) dX8_parts_38 fl_X8_7 sh_221 rfl ?_
        refine g_aload_n (pc := 41) dX8_parts_41 rfl rfl ?_
        refine g_getR (pc := 42) dX8_parts_42 fl_X8_28 sh_221 rfl ?_
        refine g_iload_n (pc := 45) dX8_parts_45 rfl rfl ?_
        obtain ⟨v27, ev27, hf⟩ := job hf
        refine g_iald (pc := 46) dX8_parts_46 sh_228 ev27 ?_
        obtain ⟨v28, ev28, hf⟩ := job hf
        refine g_iald (pc := 47) dX8_parts_47 sh_222 ev28 ?_
        refine g_if_ne (pc := 48) 73 dX8_parts_48 rfl (fun hc33 => ?_) (fun hc33 => ?_)
        · replace hf := jifn hc33 hf
          exact g_weakK (K25 (Option.some.inj hf).symm) ⟨rfl, ⟨rfl, ⟨rfl, trivial⟩⟩⟩
        · replace hf := jifp hc33 hf
          refine g_aload_n (pc := 51) dX8_parts_51 rfl rfl ?_
          refine g_iload_n (pc := 52) dX8_parts_52 rfl rfl ?_
          refine g_iload_n (pc := 53) dX8_parts_53 rfl rfl ?_
          obtain ⟨v29, ev29, hf⟩ := job hf
          refine g_callV (pc := 54) [.int z7, .int z14] [] dX8_parts_54 ml_X8_245 ck_X8_isAhead cv_X8_isAhead sh_221 rfl (by decide) (Nat.le_of_ble_eq_true rfl) (c_X8_isAhead ev29) ?_
          show jGG μ_X8_parts 2 57 [some (.ref 221), some (.int z7), some (.int z14), none] [.int v29] M (fun M' r' => M' = Mz ∧ r' = some (.int r))
          refine g_if_ne (pc := 57) 73 dX8_parts_57 rfl (fun hc32 => ?_) (fun hc32 => ?_)
          · replace hf := jifn hc32 hf
            exact g_weakK (K25 (Option.some.inj hf).symm) ⟨rfl, ⟨rfl, ⟨rfl, trivial⟩⟩⟩
          · replace hf := jifp hc32 hf
            refine g_aload_n (pc := 60) dX8_parts_60 rfl rfl ?_
            refine g_iload_n (pc := 61) dX8_parts_61 rfl rfl ?_
            refine g_iload_n (pc := 62) dX8_parts_62 rfl rfl ?_
            obtain ⟨v30, ev30, hf⟩ := job hf
            refine g_callV (pc := 63) [.int z14, .int z7] [] dX8_parts_63 ml_X8_245 ck_X8_isAhead cv_X8_isAhead sh_221 rfl (by decide) (Nat.le_of_ble_eq_true rfl) (c_X8_isAhead ev30) ?_
            show jGG μ_X8_parts 2 66 [some (.ref 221), some (.int z7), some (.int z14), none] [.int v30] M (fun M' r' => M' = Mz ∧ r' = some (.int r))
            refine g_if_ne (pc := 66) 73 dX8_parts_66 rfl (fun hc31 => ?_) (fun hc31 => ?_)
            · replace hf := jifn hc31 hf
              exact g_weakK (K25 (Option.some.inj hf).symm) ⟨rfl, ⟨rfl, ⟨rfl, trivial⟩⟩⟩
            · replace hf := jifp hc31 hf
              refine g_iconst (pc := 69) 1 dX8_parts_69 rfl ?_
              refine g_goto (pc := 70) 74 dX8_parts_70 rfl ?_
              obtain rfl := Option.some.inj hf
              replace hf := hy23
              obtain rfl := Option.some.inj hf
              exact g_weakK (K20 (Or.inr rfl)) ⟨rfl, ⟨rfl, ⟨rfl, trivial⟩⟩⟩
def f_X8_least (N : Nat) (M : JMem) (x1 : Int32) : Option (JMem × Int32) := (if (jin3 x1.toInt64 0 100) = 0 then some (M, (-100002)) else (f_X8_isSimple N M).bind fun v1 => (if v1 = 0 then some (M, (-100003)) else (if (M 221 11) = 0 then some (M, (-100003)) else (f_X8_work N M).bind fun (M2, v3) => (((if v3 = 0 then (f_X8_sumOfSpans N M2).bind fun v9 => some ((v9 + 1)) else some ((M2 221 21))) : Option (Int32)).bind fun u11 => (some (jup M2 221 45 u11)).bind fun M12 => (some (jup M12 221 46 0)).bind fun M13 => (some (jup M13 221 47 0)).bind fun M14 => (some (jup M14 221 44 0)).bind fun M15 => ((jLp (σ := Int32 × JMem) (ρ := JMem) N (fun ((z22, M23) : Int32 × JMem) => (if 32 ≤ z22 then some (Sum.inr M23) else (jwr M23 244 32 z22 0).bind fun M25 => some (Sum.inl (z22 + 1, M25)))) (0, M15)).bind fun t24 => (f_X8_pushCase N t24).bind fun M27 => (jcase (α := JMem × Int32) (β := JMem) (jLp (σ := JMem) (ρ := (JMem × Int32) ⊕ (JMem)) N (fun (M34 : JMem) => (if (M34 221 44) ≤ 0 then some (Sum.inr (Sum.inr M34)) else (if (M34 221 46) = x1 then some (Sum.inr (Sum.inl (M34, 0))) else (some (jup M34 221 46 ((M34 221 46) + 1))).bind fun M36 => (f_X8_popCase N M36).bind fun M37 => (f_X8_asks N M37 ((M37 221 45) - 1)).bind fun (M38, v39) => (if v39 = 0 then some (Sum.inl M38) else (f_X8_parts N M38).bind fun (M40, v41) => (if v41 = 0 then (f_X8_complete N M40).bind fun M42 => some (Sum.inl M42) else some (Sum.inl M40)))))) M27) fun t35 => some (t35, 1)))))))
set_option maxHeartbeats 4000000 in
theorem c_X8_least {N : Nat} {M : JMem} {x1 : Int32} {Mz : JMem} {r : Int32} (hf : f_X8_least N M x1 = some (Mz, r)) : jCo yX8_least μ_X8_least 5 M [.ref 221, .int x1] Mz (some (.int r)) := by
  refine jCt_of (by decide +kernel) rfl (by simp [Value.category]) (Nat.le_of_ble_eq_true rfl) ?_
  unfold f_X8_least at hf
  show jGG μ_X8_least 5 0 [some (.ref 221), some (.int x1), none] [] M (fun M' r' => M' = Mz ∧ r' = some (.int r))
  refine g_iload_n (pc := 0) dX8_least_0 rfl rfl ?_
  refine g_i2l (pc := 1) dX8_least_1 ?_
  refine g_lconst (pc := 2) 0 dX8_least_2 rfl ?_
  refine g_ldc2 (pc := 3) 100 dX8_least_3 lcl_X8_128 ?_
  refine g_callS (pc := 6) [.long x1.toInt64, .long 0, .long 100] [] dX8_least_6 ml_X8_124 ck_X8_in cs_X8_in rfl (by decide) (Nat.le_of_ble_eq_true rfl) c_in ?_
  show jGG μ_X8_least 5 9 [some (.ref 221), some (.int x1), none] [.int (jin3 x1.toInt64 0 100)] M (fun M' r' => M' = Mz ∧ r' = some (.int r))
  refine g_if_ne (pc := 9) 15 dX8_least_9 rfl (fun hc50 => ?_) (fun hc50 => ?_)
  · replace hf := jifn hc50 hf
    refine g_aload_n (pc := 15) dX8_least_15 rfl rfl ?_
    obtain ⟨v1, ev1, hf⟩ := job hf
    refine g_callV (pc := 16) [] [] dX8_least_16 ml_X8_161 ck_X8_isSimple cv_X8_isSimple sh_221 rfl (by decide) (Nat.le_of_ble_eq_true rfl) (c_X8_isSimple ev1) ?_
    show jGG μ_X8_least 5 19 [some (.ref 221), some (.int x1), none] [.int v1] M (fun M' r' => M' = Mz ∧ r' = some (.int r))
    refine g_if_eq (pc := 19) 29 dX8_least_19 rfl (fun hc49 => ?_) (fun hc49 => ?_)
    · replace hf := jifp hc49 hf
      refine g_ldc (pc := 29) (-100003) dX8_least_29 lc_X8_179 ?_
      obtain ⟨rfl, rfl⟩ := Prod.mk.inj (Option.some.inj hf)
      exact g_iret (pc := 31) dX8_least_31 rfl ⟨rfl, rfl⟩
    · replace hf := jifn hc49 hf
      refine g_aload_n (pc := 22) dX8_least_22 rfl rfl ?_
      refine g_getI (pc := 23) dX8_least_23 fl_X8_143 sh_221 rfl ?_
      refine g_if_ne (pc := 26) 32 dX8_least_26 rfl (fun hc48 => ?_) (fun hc48 => ?_)
      · replace hf := jifn hc48 hf
        refine g_aload_n (pc := 32) dX8_least_32 rfl rfl ?_
        refine g_aload_n (pc := 33) dX8_least_33 rfl rfl ?_
        obtain ⟨⟨M2, v3⟩, ev3, hf⟩ := job hf
        refine g_callV (pc := 34) [] [.ref 221] dX8_least_34 ml_X8_192 ck_X8_work cv_X8_work sh_221 rfl (by decide) (Nat.le_of_ble_eq_true rfl) (c_X8_work ev3) ?_
        show jGG μ_X8_least 5 37 [some (.ref 221), some (.int x1), none] [.int v3, .ref 221] M2 (fun M' r' => M' = Mz ∧ r' = some (.int r))
        obtain ⟨u11, hf, hy5⟩ := job hf
        have K7 : jGG μ_X8_least 5 53 [some (.ref 221), some (.int x1), none] [.int u11, .ref 221] M2 (fun M' r' => M' = Mz ∧ r' = some (.int r)) := by
          replace hf := hy5
          refine g_putI (pc := 53) dX8_least_53 fp_X8_305 sh_221 rfl ?_
          obtain ⟨M12, eM12, hf⟩ := job hf
          rw [Option.some.inj eM12]
          refine g_aload_n (pc := 56) dX8_least_56 rfl rfl ?_
          refine g_iconst (pc := 57) 0 dX8_least_57 rfl ?_
          refine g_putI (pc := 58) dX8_least_58 fp_X8_317 sh_221 rfl ?_
          obtain ⟨M13, eM13, hf⟩ := job hf
          rw [Option.some.inj eM13]
          refine g_aload_n (pc := 61) dX8_least_61 rfl rfl ?_
          refine g_iconst (pc := 62) 0 dX8_least_62 rfl ?_
          refine g_putI (pc := 63) dX8_least_63 fp_X8_308 sh_221 rfl ?_
          obtain ⟨M14, eM14, hf⟩ := job hf
          rw [Option.some.inj eM14]
          refine g_aload_n (pc := 66) dX8_least_66 rfl rfl ?_
          refine g_iconst (pc := 67) 0 dX8_least_67 rfl ?_
          refine g_putI (pc := 68) dX8_least_68 fp_X8_299 sh_221 rfl ?_
          obtain ⟨M15, eM15, hf⟩ := job hf
          rw [Option.some.inj eM15]
          refine g_iconst (pc := 71) 0 dX8_least_71 rfl ?_
          refine g_istore_n (pc := 72) (lv' := [some (.ref 221), some (.int x1), some (.int 0)]) dX8_least_72 rfl (by decide) rfl ?_
          obtain ⟨t24, y17, hy16⟩ := job hf
          have K18 : jGG μ_X8_least 5 92 [some (.ref 221), some (.int x1), none] [] t24 (fun M' r' => M' = Mz ∧ r' = some (.int r)) := by
            replace hf := hy16
            refine g_aload_n (pc := 92) dX8_least_92 rfl rfl ?_
            obtain ⟨M27, eM27, hf⟩ := job hf
            refine g_callV (pc := 93) [] [] dX8_least_93 ml_X8_314 ck_X8_pushCase cv_X8_pushCase sh_221 rfl (by decide) (Nat.le_of_ble_eq_true rfl) (c_X8_pushCase eM27) ?_
            show jGG μ_X8_least 5 96 [some (.ref 221), some (.int x1), none] [] M27 (fun M' r' => M' = Mz ∧ r' = some (.int r))
            obtain ⟨y29, hr47, hy28⟩ := jcb hf
            have K30 : ∀ (t35 : JMem), y29 = Sum.inr t35 → jGG μ_X8_least 5 154 [none, none, none] [] t35 (fun M' r' => M' = Mz ∧ r' = some (.int r)) := by
              intro t35 hyy
              subst hyy
              replace hf := hy28
              refine g_iconst (pc := 154) 1 dX8_least_154 rfl ?_
              obtain ⟨rfl, rfl⟩ := Prod.mk.inj (Option.some.inj hf)
              exact g_iret (pc := 155) dX8_least_155 rfl ⟨rfl, rfl⟩
            refine g_weak (lv' := [some (.ref 221), some (.int x1), none]) ⟨rfl, ⟨rfl, trivial⟩⟩ ?_
            refine jLp_ind (P := fun (M34 : JMem) => jGG μ_X8_least 5 96 [some (.ref 221), some (.int x1), none] [] M34 (fun M' r' => M' = Mz ∧ r' = some (.int r))) ?_ N _ hr47
            rintro M34 x_33 hf ih32 hx31
            show jGG μ_X8_least 5 96 [some (.ref 221), some (.int x1), none] [] M34 (fun M' r' => M' = Mz ∧ r' = some (.int r))
            refine g_aload_n (pc := 96) dX8_least_96 rfl rfl ?_
            refine g_getI (pc := 97) dX8_least_97 fl_X8_299 sh_221 rfl ?_
            refine g_if_le (pc := 100) 154 dX8_least_100 rfl (fun hc46 => ?_) (fun hc46 => ?_)
            · replace hf := jifp hc46 hf
              have hf := hx31 _ (Option.some.inj hf).symm
              exact g_weakK (K30 _ hf.symm) trivial
            · replace hf := jifn hc46 hf
              refine g_aload_n (pc := 103) dX8_least_103 rfl rfl ?_
              refine g_getI (pc := 104) dX8_least_104 fl_X8_317 sh_221 rfl ?_
              refine g_iload_n (pc := 107) dX8_least_107 rfl rfl ?_
              refine g_icmp_ne (pc := 108) 113 dX8_least_108 rfl (fun hc45 => ?_) (fun hc45 => ?_)
              · replace hf := jifn hc45 hf
                refine g_aload_n (pc := 113) dX8_least_113 rfl rfl ?_
                refine g_dup (pc := 114) dX8_least_114 rfl ?_
                refine g_getI (pc := 115) dX8_least_115 fl_X8_317 sh_221 rfl ?_
                refine g_iconst (pc := 118) 1 dX8_least_118 rfl ?_
                refine g_iadd (pc := 119) dX8_least_119 ?_
                refine g_putI (pc := 120) dX8_least_120 fp_X8_317 sh_221 rfl ?_
                obtain ⟨M36, eM36, hf⟩ := job hf
                rw [Option.some.inj eM36]
                refine g_aload_n (pc := 123) dX8_least_123 rfl rfl ?_
                obtain ⟨M37, eM37, hf⟩ := job hf
                refine g_callV (pc := 124) [] [] dX8_least_124 ml_X8_320 ck_X8_popCase cv_X8_popCase sh_221 rfl (by decide) (Nat.le_of_ble_eq_true rfl) (c_X8_popCase eM37) ?_
                show jGG μ_X8_least 5 127 [some (.ref 221), some (.int x1), none] [] M37 (fun M' r' => M' = Mz ∧ r' = some (.int r))
                refine g_aload_n (pc := 127) dX8_least_127 rfl rfl ?_
                refine g_aload_n (pc := 128) dX8_least_128 rfl rfl ?_
                refine g_getI (pc := 129) dX8_least_129 fl_X8_305 sh_221 rfl ?_
                refine g_iconst (pc := 132) 1 dX8_least_132 rfl ?_
                refine g_isub (pc := 133) dX8_least_133 ?_
                obtain ⟨⟨M38, v39⟩, ev39, hf⟩ := job hf
                refine g_callV (pc := 134) [.int ((M37 221 45) - 1)] [] dX8_least_134 ml_X8_276 ck_X8_asks cv_X8_asks sh_221 rfl (by decide) (Nat.le_of_ble_eq_true rfl) (c_X8_asks ev39) ?_
                show jGG μ_X8_least 5 137 [some (.ref 221), some (.int x1), none] [.int v39] M38 (fun M' r' => M' = Mz ∧ r' = some (.int r))
                refine g_if_eq (pc := 137) 96 dX8_least_137 rfl (fun hc44 => ?_) (fun hc44 => ?_)
                · replace hf := jifp hc44 hf
                  have hih : jGG μ_X8_least 5 96 [some (.ref 221), some (.int x1), none] [] M38 (fun M' r' => M' = Mz ∧ r' = some (.int r)) := ih32 M38 (Option.some.inj hf).symm
                  exact g_weakK hih ⟨rfl, ⟨rfl, trivial⟩⟩
                · replace hf := jifn hc44 hf
                  refine g_aload_n (pc := 140) dX8_least_140 rfl rfl ?_
                  obtain ⟨⟨M40, v41⟩, ev41, hf⟩ := job hf
                  refine g_callV (pc := 141) [] [] dX8_least_141 ml_X8_323 ck_X8_parts cv_X8_parts sh_221 rfl (by decide) (Nat.le_of_ble_eq_true rfl) (c_X8_parts ev41) ?_
                  show jGG μ_X8_least 5 144 [some (.ref 221), some (.int x1), none] [.int v41] M40 (fun M' r' => M' = Mz ∧ r' = some (.int r))
                  refine g_if_ne (pc := 144) 96 dX8_least_144 rfl (fun hc43 => ?_) (fun hc43 => ?_)
                  · replace hf := jifn hc43 hf
                    have hih : jGG μ_X8_least 5 96 [some (.ref 221), some (.int x1), none] [] M40 (fun M' r' => M' = Mz ∧ r' = some (.int r)) := ih32 M40 (Option.some.inj hf).symm
                    exact g_weakK hih ⟨rfl, ⟨rfl, trivial⟩⟩
                  · replace hf := jifp hc43 hf
                    refine g_aload_n (pc := 147) dX8_least_147 rfl rfl ?_
                    obtain ⟨M42, eM42, hf⟩ := job hf
                    refine g_callV (pc := 148) [] [] dX8_least_148 ml_X8_326 ck_X8_complete cv_X8_complete sh_221 rfl (by decide) (Nat.le_of_ble_eq_true rfl) (c_X8_complete eM42) ?_
                    show jGG μ_X8_least 5 151 [some (.ref 221), some (.int x1), none] [] M42 (fun M' r' => M' = Mz ∧ r' = some (.int r))
                    refine g_goto (pc := 151) 96 dX8_least_151 rfl ?_
                    have hih : jGG μ_X8_least 5 96 [some (.ref 221), some (.int x1), none] [] M42 (fun M' r' => M' = Mz ∧ r' = some (.int r)) := ih32 M42 (Option.some.inj hf).symm
                    exact g_weakK hih ⟨rfl, ⟨rfl, trivial⟩⟩
              · replace hf := jifp hc45 hf
                refine g_iconst (pc := 111) 0 dX8_least_111 rfl ?_
                have hf := hx31 _ (Option.some.inj hf).symm
                subst hf
                replace hf := hy28
                obtain ⟨rfl, rfl⟩ := Prod.mk.inj (Option.some.inj hf)
                exact g_iret (pc := 112) dX8_least_112 rfl ⟨rfl, rfl⟩
          refine g_weak (lv' := [some (.ref 221), some (.int x1), some (.int 0)]) ⟨rfl, ⟨rfl, ⟨rfl, trivial⟩⟩⟩ ?_
          refine jLp_ind (P := fun ((z22, M23) : Int32 × JMem) => jGG μ_X8_least 5 73 [some (.ref 221), some (.int x1), some (.int z22)] [] M23 (fun M' r' => M' = Mz ∧ r' = some (.int r))) ?_ N _ y17
          rintro ⟨z22, M23⟩ x_21 hf ih20 hx19
          show jGG μ_X8_least 5 73 [some (.ref 221), some (.int x1), some (.int z22)] [] M23 (fun M' r' => M' = Mz ∧ r' = some (.int r))
          refine g_iload_n (pc := 73) dX8_least_73 rfl rfl ?_
          refine g_bipush (pc := 74) 32 dX8_least_74 rfl ?_
          refine g_icmp_ge (pc := 76) 92 dX8_least_76 rfl (fun hc26 => ?_) (fun hc26 => ?_)
          · replace hf := jifp hc26 hf
            have hf := hx19 _ (Option.some.inj hf).symm
            obtain rfl := hf
            exact g_weakK K18 ⟨rfl, ⟨rfl, trivial⟩⟩
          · replace hf := jifn hc26 hf
            refine g_aload_n (pc := 79) dX8_least_79 rfl rfl ?_
            refine g_getR (pc := 80) dX8_least_80 fl_X8_77 sh_221 rfl ?_
            refine g_iload_n (pc := 83) dX8_least_83 rfl rfl ?_
            refine g_iconst (pc := 84) 0 dX8_least_84 rfl ?_
            obtain ⟨M25, eM25, hf⟩ := job hf
            refine g_iast (pc := 85) dX8_least_85 sh_244 eM25 ?_
            refine g_iinc (pc := 86) (lv' := [some (.ref 221), some (.int x1), some (.int (z22 + 1))]) (z22 + 1) dX8_least_86 rfl rfl (by decide) rfl ?_
            refine g_goto (pc := 89) 73 dX8_least_89 rfl ?_
            have hih : jGG μ_X8_least 5 73 [some (.ref 221), some (.int x1), some (.int (z22 + 1))] [] M25 (fun M' r' => M' = Mz ∧ r' = some (.int r)) := ih20 (z22 + 1, M25) (Option.some.inj hf).symm
            exact g_weakK hih ⟨rfl, ⟨rfl, ⟨rfl, trivial⟩⟩⟩
        refine g_if_eq (pc := 37) 47 dX8_least_37 rfl (fun hc10 => ?_) (fun hc10 => ?_)
        · replace hf := jifp hc10 hf
          refine g_aload_n (pc := 47) dX8_least_47 rfl rfl ?_
          obtain ⟨v9, ev9, hf⟩ := job hf
          refine g_callV (pc := 48) [] [.ref 221] dX8_least_48 ml_X8_165 ck_X8_sumOfSpans cv_X8_sumOfSpans sh_221 rfl (by decide) (Nat.le_of_ble_eq_true rfl) (c_X8_sumOfSpans ev9) ?_
          show jGG μ_X8_least 5 51 [some (.ref 221), some (.int x1), none] [.int v9, .ref 221] M2 (fun M' r' => M' = Mz ∧ r' = some (.int r))
          refine g_iconst (pc := 51) 1 dX8_least_51 rfl ?_
          refine g_iadd (pc := 52) dX8_least_52 ?_
          obtain rfl := Option.some.inj hf
          exact g_weakK (K7) ⟨rfl, ⟨rfl, trivial⟩⟩
        · replace hf := jifn hc10 hf
          refine g_aload_n (pc := 40) dX8_least_40 rfl rfl ?_
          refine g_getI (pc := 41) dX8_least_41 fl_X8_183 sh_221 rfl ?_
          refine g_goto (pc := 44) 53 dX8_least_44 rfl ?_
          obtain rfl := Option.some.inj hf
          exact g_weakK (K7) ⟨rfl, ⟨rfl, trivial⟩⟩
      · replace hf := jifp hc48 hf
        refine g_ldc (pc := 29) (-100003) dX8_least_29 lc_X8_179 ?_
        obtain ⟨rfl, rfl⟩ := Prod.mk.inj (Option.some.inj hf)
        exact g_iret (pc := 31) dX8_least_31 rfl ⟨rfl, rfl⟩
  · replace hf := jifp hc50 hf
    refine g_ldc (pc := 12) (-100002) dX8_least_12 lc_X8_132 ?_
    obtain ⟨rfl, rfl⟩ := Prod.mk.inj (Option.some.inj hf)
    exact g_iret (pc := 14) dX8_least_14 rfl ⟨rfl, rfl⟩
