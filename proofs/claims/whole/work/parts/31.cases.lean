theorem jgtL {n L : Nat} (hL : L ≤ 3072) (hn : n ≤ L + 6) (h : L < n + 6) : nI L - 6 < nI n := by
  rw [Int32.lt_iff_toInt_lt]
  have e : (nI L - nI 6).toInt = (L : Int) - 6 := pk_sub_toInt (by omega) (by omega)
  rw [show (6 : Int32) = nI 6 from rfl, e, nI_toInt (by omega)]
  omega
theorem jngtL {n L : Nat} (hL : L ≤ 3072) (hn : n ≤ L + 6) (h : ¬ nI L - 6 < nI n) : n + 6 ≤ L := by
  rcases Nat.lt_or_ge L (n + 6) with q | q
  · exact absurd (jgtL hL hn q) h
  · exact q
theorem W_forget {p : Program} {l : Launch} {e : Env} {s : State} {m : MethodId} {below : List Frame} {meth : Method} {c : Code} {b L : Nat} {xs : Nat → Int32} {w : JWp} {H : Heap} {locs : List Loc} {ls : Array Slot} {pc : Nat} (hC : jLc p s m meth c b L xs w) (hS : va_S (fun q => s.heap.size ≤ q) s.heap H locs) (hd : decode code pc = .ok (.ireturn, 1)) : W p l e room_1 s m #[Value.ref b] below meth c H locs 600000 7302250 (lw_Z below #[Value.ref b] s) (F0 m pc ls [.int 1]) :=
  va_forget (fun q hq => hS.2.2 q hq) (lw_ret hC.1.1 hC.1.2.1 hC.1.2.2.1 hC.1.2.2.2.2.2.2.2.2.1 hd)
def jst_machine (Inv : JMem → Prop) : Prop := ∀ (M : JMem) (x1 : Int32) (x2 : Int32), Inv M → ∃ (M1 : JMem) (M2 : JMem) (r : Int32), f_X7_machine M x1 x2 = some (M1, r) ∧ f_X8_machine M1 x1 x2 = some (M2, r) ∧ Inv M2
def jst_piece (Inv : JMem → Prop) : Prop := ∀ (M : JMem) (x1 : Int32), Inv M → ∃ (M1 : JMem) (M2 : JMem) (r : Int32), f_X7_piece M x1 = some (M1, r) ∧ f_X8_piece M1 x1 = some (M2, r) ∧ Inv M2
def jst_step (Inv : JMem → Prop) : Prop := ∀ (M : JMem) (x1 : Int32) (x2 : Int32) (x3 : Int32), Inv M → ∃ (M1 : JMem) (M2 : JMem) (r : Int32), f_X7_step M x1 x2 x3 = some (M1, r) ∧ f_X8_step M1 x1 x2 x3 = some (M2, r) ∧ Inv M2
def jst_told (Inv : JMem → Prop) : Prop := ∀ (M : JMem) (x1 : Int32) (x2 : Int32), Inv M → ∃ (N : Nat) (r : Int32), f_X7_told N M x1 x2 = some r ∧ f_X8_told N M x1 x2 = some r ∧ Inv M
def jst_count (Inv : JMem → Prop) : Prop := ∀ (M : JMem) (x1 : Int32), Inv M → ∃ (N : Nat) (r : Int32), f_X7_count N M x1 = some r ∧ f_X8_count N M x1 = some r ∧ Inv M
def jst_sheet (Inv : JMem → Prop) : Prop := ∀ (M : JMem) (x1 : Int32) (x2 : Int32) (x3 : Int32), Inv M → ∃ (N : Nat) (M1 : JMem) (M2 : JMem) (r : Int32), f_X7_sheet M x1 x2 x3 = some (M1, r) ∧ f_X8_sheet N M1 x1 x2 x3 = some (M2, r) ∧ Inv M2
def jst_tear (Inv : JMem → Prop) : Prop := ∀ (M : JMem) (x1 : Int32), Inv M → ∃ (M1 : JMem) (M2 : JMem) (r : Int32), f_X7_tear M x1 = some (M1, r) ∧ f_X8_tear M1 x1 = some (M2, r) ∧ Inv M2
def jst_put (Inv : JMem → Prop) : Prop := ∀ (M : JMem) (x1 : Int32) (x2 : Int32) (x3 : Int32) (x4 : Int32), Inv M → ∃ (M1 : JMem) (M2 : JMem) (r : Int32), f_X7_put M x1 x2 x3 x4 = some (M1, r) ∧ f_X8_put M1 x1 x2 x3 x4 = some (M2, r) ∧ Inv M2
def jst_at (Inv : JMem → Prop) : Prop := ∀ (M : JMem) (x1 : Int32) (x2 : Int32), Inv M → ∃ (M1 : JMem) (M2 : JMem) (r : Int32), f_X7_at M x1 x2 = some (M1, r) ∧ f_X8_at M1 x1 x2 = some (M2, r) ∧ Inv M2
def jst_copy (Inv : JMem → Prop) : Prop := ∀ (M : JMem) (x1 : Int32) (x2 : Int32) (x3 : Int32) (x4 : Int32) (x5 : Int32), Inv M → ∃ (N : Nat) (M1 : JMem) (M2 : JMem) (r : Int32), f_X7_copy M x1 x2 x3 x4 x5 = some (M1, r) ∧ f_X8_copy N M1 x1 x2 x3 x4 x5 = some (M2, r) ∧ Inv M2
def jst_read (Inv : JMem → Prop) : Prop := ∀ (M : JMem) (x1 : Int32) (x2 : Int32), Inv M → ∃ (N : Nat) (M1 : JMem) (M2 : JMem) (r : Int32), f_X7_read N M x1 x2 = some (M1, r) ∧ f_X8_read N M1 x1 x2 = some (M2, r) ∧ Inv M2
def jst_code (Inv : JMem → Prop) : Prop := ∀ (M : JMem), Inv M → ∃ (r : Int32), f_X7_code M = some r ∧ f_X8_code M = some r ∧ Inv M
def jst_swap (Inv : JMem → Prop) : Prop := ∀ (M : JMem) (x1 : Int32) (x2 : Int32), Inv M → ∃ (N : Nat) (M1 : JMem) (M2 : JMem) (r : Int32), f_X7_swap N M x1 x2 = some (M1, r) ∧ f_X8_swap N M1 x1 x2 = some (M2, r) ∧ Inv M2
def jst_lay (Inv : JMem → Prop) : Prop := ∀ (M : JMem) (x1 : Int32) (x2 : Int32), Inv M → ∃ (N : Nat) (M1 : JMem) (M2 : JMem) (r : Int32), f_X7_lay N M x1 x2 = some (M1, r) ∧ f_X8_lay N M1 x1 x2 = some (M2, r) ∧ Inv M2
def jst_end (Inv : JMem → Prop) : Prop := ∀ (M : JMem), Inv M → ∃ (N : Nat) (M1 : JMem) (M2 : JMem) (r : Int32), f_X7_end N M = some (M1, r) ∧ f_X8_end N M1 = some (M2, r) ∧ Inv M2
def jst_begin (Inv : JMem → Prop) : Prop := ∀ (M : JMem) (x1 : Int32), Inv M → ∃ (N : Nat) (M1 : JMem) (M2 : JMem) (r : Int32), f_X7_begin N M x1 = some (M1, r) ∧ f_X8_begin N M1 x1 = some (M2, r) ∧ Inv M2
def jst_tail (Inv : JMem → Prop) : Prop := ∀ (M : JMem) (x1 : Int32) (x2 : Int32), Inv M → ∃ (N : Nat) (M1 : JMem) (M2 : JMem) (r : Int32), f_X7_tail N M x1 x2 = some (M1, r) ∧ f_X8_tail N M1 x1 x2 = some (M2, r) ∧ Inv M2
def jst_row (Inv : JMem → Prop) : Prop := ∀ (M : JMem) (x1 : Int32), Inv M → ∃ (N : Nat) (M1 : JMem) (M2 : JMem) (r : Int32), f_X7_row N M x1 = some (M1, r) ∧ f_X8_row N M1 x1 = some (M2, r) ∧ Inv M2
def jst_rule (Inv : JMem → Prop) : Prop := ∀ (M : JMem) (x1 : Int32), Inv M → ∃ (N : Nat) (M1 : JMem) (M2 : JMem) (r : Int32), f_X7_rule N M x1 = some (M1, r) ∧ f_X8_rule N M1 x1 = some (M2, r) ∧ Inv M2
def jst_better (Inv : JMem → Prop) : Prop := ∀ (M : JMem) (x1 : Int32), Inv M → ∃ (N : Nat) (M1 : JMem) (M2 : JMem) (r : Int32), f_X7_better N M x1 = some (M1, r) ∧ f_X8_better N M1 x1 = some (M2, r) ∧ Inv M2
def jst_windows (Inv : JMem → Prop) : Prop := ∀ (M : JMem) (x1 : Int32), Inv M → ∃ (N : Nat) (M1 : JMem) (M2 : JMem) (r : Int32), f_X7_windows N M x1 = some (M1, r) ∧ f_X8_windows N M1 x1 = some (M2, r) ∧ Inv M2
def jst_window (Inv : JMem → Prop) : Prop := ∀ (M : JMem) (x1 : Int32) (x2 : Int32), Inv M → ∃ (N : Nat) (r : Int32), f_X7_window M x1 x2 = some r ∧ f_X8_window N M x1 x2 = some r ∧ Inv M
def jst_must (Inv : JMem → Prop) : Prop := ∀ (M : JMem) (x1 : Int32) (x2 : Int32), Inv M → ∃ (r : Int32), f_X7_must M x1 x2 = some r ∧ f_X8_must M x1 x2 = some r ∧ Inv M
def jst_bound (Inv : JMem → Prop) : Prop := ∀ (M : JMem) (x1 : Int32) (x2 : Int32), Inv M → ∃ (N : Nat) (M1 : JMem) (M2 : JMem) (r : Int32), f_X7_bound N M x1 x2 = some (M1, r) ∧ f_X8_bound N M1 x1 x2 = some (M2, r) ∧ Inv M2
def jst_least (Inv : JMem → Prop) : Prop := ∀ (M : JMem) (x1 : Int32), Inv M → ∃ (N : Nat) (M1 : JMem) (M2 : JMem) (r : Int32), f_X7_least N M x1 = some (M1, r) ∧ f_X8_least N M1 x1 = some (M2, r) ∧ Inv M2
def jst_found (Inv : JMem → Prop) : Prop := ∀ (M : JMem) (x1 : Int32), Inv M → ∃ (r : Int32), f_X7_found M x1 = some r ∧ f_X8_found M x1 = some r ∧ Inv M
def jst_fail (Inv : JMem → Prop) : Prop := ∀ (M : JMem) (x1 : Int32) (x2 : Int32) (x3 : Int32), Inv M → ∃ (N : Nat) (M1 : JMem) (M2 : JMem) (r : Int32), f_X7_fail N M x1 x2 x3 = some (M1, r) ∧ f_X8_fail N M1 x1 x2 x3 = some (M2, r) ∧ Inv M2
def jst_mended (Inv : JMem → Prop) : Prop := ∀ (M : JMem) (x1 : Int32) (x2 : Int32), Inv M → ∃ (r : Int32), f_X7_mended M x1 x2 = some r ∧ f_X8_mended M x1 x2 = some r ∧ Inv M
def jSteps (Inv : JMem → Prop) : Prop := jst_machine Inv ∧ jst_piece Inv ∧ jst_step Inv ∧ jst_told Inv ∧ jst_count Inv ∧ jst_sheet Inv ∧ jst_tear Inv ∧ jst_put Inv ∧ jst_at Inv ∧ jst_copy Inv ∧ jst_read Inv ∧ jst_code Inv ∧ jst_swap Inv ∧ jst_lay Inv ∧ jst_end Inv ∧ jst_begin Inv ∧ jst_tail Inv ∧ jst_row Inv ∧ jst_rule Inv ∧ jst_better Inv ∧ jst_windows Inv ∧ jst_window Inv ∧ jst_must Inv ∧ jst_bound Inv ∧ jst_least Inv ∧ jst_found Inv ∧ jst_fail Inv ∧ jst_mended Inv
set_option maxHeartbeats 1000000 in
theorem law_0 {p : Program} {l : Launch} {e : Env} {s : State} {m : MethodId} {below : List Frame} {meth : Method} {c : Code} {b L : Nat} {xs : Nat → Int32} {w : JWp} {Inv : JMem → Prop} (hst : jst_machine Inv) (hC : jLc p s m meth c b L xs w) (hL : L ≤ 3072) {n : Nat} (hn : n + 6 ≤ L) {M : JMem} (hI : Inv M) (k : ∀ M2, Inv M2 → jLW p l e s m below meth c b w 1024 (nI n) [] M2) : jLW p l e s m below meth c b w 160 (nI n) [] M := by
  obtain ⟨M1, M2, r, ha, hb, hI2⟩ := hst M (xs (nI n + 1).toNatClampNeg) (xs (nI n + 2).toNatClampNeg) hI
  refine l_x (pc := 160) hC dL_law_160 rfl ?_
  refine l_s (pc := 161) hC dL_law_161 rfl ?_
  refine l_i (pc := 162) hC dL_law_162 rfl ?_
  refine l_ic (pc := 163) 1 hC dL_law_163 rfl ?_
  refine l_add (pc := 164) hC dL_law_164 ?_
  refine l_ld (pc := 165) hC dL_law_165 (jsx hn hL 1 (by decide)) ?_
  refine l_s (pc := 166) hC dL_law_166 rfl ?_
  refine l_i (pc := 167) hC dL_law_167 rfl ?_
  refine l_ic (pc := 168) 2 hC dL_law_168 rfl ?_
  refine l_add (pc := 169) hC dL_law_169 ?_
  refine l_ld (pc := 170) hC dL_law_170 (jsx hn hL 2 (by decide)) ?_
  refine l_call (pc := 171) [.int (xs (nI n + 1).toNatClampNeg), .int (xs (nI n + 2).toNatClampNeg)] [] hC dL_law_171 (List.mem_of_getElem? (i := 407) (by decide +kernel)) ck_X7_machine cv_X7_machine sh_0 rfl (fun _ => rfl) ⟨by decide, by decide⟩ (Nat.le_of_ble_eq_true rfl) (c_X7_machine ha) ?_
  refine l_m (pc := 174) hC dL_law_174 rfl ?_
  refine l_s (pc := 175) hC dL_law_175 rfl ?_
  refine l_i (pc := 176) hC dL_law_176 rfl ?_
  refine l_ic (pc := 177) 1 hC dL_law_177 rfl ?_
  refine l_add (pc := 178) hC dL_law_178 ?_
  refine l_ld (pc := 179) hC dL_law_179 (jsx hn hL 1 (by decide)) ?_
  refine l_s (pc := 180) hC dL_law_180 rfl ?_
  refine l_i (pc := 181) hC dL_law_181 rfl ?_
  refine l_ic (pc := 182) 2 hC dL_law_182 rfl ?_
  refine l_add (pc := 183) hC dL_law_183 ?_
  refine l_ld (pc := 184) hC dL_law_184 (jsx hn hL 2 (by decide)) ?_
  refine l_call (pc := 185) [.int (xs (nI n + 1).toNatClampNeg), .int (xs (nI n + 2).toNatClampNeg)] [.int r] hC dL_law_185 (List.mem_of_getElem? (i := 1048) (by decide +kernel)) ck_X8_machine cv_X8_machine sh_221 rfl (fun _ => rfl) ⟨by decide, by decide⟩ (Nat.le_of_ble_eq_true rfl) (c_X8_machine hb) ?_
  exact l_eq (pc := 188) 1024 hC dL_law_188 rfl rfl (k _ hI2)
set_option maxHeartbeats 1000000 in
theorem law_1 {p : Program} {l : Launch} {e : Env} {s : State} {m : MethodId} {below : List Frame} {meth : Method} {c : Code} {b L : Nat} {xs : Nat → Int32} {w : JWp} {Inv : JMem → Prop} (hst : jst_piece Inv) (hC : jLc p s m meth c b L xs w) (hL : L ≤ 3072) {n : Nat} (hn : n + 6 ≤ L) {M : JMem} (hI : Inv M) (k : ∀ M2, Inv M2 → jLW p l e s m below meth c b w 1024 (nI n) [] M2) : jLW p l e s m below meth c b w 193 (nI n) [] M := by
  obtain ⟨M1, M2, r, ha, hb, hI2⟩ := hst M (xs (nI n + 1).toNatClampNeg) hI
  refine l_x (pc := 193) hC dL_law_193 rfl ?_
  refine l_s (pc := 194) hC dL_law_194 rfl ?_
  refine l_i (pc := 195) hC dL_law_195 rfl ?_
  refine l_ic (pc := 196) 1 hC dL_law_196 rfl ?_
  refine l_add (pc := 197) hC dL_law_197 ?_
  refine l_ld (pc := 198) hC dL_law_198 (jsx hn hL 1 (by decide)) ?_
  refine l_call (pc := 199) [.int (xs (nI n + 1).toNatClampNeg)] [] hC dL_law_199 (List.mem_of_getElem? (i := 420) (by decide +kernel)) ck_X7_piece cv_X7_piece sh_0 rfl (fun _ => rfl) ⟨by decide, by decide⟩ (Nat.le_of_ble_eq_true rfl) (c_X7_piece ha) ?_
  refine l_m (pc := 202) hC dL_law_202 rfl ?_
  refine l_s (pc := 203) hC dL_law_203 rfl ?_
  refine l_i (pc := 204) hC dL_law_204 rfl ?_
  refine l_ic (pc := 205) 1 hC dL_law_205 rfl ?_
  refine l_add (pc := 206) hC dL_law_206 ?_
  refine l_ld (pc := 207) hC dL_law_207 (jsx hn hL 1 (by decide)) ?_
  refine l_call (pc := 208) [.int (xs (nI n + 1).toNatClampNeg)] [.int r] hC dL_law_208 (List.mem_of_getElem? (i := 1060) (by decide +kernel)) ck_X8_piece cv_X8_piece sh_221 rfl (fun _ => rfl) ⟨by decide, by decide⟩ (Nat.le_of_ble_eq_true rfl) (c_X8_piece hb) ?_
  exact l_eq (pc := 211) 1024 hC dL_law_211 rfl rfl (k _ hI2)
set_option maxHeartbeats 1000000 in
theorem law_2 {p : Program} {l : Launch} {e : Env} {s : State} {m : MethodId} {below : List Frame} {meth : Method} {c : Code} {b L : Nat} {xs : Nat → Int32} {w : JWp} {Inv : JMem → Prop} (hst : jst_step Inv) (hC : jLc p s m meth c b L xs w) (hL : L ≤ 3072) {n : Nat} (hn : n + 6 ≤ L) {M : JMem} (hI : Inv M) (k : ∀ M2, Inv M2 → jLW p l e s m below meth c b w 1024 (nI n) [] M2) : jLW p l e s m below meth c b w 216 (nI n) [] M := by
  obtain ⟨M1, M2, r, ha, hb, hI2⟩ := hst M (xs (nI n + 1).toNatClampNeg) (xs (nI n + 2).toNatClampNeg) (xs (nI n + 3).toNatClampNeg) hI
  refine l_x (pc := 216) hC dL_law_216 rfl ?_
  refine l_s (pc := 217) hC dL_law_217 rfl ?_
  refine l_i (pc := 218) hC dL_law_218 rfl ?_
  refine l_ic (pc := 219) 1 hC dL_law_219 rfl ?_
  refine l_add (pc := 220) hC dL_law_220 ?_
  refine l_ld (pc := 221) hC dL_law_221 (jsx hn hL 1 (by decide)) ?_
  refine l_s (pc := 222) hC dL_law_222 rfl ?_
  refine l_i (pc := 223) hC dL_law_223 rfl ?_
  refine l_ic (pc := 224) 2 hC dL_law_224 rfl ?_
  refine l_add (pc := 225) hC dL_law_225 ?_
  refine l_ld (pc := 226) hC dL_law_226 (jsx hn hL 2 (by decide)) ?_
  refine l_s (pc := 227) hC dL_law_227 rfl ?_
  refine l_i (pc := 228) hC dL_law_228 rfl ?_
  refine l_ic (pc := 229) 3 hC dL_law_229 rfl ?_
  refine l_add (pc := 230) hC dL_law_230 ?_
  refine l_ld (pc := 231) hC dL_law_231 (jsx hn hL 3 (by decide)) ?_
  refine l_call (pc := 232) [.int (xs (nI n + 1).toNatClampNeg), .int (xs (nI n + 2).toNatClampNeg), .int (xs (nI n + 3).toNatClampNeg)] [] hC dL_law_232 (List.mem_of_getElem? (i := 428) (by decide +kernel)) ck_X7_step cv_X7_step sh_0 rfl (fun _ => rfl) ⟨by decide, by decide⟩ (Nat.le_of_ble_eq_true rfl) (c_X7_step ha) ?_
  refine l_m (pc := 235) hC dL_law_235 rfl ?_
  refine l_s (pc := 236) hC dL_law_236 rfl ?_
  refine l_i (pc := 237) hC dL_law_237 rfl ?_
  refine l_ic (pc := 238) 1 hC dL_law_238 rfl ?_
  refine l_add (pc := 239) hC dL_law_239 ?_
  refine l_ld (pc := 240) hC dL_law_240 (jsx hn hL 1 (by decide)) ?_
  refine l_s (pc := 241) hC dL_law_241 rfl ?_
  refine l_i (pc := 242) hC dL_law_242 rfl ?_
  refine l_ic (pc := 243) 2 hC dL_law_243 rfl ?_
  refine l_add (pc := 244) hC dL_law_244 ?_
  refine l_ld (pc := 245) hC dL_law_245 (jsx hn hL 2 (by decide)) ?_
  refine l_s (pc := 246) hC dL_law_246 rfl ?_
  refine l_i (pc := 247) hC dL_law_247 rfl ?_
  refine l_ic (pc := 248) 3 hC dL_law_248 rfl ?_
  refine l_add (pc := 249) hC dL_law_249 ?_
  refine l_ld (pc := 250) hC dL_law_250 (jsx hn hL 3 (by decide)) ?_
  refine l_call (pc := 251) [.int (xs (nI n + 1).toNatClampNeg), .int (xs (nI n + 2).toNatClampNeg), .int (xs (nI n + 3).toNatClampNeg)] [.int r] hC dL_law_251 (List.mem_of_getElem? (i := 1065) (by decide +kernel)) ck_X8_step cv_X8_step sh_221 rfl (fun _ => rfl) ⟨by decide, by decide⟩ (Nat.le_of_ble_eq_true rfl) (c_X8_step hb) ?_
  exact l_eq (pc := 254) 1024 hC dL_law_254 rfl rfl (k _ hI2)
set_option maxHeartbeats 1000000 in
theorem law_3 {p : Program} {l : Launch} {e : Env} {s : State} {m : MethodId} {below : List Frame} {meth : Method} {c : Code} {b L : Nat} {xs : Nat → Int32} {w : JWp} {Inv : JMem → Prop} (hst : jst_told Inv) (hC : jLc p s m meth c b L xs w) (hL : L ≤ 3072) {n : Nat} (hn : n + 6 ≤ L) {M : JMem} (hI : Inv M) (k : ∀ M2, Inv M2 → jLW p l e s m below meth c b w 1024 (nI n) [] M2) : jLW p l e s m below meth c b w 259 (nI n) [] M := by
  obtain ⟨N, r, ha, hb, hI2⟩ := hst M (xs (nI n + 1).toNatClampNeg) (xs (nI n + 2).toNatClampNeg) hI
  refine l_x (pc := 259) hC dL_law_259 rfl ?_
  refine l_s (pc := 260) hC dL_law_260 rfl ?_
  refine l_i (pc := 261) hC dL_law_261 rfl ?_
  refine l_ic (pc := 262) 1 hC dL_law_262 rfl ?_
  refine l_add (pc := 263) hC dL_law_263 ?_
  refine l_ld (pc := 264) hC dL_law_264 (jsx hn hL 1 (by decide)) ?_
  refine l_s (pc := 265) hC dL_law_265 rfl ?_
  refine l_i (pc := 266) hC dL_law_266 rfl ?_
  refine l_ic (pc := 267) 2 hC dL_law_267 rfl ?_
  refine l_add (pc := 268) hC dL_law_268 ?_
  refine l_ld (pc := 269) hC dL_law_269 (jsx hn hL 2 (by decide)) ?_
  refine l_call (pc := 270) [.int (xs (nI n + 1).toNatClampNeg), .int (xs (nI n + 2).toNatClampNeg)] [] hC dL_law_270 (List.mem_of_getElem? (i := 449) (by decide +kernel)) ck_X7_told cv_X7_told sh_0 rfl (fun _ => rfl) ⟨by decide, by decide⟩ (Nat.le_of_ble_eq_true rfl) (c_X7_told ha) ?_
  refine l_m (pc := 273) hC dL_law_273 rfl ?_
  refine l_s (pc := 274) hC dL_law_274 rfl ?_
  refine l_i (pc := 275) hC dL_law_275 rfl ?_
  refine l_ic (pc := 276) 1 hC dL_law_276 rfl ?_
  refine l_add (pc := 277) hC dL_law_277 ?_
  refine l_ld (pc := 278) hC dL_law_278 (jsx hn hL 1 (by decide)) ?_
  refine l_s (pc := 279) hC dL_law_279 rfl ?_
  refine l_i (pc := 280) hC dL_law_280 rfl ?_
  refine l_ic (pc := 281) 2 hC dL_law_281 rfl ?_
  refine l_add (pc := 282) hC dL_law_282 ?_
  refine l_ld (pc := 283) hC dL_law_283 (jsx hn hL 2 (by decide)) ?_
  refine l_call (pc := 284) [.int (xs (nI n + 1).toNatClampNeg), .int (xs (nI n + 2).toNatClampNeg)] [.int r] hC dL_law_284 (List.mem_of_getElem? (i := 1075) (by decide +kernel)) ck_X8_told cv_X8_told sh_221 rfl (fun _ => rfl) ⟨by decide, by decide⟩ (Nat.le_of_ble_eq_true rfl) (c_X8_told hb) ?_
  exact l_eq (pc := 287) 1024 hC dL_law_287 rfl rfl (k _ hI2)
set_option maxHeartbeats 1000000 in
theorem law_4 {p : Program} {l : Launch} {e : Env} {s : State} {m : MethodId} {below : List Frame} {meth : Method} {c : Code} {b L : Nat} {xs : Nat → Int32} {w : JWp} {Inv : JMem → Prop} (hst : jst_count Inv) (hC : jLc p s m meth c b L xs w) (hL : L ≤ 3072) {n : Nat} (hn : n + 6 ≤ L) {M : JMem} (hI : Inv M) (k : ∀ M2, Inv M2 → jLW p l e s m below meth c b w 1024 (nI n) [] M2) : jLW p l e s m below meth c b w 292 (nI n) [] M := by
  obtain ⟨N, r, ha, hb, hI2⟩ := hst M (xs (nI n + 1).toNatClampNeg) hI
  refine l_x (pc := 292) hC dL_law_292 rfl ?_
  refine l_s (pc := 293) hC dL_law_293 rfl ?_
  refine l_i (pc := 294) hC dL_law_294 rfl ?_
  refine l_ic (pc := 295) 1 hC dL_law_295 rfl ?_
  refine l_add (pc := 296) hC dL_law_296 ?_
  refine l_ld (pc := 297) hC dL_law_297 (jsx hn hL 1 (by decide)) ?_
  refine l_call (pc := 298) [.int (xs (nI n + 1).toNatClampNeg)] [] hC dL_law_298 (List.mem_of_getElem? (i := 461) (by decide +kernel)) ck_X7_count cv_X7_count sh_0 rfl (fun _ => rfl) ⟨by decide, by decide⟩ (Nat.le_of_ble_eq_true rfl) (c_X7_count ha) ?_
  refine l_m (pc := 301) hC dL_law_301 rfl ?_
  refine l_s (pc := 302) hC dL_law_302 rfl ?_
  refine l_i (pc := 303) hC dL_law_303 rfl ?_
  refine l_ic (pc := 304) 1 hC dL_law_304 rfl ?_
  refine l_add (pc := 305) hC dL_law_305 ?_
  refine l_ld (pc := 306) hC dL_law_306 (jsx hn hL 1 (by decide)) ?_
  refine l_call (pc := 307) [.int (xs (nI n + 1).toNatClampNeg)] [.int r] hC dL_law_307 (List.mem_of_getElem? (i := 1087) (by decide +kernel)) ck_X8_count cv_X8_count sh_221 rfl (fun _ => rfl) ⟨by decide, by decide⟩ (Nat.le_of_ble_eq_true rfl) (c_X8_count hb) ?_
  exact l_eq (pc := 310) 1024 hC dL_law_310 rfl rfl (k _ hI2)
set_option maxHeartbeats 1000000 in
theorem law_5 {p : Program} {l : Launch} {e : Env} {s : State} {m : MethodId} {below : List Frame} {meth : Method} {c : Code} {b L : Nat} {xs : Nat → Int32} {w : JWp} {Inv : JMem → Prop} (hst : jst_sheet Inv) (hC : jLc p s m meth c b L xs w) (hL : L ≤ 3072) {n : Nat} (hn : n + 6 ≤ L) {M : JMem} (hI : Inv M) (k : ∀ M2, Inv M2 → jLW p l e s m below meth c b w 1024 (nI n) [] M2) : jLW p l e s m below meth c b w 315 (nI n) [] M := by
  obtain ⟨N, M1, M2, r, ha, hb, hI2⟩ := hst M (xs (nI n + 1).toNatClampNeg) (xs (nI n + 2).toNatClampNeg) (xs (nI n + 3).toNatClampNeg) hI
  refine l_x (pc := 315) hC dL_law_315 rfl ?_
  refine l_s (pc := 316) hC dL_law_316 rfl ?_
  refine l_i (pc := 317) hC dL_law_317 rfl ?_
  refine l_ic (pc := 318) 1 hC dL_law_318 rfl ?_
  refine l_add (pc := 319) hC dL_law_319 ?_
  refine l_ld (pc := 320) hC dL_law_320 (jsx hn hL 1 (by decide)) ?_
  refine l_s (pc := 321) hC dL_law_321 rfl ?_
  refine l_i (pc := 322) hC dL_law_322 rfl ?_
  refine l_ic (pc := 323) 2 hC dL_law_323 rfl ?_
  refine l_add (pc := 324) hC dL_law_324 ?_
  refine l_ld (pc := 325) hC dL_law_325 (jsx hn hL 2 (by decide)) ?_
  refine l_s (pc := 326) hC dL_law_326 rfl ?_
  refine l_i (pc := 327) hC dL_law_327 rfl ?_
  refine l_ic (pc := 328) 3 hC dL_law_328 rfl ?_
  refine l_add (pc := 329) hC dL_law_329 ?_
  refine l_ld (pc := 330) hC dL_law_330 (jsx hn hL 3 (by decide)) ?_
  refine l_call (pc := 331) [.int (xs (nI n + 1).toNatClampNeg), .int (xs (nI n + 2).toNatClampNeg), .int (xs (nI n + 3).toNatClampNeg)] [] hC dL_law_331 (List.mem_of_getElem? (i := 473) (by decide +kernel)) ck_X7_sheet cv_X7_sheet sh_0 rfl (fun _ => rfl) ⟨by decide, by decide⟩ (Nat.le_of_ble_eq_true rfl) (c_X7_sheet ha) ?_
  refine l_m (pc := 334) hC dL_law_334 rfl ?_
  refine l_s (pc := 335) hC dL_law_335 rfl ?_
  refine l_i (pc := 336) hC dL_law_336 rfl ?_
  refine l_ic (pc := 337) 1 hC dL_law_337 rfl ?_
  refine l_add (pc := 338) hC dL_law_338 ?_
  refine l_ld (pc := 339) hC dL_law_339 (jsx hn hL 1 (by decide)) ?_
  refine l_s (pc := 340) hC dL_law_340 rfl ?_
  refine l_i (pc := 341) hC dL_law_341 rfl ?_
  refine l_ic (pc := 342) 2 hC dL_law_342 rfl ?_
  refine l_add (pc := 343) hC dL_law_343 ?_
  refine l_ld (pc := 344) hC dL_law_344 (jsx hn hL 2 (by decide)) ?_
  refine l_s (pc := 345) hC dL_law_345 rfl ?_
  refine l_i (pc := 346) hC dL_law_346 rfl ?_
  refine l_ic (pc := 347) 3 hC dL_law_347 rfl ?_
  refine l_add (pc := 348) hC dL_law_348 ?_
  refine l_ld (pc := 349) hC dL_law_349 (jsx hn hL 3 (by decide)) ?_
  refine l_call (pc := 350) [.int (xs (nI n + 1).toNatClampNeg), .int (xs (nI n + 2).toNatClampNeg), .int (xs (nI n + 3).toNatClampNeg)] [.int r] hC dL_law_350 (List.mem_of_getElem? (i := 1099) (by decide +kernel)) ck_X8_sheet cv_X8_sheet sh_221 rfl (fun _ => rfl) ⟨by decide, by decide⟩ (Nat.le_of_ble_eq_true rfl) (c_X8_sheet hb) ?_
  exact l_eq (pc := 353) 1024 hC dL_law_353 rfl rfl (k _ hI2)
set_option maxHeartbeats 1000000 in
theorem law_6 {p : Program} {l : Launch} {e : Env} {s : State} {m : MethodId} {below : List Frame} {meth : Method} {c : Code} {b L : Nat} {xs : Nat → Int32} {w : JWp} {Inv : JMem → Prop} (hst : jst_tear Inv) (hC : jLc p s m meth c b L xs w) (hL : L ≤ 3072) {n : Nat} (hn : n + 6 ≤ L) {M : JMem} (hI : Inv M) (k : ∀ M2, Inv M2 → jLW p l e s m below meth c b w 1024 (nI n) [] M2) : jLW p l e s m below meth c b w 358 (nI n) [] M := by
  obtain ⟨M1, M2, r, ha, hb, hI2⟩ := hst M (xs (nI n + 1).toNatClampNeg) hI
  refine l_x (pc := 358) hC dL_law_358 rfl ?_
  refine l_s (pc := 359) hC dL_law_359 rfl ?_
  refine l_i (pc := 360) hC dL_law_360 rfl ?_
  refine l_ic (pc := 361) 1 hC dL_law_361 rfl ?_
  refine l_add (pc := 362) hC dL_law_362 ?_
  refine l_ld (pc := 363) hC dL_law_363 (jsx hn hL 1 (by decide)) ?_
  refine l_call (pc := 364) [.int (xs (nI n + 1).toNatClampNeg)] [] hC dL_law_364 (List.mem_of_getElem? (i := 484) (by decide +kernel)) ck_X7_tear cv_X7_tear sh_0 rfl (fun _ => rfl) ⟨by decide, by decide⟩ (Nat.le_of_ble_eq_true rfl) (c_X7_tear ha) ?_
  refine l_m (pc := 367) hC dL_law_367 rfl ?_
  refine l_s (pc := 368) hC dL_law_368 rfl ?_
  refine l_i (pc := 369) hC dL_law_369 rfl ?_
  refine l_ic (pc := 370) 1 hC dL_law_370 rfl ?_
  refine l_add (pc := 371) hC dL_law_371 ?_
  refine l_ld (pc := 372) hC dL_law_372 (jsx hn hL 1 (by decide)) ?_
  refine l_call (pc := 373) [.int (xs (nI n + 1).toNatClampNeg)] [.int r] hC dL_law_373 (List.mem_of_getElem? (i := 1108) (by decide +kernel)) ck_X8_tear cv_X8_tear sh_221 rfl (fun _ => rfl) ⟨by decide, by decide⟩ (Nat.le_of_ble_eq_true rfl) (c_X8_tear hb) ?_
  exact l_eq (pc := 376) 1024 hC dL_law_376 rfl rfl (k _ hI2)
set_option maxHeartbeats 1000000 in
theorem law_7 {p : Program} {l : Launch} {e : Env} {s : State} {m : MethodId} {below : List Frame} {meth : Method} {c : Code} {b L : Nat} {xs : Nat → Int32} {w : JWp} {Inv : JMem → Prop} (hst : jst_put Inv) (hC : jLc p s m meth c b L xs w) (hL : L ≤ 3072) {n : Nat} (hn : n + 6 ≤ L) {M : JMem} (hI : Inv M) (k : ∀ M2, Inv M2 → jLW p l e s m below meth c b w 1024 (nI n) [] M2) : jLW p l e s m below meth c b w 381 (nI n) [] M := by
  obtain ⟨M1, M2, r, ha, hb, hI2⟩ := hst M (xs (nI n + 1).toNatClampNeg) (xs (nI n + 2).toNatClampNeg) (xs (nI n + 3).toNatClampNeg) (xs (nI n + 4).toNatClampNeg) hI
  refine l_x (pc := 381) hC dL_law_381 rfl ?_
  refine l_s (pc := 382) hC dL_law_382 rfl ?_
  refine l_i (pc := 383) hC dL_law_383 rfl ?_
  refine l_ic (pc := 384) 1 hC dL_law_384 rfl ?_
  refine l_add (pc := 385) hC dL_law_385 ?_
  refine l_ld (pc := 386) hC dL_law_386 (jsx hn hL 1 (by decide)) ?_
  refine l_s (pc := 387) hC dL_law_387 rfl ?_
  refine l_i (pc := 388) hC dL_law_388 rfl ?_
  refine l_ic (pc := 389) 2 hC dL_law_389 rfl ?_
  refine l_add (pc := 390) hC dL_law_390 ?_
  refine l_ld (pc := 391) hC dL_law_391 (jsx hn hL 2 (by decide)) ?_
  refine l_s (pc := 392) hC dL_law_392 rfl ?_
  refine l_i (pc := 393) hC dL_law_393 rfl ?_
  refine l_ic (pc := 394) 3 hC dL_law_394 rfl ?_
  refine l_add (pc := 395) hC dL_law_395 ?_
  refine l_ld (pc := 396) hC dL_law_396 (jsx hn hL 3 (by decide)) ?_
  refine l_s (pc := 397) hC dL_law_397 rfl ?_
  refine l_i (pc := 398) hC dL_law_398 rfl ?_
  refine l_ic (pc := 399) 4 hC dL_law_399 rfl ?_
  refine l_add (pc := 400) hC dL_law_400 ?_
  refine l_ld (pc := 401) hC dL_law_401 (jsx hn hL 4 (by decide)) ?_
  refine l_call (pc := 402) [.int (xs (nI n + 1).toNatClampNeg), .int (xs (nI n + 2).toNatClampNeg), .int (xs (nI n + 3).toNatClampNeg), .int (xs (nI n + 4).toNatClampNeg)] [] hC dL_law_402 (List.mem_of_getElem? (i := 496) (by decide +kernel)) ck_X7_put cv_X7_put sh_0 rfl (fun _ => rfl) ⟨by decide, by decide⟩ (Nat.le_of_ble_eq_true rfl) (c_X7_put ha) ?_
  refine l_m (pc := 405) hC dL_law_405 rfl ?_
  refine l_s (pc := 406) hC dL_law_406 rfl ?_
  refine l_i (pc := 407) hC dL_law_407 rfl ?_
  refine l_ic (pc := 408) 1 hC dL_law_408 rfl ?_
  refine l_add (pc := 409) hC dL_law_409 ?_
  refine l_ld (pc := 410) hC dL_law_410 (jsx hn hL 1 (by decide)) ?_
  refine l_s (pc := 411) hC dL_law_411 rfl ?_
  refine l_i (pc := 412) hC dL_law_412 rfl ?_
  refine l_ic (pc := 413) 2 hC dL_law_413 rfl ?_
  refine l_add (pc := 414) hC dL_law_414 ?_
  refine l_ld (pc := 415) hC dL_law_415 (jsx hn hL 2 (by decide)) ?_
  refine l_s (pc := 416) hC dL_law_416 rfl ?_
  refine l_i (pc := 417) hC dL_law_417 rfl ?_
  refine l_ic (pc := 418) 3 hC dL_law_418 rfl ?_
  refine l_add (pc := 419) hC dL_law_419 ?_
  refine l_ld (pc := 420) hC dL_law_420 (jsx hn hL 3 (by decide)) ?_
  refine l_s (pc := 421) hC dL_law_421 rfl ?_
  refine l_i (pc := 422) hC dL_law_422 rfl ?_
  refine l_ic (pc := 423) 4 hC dL_law_423 rfl ?_
  refine l_add (pc := 424) hC dL_law_424 ?_
  refine l_ld (pc := 425) hC dL_law_425 (jsx hn hL 4 (by decide)) ?_
  refine l_call (pc := 426) [.int (xs (nI n + 1).toNatClampNeg), .int (xs (nI n + 2).toNatClampNeg), .int (xs (nI n + 3).toNatClampNeg), .int (xs (nI n + 4).toNatClampNeg)] [.int r] hC dL_law_426 (List.mem_of_getElem? (i := 1112) (by decide +kernel)) ck_X8_put cv_X8_put sh_221 rfl (fun _ => rfl) ⟨by decide, by decide⟩ (Nat.le_of_ble_eq_true rfl) (c_X8_put hb) ?_
  exact l_eq (pc := 429) 1024 hC dL_law_429 rfl rfl (k _ hI2)
set_option maxHeartbeats 1000000 in
theorem law_8 {p : Program} {l : Launch} {e : Env} {s : State} {m : MethodId} {below : List Frame} {meth : Method} {c : Code} {b L : Nat} {xs : Nat → Int32} {w : JWp} {Inv : JMem → Prop} (hst : jst_at Inv) (hC : jLc p s m meth c b L xs w) (hL : L ≤ 3072) {n : Nat} (hn : n + 6 ≤ L) {M : JMem} (hI : Inv M) (k : ∀ M2, Inv M2 → jLW p l e s m below meth c b w 1024 (nI n) [] M2) : jLW p l e s m below meth c b w 434 (nI n) [] M := by
  obtain ⟨M1, M2, r, ha, hb, hI2⟩ := hst M (xs (nI n + 1).toNatClampNeg) (xs (nI n + 2).toNatClampNeg) hI
  refine l_x (pc := 434) hC dL_law_434 rfl ?_
  refine l_s (pc := 435) hC dL_law_435 rfl ?_
  refine l_i (pc := 436) hC dL_law_436 rfl ?_
  refine l_ic (pc := 437) 1 hC dL_law_437 rfl ?_
  refine l_add (pc := 438) hC dL_law_438 ?_
  refine l_ld (pc := 439) hC dL_law_439 (jsx hn hL 1 (by decide)) ?_
  refine l_s (pc := 440) hC dL_law_440 rfl ?_
  refine l_i (pc := 441) hC dL_law_441 rfl ?_
  refine l_ic (pc := 442) 2 hC dL_law_442 rfl ?_
  refine l_add (pc := 443) hC dL_law_443 ?_
  refine l_ld (pc := 444) hC dL_law_444 (jsx hn hL 2 (by decide)) ?_
  refine l_call (pc := 445) [.int (xs (nI n + 1).toNatClampNeg), .int (xs (nI n + 2).toNatClampNeg)] [] hC dL_law_445 (List.mem_of_getElem? (i := 512) (by decide +kernel)) ck_X7_at cv_X7_at sh_0 rfl (fun _ => rfl) ⟨by decide, by decide⟩ (Nat.le_of_ble_eq_true rfl) (c_X7_at ha) ?_
  refine l_m (pc := 448) hC dL_law_448 rfl ?_
  refine l_s (pc := 449) hC dL_law_449 rfl ?_
  refine l_i (pc := 450) hC dL_law_450 rfl ?_
  refine l_ic (pc := 451) 1 hC dL_law_451 rfl ?_
  refine l_add (pc := 452) hC dL_law_452 ?_
  refine l_ld (pc := 453) hC dL_law_453 (jsx hn hL 1 (by decide)) ?_
  refine l_s (pc := 454) hC dL_law_454 rfl ?_
  refine l_i (pc := 455) hC dL_law_455 rfl ?_
  refine l_ic (pc := 456) 2 hC dL_law_456 rfl ?_
  refine l_add (pc := 457) hC dL_law_457 ?_
  refine l_ld (pc := 458) hC dL_law_458 (jsx hn hL 2 (by decide)) ?_
  refine l_call (pc := 459) [.int (xs (nI n + 1).toNatClampNeg), .int (xs (nI n + 2).toNatClampNeg)] [.int r] hC dL_law_459 (List.mem_of_getElem? (i := 1116) (by decide +kernel)) ck_X8_at cv_X8_at sh_221 rfl (fun _ => rfl) ⟨by decide, by decide⟩ (Nat.le_of_ble_eq_true rfl) (c_X8_at hb) ?_
  exact l_eq (pc := 462) 1024 hC dL_law_462 rfl rfl (k _ hI2)
set_option maxHeartbeats 1000000 in
theorem law_9 {p : Program} {l : Launch} {e : Env} {s : State} {m : MethodId} {below : List Frame} {meth : Method} {c : Code} {b L : Nat} {xs : Nat → Int32} {w : JWp} {Inv : JMem → Prop} (hst : jst_copy Inv) (hC : jLc p s m meth c b L xs w) (hL : L ≤ 3072) {n : Nat} (hn : n + 6 ≤ L) {M : JMem} (hI : Inv M) (k : ∀ M2, Inv M2 → jLW p l e s m below meth c b w 1024 (nI n) [] M2) : jLW p l e s m below meth c b w 467 (nI n) [] M := by
  obtain ⟨N, M1, M2, r, ha, hb, hI2⟩ := hst M (xs (nI n + 1).toNatClampNeg) (xs (nI n + 2).toNatClampNeg) (xs (nI n + 3).toNatClampNeg) (xs (nI n + 4).toNatClampNeg) (xs (nI n + 5).toNatClampNeg) hI
  refine l_x (pc := 467) hC dL_law_467 rfl ?_
  refine l_s (pc := 468) hC dL_law_468 rfl ?_
  refine l_i (pc := 469) hC dL_law_469 rfl ?_
  refine l_ic (pc := 470) 1 hC dL_law_470 rfl ?_
  refine l_add (pc := 471) hC dL_law_471 ?_
  refine l_ld (pc := 472) hC dL_law_472 (jsx hn hL 1 (by decide)) ?_
  refine l_s (pc := 473) hC dL_law_473 rfl ?_
  refine l_i (pc := 474) hC dL_law_474 rfl ?_
  refine l_ic (pc := 475) 2 hC dL_law_475 rfl ?_
  refine l_add (pc := 476) hC dL_law_476 ?_
  refine l_ld (pc := 477) hC dL_law_477 (jsx hn hL 2 (by decide)) ?_
  refine l_s (pc := 478) hC dL_law_478 rfl ?_
  refine l_i (pc := 479) hC dL_law_479 rfl ?_
  refine l_ic (pc := 480) 3 hC dL_law_480 rfl ?_
  refine l_add (pc := 481) hC dL_law_481 ?_
  refine l_ld (pc := 482) hC dL_law_482 (jsx hn hL 3 (by decide)) ?_
  refine l_s (pc := 483) hC dL_law_483 rfl ?_
  refine l_i (pc := 484) hC dL_law_484 rfl ?_
  refine l_ic (pc := 485) 4 hC dL_law_485 rfl ?_
  refine l_add (pc := 486) hC dL_law_486 ?_
  refine l_ld (pc := 487) hC dL_law_487 (jsx hn hL 4 (by decide)) ?_
  refine l_s (pc := 488) hC dL_law_488 rfl ?_
  refine l_i (pc := 489) hC dL_law_489 rfl ?_
  refine l_ic (pc := 490) 5 hC dL_law_490 rfl ?_
  refine l_add (pc := 491) hC dL_law_491 ?_
  refine l_ld (pc := 492) hC dL_law_492 (jsx hn hL 5 (by decide)) ?_
  refine l_call (pc := 493) [.int (xs (nI n + 1).toNatClampNeg), .int (xs (nI n + 2).toNatClampNeg), .int (xs (nI n + 3).toNatClampNeg), .int (xs (nI n + 4).toNatClampNeg), .int (xs (nI n + 5).toNatClampNeg)] [] hC dL_law_493 (List.mem_of_getElem? (i := 517) (by decide +kernel)) ck_X7_copy cv_X7_copy sh_0 rfl (fun _ => rfl) ⟨by decide, by decide⟩ (Nat.le_of_ble_eq_true rfl) (c_X7_copy ha) ?_
  refine l_m (pc := 496) hC dL_law_496 rfl ?_
  refine l_s (pc := 497) hC dL_law_497 rfl ?_
  refine l_i (pc := 498) hC dL_law_498 rfl ?_
  refine l_ic (pc := 499) 1 hC dL_law_499 rfl ?_
  refine l_add (pc := 500) hC dL_law_500 ?_
  refine l_ld (pc := 501) hC dL_law_501 (jsx hn hL 1 (by decide)) ?_
  refine l_s (pc := 502) hC dL_law_502 rfl ?_
  refine l_i (pc := 503) hC dL_law_503 rfl ?_
  refine l_ic (pc := 504) 2 hC dL_law_504 rfl ?_
  refine l_add (pc := 505) hC dL_law_505 ?_
  refine l_ld (pc := 506) hC dL_law_506 (jsx hn hL 2 (by decide)) ?_
  refine l_s (pc := 507) hC dL_law_507 rfl ?_
  refine l_i (pc := 508) hC dL_law_508 rfl ?_
  refine l_ic (pc := 509) 3 hC dL_law_509 rfl ?_
  refine l_add (pc := 510) hC dL_law_510 ?_
  refine l_ld (pc := 511) hC dL_law_511 (jsx hn hL 3 (by decide)) ?_
  refine l_s (pc := 512) hC dL_law_512 rfl ?_
  refine l_i (pc := 513) hC dL_law_513 rfl ?_
  refine l_ic (pc := 514) 4 hC dL_law_514 rfl ?_
  refine l_add (pc := 515) hC dL_law_515 ?_
  refine l_ld (pc := 516) hC dL_law_516 (jsx hn hL 4 (by decide)) ?_
  refine l_s (pc := 517) hC dL_law_517 rfl ?_
  refine l_i (pc := 518) hC dL_law_518 rfl ?_
  refine l_ic (pc := 519) 5 hC dL_law_519 rfl ?_
  refine l_add (pc := 520) hC dL_law_520 ?_
  refine l_ld (pc := 521) hC dL_law_521 (jsx hn hL 5 (by decide)) ?_
  refine l_call (pc := 522) [.int (xs (nI n + 1).toNatClampNeg), .int (xs (nI n + 2).toNatClampNeg), .int (xs (nI n + 3).toNatClampNeg), .int (xs (nI n + 4).toNatClampNeg), .int (xs (nI n + 5).toNatClampNeg)] [.int r] hC dL_law_522 (List.mem_of_getElem? (i := 1120) (by decide +kernel)) ck_X8_copy cv_X8_copy sh_221 rfl (fun _ => rfl) ⟨by decide, by decide⟩ (Nat.le_of_ble_eq_true rfl) (c_X8_copy hb) ?_
  exact l_eq (pc := 525) 1024 hC dL_law_525 rfl rfl (k _ hI2)
set_option maxHeartbeats 1000000 in
theorem law_10 {p : Program} {l : Launch} {e : Env} {s : State} {m : MethodId} {below : List Frame} {meth : Method} {c : Code} {b L : Nat} {xs : Nat → Int32} {w : JWp} {Inv : JMem → Prop} (hst : jst_read Inv) (hC : jLc p s m meth c b L xs w) (hL : L ≤ 3072) {n : Nat} (hn : n + 6 ≤ L) {M : JMem} (hI : Inv M) (k : ∀ M2, Inv M2 → jLW p l e s m below meth c b w 1024 (nI n) [] M2) : jLW p l e s m below meth c b w 530 (nI n) [] M := by
  obtain ⟨N, M1, M2, r, ha, hb, hI2⟩ := hst M (xs (nI n + 1).toNatClampNeg) (xs (nI n + 2).toNatClampNeg) hI
  refine l_x (pc := 530) hC dL_law_530 rfl ?_
  refine l_s (pc := 531) hC dL_law_531 rfl ?_
  refine l_i (pc := 532) hC dL_law_532 rfl ?_
  refine l_ic (pc := 533) 1 hC dL_law_533 rfl ?_
  refine l_add (pc := 534) hC dL_law_534 ?_
  refine l_ld (pc := 535) hC dL_law_535 (jsx hn hL 1 (by decide)) ?_
  refine l_s (pc := 536) hC dL_law_536 rfl ?_
  refine l_i (pc := 537) hC dL_law_537 rfl ?_
  refine l_ic (pc := 538) 2 hC dL_law_538 rfl ?_
  refine l_add (pc := 539) hC dL_law_539 ?_
  refine l_ld (pc := 540) hC dL_law_540 (jsx hn hL 2 (by decide)) ?_
  refine l_call (pc := 541) [.int (xs (nI n + 1).toNatClampNeg), .int (xs (nI n + 2).toNatClampNeg)] [] hC dL_law_541 (List.mem_of_getElem? (i := 532) (by decide +kernel)) ck_X7_read cv_X7_read sh_0 rfl (fun _ => rfl) ⟨by decide, by decide⟩ (Nat.le_of_ble_eq_true rfl) (c_X7_read ha) ?_
  refine l_m (pc := 544) hC dL_law_544 rfl ?_
  refine l_s (pc := 545) hC dL_law_545 rfl ?_
  refine l_i (pc := 546) hC dL_law_546 rfl ?_
  refine l_ic (pc := 547) 1 hC dL_law_547 rfl ?_
  refine l_add (pc := 548) hC dL_law_548 ?_
  refine l_ld (pc := 549) hC dL_law_549 (jsx hn hL 1 (by decide)) ?_
  refine l_s (pc := 550) hC dL_law_550 rfl ?_
  refine l_i (pc := 551) hC dL_law_551 rfl ?_
  refine l_ic (pc := 552) 2 hC dL_law_552 rfl ?_
  refine l_add (pc := 553) hC dL_law_553 ?_
  refine l_ld (pc := 554) hC dL_law_554 (jsx hn hL 2 (by decide)) ?_
  refine l_call (pc := 555) [.int (xs (nI n + 1).toNatClampNeg), .int (xs (nI n + 2).toNatClampNeg)] [.int r] hC dL_law_555 (List.mem_of_getElem? (i := 1124) (by decide +kernel)) ck_X8_read cv_X8_read sh_221 rfl (fun _ => rfl) ⟨by decide, by decide⟩ (Nat.le_of_ble_eq_true rfl) (c_X8_read hb) ?_
  exact l_eq (pc := 558) 1024 hC dL_law_558 rfl rfl (k _ hI2)
set_option maxHeartbeats 1000000 in
theorem law_11 {p : Program} {l : Launch} {e : Env} {s : State} {m : MethodId} {below : List Frame} {meth : Method} {c : Code} {b L : Nat} {xs : Nat → Int32} {w : JWp} {Inv : JMem → Prop} (hst : jst_code Inv) (hC : jLc p s m meth c b L xs w) (hL : L ≤ 3072) {n : Nat} (hn : n + 6 ≤ L) {M : JMem} (hI : Inv M) (k : ∀ M2, Inv M2 → jLW p l e s m below meth c b w 1024 (nI n) [] M2) : jLW p l e s m below meth c b w 563 (nI n) [] M := by
  obtain ⟨r, ha, hb, hI2⟩ := hst M hI
  refine l_x (pc := 563) hC dL_law_563 rfl ?_
  refine l_call (pc := 564) [] [] hC dL_law_564 (List.mem_of_getElem? (i := 549) (by decide +kernel)) ck_X7_code cv_X7_code sh_0 rfl (fun _ => rfl) ⟨by decide, by decide⟩ (Nat.le_of_ble_eq_true rfl) (c_X7_code ha) ?_
  refine l_m (pc := 567) hC dL_law_567 rfl ?_
  refine l_call (pc := 568) [] [.int r] hC dL_law_568 (List.mem_of_getElem? (i := 1129) (by decide +kernel)) ck_X8_code cv_X8_code sh_221 rfl (fun _ => rfl) ⟨by decide, by decide⟩ (Nat.le_of_ble_eq_true rfl) (c_X8_code hb) ?_
  exact l_eq (pc := 571) 1024 hC dL_law_571 rfl rfl (k _ hI2)
set_option maxHeartbeats 1000000 in
theorem law_12 {p : Program} {l : Launch} {e : Env} {s : State} {m : MethodId} {below : List Frame} {meth : Method} {c : Code} {b L : Nat} {xs : Nat → Int32} {w : JWp} {Inv : JMem → Prop} (hst : jst_swap Inv) (hC : jLc p s m meth c b L xs w) (hL : L ≤ 3072) {n : Nat} (hn : n + 6 ≤ L) {M : JMem} (hI : Inv M) (k : ∀ M2, Inv M2 → jLW p l e s m below meth c b w 1024 (nI n) [] M2) : jLW p l e s m below meth c b w 576 (nI n) [] M := by
  obtain ⟨N, M1, M2, r, ha, hb, hI2⟩ := hst M (xs (nI n + 1).toNatClampNeg) (xs (nI n + 2).toNatClampNeg) hI
  refine l_x (pc := 576) hC dL_law_576 rfl ?_
  refine l_s (pc := 577) hC dL_law_577 rfl ?_
  refine l_i (pc := 578) hC dL_law_578 rfl ?_
  refine l_ic (pc := 579) 1 hC dL_law_579 rfl ?_
  refine l_add (pc := 580) hC dL_law_580 ?_
  refine l_ld (pc := 581) hC dL_law_581 (jsx hn hL 1 (by decide)) ?_
  refine l_s (pc := 582) hC dL_law_582 rfl ?_
  refine l_i (pc := 583) hC dL_law_583 rfl ?_
  refine l_ic (pc := 584) 2 hC dL_law_584 rfl ?_
  refine l_add (pc := 585) hC dL_law_585 ?_
  refine l_ld (pc := 586) hC dL_law_586 (jsx hn hL 2 (by decide)) ?_
  refine l_call (pc := 587) [.int (xs (nI n + 1).toNatClampNeg), .int (xs (nI n + 2).toNatClampNeg)] [] hC dL_law_587 (List.mem_of_getElem? (i := 553) (by decide +kernel)) ck_X7_swap cv_X7_swap sh_0 rfl (fun _ => rfl) ⟨by decide, by decide⟩ (Nat.le_of_ble_eq_true rfl) (c_X7_swap ha) ?_
  refine l_m (pc := 590) hC dL_law_590 rfl ?_
  refine l_s (pc := 591) hC dL_law_591 rfl ?_
  refine l_i (pc := 592) hC dL_law_592 rfl ?_
  refine l_ic (pc := 593) 1 hC dL_law_593 rfl ?_
  refine l_add (pc := 594) hC dL_law_594 ?_
  refine l_ld (pc := 595) hC dL_law_595 (jsx hn hL 1 (by decide)) ?_
  refine l_s (pc := 596) hC dL_law_596 rfl ?_
  refine l_i (pc := 597) hC dL_law_597 rfl ?_
  refine l_ic (pc := 598) 2 hC dL_law_598 rfl ?_
  refine l_add (pc := 599) hC dL_law_599 ?_
  refine l_ld (pc := 600) hC dL_law_600 (jsx hn hL 2 (by decide)) ?_
  refine l_call (pc := 601) [.int (xs (nI n + 1).toNatClampNeg), .int (xs (nI n + 2).toNatClampNeg)] [.int r] hC dL_law_601 (List.mem_of_getElem? (i := 1133) (by decide +kernel)) ck_X8_swap cv_X8_swap sh_221 rfl (fun _ => rfl) ⟨by decide, by decide⟩ (Nat.le_of_ble_eq_true rfl) (c_X8_swap hb) ?_
  exact l_eq (pc := 604) 1024 hC dL_law_604 rfl rfl (k _ hI2)
set_option maxHeartbeats 1000000 in
theorem law_13 {p : Program} {l : Launch} {e : Env} {s : State} {m : MethodId} {below : List Frame} {meth : Method} {c : Code} {b L : Nat} {xs : Nat → Int32} {w : JWp} {Inv : JMem → Prop} (hst : jst_lay Inv) (hC : jLc p s m meth c b L xs w) (hL : L ≤ 3072) {n : Nat} (hn : n + 6 ≤ L) {M : JMem} (hI : Inv M) (k : ∀ M2, Inv M2 → jLW p l e s m below meth c b w 1024 (nI n) [] M2) : jLW p l e s m below meth c b w 609 (nI n) [] M := by
  obtain ⟨N, M1, M2, r, ha, hb, hI2⟩ := hst M (xs (nI n + 1).toNatClampNeg) (xs (nI n + 2).toNatClampNeg) hI
  refine l_x (pc := 609) hC dL_law_609 rfl ?_
  refine l_s (pc := 610) hC dL_law_610 rfl ?_
  refine l_i (pc := 611) hC dL_law_611 rfl ?_
  refine l_ic (pc := 612) 1 hC dL_law_612 rfl ?_
  refine l_add (pc := 613) hC dL_law_613 ?_
  refine l_ld (pc := 614) hC dL_law_614 (jsx hn hL 1 (by decide)) ?_
  refine l_s (pc := 615) hC dL_law_615 rfl ?_
  refine l_i (pc := 616) hC dL_law_616 rfl ?_
  refine l_ic (pc := 617) 2 hC dL_law_617 rfl ?_
  refine l_add (pc := 618) hC dL_law_618 ?_
  refine l_ld (pc := 619) hC dL_law_619 (jsx hn hL 2 (by decide)) ?_
  refine l_call (pc := 620) [.int (xs (nI n + 1).toNatClampNeg), .int (xs (nI n + 2).toNatClampNeg)] [] hC dL_law_620 (List.mem_of_getElem? (i := 607) (by decide +kernel)) ck_X7_lay cv_X7_lay sh_0 rfl (fun _ => rfl) ⟨by decide, by decide⟩ (Nat.le_of_ble_eq_true rfl) (c_X7_lay ha) ?_
  refine l_m (pc := 623) hC dL_law_623 rfl ?_
  refine l_s (pc := 624) hC dL_law_624 rfl ?_
  refine l_i (pc := 625) hC dL_law_625 rfl ?_
  refine l_ic (pc := 626) 1 hC dL_law_626 rfl ?_
  refine l_add (pc := 627) hC dL_law_627 ?_
  refine l_ld (pc := 628) hC dL_law_628 (jsx hn hL 1 (by decide)) ?_
  refine l_s (pc := 629) hC dL_law_629 rfl ?_
  refine l_i (pc := 630) hC dL_law_630 rfl ?_
  refine l_ic (pc := 631) 2 hC dL_law_631 rfl ?_
  refine l_add (pc := 632) hC dL_law_632 ?_
  refine l_ld (pc := 633) hC dL_law_633 (jsx hn hL 2 (by decide)) ?_
  refine l_call (pc := 634) [.int (xs (nI n + 1).toNatClampNeg), .int (xs (nI n + 2).toNatClampNeg)] [.int r] hC dL_law_634 (List.mem_of_getElem? (i := 1157) (by decide +kernel)) ck_X8_lay cv_X8_lay sh_221 rfl (fun _ => rfl) ⟨by decide, by decide⟩ (Nat.le_of_ble_eq_true rfl) (c_X8_lay hb) ?_
  exact l_eq (pc := 637) 1024 hC dL_law_637 rfl rfl (k _ hI2)
set_option maxHeartbeats 1000000 in
theorem law_14 {p : Program} {l : Launch} {e : Env} {s : State} {m : MethodId} {below : List Frame} {meth : Method} {c : Code} {b L : Nat} {xs : Nat → Int32} {w : JWp} {Inv : JMem → Prop} (hst : jst_end Inv) (hC : jLc p s m meth c b L xs w) (hL : L ≤ 3072) {n : Nat} (hn : n + 6 ≤ L) {M : JMem} (hI : Inv M) (k : ∀ M2, Inv M2 → jLW p l e s m below meth c b w 1024 (nI n) [] M2) : jLW p l e s m below meth c b w 642 (nI n) [] M := by
  obtain ⟨N, M1, M2, r, ha, hb, hI2⟩ := hst M hI
  refine l_x (pc := 642) hC dL_law_642 rfl ?_
  refine l_call (pc := 643) [] [] hC dL_law_643 (List.mem_of_getElem? (i := 616) (by decide +kernel)) ck_X7_end cv_X7_end sh_0 rfl (fun _ => rfl) ⟨by decide, by decide⟩ (Nat.le_of_ble_eq_true rfl) (c_X7_end ha) ?_
  refine l_m (pc := 646) hC dL_law_646 rfl ?_
  refine l_call (pc := 647) [] [.int r] hC dL_law_647 (List.mem_of_getElem? (i := 1161) (by decide +kernel)) ck_X8_end cv_X8_end sh_221 rfl (fun _ => rfl) ⟨by decide, by decide⟩ (Nat.le_of_ble_eq_true rfl) (c_X8_end hb) ?_
  exact l_eq (pc := 650) 1024 hC dL_law_650 rfl rfl (k _ hI2)
set_option maxHeartbeats 1000000 in
theorem law_15 {p : Program} {l : Launch} {e : Env} {s : State} {m : MethodId} {below : List Frame} {meth : Method} {c : Code} {b L : Nat} {xs : Nat → Int32} {w : JWp} {Inv : JMem → Prop} (hst : jst_begin Inv) (hC : jLc p s m meth c b L xs w) (hL : L ≤ 3072) {n : Nat} (hn : n + 6 ≤ L) {M : JMem} (hI : Inv M) (k : ∀ M2, Inv M2 → jLW p l e s m below meth c b w 1024 (nI n) [] M2) : jLW p l e s m below meth c b w 655 (nI n) [] M := by
  obtain ⟨N, M1, M2, r, ha, hb, hI2⟩ := hst M (xs (nI n + 1).toNatClampNeg) hI
  refine l_x (pc := 655) hC dL_law_655 rfl ?_
  refine l_s (pc := 656) hC dL_law_656 rfl ?_
  refine l_i (pc := 657) hC dL_law_657 rfl ?_
  refine l_ic (pc := 658) 1 hC dL_law_658 rfl ?_
  refine l_add (pc := 659) hC dL_law_659 ?_
  refine l_ld (pc := 660) hC dL_law_660 (jsx hn hL 1 (by decide)) ?_
  refine l_call (pc := 661) [.int (xs (nI n + 1).toNatClampNeg)] [] hC dL_law_661 (List.mem_of_getElem? (i := 620) (by decide +kernel)) ck_X7_begin cv_X7_begin sh_0 rfl (fun _ => rfl) ⟨by decide, by decide⟩ (Nat.le_of_ble_eq_true rfl) (c_X7_begin ha) ?_
  refine l_m (pc := 664) hC dL_law_664 rfl ?_
  refine l_s (pc := 665) hC dL_law_665 rfl ?_
  refine l_i (pc := 666) hC dL_law_666 rfl ?_
  refine l_ic (pc := 667) 1 hC dL_law_667 rfl ?_
  refine l_add (pc := 668) hC dL_law_668 ?_
  refine l_ld (pc := 669) hC dL_law_669 (jsx hn hL 1 (by decide)) ?_
  refine l_call (pc := 670) [.int (xs (nI n + 1).toNatClampNeg)] [.int r] hC dL_law_670 (List.mem_of_getElem? (i := 1165) (by decide +kernel)) ck_X8_begin cv_X8_begin sh_221 rfl (fun _ => rfl) ⟨by decide, by decide⟩ (Nat.le_of_ble_eq_true rfl) (c_X8_begin hb) ?_
  exact l_eq (pc := 673) 1024 hC dL_law_673 rfl rfl (k _ hI2)
set_option maxHeartbeats 1000000 in
theorem law_16 {p : Program} {l : Launch} {e : Env} {s : State} {m : MethodId} {below : List Frame} {meth : Method} {c : Code} {b L : Nat} {xs : Nat → Int32} {w : JWp} {Inv : JMem → Prop} (hst : jst_tail Inv) (hC : jLc p s m meth c b L xs w) (hL : L ≤ 3072) {n : Nat} (hn : n + 6 ≤ L) {M : JMem} (hI : Inv M) (k : ∀ M2, Inv M2 → jLW p l e s m below meth c b w 1024 (nI n) [] M2) : jLW p l e s m below meth c b w 678 (nI n) [] M := by
  obtain ⟨N, M1, M2, r, ha, hb, hI2⟩ := hst M (xs (nI n + 1).toNatClampNeg) (xs (nI n + 2).toNatClampNeg) hI
  refine l_x (pc := 678) hC dL_law_678 rfl ?_
  refine l_s (pc := 679) hC dL_law_679 rfl ?_
  refine l_i (pc := 680) hC dL_law_680 rfl ?_
  refine l_ic (pc := 681) 1 hC dL_law_681 rfl ?_
  refine l_add (pc := 682) hC dL_law_682 ?_
  refine l_ld (pc := 683) hC dL_law_683 (jsx hn hL 1 (by decide)) ?_
  refine l_s (pc := 684) hC dL_law_684 rfl ?_
  refine l_i (pc := 685) hC dL_law_685 rfl ?_
  refine l_ic (pc := 686) 2 hC dL_law_686 rfl ?_
  refine l_add (pc := 687) hC dL_law_687 ?_
  refine l_ld (pc := 688) hC dL_law_688 (jsx hn hL 2 (by decide)) ?_
  refine l_call (pc := 689) [.int (xs (nI n + 1).toNatClampNeg), .int (xs (nI n + 2).toNatClampNeg)] [] hC dL_law_689 (List.mem_of_getElem? (i := 624) (by decide +kernel)) ck_X7_tail cv_X7_tail sh_0 rfl (fun _ => rfl) ⟨by decide, by decide⟩ (Nat.le_of_ble_eq_true rfl) (c_X7_tail ha) ?_
  refine l_m (pc := 692) hC dL_law_692 rfl ?_
  refine l_s (pc := 693) hC dL_law_693 rfl ?_
  refine l_i (pc := 694) hC dL_law_694 rfl ?_
  refine l_ic (pc := 695) 1 hC dL_law_695 rfl ?_
  refine l_add (pc := 696) hC dL_law_696 ?_
  refine l_ld (pc := 697) hC dL_law_697 (jsx hn hL 1 (by decide)) ?_
  refine l_s (pc := 698) hC dL_law_698 rfl ?_
  refine l_i (pc := 699) hC dL_law_699 rfl ?_
  refine l_ic (pc := 700) 2 hC dL_law_700 rfl ?_
  refine l_add (pc := 701) hC dL_law_701 ?_
  refine l_ld (pc := 702) hC dL_law_702 (jsx hn hL 2 (by decide)) ?_
  refine l_call (pc := 703) [.int (xs (nI n + 1).toNatClampNeg), .int (xs (nI n + 2).toNatClampNeg)] [.int r] hC dL_law_703 (List.mem_of_getElem? (i := 1169) (by decide +kernel)) ck_X8_tail cv_X8_tail sh_221 rfl (fun _ => rfl) ⟨by decide, by decide⟩ (Nat.le_of_ble_eq_true rfl) (c_X8_tail hb) ?_
  exact l_eq (pc := 706) 1024 hC dL_law_706 rfl rfl (k _ hI2)
set_option maxHeartbeats 1000000 in
theorem law_17 {p : Program} {l : Launch} {e : Env} {s : State} {m : MethodId} {below : List Frame} {meth : Method} {c : Code} {b L : Nat} {xs : Nat → Int32} {w : JWp} {Inv : JMem → Prop} (hst : jst_row Inv) (hC : jLc p s m meth c b L xs w) (hL : L ≤ 3072) {n : Nat} (hn : n + 6 ≤ L) {M : JMem} (hI : Inv M) (k : ∀ M2, Inv M2 → jLW p l e s m below meth c b w 1024 (nI n) [] M2) : jLW p l e s m below meth c b w 711 (nI n) [] M := by
  obtain ⟨N, M1, M2, r, ha, hb, hI2⟩ := hst M (xs (nI n + 1).toNatClampNeg) hI
  refine l_x (pc := 711) hC dL_law_711 rfl ?_
  refine l_s (pc := 712) hC dL_law_712 rfl ?_
  refine l_i (pc := 713) hC dL_law_713 rfl ?_
  refine l_ic (pc := 714) 1 hC dL_law_714 rfl ?_
  refine l_add (pc := 715) hC dL_law_715 ?_
  refine l_ld (pc := 716) hC dL_law_716 (jsx hn hL 1 (by decide)) ?_
  refine l_call (pc := 717) [.int (xs (nI n + 1).toNatClampNeg)] [] hC dL_law_717 (List.mem_of_getElem? (i := 648) (by decide +kernel)) ck_X7_row cv_X7_row sh_0 rfl (fun _ => rfl) ⟨by decide, by decide⟩ (Nat.le_of_ble_eq_true rfl) (c_X7_row ha) ?_
  refine l_m (pc := 720) hC dL_law_720 rfl ?_
  refine l_s (pc := 721) hC dL_law_721 rfl ?_
  refine l_i (pc := 722) hC dL_law_722 rfl ?_
  refine l_ic (pc := 723) 1 hC dL_law_723 rfl ?_
  refine l_add (pc := 724) hC dL_law_724 ?_
  refine l_ld (pc := 725) hC dL_law_725 (jsx hn hL 1 (by decide)) ?_
  refine l_call (pc := 726) [.int (xs (nI n + 1).toNatClampNeg)] [.int r] hC dL_law_726 (List.mem_of_getElem? (i := 1193) (by decide +kernel)) ck_X8_row cv_X8_row sh_221 rfl (fun _ => rfl) ⟨by decide, by decide⟩ (Nat.le_of_ble_eq_true rfl) (c_X8_row hb) ?_
  exact l_eq (pc := 729) 1024 hC dL_law_729 rfl rfl (k _ hI2)
set_option maxHeartbeats 1000000 in
theorem law_18 {p : Program} {l : Launch} {e : Env} {s : State} {m : MethodId} {below : List Frame} {meth : Method} {c : Code} {b L : Nat} {xs : Nat → Int32} {w : JWp} {Inv : JMem → Prop} (hst : jst_rule Inv) (hC : jLc p s m meth c b L xs w) (hL : L ≤ 3072) {n : Nat} (hn : n + 6 ≤ L) {M : JMem} (hI : Inv M) (k : ∀ M2, Inv M2 → jLW p l e s m below meth c b w 1024 (nI n) [] M2) : jLW p l e s m below meth c b w 734 (nI n) [] M := by
  obtain ⟨N, M1, M2, r, ha, hb, hI2⟩ := hst M (xs (nI n + 1).toNatClampNeg) hI
  refine l_x (pc := 734) hC dL_law_734 rfl ?_
  refine l_s (pc := 735) hC dL_law_735 rfl ?_
  refine l_i (pc := 736) hC dL_law_736 rfl ?_
  refine l_ic (pc := 737) 1 hC dL_law_737 rfl ?_
  refine l_add (pc := 738) hC dL_law_738 ?_
  refine l_ld (pc := 739) hC dL_law_739 (jsx hn hL 1 (by decide)) ?_
  refine l_call (pc := 740) [.int (xs (nI n + 1).toNatClampNeg)] [] hC dL_law_740 (List.mem_of_getElem? (i := 665) (by decide +kernel)) ck_X7_rule cv_X7_rule sh_0 rfl (fun _ => rfl) ⟨by decide, by decide⟩ (Nat.le_of_ble_eq_true rfl) (c_X7_rule ha) ?_
  refine l_m (pc := 743) hC dL_law_743 rfl ?_
  refine l_s (pc := 744) hC dL_law_744 rfl ?_
  refine l_i (pc := 745) hC dL_law_745 rfl ?_
  refine l_ic (pc := 746) 1 hC dL_law_746 rfl ?_
  refine l_add (pc := 747) hC dL_law_747 ?_
  refine l_ld (pc := 748) hC dL_law_748 (jsx hn hL 1 (by decide)) ?_
  refine l_call (pc := 749) [.int (xs (nI n + 1).toNatClampNeg)] [.int r] hC dL_law_749 (List.mem_of_getElem? (i := 1201) (by decide +kernel)) ck_X8_rule cv_X8_rule sh_221 rfl (fun _ => rfl) ⟨by decide, by decide⟩ (Nat.le_of_ble_eq_true rfl) (c_X8_rule hb) ?_
  exact l_eq (pc := 752) 1024 hC dL_law_752 rfl rfl (k _ hI2)
set_option maxHeartbeats 1000000 in
theorem law_19 {p : Program} {l : Launch} {e : Env} {s : State} {m : MethodId} {below : List Frame} {meth : Method} {c : Code} {b L : Nat} {xs : Nat → Int32} {w : JWp} {Inv : JMem → Prop} (hst : jst_better Inv) (hC : jLc p s m meth c b L xs w) (hL : L ≤ 3072) {n : Nat} (hn : n + 6 ≤ L) {M : JMem} (hI : Inv M) (k : ∀ M2, Inv M2 → jLW p l e s m below meth c b w 1024 (nI n) [] M2) : jLW p l e s m below meth c b w 757 (nI n) [] M := by
  obtain ⟨N, M1, M2, r, ha, hb, hI2⟩ := hst M (xs (nI n + 1).toNatClampNeg) hI
  refine l_x (pc := 757) hC dL_law_757 rfl ?_
  refine l_s (pc := 758) hC dL_law_758 rfl ?_
  refine l_i (pc := 759) hC dL_law_759 rfl ?_
  refine l_ic (pc := 760) 1 hC dL_law_760 rfl ?_
  refine l_add (pc := 761) hC dL_law_761 ?_
  refine l_ld (pc := 762) hC dL_law_762 (jsx hn hL 1 (by decide)) ?_
  refine l_call (pc := 763) [.int (xs (nI n + 1).toNatClampNeg)] [] hC dL_law_763 (List.mem_of_getElem? (i := 690) (by decide +kernel)) ck_X7_better cv_X7_better sh_0 rfl (fun _ => rfl) ⟨by decide, by decide⟩ (Nat.le_of_ble_eq_true rfl) (c_X7_better ha) ?_
  refine l_m (pc := 766) hC dL_law_766 rfl ?_
  refine l_s (pc := 767) hC dL_law_767 rfl ?_
  refine l_i (pc := 768) hC dL_law_768 rfl ?_
  refine l_ic (pc := 769) 1 hC dL_law_769 rfl ?_
  refine l_add (pc := 770) hC dL_law_770 ?_
  refine l_ld (pc := 771) hC dL_law_771 (jsx hn hL 1 (by decide)) ?_
  refine l_call (pc := 772) [.int (xs (nI n + 1).toNatClampNeg)] [.int r] hC dL_law_772 (List.mem_of_getElem? (i := 1217) (by decide +kernel)) ck_X8_better cv_X8_better sh_221 rfl (fun _ => rfl) ⟨by decide, by decide⟩ (Nat.le_of_ble_eq_true rfl) (c_X8_better hb) ?_
  exact l_eq (pc := 775) 1024 hC dL_law_775 rfl rfl (k _ hI2)
set_option maxHeartbeats 1000000 in
theorem law_20 {p : Program} {l : Launch} {e : Env} {s : State} {m : MethodId} {below : List Frame} {meth : Method} {c : Code} {b L : Nat} {xs : Nat → Int32} {w : JWp} {Inv : JMem → Prop} (hst : jst_windows Inv) (hC : jLc p s m meth c b L xs w) (hL : L ≤ 3072) {n : Nat} (hn : n + 6 ≤ L) {M : JMem} (hI : Inv M) (k : ∀ M2, Inv M2 → jLW p l e s m below meth c b w 1024 (nI n) [] M2) : jLW p l e s m below meth c b w 780 (nI n) [] M := by
  obtain ⟨N, M1, M2, r, ha, hb, hI2⟩ := hst M (xs (nI n + 1).toNatClampNeg) hI
  refine l_x (pc := 780) hC dL_law_780 rfl ?_
  refine l_s (pc := 781) hC dL_law_781 rfl ?_
  refine l_i (pc := 782) hC dL_law_782 rfl ?_
  refine l_ic (pc := 783) 1 hC dL_law_783 rfl ?_
  refine l_add (pc := 784) hC dL_law_784 ?_
  refine l_ld (pc := 785) hC dL_law_785 (jsx hn hL 1 (by decide)) ?_
  refine l_call (pc := 786) [.int (xs (nI n + 1).toNatClampNeg)] [] hC dL_law_786 (List.mem_of_getElem? (i := 707) (by decide +kernel)) ck_X7_windows cv_X7_windows sh_0 rfl (fun _ => rfl) ⟨by decide, by decide⟩ (Nat.le_of_ble_eq_true rfl) (c_X7_windows ha) ?_
  refine l_m (pc := 789) hC dL_law_789 rfl ?_
  refine l_s (pc := 790) hC dL_law_790 rfl ?_
  refine l_i (pc := 791) hC dL_law_791 rfl ?_
  refine l_ic (pc := 792) 1 hC dL_law_792 rfl ?_
  refine l_add (pc := 793) hC dL_law_793 ?_
  refine l_ld (pc := 794) hC dL_law_794 (jsx hn hL 1 (by decide)) ?_
  refine l_call (pc := 795) [.int (xs (nI n + 1).toNatClampNeg)] [.int r] hC dL_law_795 (List.mem_of_getElem? (i := 1226) (by decide +kernel)) ck_X8_windows cv_X8_windows sh_221 rfl (fun _ => rfl) ⟨by decide, by decide⟩ (Nat.le_of_ble_eq_true rfl) (c_X8_windows hb) ?_
  exact l_eq (pc := 798) 1024 hC dL_law_798 rfl rfl (k _ hI2)
set_option maxHeartbeats 1000000 in
theorem law_21 {p : Program} {l : Launch} {e : Env} {s : State} {m : MethodId} {below : List Frame} {meth : Method} {c : Code} {b L : Nat} {xs : Nat → Int32} {w : JWp} {Inv : JMem → Prop} (hst : jst_window Inv) (hC : jLc p s m meth c b L xs w) (hL : L ≤ 3072) {n : Nat} (hn : n + 6 ≤ L) {M : JMem} (hI : Inv M) (k : ∀ M2, Inv M2 → jLW p l e s m below meth c b w 1024 (nI n) [] M2) : jLW p l e s m below meth c b w 803 (nI n) [] M := by
  obtain ⟨N, r, ha, hb, hI2⟩ := hst M (xs (nI n + 1).toNatClampNeg) (xs (nI n + 2).toNatClampNeg) hI
  refine l_x (pc := 803) hC dL_law_803 rfl ?_
  refine l_s (pc := 804) hC dL_law_804 rfl ?_
  refine l_i (pc := 805) hC dL_law_805 rfl ?_
  refine l_ic (pc := 806) 1 hC dL_law_806 rfl ?_
  refine l_add (pc := 807) hC dL_law_807 ?_
  refine l_ld (pc := 808) hC dL_law_808 (jsx hn hL 1 (by decide)) ?_
  refine l_s (pc := 809) hC dL_law_809 rfl ?_
  refine l_i (pc := 810) hC dL_law_810 rfl ?_
  refine l_ic (pc := 811) 2 hC dL_law_811 rfl ?_
  refine l_add (pc := 812) hC dL_law_812 ?_
  refine l_ld (pc := 813) hC dL_law_813 (jsx hn hL 2 (by decide)) ?_
  refine l_call (pc := 814) [.int (xs (nI n + 1).toNatClampNeg), .int (xs (nI n + 2).toNatClampNeg)] [] hC dL_law_814 (List.mem_of_getElem? (i := 774) (by decide +kernel)) ck_X7_window cv_X7_window sh_0 rfl (fun _ => rfl) ⟨by decide, by decide⟩ (Nat.le_of_ble_eq_true rfl) (c_X7_window ha) ?_
  refine l_m (pc := 817) hC dL_law_817 rfl ?_
  refine l_s (pc := 818) hC dL_law_818 rfl ?_
  refine l_i (pc := 819) hC dL_law_819 rfl ?_
  refine l_ic (pc := 820) 1 hC dL_law_820 rfl ?_
  refine l_add (pc := 821) hC dL_law_821 ?_
  refine l_ld (pc := 822) hC dL_law_822 (jsx hn hL 1 (by decide)) ?_
  refine l_s (pc := 823) hC dL_law_823 rfl ?_
  refine l_i (pc := 824) hC dL_law_824 rfl ?_
  refine l_ic (pc := 825) 2 hC dL_law_825 rfl ?_
  refine l_add (pc := 826) hC dL_law_826 ?_
  refine l_ld (pc := 827) hC dL_law_827 (jsx hn hL 2 (by decide)) ?_
  refine l_call (pc := 828) [.int (xs (nI n + 1).toNatClampNeg), .int (xs (nI n + 2).toNatClampNeg)] [.int r] hC dL_law_828 (List.mem_of_getElem? (i := 1279) (by decide +kernel)) ck_X8_window cv_X8_window sh_221 rfl (fun _ => rfl) ⟨by decide, by decide⟩ (Nat.le_of_ble_eq_true rfl) (c_X8_window hb) ?_
  exact l_eq (pc := 831) 1024 hC dL_law_831 rfl rfl (k _ hI2)
set_option maxHeartbeats 1000000 in
theorem law_22 {p : Program} {l : Launch} {e : Env} {s : State} {m : MethodId} {below : List Frame} {meth : Method} {c : Code} {b L : Nat} {xs : Nat → Int32} {w : JWp} {Inv : JMem → Prop} (hst : jst_must Inv) (hC : jLc p s m meth c b L xs w) (hL : L ≤ 3072) {n : Nat} (hn : n + 6 ≤ L) {M : JMem} (hI : Inv M) (k : ∀ M2, Inv M2 → jLW p l e s m below meth c b w 1024 (nI n) [] M2) : jLW p l e s m below meth c b w 836 (nI n) [] M := by
  obtain ⟨r, ha, hb, hI2⟩ := hst M (xs (nI n + 1).toNatClampNeg) (xs (nI n + 2).toNatClampNeg) hI
  refine l_x (pc := 836) hC dL_law_836 rfl ?_
  refine l_s (pc := 837) hC dL_law_837 rfl ?_
  refine l_i (pc := 838) hC dL_law_838 rfl ?_
  refine l_ic (pc := 839) 1 hC dL_law_839 rfl ?_
  refine l_add (pc := 840) hC dL_law_840 ?_
  refine l_ld (pc := 841) hC dL_law_841 (jsx hn hL 1 (by decide)) ?_
  refine l_s (pc := 842) hC dL_law_842 rfl ?_
  refine l_i (pc := 843) hC dL_law_843 rfl ?_
  refine l_ic (pc := 844) 2 hC dL_law_844 rfl ?_
  refine l_add (pc := 845) hC dL_law_845 ?_
  refine l_ld (pc := 846) hC dL_law_846 (jsx hn hL 2 (by decide)) ?_
  refine l_call (pc := 847) [.int (xs (nI n + 1).toNatClampNeg), .int (xs (nI n + 2).toNatClampNeg)] [] hC dL_law_847 (List.mem_of_getElem? (i := 784) (by decide +kernel)) ck_X7_must cv_X7_must sh_0 rfl (fun _ => rfl) ⟨by decide, by decide⟩ (Nat.le_of_ble_eq_true rfl) (c_X7_must ha) ?_
  refine l_m (pc := 850) hC dL_law_850 rfl ?_
  refine l_s (pc := 851) hC dL_law_851 rfl ?_
  refine l_i (pc := 852) hC dL_law_852 rfl ?_
  refine l_ic (pc := 853) 1 hC dL_law_853 rfl ?_
  refine l_add (pc := 854) hC dL_law_854 ?_
  refine l_ld (pc := 855) hC dL_law_855 (jsx hn hL 1 (by decide)) ?_
  refine l_s (pc := 856) hC dL_law_856 rfl ?_
  refine l_i (pc := 857) hC dL_law_857 rfl ?_
  refine l_ic (pc := 858) 2 hC dL_law_858 rfl ?_
  refine l_add (pc := 859) hC dL_law_859 ?_
  refine l_ld (pc := 860) hC dL_law_860 (jsx hn hL 2 (by decide)) ?_
  refine l_call (pc := 861) [.int (xs (nI n + 1).toNatClampNeg), .int (xs (nI n + 2).toNatClampNeg)] [.int r] hC dL_law_861 (List.mem_of_getElem? (i := 1283) (by decide +kernel)) ck_X8_must cv_X8_must sh_221 rfl (fun _ => rfl) ⟨by decide, by decide⟩ (Nat.le_of_ble_eq_true rfl) (c_X8_must hb) ?_
  exact l_eq (pc := 864) 1024 hC dL_law_864 rfl rfl (k _ hI2)
set_option maxHeartbeats 1000000 in
theorem law_23 {p : Program} {l : Launch} {e : Env} {s : State} {m : MethodId} {below : List Frame} {meth : Method} {c : Code} {b L : Nat} {xs : Nat → Int32} {w : JWp} {Inv : JMem → Prop} (hst : jst_bound Inv) (hC : jLc p s m meth c b L xs w) (hL : L ≤ 3072) {n : Nat} (hn : n + 6 ≤ L) {M : JMem} (hI : Inv M) (k : ∀ M2, Inv M2 → jLW p l e s m below meth c b w 1024 (nI n) [] M2) : jLW p l e s m below meth c b w 869 (nI n) [] M := by
  obtain ⟨N, M1, M2, r, ha, hb, hI2⟩ := hst M (xs (nI n + 1).toNatClampNeg) (xs (nI n + 2).toNatClampNeg) hI
  refine l_x (pc := 869) hC dL_law_869 rfl ?_
  refine l_s (pc := 870) hC dL_law_870 rfl ?_
  refine l_i (pc := 871) hC dL_law_871 rfl ?_
  refine l_ic (pc := 872) 1 hC dL_law_872 rfl ?_
  refine l_add (pc := 873) hC dL_law_873 ?_
  refine l_ld (pc := 874) hC dL_law_874 (jsx hn hL 1 (by decide)) ?_
  refine l_s (pc := 875) hC dL_law_875 rfl ?_
  refine l_i (pc := 876) hC dL_law_876 rfl ?_
  refine l_ic (pc := 877) 2 hC dL_law_877 rfl ?_
  refine l_add (pc := 878) hC dL_law_878 ?_
  refine l_ld (pc := 879) hC dL_law_879 (jsx hn hL 2 (by decide)) ?_
  refine l_call (pc := 880) [.int (xs (nI n + 1).toNatClampNeg), .int (xs (nI n + 2).toNatClampNeg)] [] hC dL_law_880 (List.mem_of_getElem? (i := 789) (by decide +kernel)) ck_X7_bound cv_X7_bound sh_0 rfl (fun _ => rfl) ⟨by decide, by decide⟩ (Nat.le_of_ble_eq_true rfl) (c_X7_bound ha) ?_
  refine l_m (pc := 883) hC dL_law_883 rfl ?_
  refine l_s (pc := 884) hC dL_law_884 rfl ?_
  refine l_i (pc := 885) hC dL_law_885 rfl ?_
  refine l_ic (pc := 886) 1 hC dL_law_886 rfl ?_
  refine l_add (pc := 887) hC dL_law_887 ?_
  refine l_ld (pc := 888) hC dL_law_888 (jsx hn hL 1 (by decide)) ?_
  refine l_s (pc := 889) hC dL_law_889 rfl ?_
  refine l_i (pc := 890) hC dL_law_890 rfl ?_
  refine l_ic (pc := 891) 2 hC dL_law_891 rfl ?_
  refine l_add (pc := 892) hC dL_law_892 ?_
  refine l_ld (pc := 893) hC dL_law_893 (jsx hn hL 2 (by decide)) ?_
  refine l_call (pc := 894) [.int (xs (nI n + 1).toNatClampNeg), .int (xs (nI n + 2).toNatClampNeg)] [.int r] hC dL_law_894 (List.mem_of_getElem? (i := 1287) (by decide +kernel)) ck_X8_bound cv_X8_bound sh_221 rfl (fun _ => rfl) ⟨by decide, by decide⟩ (Nat.le_of_ble_eq_true rfl) (c_X8_bound hb) ?_
  exact l_eq (pc := 897) 1024 hC dL_law_897 rfl rfl (k _ hI2)
set_option maxHeartbeats 1000000 in
theorem law_24 {p : Program} {l : Launch} {e : Env} {s : State} {m : MethodId} {below : List Frame} {meth : Method} {c : Code} {b L : Nat} {xs : Nat → Int32} {w : JWp} {Inv : JMem → Prop} (hst : jst_least Inv) (hC : jLc p s m meth c b L xs w) (hL : L ≤ 3072) {n : Nat} (hn : n + 6 ≤ L) {M : JMem} (hI : Inv M) (k : ∀ M2, Inv M2 → jLW p l e s m below meth c b w 1024 (nI n) [] M2) : jLW p l e s m below meth c b w 902 (nI n) [] M := by
  obtain ⟨N, M1, M2, r, ha, hb, hI2⟩ := hst M (xs (nI n + 1).toNatClampNeg) hI
  refine l_x (pc := 902) hC dL_law_902 rfl ?_
  refine l_s (pc := 903) hC dL_law_903 rfl ?_
  refine l_i (pc := 904) hC dL_law_904 rfl ?_
  refine l_ic (pc := 905) 1 hC dL_law_905 rfl ?_
  refine l_add (pc := 906) hC dL_law_906 ?_
  refine l_ld (pc := 907) hC dL_law_907 (jsx hn hL 1 (by decide)) ?_
  refine l_call (pc := 908) [.int (xs (nI n + 1).toNatClampNeg)] [] hC dL_law_908 (List.mem_of_getElem? (i := 826) (by decide +kernel)) ck_X7_least cv_X7_least sh_0 rfl (fun _ => rfl) ⟨by decide, by decide⟩ (Nat.le_of_ble_eq_true rfl) (c_X7_least ha) ?_
  refine l_m (pc := 911) hC dL_law_911 rfl ?_
  refine l_s (pc := 912) hC dL_law_912 rfl ?_
  refine l_i (pc := 913) hC dL_law_913 rfl ?_
  refine l_ic (pc := 914) 1 hC dL_law_914 rfl ?_
  refine l_add (pc := 915) hC dL_law_915 ?_
  refine l_ld (pc := 916) hC dL_law_916 (jsx hn hL 1 (by decide)) ?_
  refine l_call (pc := 917) [.int (xs (nI n + 1).toNatClampNeg)] [.int r] hC dL_law_917 (List.mem_of_getElem? (i := 1305) (by decide +kernel)) ck_X8_least cv_X8_least sh_221 rfl (fun _ => rfl) ⟨by decide, by decide⟩ (Nat.le_of_ble_eq_true rfl) (c_X8_least hb) ?_
  exact l_eq (pc := 920) 1024 hC dL_law_920 rfl rfl (k _ hI2)
set_option maxHeartbeats 1000000 in
theorem law_25 {p : Program} {l : Launch} {e : Env} {s : State} {m : MethodId} {below : List Frame} {meth : Method} {c : Code} {b L : Nat} {xs : Nat → Int32} {w : JWp} {Inv : JMem → Prop} (hst : jst_found Inv) (hC : jLc p s m meth c b L xs w) (hL : L ≤ 3072) {n : Nat} (hn : n + 6 ≤ L) {M : JMem} (hI : Inv M) (k : ∀ M2, Inv M2 → jLW p l e s m below meth c b w 1024 (nI n) [] M2) : jLW p l e s m below meth c b w 925 (nI n) [] M := by
  obtain ⟨r, ha, hb, hI2⟩ := hst M (xs (nI n + 1).toNatClampNeg) hI
  refine l_x (pc := 925) hC dL_law_925 rfl ?_
  refine l_s (pc := 926) hC dL_law_926 rfl ?_
  refine l_i (pc := 927) hC dL_law_927 rfl ?_
  refine l_ic (pc := 928) 1 hC dL_law_928 rfl ?_
  refine l_add (pc := 929) hC dL_law_929 ?_
  refine l_ld (pc := 930) hC dL_law_930 (jsx hn hL 1 (by decide)) ?_
  refine l_call (pc := 931) [.int (xs (nI n + 1).toNatClampNeg)] [] hC dL_law_931 (List.mem_of_getElem? (i := 865) (by decide +kernel)) ck_X7_found cv_X7_found sh_0 rfl (fun _ => rfl) ⟨by decide, by decide⟩ (Nat.le_of_ble_eq_true rfl) (c_X7_found ha) ?_
  refine l_m (pc := 934) hC dL_law_934 rfl ?_
  refine l_s (pc := 935) hC dL_law_935 rfl ?_
  refine l_i (pc := 936) hC dL_law_936 rfl ?_
  refine l_ic (pc := 937) 1 hC dL_law_937 rfl ?_
  refine l_add (pc := 938) hC dL_law_938 ?_
  refine l_ld (pc := 939) hC dL_law_939 (jsx hn hL 1 (by decide)) ?_
  refine l_call (pc := 940) [.int (xs (nI n + 1).toNatClampNeg)] [.int r] hC dL_law_940 (List.mem_of_getElem? (i := 1333) (by decide +kernel)) ck_X8_found cv_X8_found sh_221 rfl (fun _ => rfl) ⟨by decide, by decide⟩ (Nat.le_of_ble_eq_true rfl) (c_X8_found hb) ?_
  exact l_eq (pc := 943) 1024 hC dL_law_943 rfl rfl (k _ hI2)
set_option maxHeartbeats 1000000 in
theorem law_26 {p : Program} {l : Launch} {e : Env} {s : State} {m : MethodId} {below : List Frame} {meth : Method} {c : Code} {b L : Nat} {xs : Nat → Int32} {w : JWp} {Inv : JMem → Prop} (hst : jst_fail Inv) (hC : jLc p s m meth c b L xs w) (hL : L ≤ 3072) {n : Nat} (hn : n + 6 ≤ L) {M : JMem} (hI : Inv M) (k : ∀ M2, Inv M2 → jLW p l e s m below meth c b w 1024 (nI n) [] M2) : jLW p l e s m below meth c b w 948 (nI n) [] M := by
  obtain ⟨N, M1, M2, r, ha, hb, hI2⟩ := hst M (xs (nI n + 1).toNatClampNeg) (xs (nI n + 2).toNatClampNeg) (xs (nI n + 3).toNatClampNeg) hI
  refine l_x (pc := 948) hC dL_law_948 rfl ?_
  refine l_s (pc := 949) hC dL_law_949 rfl ?_
  refine l_i (pc := 950) hC dL_law_950 rfl ?_
  refine l_ic (pc := 951) 1 hC dL_law_951 rfl ?_
  refine l_add (pc := 952) hC dL_law_952 ?_
  refine l_ld (pc := 953) hC dL_law_953 (jsx hn hL 1 (by decide)) ?_
  refine l_s (pc := 954) hC dL_law_954 rfl ?_
  refine l_i (pc := 955) hC dL_law_955 rfl ?_
  refine l_ic (pc := 956) 2 hC dL_law_956 rfl ?_
  refine l_add (pc := 957) hC dL_law_957 ?_
  refine l_ld (pc := 958) hC dL_law_958 (jsx hn hL 2 (by decide)) ?_
  refine l_s (pc := 959) hC dL_law_959 rfl ?_
  refine l_i (pc := 960) hC dL_law_960 rfl ?_
  refine l_ic (pc := 961) 3 hC dL_law_961 rfl ?_
  refine l_add (pc := 962) hC dL_law_962 ?_
  refine l_ld (pc := 963) hC dL_law_963 (jsx hn hL 3 (by decide)) ?_
  refine l_call (pc := 964) [.int (xs (nI n + 1).toNatClampNeg), .int (xs (nI n + 2).toNatClampNeg), .int (xs (nI n + 3).toNatClampNeg)] [] hC dL_law_964 (List.mem_of_getElem? (i := 869) (by decide +kernel)) ck_X7_fail cv_X7_fail sh_0 rfl (fun _ => rfl) ⟨by decide, by decide⟩ (Nat.le_of_ble_eq_true rfl) (c_X7_fail ha) ?_
  refine l_m (pc := 967) hC dL_law_967 rfl ?_
  refine l_s (pc := 968) hC dL_law_968 rfl ?_
  refine l_i (pc := 969) hC dL_law_969 rfl ?_
  refine l_ic (pc := 970) 1 hC dL_law_970 rfl ?_
  refine l_add (pc := 971) hC dL_law_971 ?_
  refine l_ld (pc := 972) hC dL_law_972 (jsx hn hL 1 (by decide)) ?_
  refine l_s (pc := 973) hC dL_law_973 rfl ?_
  refine l_i (pc := 974) hC dL_law_974 rfl ?_
  refine l_ic (pc := 975) 2 hC dL_law_975 rfl ?_
  refine l_add (pc := 976) hC dL_law_976 ?_
  refine l_ld (pc := 977) hC dL_law_977 (jsx hn hL 2 (by decide)) ?_
  refine l_s (pc := 978) hC dL_law_978 rfl ?_
  refine l_i (pc := 979) hC dL_law_979 rfl ?_
  refine l_ic (pc := 980) 3 hC dL_law_980 rfl ?_
  refine l_add (pc := 981) hC dL_law_981 ?_
  refine l_ld (pc := 982) hC dL_law_982 (jsx hn hL 3 (by decide)) ?_
  refine l_call (pc := 983) [.int (xs (nI n + 1).toNatClampNeg), .int (xs (nI n + 2).toNatClampNeg), .int (xs (nI n + 3).toNatClampNeg)] [.int r] hC dL_law_983 (List.mem_of_getElem? (i := 1337) (by decide +kernel)) ck_X8_fail cv_X8_fail sh_221 rfl (fun _ => rfl) ⟨by decide, by decide⟩ (Nat.le_of_ble_eq_true rfl) (c_X8_fail hb) ?_
  exact l_eq (pc := 986) 1024 hC dL_law_986 rfl rfl (k _ hI2)
set_option maxHeartbeats 1000000 in
theorem law_27 {p : Program} {l : Launch} {e : Env} {s : State} {m : MethodId} {below : List Frame} {meth : Method} {c : Code} {b L : Nat} {xs : Nat → Int32} {w : JWp} {Inv : JMem → Prop} (hst : jst_mended Inv) (hC : jLc p s m meth c b L xs w) (hL : L ≤ 3072) {n : Nat} (hn : n + 6 ≤ L) {M : JMem} (hI : Inv M) (k : ∀ M2, Inv M2 → jLW p l e s m below meth c b w 1024 (nI n) [] M2) : jLW p l e s m below meth c b w 991 (nI n) [] M := by
  obtain ⟨r, ha, hb, hI2⟩ := hst M (xs (nI n + 1).toNatClampNeg) (xs (nI n + 2).toNatClampNeg) hI
  refine l_x (pc := 991) hC dL_law_991 rfl ?_
  refine l_s (pc := 992) hC dL_law_992 rfl ?_
  refine l_i (pc := 993) hC dL_law_993 rfl ?_
  refine l_ic (pc := 994) 1 hC dL_law_994 rfl ?_
  refine l_add (pc := 995) hC dL_law_995 ?_
  refine l_ld (pc := 996) hC dL_law_996 (jsx hn hL 1 (by decide)) ?_
  refine l_s (pc := 997) hC dL_law_997 rfl ?_
  refine l_i (pc := 998) hC dL_law_998 rfl ?_
  refine l_ic (pc := 999) 2 hC dL_law_999 rfl ?_
  refine l_add (pc := 1000) hC dL_law_1000 ?_
  refine l_ld (pc := 1001) hC dL_law_1001 (jsx hn hL 2 (by decide)) ?_
  refine l_call (pc := 1002) [.int (xs (nI n + 1).toNatClampNeg), .int (xs (nI n + 2).toNatClampNeg)] [] hC dL_law_1002 (List.mem_of_getElem? (i := 877) (by decide +kernel)) ck_X7_mended cv_X7_mended sh_0 rfl (fun _ => rfl) ⟨by decide, by decide⟩ (Nat.le_of_ble_eq_true rfl) (c_X7_mended ha) ?_
  refine l_m (pc := 1005) hC dL_law_1005 rfl ?_
  refine l_s (pc := 1006) hC dL_law_1006 rfl ?_
  refine l_i (pc := 1007) hC dL_law_1007 rfl ?_
  refine l_ic (pc := 1008) 1 hC dL_law_1008 rfl ?_
  refine l_add (pc := 1009) hC dL_law_1009 ?_
  refine l_ld (pc := 1010) hC dL_law_1010 (jsx hn hL 1 (by decide)) ?_
  refine l_s (pc := 1011) hC dL_law_1011 rfl ?_
  refine l_i (pc := 1012) hC dL_law_1012 rfl ?_
  refine l_ic (pc := 1013) 2 hC dL_law_1013 rfl ?_
  refine l_add (pc := 1014) hC dL_law_1014 ?_
  refine l_ld (pc := 1015) hC dL_law_1015 (jsx hn hL 2 (by decide)) ?_
  refine l_call (pc := 1016) [.int (xs (nI n + 1).toNatClampNeg), .int (xs (nI n + 2).toNatClampNeg)] [.int r] hC dL_law_1016 (List.mem_of_getElem? (i := 1342) (by decide +kernel)) ck_X8_mended cv_X8_mended sh_221 rfl (fun _ => rfl) ⟨by decide, by decide⟩ (Nat.le_of_ble_eq_true rfl) (c_X8_mended hb) ?_
  exact l_eq (pc := 1019) 1024 hC dL_law_1019 rfl rfl (k _ hI2)
theorem jand31 (x : Int32) : ∃ j : Nat, j < 32 ∧ x &&& 31 = nI j := pk_andE x 5 (by decide)
set_option maxHeartbeats 4000000 in
theorem law_body {p : Program} {l : Launch} {e : Env} {s : State} {m : MethodId} {below : List Frame} {meth : Method} {c : Code} {b L : Nat} {xs : Nat → Int32} {w : JWp} {Inv : JMem → Prop} (hst : jSteps Inv) (hC : jLc p s m meth c b L xs w) (hL : L ≤ 3072) {n : Nat} (hn : n + 6 ≤ L) {M : JMem} (hI : Inv M) (k : ∀ M2, Inv M2 → jLW p l e s m below meth c b w 1024 (nI n) [] M2) : jLW p l e s m below meth c b w 27 (nI n) [] M := by
  refine l_s (pc := 27) hC dL_law_27 rfl ?_
  refine l_i (pc := 28) hC dL_law_28 rfl ?_
  refine l_ld (pc := 29) hC dL_law_29 (vp_in_nI (by omega) (by omega)) ?_
  refine l_bp (pc := 30) 31 hC dL_law_30 rfl ?_
  refine l_and (pc := 32) hC dL_law_32 ?_
  obtain ⟨j, hj, ej⟩ := jand31 (xs (nI n).toNatClampNeg)
  obtain ⟨h0, h1, h2, h3, h4, h5, h6, h7, h8, h9, h10, h11, h12, h13, h14, h15, h16, h17, h18, h19, h20, h21, h22, h23, h24, h25, h26, h27⟩ := hst
  by_cases j0 : j = 0
  · subst j0
    exact l_tsI (pc := 33) 0 160 hC dL_law_33 ej (by decide) (by decide) rfl rfl (law_0 h0 hC hL hn hI k)
  by_cases j1 : j = 1
  · subst j1
    exact l_tsI (pc := 33) 1 193 hC dL_law_33 ej (by decide) (by decide) rfl rfl (law_1 h1 hC hL hn hI k)
  by_cases j2 : j = 2
  · subst j2
    exact l_tsI (pc := 33) 2 216 hC dL_law_33 ej (by decide) (by decide) rfl rfl (law_2 h2 hC hL hn hI k)
  by_cases j3 : j = 3
  · subst j3
    exact l_tsI (pc := 33) 3 259 hC dL_law_33 ej (by decide) (by decide) rfl rfl (law_3 h3 hC hL hn hI k)
  by_cases j4 : j = 4
  · subst j4
    exact l_tsI (pc := 33) 4 292 hC dL_law_33 ej (by decide) (by decide) rfl rfl (law_4 h4 hC hL hn hI k)
  by_cases j5 : j = 5
  · subst j5
    exact l_tsI (pc := 33) 5 315 hC dL_law_33 ej (by decide) (by decide) rfl rfl (law_5 h5 hC hL hn hI k)
  by_cases j6 : j = 6
  · subst j6
    exact l_tsI (pc := 33) 6 358 hC dL_law_33 ej (by decide) (by decide) rfl rfl (law_6 h6 hC hL hn hI k)
  by_cases j7 : j = 7
  · subst j7
    exact l_tsI (pc := 33) 7 381 hC dL_law_33 ej (by decide) (by decide) rfl rfl (law_7 h7 hC hL hn hI k)
  by_cases j8 : j = 8
  · subst j8
    exact l_tsI (pc := 33) 8 434 hC dL_law_33 ej (by decide) (by decide) rfl rfl (law_8 h8 hC hL hn hI k)
  by_cases j9 : j = 9
  · subst j9
    exact l_tsI (pc := 33) 9 467 hC dL_law_33 ej (by decide) (by decide) rfl rfl (law_9 h9 hC hL hn hI k)
  by_cases j10 : j = 10
  · subst j10
    exact l_tsI (pc := 33) 10 530 hC dL_law_33 ej (by decide) (by decide) rfl rfl (law_10 h10 hC hL hn hI k)
  by_cases j11 : j = 11
  · subst j11
    exact l_tsI (pc := 33) 11 563 hC dL_law_33 ej (by decide) (by decide) rfl rfl (law_11 h11 hC hL hn hI k)
  by_cases j12 : j = 12
  · subst j12
    exact l_tsI (pc := 33) 12 576 hC dL_law_33 ej (by decide) (by decide) rfl rfl (law_12 h12 hC hL hn hI k)
  by_cases j13 : j = 13
  · subst j13
    exact l_tsI (pc := 33) 13 609 hC dL_law_33 ej (by decide) (by decide) rfl rfl (law_13 h13 hC hL hn hI k)
  by_cases j14 : j = 14
  · subst j14
    exact l_tsI (pc := 33) 14 642 hC dL_law_33 ej (by decide) (by decide) rfl rfl (law_14 h14 hC hL hn hI k)
  by_cases j15 : j = 15
  · subst j15
    exact l_tsI (pc := 33) 15 655 hC dL_law_33 ej (by decide) (by decide) rfl rfl (law_15 h15 hC hL hn hI k)
  by_cases j16 : j = 16
  · subst j16
    exact l_tsI (pc := 33) 16 678 hC dL_law_33 ej (by decide) (by decide) rfl rfl (law_16 h16 hC hL hn hI k)
  by_cases j17 : j = 17
  · subst j17
    exact l_tsI (pc := 33) 17 711 hC dL_law_33 ej (by decide) (by decide) rfl rfl (law_17 h17 hC hL hn hI k)
  by_cases j18 : j = 18
  · subst j18
    exact l_tsI (pc := 33) 18 734 hC dL_law_33 ej (by decide) (by decide) rfl rfl (law_18 h18 hC hL hn hI k)
  by_cases j19 : j = 19
  · subst j19
    exact l_tsI (pc := 33) 19 757 hC dL_law_33 ej (by decide) (by decide) rfl rfl (law_19 h19 hC hL hn hI k)
  by_cases j20 : j = 20
  · subst j20
    exact l_tsI (pc := 33) 20 780 hC dL_law_33 ej (by decide) (by decide) rfl rfl (law_20 h20 hC hL hn hI k)
  by_cases j21 : j = 21
  · subst j21
    exact l_tsI (pc := 33) 21 803 hC dL_law_33 ej (by decide) (by decide) rfl rfl (law_21 h21 hC hL hn hI k)
  by_cases j22 : j = 22
  · subst j22
    exact l_tsI (pc := 33) 22 836 hC dL_law_33 ej (by decide) (by decide) rfl rfl (law_22 h22 hC hL hn hI k)
  by_cases j23 : j = 23
  · subst j23
    exact l_tsI (pc := 33) 23 869 hC dL_law_33 ej (by decide) (by decide) rfl rfl (law_23 h23 hC hL hn hI k)
  by_cases j24 : j = 24
  · subst j24
    exact l_tsI (pc := 33) 24 902 hC dL_law_33 ej (by decide) (by decide) rfl rfl (law_24 h24 hC hL hn hI k)
  by_cases j25 : j = 25
  · subst j25
    exact l_tsI (pc := 33) 25 925 hC dL_law_33 ej (by decide) (by decide) rfl rfl (law_25 h25 hC hL hn hI k)
  by_cases j26 : j = 26
  · subst j26
    exact l_tsI (pc := 33) 26 948 hC dL_law_33 ej (by decide) (by decide) rfl rfl (law_26 h26 hC hL hn hI k)
  by_cases j27 : j = 27
  · subst j27
    exact l_tsI (pc := 33) 27 991 hC dL_law_33 ej (by decide) (by decide) rfl rfl (law_27 h27 hC hL hn hI k)
  refine l_tsO (pc := 33) 1024 hC dL_law_33 (Or.inr ?_) rfl (k M hI)
  rw [ej, nI_toInt (by omega)]
  omega
set_option maxHeartbeats 4000000 in
theorem law_loop {p : Program} {l : Launch} {e : Env} {s : State} {m : MethodId} {below : List Frame} {meth : Method} {c : Code} {b L : Nat} {xs : Nat → Int32} {w : JWp} {Inv : JMem → Prop} (hst : jSteps Inv) (hC : jLc p s m meth c b L xs w) (hL : L ≤ 3072) : ∀ (k n : Nat) (M : JMem), L + 6 ≤ n + k → n ≤ L + 6 → Inv M → jLW p l e s m below meth c b w 18 (nI n) [] M := by
  intro k
  induction k with
  | zero =>
    intro n M h1 h2 hI
    refine l_i (pc := 18) hC dL_law_18 rfl ?_
    refine l_s (pc := 19) hC dL_law_19 rfl ?_
    refine l_len (pc := 20) hC dL_law_20 ?_
    refine l_bp (pc := 21) 6 hC dL_law_21 rfl ?_
    refine l_sub (pc := 23) hC dL_law_23 ?_
    refine l_gt (pc := 24) 1030 hC dL_law_24 rfl (fun _ => ?_) (fun h => ?_)
    · refine l_ic (pc := 1030) 1 hC dL_law_1030 rfl ?_
      intro H locs ls hP hS hl
      exact W_forget hC hS dL_law_1031
    · exact absurd (jgtL hL (by omega) (by omega)) h
  | succ k ih =>
    intro n M h1 h2 hI
    refine l_i (pc := 18) hC dL_law_18 rfl ?_
    refine l_s (pc := 19) hC dL_law_19 rfl ?_
    refine l_len (pc := 20) hC dL_law_20 ?_
    refine l_bp (pc := 21) 6 hC dL_law_21 rfl ?_
    refine l_sub (pc := 23) hC dL_law_23 ?_
    refine l_gt (pc := 24) 1030 hC dL_law_24 rfl (fun _ => ?_) (fun h => ?_)
    · refine l_ic (pc := 1030) 1 hC dL_law_1030 rfl ?_
      intro H locs ls hP hS hl
      exact W_forget hC hS dL_law_1031
    · have hn : n + 6 ≤ L := jngtL hL h2 h
      refine law_body hst hC hL hn hI (fun M2 hI2 => ?_)
      refine l_inc (pc := 1024) (v := nI (n + 6)) hC dL_law_1024 (nI_add n 6) ?_
      refine l_go (pc := 1027) 18 hC dL_law_1027 rfl ?_
      exact ih (n + 6) M2 (by omega) (by omega) hI2
