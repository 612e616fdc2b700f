theorem jupX (M : JMem) (a i : Nat) (v : Int32) : ∃ M1, jup M a i v = M1 ∧ (∀ b j, ¬ (b = a ∧ j = i) → M1 b j = M b j) ∧ M1 a i = v :=
  ⟨_, rfl, fun b j h => by rw [jup_at, if_neg h], jup_eq⟩
theorem jaddA {M : JMem} {F : FT} {od : Nat → Nat → Nat} {p m v : Nat} (hW : WF F) (hA : AF M F) (hO : AO M 33 F od) (hp : p < F.np) (hm : m < F.nm) (hl : F.lc p < 8) (hs : F.ns < 32) : ∃ M', f_X7_addStep M (nI p) (nI m) (nI v) = some (M', nI F.ns) ∧ AF M' (F.addS p m v) ∧ AO M' 33 (F.addS p m v) (odS F od m) ∧ ∀ a i, ¬ (1 ≤ a ∧ a ≤ 43) → M' a i = M a i := by
  have hp12 : p < 12 := Nat.lt_of_lt_of_le hp hW.2.1.1
  have hm8 : m < 8 := Nat.lt_of_lt_of_le hm hW.1.1
  have hoc := oc_le hW m
  obtain ⟨g1, g2, g3, g4, g5, g6, g7, g8, g9, g10⟩ := hA
  obtain ⟨k1, k2⟩ := hO
  obtain ⟨M1, e1, f1, v1⟩ := jupX M 19 F.ns (nI p)
  obtain ⟨M2, e2, f2, v2⟩ := jupX M1 20 F.ns (nI m)
  obtain ⟨M3, e3, f3, v3⟩ := jupX M2 21 F.ns (nI v)
  obtain ⟨M5, e5, f5, v5⟩ := jupX M3 22 F.ns (nI (F.lc p))
  obtain ⟨M8, e8, f8, v8⟩ := jupX M5 (5 + 1 + p) (F.lc p) (nI F.ns)
  obtain ⟨M10, e10, f10, v10⟩ := jupX M8 18 p (nI (F.lc p + 1))
  obtain ⟨M13, e13, f13, v13⟩ := jupX M10 (23 + 1 + m) (F.oc m) (nI F.ns)
  obtain ⟨M15, e15, f15, v15⟩ := jupX M13 32 m (nI (F.oc m + 1))
  obtain ⟨M16, e16, f16, v16⟩ := jupX M15 1 2 (nI (F.ns + 1))
  obtain ⟨M17, e17, f17, v17⟩ := jupX M16 (33 + 1 + 1 + m) (F.oc m) (nI F.ns)
  obtain ⟨M18, e18, f18, v18⟩ := jupX M17 (33 + 10) m (nI (F.oc m + 1))
  have r3 : M3 18 p = nI (F.lc p) := by rw [f3 _ _ (by omega), f2 _ _ (by omega), f1 _ _ (by omega)]; exact g6 p hp12
  have r5 : M5 18 p = nI (F.lc p) := by rw [f5 _ _ (by omega)]; exact r3
  have r8 : M8 18 p = nI (F.lc p) := by rw [f8 _ _ (by omega)]; exact r5
  have r10 : M10 32 m = nI (F.oc m) := by rw [f10 _ _ (by omega), f8 _ _ (by omega), f5 _ _ (by omega), f3 _ _ (by omega), f2 _ _ (by omega), f1 _ _ (by omega)]; exact g9 m hm8
  have r13 : M13 32 m = nI (F.oc m) := by rw [f13 _ _ (by omega)]; exact r10
  have r15 : M15 1 2 = nI F.ns := by rw [f15 _ _ (by omega), f13 _ _ (by omega), f10 _ _ (by omega), f8 _ _ (by omega), f5 _ _ (by omega), f3 _ _ (by omega), f2 _ _ (by omega), f1 _ _ (by omega)]; exact g3
  have r16 : M16 (33 + 10) m = nI (F.oc m) := by rw [f16 _ _ (by omega), f15 _ _ (by omega), f13 _ _ (by omega), f10 _ _ (by omega), f8 _ _ (by omega), f5 _ _ (by omega), f3 _ _ (by omega), f2 _ _ (by omega), f1 _ _ (by omega)]; exact k1 m hm8
  have r17 : M17 (33 + 10) m = nI (F.oc m) := by rw [f17 _ _ (by omega)]; exact r16
  have hf : ∀ a i, ¬ ((a = 19 ∧ i = F.ns) ∨ (a = 20 ∧ i = F.ns) ∨ (a = 21 ∧ i = F.ns) ∨ (a = 22 ∧ i = F.ns) ∨ (a = 6 + p ∧ i = F.lc p) ∨ (a = 18 ∧ i = p) ∨ (a = 24 + m ∧ i = F.oc m) ∨ (a = 32 ∧ i = m) ∨ (a = 1 ∧ i = 2) ∨ (a = 35 + m ∧ i = F.oc m) ∨ (a = 43 ∧ i = m)) → M18 a i = M a i := by
    intro a i h
    rw [f18 _ _ (by omega), f17 _ _ (by omega), f16 _ _ (by omega), f15 _ _ (by omega), f13 _ _ (by omega), f10 _ _ (by omega), f8 _ _ (by omega), f5 _ _ (by omega), f3 _ _ (by omega), f2 _ _ (by omega), f1 _ _ (by omega)]
  have w18 : M18 43 m = nI (F.oc m + 1) := v18
  have w17 : M18 (35 + m) (F.oc m) = nI F.ns := by rw [f18 _ _ (by omega), show 35 + m = 33 + 1 + 1 + m by omega]; exact v17
  have w16 : M18 1 2 = nI (F.ns + 1) := by rw [f18 _ _ (by omega), f17 _ _ (by omega)]; exact v16
  have w15 : M18 32 m = nI (F.oc m + 1) := by rw [f18 _ _ (by omega), f17 _ _ (by omega), f16 _ _ (by omega)]; exact v15
  have w13 : M18 (24 + m) (F.oc m) = nI F.ns := by rw [f18 _ _ (by omega), f17 _ _ (by omega), f16 _ _ (by omega), f15 _ _ (by omega), show 24 + m = 23 + 1 + m by omega]; exact v13
  have w10 : M18 18 p = nI (F.lc p + 1) := by rw [f18 _ _ (by omega), f17 _ _ (by omega), f16 _ _ (by omega), f15 _ _ (by omega), f13 _ _ (by omega)]; exact v10
  have w8 : M18 (6 + p) (F.lc p) = nI F.ns := by rw [f18 _ _ (by omega), f17 _ _ (by omega), f16 _ _ (by omega), f15 _ _ (by omega), f13 _ _ (by omega), f10 _ _ (by omega), show 6 + p = 5 + 1 + p by omega]; exact v8
  have w5 : M18 22 F.ns = nI (F.lc p) := by rw [f18 _ _ (by omega), f17 _ _ (by omega), f16 _ _ (by omega), f15 _ _ (by omega), f13 _ _ (by omega), f10 _ _ (by omega), f8 _ _ (by omega)]; exact v5
  have w3 : M18 21 F.ns = nI v := by rw [f18 _ _ (by omega), f17 _ _ (by omega), f16 _ _ (by omega), f15 _ _ (by omega), f13 _ _ (by omega), f10 _ _ (by omega), f8 _ _ (by omega), f5 _ _ (by omega)]; exact v3
  have w2 : M18 20 F.ns = nI m := by rw [f18 _ _ (by omega), f17 _ _ (by omega), f16 _ _ (by omega), f15 _ _ (by omega), f13 _ _ (by omega), f10 _ _ (by omega), f8 _ _ (by omega), f5 _ _ (by omega), f3 _ _ (by omega)]; exact v2
  have w1 : M18 19 F.ns = nI p := by rw [f18 _ _ (by omega), f17 _ _ (by omega), f16 _ _ (by omega), f15 _ _ (by omega), f13 _ _ (by omega), f10 _ _ (by omega), f8 _ _ (by omega), f5 _ _ (by omega), f3 _ _ (by omega), f2 _ _ (by omega)]; exact v1
  refine ⟨M18, ?_, ?_, ?_, fun a i h => hf a i (by omega)⟩
  · unfold f_X7_addStep f_X2_addStep f_X3_append
    rw [g3, jwr_nI hs (by decide), e1, Option.bind_some, jwr_nI hs (by decide), e2, Option.bind_some, jwr_nI hs (by decide), e3, Option.bind_some, jrd_nI hp12 (by decide), r3, Option.bind_some, jwr_nI hs (by decide), e5, Option.bind_some, jrw_nI hp12 (by decide), Option.bind_some, jrd_nI hp12 (by decide), r5, Option.bind_some, jwr_nI hl (by decide), e8, Option.bind_some, jrd_nI hp12 (by decide), r8, Option.bind_some, nI_1, jwr_nI hp12 (by decide), e10, Option.bind_some, jrw_nI hm8 (by decide), Option.bind_some, jrd_nI hm8 (by decide), r10, Option.bind_some, jwr_nI (by omega) (by decide), e13, Option.bind_some, jrd_nI hm8 (by decide), r13, Option.bind_some, nI_1, jwr_nI hm8 (by decide), e15, Option.bind_some, r15, nI_1, e16, Option.bind_some, Option.bind_some]
    show ((jrw (33 + 1) 8 (nI m)).bind fun w1 => (jrd M16 (33 + 10) 8 (nI m)).bind fun v2 => (jwr M16 w1 32 v2 (nI F.ns)).bind fun M3 => (jrd M3 (33 + 10) 8 (nI m)).bind fun v4 => (jwr M3 (33 + 10) 8 (nI m) (v4 + 1)).bind fun M5 => some M5).bind (fun M3 => some (M3, nI F.ns)) = _
    rw [jrw_nI hm8 (by decide), Option.bind_some, jrd_nI hm8 (by decide), r16, Option.bind_some, jwr_nI (by omega) (by decide), e17, Option.bind_some, jrd_nI hm8 (by decide), r17, Option.bind_some, nI_1, jwr_nI hm8 (by decide), e18, Option.bind_some, Option.bind_some]
  · refine ⟨(hf _ _ (by omega)).trans g1, (hf _ _ (by omega)).trans g2, w16, fun x hx => ⟨(hf _ _ (by omega)).trans (g4 x hx).1, (hf _ _ (by omega)).trans (g4 x hx).2⟩, fun x hx => (hf _ _ (by omega)).trans (g5 x hx), fun x hx => ?_, fun x i hx hi => ?_, fun s hs2 => ?_, fun x hx => ?_, fun x i hx hi => ?_⟩
    · show M18 18 x = nI (if x = p then F.lc p + 1 else F.lc x)
      by_cases e : x = p
      · rw [if_pos e, e]
        exact w10
      · rw [if_neg e]
        exact (hf _ _ (by omega)).trans (g6 x hx)
    · have hi2 : i < (if x = p then F.lc p + 1 else F.lc x) := hi
      show M18 (5 + 1 + x) i = nI (if x = p ∧ i = F.lc p then F.ns else F.ln x i)
      by_cases e : x = p ∧ i = F.lc p
      · rw [if_pos e, e.1, e.2]
        exact w8
      · rw [if_neg e]
        refine (hf _ _ (by omega)).trans (g7 x i hx ?_)
        by_cases ex : x = p
        · rw [if_pos ex] at hi2
          rw [ex]
          omega
        · rw [if_neg ex] at hi2
          exact hi2
    · have hs3 : s < F.ns + 1 := hs2
      show M18 19 s = nI (if s = F.ns then p else F.pc s) ∧ M18 20 s = nI (if s = F.ns then m else F.mc s) ∧ M18 21 s = nI (if s = F.ns then v else F.sp s) ∧ M18 22 s = nI (if s = F.ns then F.lc p else F.rk s)
      by_cases e : s = F.ns
      · simp only [if_pos e]
        rw [e]
        exact ⟨w1, w2, w3, w5⟩
      · simp only [if_neg e]
        obtain ⟨t1, t2, t3, t4⟩ := g8 s (by omega)
        exact ⟨(hf _ _ (by omega)).trans t1, (hf _ _ (by omega)).trans t2, (hf _ _ (by omega)).trans t3, (hf _ _ (by omega)).trans t4⟩
    · show M18 32 x = nI (if x = m then F.oc m + 1 else F.oc x)
      by_cases e : x = m
      · rw [if_pos e, e]
        exact w15
      · rw [if_neg e]
        exact (hf _ _ (by omega)).trans (g9 x hx)
    · have hi2 : i < (if x = m then F.oc m + 1 else F.oc x) := hi
      show M18 (23 + 1 + x) i = nI (if x = m ∧ i = F.oc m then F.ns else F.on x i)
      by_cases e : x = m ∧ i = F.oc m
      · rw [if_pos e, e.1, e.2]
        exact w13
      · rw [if_neg e]
        refine (hf _ _ (by omega)).trans (g10 x i hx ?_)
        by_cases ex : x = m
        · rw [if_pos ex] at hi2
          rw [ex]
          omega
        · rw [if_neg ex] at hi2
          exact hi2
  · refine ⟨fun x hx => ?_, fun x i hx hi => ?_⟩
    · show M18 43 x = nI (if x = m then F.oc m + 1 else F.oc x)
      by_cases e : x = m
      · rw [if_pos e, e]
        exact w18
      · rw [if_neg e]
        exact (hf _ _ (by omega)).trans (k1 x hx)
    · have hi2 : i < (if x = m then F.oc m + 1 else F.oc x) := hi
      show M18 (33 + 1 + 1 + x) i = nI (if x = m ∧ i = F.oc m then F.ns else od x i)
      by_cases e : x = m ∧ i = F.oc m
      · rw [if_pos e, e.1, e.2, show 33 + 1 + 1 + m = 35 + m by omega]
        exact w17
      · rw [if_neg e]
        refine (hf _ _ (by omega)).trans (k2 x i hx ?_)
        by_cases ex : x = m
        · rw [if_pos ex] at hi2
          rw [ex]
          omega
        · rw [if_neg ex] at hi2
          exact hi2
theorem jaddB {M : JMem} {F : FT} {od : Nat → Nat → Nat} {p m v : Nat} (hW : WF F) (hB : BF M F) (hO : BO M F od) (hp : p < F.np) (hm : m < F.nm) (hl : F.lc p < 8) (hs : F.ns < 32) : ∃ M', f_X8_more M (nI p) (nI m) (nI v) = some (M', nI F.ns) ∧ BF M' (F.addS p m v) ∧ BO M' (F.addS p m v) (odS F od m) ∧ ∀ a i, ¬ ((a = 221 ∧ i = 11) ∨ (225 ≤ a ∧ a ≤ 232)) → M' a i = M a i := by
  have hp12 : p < 12 := Nat.lt_of_lt_of_le hp hW.2.1.1
  have hm8 : m < 8 := Nat.lt_of_lt_of_le hm hW.1.1
  have hoc := oc_le hW m
  have hlc := hW.2.1.2.2.1
  have hoc32 := hW.2.2.2.2.1
  obtain ⟨g1, g2, g3, g4, g5, g6, g7, g8⟩ := hB
  obtain ⟨k1, k2⟩ := hO
  obtain ⟨M1, e1, f1, v1⟩ := jupX M 227 F.ns (nI p)
  obtain ⟨M2, e2, f2, v2⟩ := jupX M1 228 F.ns (nI m)
  obtain ⟨M3, e3, f3, v3⟩ := jupX M2 229 F.ns (nI v)
  obtain ⟨M5, e5, f5, v5⟩ := jupX M3 230 F.ns (nI (F.lc p))
  obtain ⟨M7, e7, f7, v7⟩ := jupX M5 226 (8 * p + F.lc p) (nI F.ns)
  obtain ⟨M9, e9, f9, v9⟩ := jupX M7 225 p (nI (F.lc p + 1))
  obtain ⟨M11, e11, f11, v11⟩ := jupX M9 231 (32 * m + F.oc m) (nI F.ns)
  obtain ⟨M13, e13, f13, v13⟩ := jupX M11 232 m (nI (F.oc m + 1))
  obtain ⟨M14, e14, f14, v14⟩ := jupX M13 221 11 (nI (F.ns + 1))
  have r3 : M3 225 p = nI (F.lc p) := by rw [f3 _ _ (by omega), f2 _ _ (by omega), f1 _ _ (by omega)]; exact g6 p hp
  have r5 : M5 225 p = nI (F.lc p) := by rw [f5 _ _ (by omega)]; exact r3
  have r7 : M7 225 p = nI (F.lc p) := by rw [f7 _ _ (by omega)]; exact r5
  have r9 : M9 232 m = nI (F.oc m) := by rw [f9 _ _ (by omega), f7 _ _ (by omega), f5 _ _ (by omega), f3 _ _ (by omega), f2 _ _ (by omega), f1 _ _ (by omega)]; exact k1 m hm8
  have r11 : M11 232 m = nI (F.oc m) := by rw [f11 _ _ (by omega)]; exact r9
  have r13 : M13 221 11 = nI F.ns := by rw [f13 _ _ (by omega), f11 _ _ (by omega), f9 _ _ (by omega), f7 _ _ (by omega), f5 _ _ (by omega), f3 _ _ (by omega), f2 _ _ (by omega), f1 _ _ (by omega)]; exact g3
  have hf : ∀ a i, ¬ ((a = 227 ∧ i = F.ns) ∨ (a = 228 ∧ i = F.ns) ∨ (a = 229 ∧ i = F.ns) ∨ (a = 230 ∧ i = F.ns) ∨ (a = 226 ∧ i = 8 * p + F.lc p) ∨ (a = 225 ∧ i = p) ∨ (a = 231 ∧ i = 32 * m + F.oc m) ∨ (a = 232 ∧ i = m) ∨ (a = 221 ∧ i = 11)) → M14 a i = M a i := by
    intro a i h
    rw [f14 _ _ (by omega), f13 _ _ (by omega), f11 _ _ (by omega), f9 _ _ (by omega), f7 _ _ (by omega), f5 _ _ (by omega), f3 _ _ (by omega), f2 _ _ (by omega), f1 _ _ (by omega)]
  have w13 : M14 232 m = nI (F.oc m + 1) := by rw [f14 _ _ (by omega)]; exact v13
  have w11 : M14 231 (32 * m + F.oc m) = nI F.ns := by rw [f14 _ _ (by omega), f13 _ _ (by omega)]; exact v11
  have w9 : M14 225 p = nI (F.lc p + 1) := by rw [f14 _ _ (by omega), f13 _ _ (by omega), f11 _ _ (by omega)]; exact v9
  have w7 : M14 226 (8 * p + F.lc p) = nI F.ns := by rw [f14 _ _ (by omega), f13 _ _ (by omega), f11 _ _ (by omega), f9 _ _ (by omega)]; exact v7
  have w5 : M14 230 F.ns = nI (F.lc p) := by rw [f14 _ _ (by omega), f13 _ _ (by omega), f11 _ _ (by omega), f9 _ _ (by omega), f7 _ _ (by omega)]; exact v5
  have w3 : M14 229 F.ns = nI v := by rw [f14 _ _ (by omega), f13 _ _ (by omega), f11 _ _ (by omega), f9 _ _ (by omega), f7 _ _ (by omega), f5 _ _ (by omega)]; exact v3
  have w2 : M14 228 F.ns = nI m := by rw [f14 _ _ (by omega), f13 _ _ (by omega), f11 _ _ (by omega), f9 _ _ (by omega), f7 _ _ (by omega), f5 _ _ (by omega), f3 _ _ (by omega)]; exact v2
  have w1 : M14 227 F.ns = nI p := by rw [f14 _ _ (by omega), f13 _ _ (by omega), f11 _ _ (by omega), f9 _ _ (by omega), f7 _ _ (by omega), f5 _ _ (by omega), f3 _ _ (by omega), f2 _ _ (by omega)]; exact v1
  refine ⟨M14, ?_, ?_, ?_, fun a i h => hf a i (by omega)⟩
  · unfold f_X8_more
    rw [g3, jwr_nI hs (by decide), e1, Option.bind_some, jwr_nI hs (by decide), e2, Option.bind_some, jwr_nI hs (by decide), e3, Option.bind_some, jrd_nI hp12 (by decide), r3, Option.bind_some, jwr_nI hs (by decide), e5, Option.bind_some, jrd_nI hp12 (by decide), r5, Option.bind_some, jmul8, nI_add, jwr_nI (by omega) (by decide), e7, Option.bind_some, jrd_nI hp12 (by decide), r7, Option.bind_some, nI_1, jwr_nI hp12 (by decide), e9, Option.bind_some, jrd_nI hm8 (by decide), r9, Option.bind_some, jmul32, nI_add, jwr_nI (by omega) (by decide), e11, Option.bind_some, jrd_nI hm8 (by decide), r11, Option.bind_some, nI_1, jwr_nI hm8 (by decide), e13, Option.bind_some, r13, nI_1, e14, Option.bind_some]
  · refine ⟨(hf _ _ (by omega)).trans g1, (hf _ _ (by omega)).trans g2, v14, fun x hx => ⟨(hf _ _ (by omega)).trans (g4 x hx).1, (hf _ _ (by omega)).trans (g4 x hx).2⟩, fun x hx => (hf _ _ (by omega)).trans (g5 x hx), fun x hx => ?_, fun x i hx hi => ?_, fun s hs2 => ?_⟩
    · show M14 225 x = nI (if x = p then F.lc p + 1 else F.lc x)
      by_cases e : x = p
      · rw [if_pos e, e]
        exact w9
      · rw [if_neg e]
        exact (hf _ _ (by omega)).trans (g6 x hx)
    · have hi2 : i < (if x = p then F.lc p + 1 else F.lc x) := hi
      show M14 226 (8 * x + i) = nI (if x = p ∧ i = F.lc p then F.ns else F.ln x i)
      by_cases e : x = p ∧ i = F.lc p
      · rw [if_pos e, e.1, e.2]
        exact w7
      · rw [if_neg e]
        have hi3 : i < F.lc x := by
          by_cases ex : x = p
          · rw [if_pos ex] at hi2
            rw [ex]
            omega
          · rw [if_neg ex] at hi2
            exact hi2
        have h8 := hlc x
        exact (hf _ _ (by omega)).trans (g7 x i hx hi3)
    · have hs3 : s < F.ns + 1 := hs2
      show M14 227 s = nI (if s = F.ns then p else F.pc s) ∧ M14 228 s = nI (if s = F.ns then m else F.mc s) ∧ M14 229 s = nI (if s = F.ns then v else F.sp s) ∧ M14 230 s = nI (if s = F.ns then F.lc p else F.rk s)
      by_cases e : s = F.ns
      · simp only [if_pos e]
        rw [e]
        exact ⟨w1, w2, w3, w5⟩
      · simp only [if_neg e]
        obtain ⟨t1, t2, t3, t4⟩ := g8 s (by omega)
        exact ⟨(hf _ _ (by omega)).trans t1, (hf _ _ (by omega)).trans t2, (hf _ _ (by omega)).trans t3, (hf _ _ (by omega)).trans t4⟩
  · refine ⟨fun x hx => ?_, fun x i hx hi => ?_⟩
    · show M14 232 x = nI (if x = m then F.oc m + 1 else F.oc x)
      by_cases e : x = m
      · rw [if_pos e, e]
        exact w13
      · rw [if_neg e]
        exact (hf _ _ (by omega)).trans (k1 x hx)
    · have hi2 : i < (if x = m then F.oc m + 1 else F.oc x) := hi
      show M14 231 (32 * x + i) = nI (if x = m ∧ i = F.oc m then F.ns else od x i)
      by_cases e : x = m ∧ i = F.oc m
      · rw [if_pos e, e.1, e.2]
        exact w11
      · rw [if_neg e]
        have hi3 : i < F.oc x := by
          by_cases ex : x = m
          · rw [if_pos ex] at hi2
            rw [ex]
            omega
          · rw [if_neg ex] at hi2
            exact hi2
        have h32 := hoc32 x
        exact (hf _ _ (by omega)).trans (k2 x i hx hi3)
theorem jst_step_ok : jst_step jInv := by
  rintro M x1 x2 x3 ⟨F, od, S, k, q, hX⟩
  obtain ⟨hW, hO, hA, hAO, hB, hBO, -⟩ := id hX
  have hI : jInv M := ⟨F, od, S, k, q, hX⟩
  have hnp := hW.2.1.1
  have hnm := hW.1.1
  have hns := hW.2.2.1.1
  have a0 : M 1 0 = nI F.nm := hA.1
  have a1 : M 1 1 = nI F.np := hA.2.1
  have a2 : M 1 2 = nI F.ns := hA.2.2.1
  have b0 : M 221 2 = nI F.nm := hB.1
  have b1 : M 221 6 = nI F.np := hB.2.1
  have b2 : M 221 11 = nI F.ns := hB.2.2.1
  rcases jem (0 ≤ x1 ∧ x1 ≤ nI F.np - 1) with h1 | h1
  · exact ⟨M, M, -100001, by unfold f_X7_step; rw [a1, jisOut, if_neg h1, Option.bind_some, if_neg (by decide)], by unfold f_X8_step; rw [b1, jin_0_v, if_neg h1, if_pos rfl], hI⟩
  rcases jem (0 ≤ x2 ∧ x2 ≤ nI F.nm - 1) with h2 | h2
  · exact ⟨M, M, -100001, by unfold f_X7_step; rw [a1, jisOut, if_pos h1, Option.bind_some, if_pos rfl, jisMachine, a0, if_neg h2, Option.bind_some, if_pos rfl], by unfold f_X8_step; rw [b1, jin_0_v, if_pos h1, if_neg (by decide), b0, jin_0_v, if_neg h2, if_pos rfl], hI⟩
  rcases jem (1 ≤ x3 ∧ x3 ≤ 1000) with h3 | h3
  · exact ⟨M, M, -100002, by unfold f_X7_step; rw [a1, jisOut, if_pos h1, Option.bind_some, if_pos rfl, jisMachine, a0, if_pos h2, Option.bind_some, if_neg (by decide), jisOut, if_neg h3, Option.bind_some, if_neg (by decide)], by unfold f_X8_step; rw [b1, jin_0_v, if_pos h1, if_neg (by decide), b0, jin_0_v, if_pos h2, if_neg (by decide), jin_1_1000, if_neg h3, if_pos rfl], hI⟩
  obtain ⟨p, hp, rfl⟩ := (jbelow (by omega)).mp h1
  obtain ⟨m, hm, rfl⟩ := (jbelow (by omega)).mp h2
  obtain ⟨v, hv1, hv2, rfl⟩ := jnat (lo := 1) (hi := 1000) h3.1 h3.2 (by decide) (by decide)
  have hlc := hW.2.1.2.2.1 p
  have rA : jrd M 18 12 (nI p) = some (nI (F.lc p)) := by rw [jrd_nI (by omega) (by decide), hA.2.2.2.2.2.1 p (by omega)]
  have rB : jrd M 225 12 (nI p) = some (nI (F.lc p)) := by rw [jrd_nI (by omega) (by decide), hB.2.2.2.2.2.1 p hp]
  have eA : f_X7_step M (nI p) (nI m) (nI v) = if 8 ≤ nI (F.lc p) then some (M, (-100004)) else (if nI F.ns < 32 then (f_X7_addStep M (nI p) (nI m) (nI v)).bind fun (M5, v6) => some (M5, v6) else some (M, (-100004))) := by
    unfold f_X7_step
    rw [a1, jisOut, if_pos h1, Option.bind_some, if_pos rfl, jisMachine, a0, if_pos h2, Option.bind_some, if_neg (by decide), jisOut, if_pos h3, Option.bind_some, if_pos rfl, rA, Option.bind_some, a2]
  have eB : ∀ M' : JMem, M' 221 2 = nI F.nm → M' 221 6 = nI F.np → M' 221 11 = nI F.ns → M' 225 p = nI (F.lc p) → f_X8_step M' (nI p) (nI m) (nI v) = jcase (α := JMem × Int32) (β := Unit) (if nI (F.lc p) = 8 then some (Sum.inr ()) else (if nI F.ns = 32 then some (Sum.inr ()) else (f_X8_more M' (nI p) (nI m) (nI v)).bind fun (M7, v8) => some (Sum.inl (M7, v8)))) fun _ => some (M', (-100004)) := by
    intro M' c0 c1 c2 c3
    unfold f_X8_step
    rw [c1, jin_0_v, if_pos h1, if_neg (by decide), c0, jin_0_v, if_pos h2, if_neg (by decide), jin_1_1000, if_pos h3, if_neg (by decide), jrd_nI (by omega) (by decide), c3, Option.bind_some, c2]
  rcases jem (F.lc p < 8 ∧ F.ns < 32) with h4 | h4
  · refine ⟨M, M, -100004, ?_, ?_, hI⟩
    · rw [eA]
      by_cases e : F.lc p < 8
      · rw [if_neg (by rw [jLle (by omega) (by decide)]; omega), if_neg (by rw [jltL (by omega) (by decide)]; omega)]
      · rw [if_pos (by rw [jLle (by omega) (by decide)]; omega)]
    · rw [eB M b0 b1 b2 (hB.2.2.2.2.2.1 p hp)]
      by_cases e : F.lc p = 8
      · rw [if_pos (by rw [e]; rfl)]
        rfl
      · rw [if_neg (by rw [jeqL (by omega) (by decide)]; omega), if_pos (by rw [show F.ns = 32 by omega]; rfl)]
        rfl
  obtain ⟨M1, c1, c2, c3, c4⟩ := jaddA (v := v) hW hA hAO hp hm h4.1 h4.2
  have hB1 : BF M1 F := hB.fr ⟨c4 _ _ (by omega), c4 _ _ (by omega), c4 _ _ (by omega)⟩ (fun a i _ _ => c4 a i (by omega))
  have hBO1 : BO M1 F od := hBO.fr (fun a i _ _ => c4 a i (by omega))
  obtain ⟨M2, d1, d2, d3, d4⟩ := jaddB (v := v) hW hB1 hBO1 hp hm h4.1 h4.2
  refine ⟨M1, M2, nI F.ns, ?_, ?_, F.addS p m v, odS F od m, S, k, q, hX.fl (fun a i h => ?_) (Nat.le_succ _) (addS_wf hW hp hm ⟨hv1, hv2⟩ h4.1 h4.2) (addS_wo hO) (c2.fr hnm (fun a i _ _ => d4 a i (by omega))) (c3.fr (fun a i _ _ => d4 a i (by omega))) d2 d3⟩
  · rw [eA, if_neg (by rw [jLle (by omega) (by decide)]; omega), if_pos (by rw [jltL (by omega) (by decide)]; omega), c1]
    rfl
  · rw [eB M1 hB1.1 hB1.2.1 hB1.2.2.1 (hB1.2.2.2.2.2.1 p hp), if_neg (by rw [jeqL (by omega) (by decide)]; omega), if_neg (by rw [jeqL (by omega) (by decide)]; omega), d1]
    rfl
  · rw [d4 a i (by omega)]
    exact c4 a i (by omega)
