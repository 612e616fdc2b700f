theorem jem (P : Prop) : ¬ P ∨ P := (Classical.em P).symm
theorem jcL {α β : Type} (a : α) (k : β → Option α) : jcase (some (Sum.inl a)) k = some a := rfl
theorem jcR {α β : Type} (b : β) (k : β → Option α) : jcase (some (Sum.inr b)) k = k b := rfl
theorem jin_0_1 (x : Int32) : jin3 x.toInt64 0 1 = if 0 ≤ x ∧ x ≤ 1 then 1 else 0 := jin3_i x 0 1
theorem jin_0_2 (x : Int32) : jin3 x.toInt64 0 2 = if 0 ≤ x ∧ x ≤ 2 then 1 else 0 := jin3_i x 0 2
theorem jin_0_3 (x : Int32) : jin3 x.toInt64 0 3 = if 0 ≤ x ∧ x ≤ 3 then 1 else 0 := jin3_i x 0 3
theorem jin_1_4 (x : Int32) : jin3 x.toInt64 1 4 = if 1 ≤ x ∧ x ≤ 4 then 1 else 0 := jin3_i x 1 4
theorem jin_0_5 (x : Int32) : jin3 x.toInt64 0 5 = if 0 ≤ x ∧ x ≤ 5 then 1 else 0 := jin3_i x 0 5
theorem jin_0_9 (x : Int32) : jin3 x.toInt64 0 9 = if 0 ≤ x ∧ x ≤ 9 then 1 else 0 := jin3_i x 0 9
theorem jin_0_50 (x : Int32) : jin3 x.toInt64 0 50 = if 0 ≤ x ∧ x ≤ 50 then 1 else 0 := jin3_i x 0 50
theorem jin_0_100 (x : Int32) : jin3 x.toInt64 0 100 = if 0 ≤ x ∧ x ≤ 100 then 1 else 0 := jin3_i x 0 100
theorem jin_1_1000 (x : Int32) : jin3 x.toInt64 1 1000 = if 1 ≤ x ∧ x ≤ 1000 then 1 else 0 := jin3_i x 1 1000
theorem jin_0_10000 (x : Int32) : jin3 x.toInt64 0 10000 = if 0 ≤ x ∧ x ≤ 10000 then 1 else 0 := jin3_i x 0 10000
theorem jin_0_100000 (x : Int32) : jin3 x.toInt64 0 100000 = if 0 ≤ x ∧ x ≤ 100000 then 1 else 0 := jin3_i x 0 100000
theorem jin_0_v (x y : Int32) : jin3 x.toInt64 0 y.toInt64 = if 0 ≤ x ∧ x ≤ y then 1 else 0 := jin3_i x 0 y
/-- the floor with a machine more -/
def FT.addM (F : FT) (k : Nat) (w : Int32) : FT := (F.nm + 1, F.np, F.ns, fun m => if m = F.nm then k else F.kd m, fun m => if m = F.nm then w else F.wi m, F.so, F.lc, F.ln, F.pc, F.mc, F.sp, F.rk, F.oc, F.on)
def FT.addP (F : FT) (v : Int32) : FT := (F.nm, F.np + 1, F.ns, F.kd, F.wi, fun p => if p = F.np then v else F.so p, F.lc, F.ln, F.pc, F.mc, F.sp, F.rk, F.oc, F.on)
theorem addM_wf {F : FT} {k : Nat} {w : Int32} (h : WF F) (hn : F.nm < 8) (hk : k ≤ 3) (h2 : k = 2 → ∃ g, g ≤ 100 ∧ w = nI g) (h3 : k = 3 → ∃ g, 1 ≤ g ∧ g ≤ 4 ∧ w = nI g) : WF (F.addM k w) := by
  obtain ⟨⟨a1, a2⟩, hp, ⟨s1, s2⟩, ⟨o1, o2, o3, o4, o5⟩⟩ := h
  refine ⟨⟨hn, fun m hm => ?_⟩, hp, ⟨s1, fun s hs => ?_⟩, ⟨fun m hm => o1 m ?_, o2, o3, o4, o5⟩⟩
  · show (if m = F.nm then k else F.kd m) ≤ 3 ∧ ((if m = F.nm then k else F.kd m) = 2 → ∃ g, g ≤ 100 ∧ (if m = F.nm then w else F.wi m) = nI g) ∧ ((if m = F.nm then k else F.kd m) = 3 → ∃ g, 1 ≤ g ∧ g ≤ 4 ∧ (if m = F.nm then w else F.wi m) = nI g)
    by_cases e : m = F.nm
    · simp only [if_pos e]
      exact ⟨hk, h2, h3⟩
    · simp only [if_neg e]
      have hm2 : m < F.nm + 1 := hm
      exact a2 m (by omega)
  · obtain ⟨q1, q2, q3⟩ := s2 s hs
    exact ⟨q1, Nat.lt_succ_of_lt q2, q3⟩
  · have hm2 : F.nm + 1 ≤ m := hm
    omega
theorem addP_wf {F : FT} {v : Int32} (h : WF F) (hn : F.np < 12) : WF (F.addP v) := by
  obtain ⟨hm, ⟨p1, p2, p3, p4⟩, ⟨s1, s2⟩, ho⟩ := h
  refine ⟨hm, ⟨hn, fun p hp => p2 p ?_, p3, p4⟩, ⟨s1, fun s hs => ?_⟩, ho⟩
  · have hp2 : F.np + 1 ≤ p := hp
    omega
  · obtain ⟨q1, q2⟩ := s2 s hs
    exact ⟨Nat.lt_succ_of_lt q1, q2⟩
theorem jst_mended_ok : jst_mended jInv := by
  rintro M x1 x2 ⟨F, od, S, k, q, hX⟩
  obtain ⟨hW, hO, hA, hAO, hB, hBO, hS, hIA, hQ, hR, d1, d2, d3⟩ := id hX
  have hns := hW.2.2.1.1
  have hI : jInv M := ⟨F, od, S, k, q, hX⟩
  have eA := hA.2.2.1
  have eB := hB.2.2.1
  rcases jem (0 ≤ x1 ∧ x1 ≤ nI F.ns - 1) with h1 | h1
  · exact ⟨-100001, by simp [f_X7_mended, jisStep, eA, h1], by simp [f_X8_mended, jisStepB, eB, h1], hI⟩
  rcases jem (0 ≤ x2 ∧ x2 ≤ 1) with h2 | h2
  · exact ⟨-100002, by simp [f_X7_mended, jisStep, eA, h1, jisOut, h2], by simp [f_X8_mended, jisStepB, eB, h1, jin_0_1, h2], hI⟩
  obtain ⟨s, hs, rfl⟩ := (jbelow (by omega)).mp h1
  obtain ⟨r1, r2, r3, r4⟩ := hR
  have l0 : (nI s < M 0 9) ↔ s < q := by rw [r2]; exact nI_ltI (by omega) (by omega)
  rcases jem (s < q) with h3 | h3
  · refine ⟨-1, by simp [f_X7_mended, jisStep, eA, h1, jisOut, h2, l0, h3], ?_, hI⟩
    rcases r3 with ⟨r3, -⟩ | ⟨r3, r5⟩
    · simp [f_X8_mended, jisStepB, eB, h1, jin_0_1, h2, r3]
    · have l1 : ¬ nI s < nI q := fun z => h3 ((nI_ltI (by omega) (by omega)).mp z)
      simp [f_X8_mended, jisStepB, eB, h1, jin_0_1, h2, r3, r5, l1]
  rcases r3 with ⟨-, r5⟩ | ⟨r3, r5⟩
  · omega
  have l1 : nI s < nI q := (nI_ltI (by omega) (by omega)).mpr h3
  obtain ⟨t1, t2⟩ := r4 s h3
  have o32 : jrd M 212 32 (nI s) = some (M 212 s) := jrd_nI (by omega) (by decide)
  have p32 : jrd M 257 32 (nI s) = some (M 257 s) := jrd_nI (by omega) (by decide)
  by_cases h4 : x2 = 0
  · refine ⟨M 212 s, ?_, ?_, hI⟩
    · unfold f_X7_mended
      rw [jisStep, eA, if_pos h1, Option.bind_some, if_neg (by decide), jisOut, if_pos h2, Option.bind_some, if_pos rfl, if_pos (l0.mpr h3), if_pos h4, o32, Option.bind_some]
    · unfold f_X8_mended
      rw [jisStepB, eB, if_pos h1, Option.bind_some, if_neg (by decide), jin_0_1, if_pos h2, if_neg (by decide), r3, if_neg (by decide), r5, if_pos l1, if_pos h4, p32, Option.bind_some, t1]
  · refine ⟨if M 214 s = -1 then 0 else 1, ?_, ?_, hI⟩
    · simp [f_X7_mended, jisStep, eA, h1, jisOut, h2, l0, h3, h4, jrd_nI (show s < 32 by omega) (show 32 ≤ 100000 by omega)]
      split <;> rfl
    · simp [f_X8_mended, jisStepB, eB, h1, jin_0_1, h2, r3, r5, l1, h4, jrd_nI (show s < 32 by omega) (show 32 ≤ 100000 by omega)]
      by_cases h5 : M 214 s = -1
      · simp [h5, t2.mp h5]
      · have h6 : ¬ M 258 s = 0 := fun z => h5 (t2.mpr z)
        simp [h5, h6]
/-- the memory behind a machine more, a piece more -/
theorem jst_machine_ok : jst_machine jInv := by
  rintro M x1 x2 ⟨F, od, S, k, q, hX⟩
  obtain ⟨hW, hO, hA, hAO, hB, hBO, hS, hIA, hQ, hR, d1, d2, d3⟩ := id hX
  have hI : jInv M := ⟨F, od, S, k, q, hX⟩
  have hnm := hW.1.1
  rcases jem (0 ≤ x1 ∧ x1 ≤ 3) with h1 | h1
  · exact ⟨M, M, -100002, by simp [f_X7_machine, jisOut, h1], by simp [f_X8_machine, jin_0_3, h1], hI⟩
  rcases jem (x1 = 2 → 0 ≤ x2 ∧ x2 ≤ 100) with h2 | h2
  · have e : x1 = 2 := Classical.byContradiction fun z => h2 (fun y => absurd y z)
    have h3 : ¬ (0 ≤ x2 ∧ x2 ≤ 100) := fun z => h2 (fun _ => z)
    subst e
    exact ⟨M, M, -100002, by simp [f_X7_machine, jisOut, h1, h3, jcL], by simp [f_X8_machine, jin_0_3, h1, jin_0_100, h3, jcL], hI⟩
  rcases jem (x1 = 3 → 1 ≤ x2 ∧ x2 ≤ 4) with h3 | h3
  · have e : x1 = 3 := Classical.byContradiction fun z => h3 (fun y => absurd y z)
    have h4 : ¬ (1 ≤ x2 ∧ x2 ≤ 4) := fun z => h3 (fun _ => z)
    subst e
    exact ⟨M, M, -100002, by simp [f_X7_machine, jisOut, h1, h4, jcL, jcR], by simp [f_X8_machine, jin_0_3, h1, jin_1_4, h4, jcL, jcR], hI⟩
  have eA1 : ∀ R : Option (JMem × Int32), (jcase (α := JMem × Int32) (β := Unit) (if x1 = 2 then (f_X7_isOut M x2 0 100).bind fun v7 => (if v7 = 0 then some (Sum.inr ()) else some (Sum.inl (M, (-100002)))) else some (Sum.inr ())) fun _ => (jcase (α := JMem × Int32) (β := Unit) (if x1 = 3 then (f_X7_isOut M x2 1 4).bind fun v15 => (if v15 = 0 then some (Sum.inr ()) else some (Sum.inl (M, (-100002)))) else some (Sum.inr ())) fun _ => R)) = R := by
    intro R
    by_cases e2 : x1 = 2
    · have e3 : ¬ x1 = 3 := by rw [e2]; decide
      simp [e2, jisOut, h2 e2, jcR]
    · by_cases e3 : x1 = 3
      · simp [e3, jisOut, h3 e3, jcR]
      · simp [e2, e3, jcR]
  have eB1 : ∀ R : Option (JMem × Int32), ∀ N : JMem, (jcase (α := JMem × Int32) (β := Unit) (if x1 = 2 then (if (jin3 x2.toInt64 0 100) = 0 then some (Sum.inl (N, (-100002))) else some (Sum.inr ())) else some (Sum.inr ())) fun _ => (jcase (α := JMem × Int32) (β := Unit) (if x1 = 3 then (if (jin3 x2.toInt64 1 4) = 0 then some (Sum.inl (N, (-100002))) else some (Sum.inr ())) else some (Sum.inr ())) fun _ => R)) = R := by
    intro R N
    by_cases e2 : x1 = 2
    · simp [e2, jin_0_100, h2 e2, jcR]
    · by_cases e3 : x1 = 3
      · simp [e3, jin_1_4, h3 e3, jcR]
      · simp [e2, e3, jcR]
  have eA : M 1 0 = nI F.nm := hA.1
  have eB : M 221 2 = nI F.nm := hB.1
  rcases jem (F.nm < 8) with h4 | h4
  · have e8 : F.nm = 8 := by omega
    have l1 : ¬ nI F.nm < 8 := by rw [jltL (by omega) (by decide)]; omega
    have l2 : nI F.nm = 8 := by rw [e8]; rfl
    refine ⟨M, M, -100004, ?_, ?_, hI⟩
    · unfold f_X7_machine
      rw [jisOut, if_pos h1, Option.bind_some, if_pos rfl, eA1, eA, if_neg l1]
    · unfold f_X8_machine
      rw [jin_0_3, if_pos h1, if_neg (by decide), eB1, eB, if_pos l2]
  obtain ⟨c, -, hc, rfl⟩ := jnat (lo := 0) (hi := 3) h1.1 h1.2 (by decide) (by decide)
  have l1 : nI F.nm < 8 := by rw [jltL (by omega) (by decide)]; exact h4
  have l2 : ¬ nI F.nm = 8 := by rw [jeqL (by omega) (by decide)]; omega
  let M1 : JMem := jup (jup (jup M 2 F.nm (nI c)) 3 F.nm x2) 1 0 (nI (F.nm + 1))
  let M2 : JMem := jup (jup (jup M1 222 F.nm (nI c)) 223 F.nm x2) 221 2 (nI (F.nm + 1))
  have a1 : M1 221 2 = nI F.nm := by simp [M1, jup_at, eB]
  refine ⟨M1, M2, nI F.nm, ?_, ?_, ?_⟩
  · unfold f_X7_machine
    rw [jisOut, if_pos h1, Option.bind_some, if_pos rfl, eA1, eA, if_pos l1]
    simp [f_X2_addMachine, eA, jwr_nI h4 (show 8 ≤ 100000 by decide), jup_at, nI_1, M1]
  · unfold f_X8_machine
    rw [jin_0_3, if_pos h1, if_neg (by decide), eB1, a1, if_neg l2]
    simp [jwr_nI h4 (show 8 ≤ 100000 by decide), jup_at, nI_1, a1, M2, jsub1 (show 1 ≤ F.nm + 1 by omega)]
  · have hf : ∀ a i, ¬ ((a = 1 ∧ i = 0) ∨ (a = 2 ∧ i = F.nm) ∨ (a = 3 ∧ i = F.nm) ∨ (a = 221 ∧ i = 2) ∨ (a = 222 ∧ i = F.nm) ∨ (a = 223 ∧ i = F.nm)) → M2 a i = M a i := by
      intro a i h
      simp only [M2, M1, jup_at]
      repeat' rw [if_neg (by omega)]
    have v1 : M2 1 0 = nI (F.nm + 1) := by simp [M2, M1, jup_at]
    have v2 : M2 2 F.nm = nI c := by simp [M2, M1, jup_at]
    have v3 : M2 3 F.nm = x2 := by simp [M2, M1, jup_at]
    have v4 : M2 221 2 = nI (F.nm + 1) := by simp [M2, M1, jup_at]
    have v5 : M2 222 F.nm = nI c := by simp [M2, M1, jup_at]
    have v6 : M2 223 F.nm = x2 := by simp [M2, M1, jup_at]
    clear_value M2 M1
    refine ⟨F.addM c x2, od, S, k, q, addM_wf hW h4 hc (fun e => ?_) (fun e => ?_), hO, ?_, hAO.fr (fun a i _ _ => hf a i (by omega)), ?_, hBO.fr (fun a i _ _ => hf a i (by omega)), hS.fr ⟨hf _ _ (by omega), hf _ _ (by omega)⟩ (fun a i _ => hf a i (by omega)), hIA.fr ⟨hf _ _ (by omega), hf _ _ (by omega), hf _ _ (by omega)⟩ (fun a i _ => hf a i (by omega)), ?_, hR.fr ⟨hf _ _ (by omega), hf _ _ (by omega), hf _ _ (by omega)⟩ (fun a i _ => hf a i (by omega)), d1.fr (fun a i _ => hf a i (by omega)), d2.fr (fun a i _ => hf a i (by omega)), d3.fr (fun a i _ => hf a i (by omega))⟩
    · subst e
      obtain ⟨g, -, hg, e2⟩ := jnat (lo := 0) (hi := 100) (h2 rfl).1 (h2 rfl).2 (by decide) (by decide)
      exact ⟨g, hg, e2⟩
    · subst e
      exact jnat (lo := 1) (hi := 4) (h3 rfl).1 (h3 rfl).2 (by decide) (by decide)
    · obtain ⟨g1, g2, g3, g4, g5, g6, g7, g8, g9, g10⟩ := hA
      refine ⟨v1, (hf _ _ (by omega)).trans g2, (hf _ _ (by omega)).trans g3, fun m hm => ?_, fun p hp => (hf _ _ (by omega)).trans (g5 p hp), fun p hp => (hf _ _ (by omega)).trans (g6 p hp), fun p i hp hi => (hf _ _ (by omega)).trans (g7 p i hp hi), fun s hs => ?_, fun m hm => (hf _ _ (by omega)).trans (g9 m hm), fun m i hm hi => (hf _ _ (by omega)).trans (g10 m i hm hi)⟩
      · show M2 2 m = nI (if m = F.nm then c else F.kd m) ∧ M2 3 m = if m = F.nm then x2 else F.wi m
        by_cases e : m = F.nm
        · subst e
          simp only [if_true]
          exact ⟨v2, v3⟩
        · have hm2 : m < F.nm + 1 := hm
          simp only [if_neg e]
          exact ⟨(hf _ _ (by omega)).trans (g4 m (by omega)).1, (hf _ _ (by omega)).trans (g4 m (by omega)).2⟩
      · obtain ⟨t1, t2, t3, t4⟩ := g8 s hs
        exact ⟨(hf _ _ (by omega)).trans t1, (hf _ _ (by omega)).trans t2, (hf _ _ (by omega)).trans t3, (hf _ _ (by omega)).trans t4⟩
    · obtain ⟨g1, g2, g3, g4, g5, g6, g7, g8⟩ := hB
      refine ⟨v4, (hf _ _ (by omega)).trans g2, (hf _ _ (by omega)).trans g3, fun m hm => ?_, fun p hp => (hf _ _ (by omega)).trans (g5 p hp), fun p hp => (hf _ _ (by omega)).trans (g6 p hp), fun p i hp hi => (hf _ _ (by omega)).trans (g7 p i hp hi), fun s hs => ?_⟩
      · show M2 222 m = nI (if m = F.nm then c else F.kd m) ∧ M2 223 m = if m = F.nm then x2 else F.wi m
        by_cases e : m = F.nm
        · subst e
          simp only [if_true]
          exact ⟨v5, v6⟩
        · have hm2 : m < F.nm + 1 := hm
          simp only [if_neg e]
          exact ⟨(hf _ _ (by omega)).trans (g4 m (by omega)).1, (hf _ _ (by omega)).trans (g4 m (by omega)).2⟩
      · obtain ⟨t1, t2, t3, t4⟩ := g8 s hs
        exact ⟨(hf _ _ (by omega)).trans t1, (hf _ _ (by omega)).trans t2, (hf _ _ (by omega)).trans t3, (hf _ _ (by omega)).trans t4⟩
    · exact ⟨by rw [hf 83 0 (by omega), hf 221 45 (by omega)]; exact hQ.1, by rw [hf 83 1 (by omega), hf 221 46 (by omega)]; exact hQ.2.1, by rw [hf 83 2 (by omega), hf 221 47 (by omega)]; exact hQ.2.2⟩
