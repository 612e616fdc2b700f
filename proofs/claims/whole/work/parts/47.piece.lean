/-- the floor anew, all else as it was -/
theorem IX.fl {M M2 : JMem} {F F' : FT} {od od' : Nat → Nat → Nat} {S : ST} {k q : Nat} (h : IX M F od S k q) (e : ∀ a i, ¬ ((1 ≤ a ∧ a ≤ 43) ∨ (a = 221 ∧ (i = 2 ∨ i = 6 ∨ i = 11)) ∨ (222 ≤ a ∧ a ≤ 232)) → M2 a i = M a i) (hns : F.ns ≤ F'.ns) (hW : WF F') (hO : WO F' od') (hA : AF M2 F') (hAO : AO M2 33 F' od') (hB : BF M2 F') (hBO : BO M2 F' od') : IX M2 F' od' S k q := by
  obtain ⟨h1, h2, h3, h4, h5, h6, h7, h8, h9, h10, h11, h12, h13⟩ := h
  have q9 : IQ M2 := ⟨by rw [e 83 0 (by omega), e 221 45 (by omega)]; exact h9.1, by rw [e 83 1 (by omega), e 221 46 (by omega)]; exact h9.2.1, by rw [e 83 2 (by omega), e 221 47 (by omega)]; exact h9.2.2⟩
  have q8 := h8.fr (M' := M2) ⟨e _ _ (by omega), e _ _ (by omega), e _ _ (by omega)⟩ (fun a i _ => e a i (by omega))
  have q10 := h10.fr (M' := M2) ⟨e _ _ (by omega), e _ _ (by omega), e _ _ (by omega)⟩ (fun a i _ => e a i (by omega))
  exact ⟨hW, hO, hA, hAO, hB, hBO, h7.fr ⟨e _ _ (by omega), e _ _ (by omega)⟩ (fun a i _ => e a i (by omega)), ⟨Nat.le_trans q8.1 hns, q8.2⟩, q9, ⟨Nat.le_trans q10.1 hns, q10.2⟩, h11.fr (fun a i _ => e a i (by omega)), h12.fr (fun a i _ => e a i (by omega)), h13.fr (fun a i _ => e a i (by omega))⟩
/-- a piece more: what memory must show -/
theorem IX.addP {M M2 : JMem} {F : FT} {od : Nat → Nat → Nat} {S : ST} {k q : Nat} {v : Int32} (hX : IX M F od S k q) (h4 : F.np < 12) (hf : ∀ a i, ¬ ((a = 1 ∧ i = 1) ∨ (a = 4 ∧ i = F.np) ∨ (a = 221 ∧ i = 6) ∨ (a = 224 ∧ i = F.np) ∨ (a = 225 ∧ i = F.np)) → M2 a i = M a i)
    (v1 : M2 1 1 = nI (F.np + 1)) (v2 : M2 4 F.np = v) (v3 : M2 221 6 = nI (F.np + 1)) (v4 : M2 224 F.np = v) (v5 : M2 225 F.np = 0) : IX M2 (F.addP v) od S k q := by
  obtain ⟨hW, hO, hA, hAO, hB, hBO, -⟩ := id hX
  refine hX.fl (fun a i h => hf a i (by omega)) (Nat.le_refl _) (addP_wf hW h4) hO ?_ (hAO.fr (fun a i _ _ => hf a i (by omega))) ?_ (hBO.fr (fun a i _ _ => hf a i (by omega)))
  · obtain ⟨g1, g2, g3, g4, g5, g6, g7, g8, g9, g10⟩ := hA
    refine ⟨(hf _ _ (by omega)).trans g1, v1, (hf _ _ (by omega)).trans g3, fun m hm => ⟨(hf _ _ (by omega)).trans (g4 m hm).1, (hf _ _ (by omega)).trans (g4 m hm).2⟩, fun p hp => ?_, fun p hp => (hf _ _ (by omega)).trans (g6 p hp), fun p i hp hi => (hf _ _ (by omega)).trans (g7 p i hp hi), fun s hs => ?_, fun m hm => (hf _ _ (by omega)).trans (g9 m hm), fun m i hm hi => (hf _ _ (by omega)).trans (g10 m i hm hi)⟩
    · show M2 4 p = if p = F.np then v else F.so p
      by_cases e : p = F.np
      · rw [if_pos e, e]
        exact v2
      · have hp2 : p < F.np + 1 := hp
        rw [if_neg e]
        exact (hf _ _ (by omega)).trans (g5 p (by omega))
    · obtain ⟨t1, t2, t3, t4⟩ := g8 s hs
      exact ⟨(hf _ _ (by omega)).trans t1, (hf _ _ (by omega)).trans t2, (hf _ _ (by omega)).trans t3, (hf _ _ (by omega)).trans t4⟩
  · obtain ⟨g1, g2, g3, g4, g5, g6, g7, g8⟩ := hB
    refine ⟨(hf _ _ (by omega)).trans g1, v3, (hf _ _ (by omega)).trans g3, fun m hm => ⟨(hf _ _ (by omega)).trans (g4 m hm).1, (hf _ _ (by omega)).trans (g4 m hm).2⟩, fun p hp => ?_, fun p hp => ?_, fun p i hp hi => (hf _ _ (by omega)).trans (g7 p i hp hi), fun s hs => ?_⟩
    · show M2 224 p = if p = F.np then v else F.so p
      by_cases e : p = F.np
      · rw [if_pos e, e]
        exact v4
      · have hp2 : p < F.np + 1 := hp
        rw [if_neg e]
        exact (hf _ _ (by omega)).trans (g5 p (by omega))
    · show M2 225 p = nI (F.lc p)
      by_cases e : p = F.np
      · rw [e, v5, hW.2.1.2.1 F.np (Nat.le_refl _)]
        rfl
      · have hp2 : p < F.np + 1 := hp
        exact (hf _ _ (by omega)).trans (g6 p (by omega))
    · obtain ⟨t1, t2, t3, t4⟩ := g8 s hs
      exact ⟨(hf _ _ (by omega)).trans t1, (hf _ _ (by omega)).trans t2, (hf _ _ (by omega)).trans t3, (hf _ _ (by omega)).trans t4⟩
theorem jst_piece_ok : jst_piece jInv := by
  rintro M x1 ⟨F, od, S, k, q, hX⟩
  obtain ⟨hW, hO, hA, hAO, hB, hBO, -⟩ := id hX
  have hI : jInv M := ⟨F, od, S, k, q, hX⟩
  have hnp := hW.2.1.1
  have eA : M 1 1 = nI F.np := hA.2.1
  have eB : M 221 6 = nI F.np := hB.2.1
  rcases jem (0 ≤ x1 ∧ x1 ≤ 9) with h1 | h1
  · exact ⟨M, M, -100002, by simp [f_X7_piece, jisOut, h1], by simp [f_X8_piece, jin_0_9, h1], hI⟩
  rcases jem (F.np < 12) with h4 | h4
  · have e8 : F.np = 12 := by omega
    have l1 : ¬ nI F.np < 12 := by rw [jltL (by omega) (by decide)]; omega
    have l2 : nI F.np = 12 := by rw [e8]; rfl
    refine ⟨M, M, -100004, ?_, ?_, hI⟩
    · unfold f_X7_piece
      rw [jisOut, if_pos h1, Option.bind_some, if_pos rfl, eA, if_neg l1]
    · unfold f_X8_piece
      rw [jin_0_9, if_pos h1, if_neg (by decide), eB, if_pos l2]
  have l1 : nI F.np < 12 := by rw [jltL (by omega) (by decide)]; exact h4
  have l2 : ¬ nI F.np = 12 := by rw [jeqL (by omega) (by decide)]; omega
  let M1 : JMem := jup (jup M 4 F.np x1) 1 1 (nI (F.np + 1))
  let M2 : JMem := jup (jup (jup M1 224 F.np x1) 225 F.np 0) 221 6 (nI (F.np + 1))
  have a1 : M1 221 6 = nI F.np := by simp [M1, jup_at, eB]
  refine ⟨M1, M2, nI F.np, ?_, ?_, F.addP x1, od, S, k, q, hX.addP h4 (fun a i h => ?_) (by simp [M2, M1, jup_at]) (by simp [M2, M1, jup_at]) (by simp [M2, M1, jup_at]) (by simp [M2, M1, jup_at]) (by simp [M2, M1, jup_at])⟩
  · unfold f_X7_piece
    rw [jisOut, if_pos h1, Option.bind_some, if_pos rfl, eA, if_pos l1]
    simp [f_X2_addPiece, eA, jwr_nI h4 (show 12 ≤ 100000 by decide), jup_at, nI_1, M1]
  · unfold f_X8_piece
    rw [jin_0_9, if_pos h1, if_neg (by decide), a1, if_neg l2]
    simp [jwr_nI h4 (show 12 ≤ 100000 by decide), jup_at, nI_1, a1, M2, jsub1 (show 1 ≤ F.np + 1 by omega)]
  · simp only [M2, M1, jup_at]
    repeat' rw [if_neg (by omega)]
