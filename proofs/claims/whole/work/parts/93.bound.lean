/-! bounds: the call -/
theorem jst_bound_ok : jst_bound jInv := by
  rintro M x1 x2 ⟨F, od, S, k, q, hX⟩
  have hI : jInv M := ⟨F, od, S, k, q, hX⟩
  obtain ⟨hW, hO, hA, hAO, hB, hBO, -⟩ := id hX
  have hns := hW.2.2.1.1
  have hnm := hW.1.1
  have n10 : ¬ (1 : Int32) = 0 := by decide
  have a0 := hA.1
  have b0' := hB.1
  rcases jem (0 ≤ x1 ∧ x1 ≤ nI F.nm - 1) with h1 | h1
  · exact ⟨0, M, M, -100001, by unfold f_X7_bound; rw [jisMachine, a0, if_neg h1, Option.bind_some, if_pos rfl], by unfold f_X8_bound; rw [b0', jin_0_v, if_neg h1, if_pos rfl], hI⟩
  rcases jem (0 ≤ x2 ∧ x2 ≤ 1) with h2 | h2
  · exact ⟨0, M, M, -100002, by unfold f_X7_bound; rw [jisMachine, a0, if_pos h1, Option.bind_some, if_neg n10, jisOut, if_neg h2, Option.bind_some, if_neg n10], by unfold f_X8_bound; rw [b0', jin_0_v, if_pos h1, if_neg n10, jin_0_1, if_neg h2, if_pos rfl], hI⟩
  obtain ⟨m, hm, rfl⟩ := (jbelow (by omega)).mp h1
  obtain ⟨w, -, hw, rfl⟩ := jnat (lo := 0) (hi := 1) h2.1 h2.2 (by decide) (by decide)
  have hm8 : m < 8 := by omega
  have hoc := oc_le hW m
  obtain ⟨n, hn⟩ : ∃ n, n = F.oc m := ⟨_, rfl⟩
  obtain ⟨N, hN⟩ : ∃ N, wT n n + 100 ≤ N := ⟨_, Nat.le_refl _⟩
  have hN1 : 100 ≤ N := by omega
  have hk3 := (hW.1.2 m hm).1
  have kdA := (hA.2.2.2.1 m hm).1
  have ocA := hA.2.2.2.2.2.2.2.2.1 m hm8
  have hJ := jj_of hW m
  -- what the model has gathered
  have gat : ∀ M0 : JMem, IX M0 F od S k q → ∃ M1, f_X8_gather N M0 (nI m) = some M1 ∧ IX M1 F od S k q ∧ M1 222 m = nI (F.kd m) ∧ JM M1 (F.oc m) (F.on m) (fun k => F.sa (F.on m k)) (fun k => F.sb (F.on m k)) (fun k => F.sp (F.on m k)) ∧ ∀ k, k < F.oc m → M1 251 (F.on m k) = nI (F.sp (F.on m k)) := by
    intro M0 hX0
    obtain ⟨M1, g1, g2, g3, g4⟩ := jgatB (N := N) hW hX0.2.2.2.2.1 hm hN1
    refine ⟨M1, g1, hX0.core (fun a i z => ?_), ?_, g2, g3⟩
    · unfold jcore at z
      exact g4 a i (by omega)
    · rw [g4 _ _ (by omega)]
      exact (hX0.2.2.2.2.1.2.2.2.1 m hm).1
  by_cases e1 : F.kd m = 0
  · have kA : f_X7_bound N M (nI m) (nI w) = (jcase (α := JMem × Int32) (β := Unit) (if nI w = 1 then (if nI (F.oc m) ≤ 8 then some (Sum.inr ()) else some (Sum.inl (M, (-100003)))) else some (Sum.inr ())) fun _ => (f_X0_takeJobs N M (nI m)).bind fun M12 => (f_X0_cutBound N M12).bind fun (M13, v14) => (if nI w = 0 then some (M13, v14) else (f_X0_wholeBound N M13 v14).bind fun v15 => some (M13, v15))) := by
      unfold f_X7_bound
      rw [jisMachine, a0, if_pos h1, Option.bind_some, if_neg n10, jisOut, if_pos h2, Option.bind_some, if_pos rfl, jrd_nI hm8 (by decide), Option.bind_some, kdA, e1, if_pos (show nI 0 = 0 from rfl), jrd_nI hm8 (by decide), Option.bind_some, ocA]
    have kB : ∀ M0 M1 : JMem, IX M0 F od S k q → f_X8_gather N M0 (nI m) = some M1 → M1 222 m = nI (F.kd m) → M1 221 36 = nI (F.oc m) → f_X8_bound N M0 (nI m) (nI w) = (jcase (α := JMem × Int32) (β := Unit) (if nI w = 1 then (if nI (F.oc m) ≤ 8 then some (Sum.inr ()) else some (Sum.inl (M1, (-100003)))) else some (Sum.inr ())) fun _ => (if nI (F.oc m) = 0 then some (M1, 0) else (if nI w = 0 then (f_X8_cutBound N M1).bind fun (M12, v13) => some (M12, v13) else (f_X8_wholeBound N M1).bind fun (M10, v11) => some (M10, v11)))) := by
      intro M0 M1 hX0 g1 g2 g3
      unfold f_X8_bound
      rw [hX0.2.2.2.2.1.1, jin_0_v, if_pos h1, if_neg n10, jin_0_1, if_pos h2, if_neg n10, g1, Option.bind_some, jrd_nI hm8 (by decide), Option.bind_some, g2, g3, e1, if_pos (show nI 0 = 0 from rfl)]
    by_cases e2 : w = 1 ∧ 8 < F.oc m
    · obtain ⟨M1, g1, g2, g3, g4, -⟩ := gat M hX
      have ec : (if nI w = 1 then (if nI (F.oc m) ≤ 8 then some (Sum.inr ()) else some (Sum.inl (M, (-100003)))) else some (Sum.inr ())) = (some (Sum.inl (M, (-100003))) : Option ((JMem × Int32) ⊕ Unit)) := by
        rw [if_pos (show nI w = 1 by rw [e2.1]; rfl), if_neg (show ¬ nI (F.oc m) ≤ 8 by rw [jleL (by omega) (by decide)]; omega)]
      have ed : (if nI w = 1 then (if nI (F.oc m) ≤ 8 then some (Sum.inr ()) else some (Sum.inl (M1, (-100003)))) else some (Sum.inr ())) = (some (Sum.inl (M1, (-100003))) : Option ((JMem × Int32) ⊕ Unit)) := by
        rw [if_pos (show nI w = 1 by rw [e2.1]; rfl), if_neg (show ¬ nI (F.oc m) ≤ 8 by rw [jleL (by omega) (by decide)]; omega)]
      exact ⟨N, M, M1, -100003, by rw [kA, ec, jcL], by rw [kB M M1 hX g1 g3 g4.1, ed, jcL], F, od, S, k, q, g2⟩
    · have ec : ∀ M0 : JMem, (if nI w = 1 then (if nI (F.oc m) ≤ 8 then some (Sum.inr ()) else some (Sum.inl (M0, (-100003)))) else some (Sum.inr ())) = (some (Sum.inr ()) : Option ((JMem × Int32) ⊕ Unit)) := by
        intro M0
        by_cases z : w = 1
        · rw [if_pos (show nI w = 1 by rw [z]; rfl), if_pos (show nI (F.oc m) ≤ 8 by rw [jleL (by omega) (by decide)]; omega)]
        · rw [if_neg (show ¬ nI w = 1 by rw [jeqL (by omega) (by decide)]; exact z)]
      obtain ⟨M12, t1, t2, t3⟩ := jtakeJ (N := N) hW hA hm hN1
      obtain ⟨⟨M13, v14⟩, c1, c2, ⟨j, c3⟩, c4⟩ := jcutA (N := N) hJ t2 hN1
      dsimp only at c2 c4
      subst c2
      have hX13 : IX M13 F od S k q := hX.core (fun a i z => by
        unfold jcore at z
        rw [c4 a i (by omega), t3 a i (by omega)])
      have hJA : JA M13 (F.oc m) (fun k => F.sa (F.on m k)) (fun k => F.sb (F.on m k)) (fun k => F.sp (F.on m k)) := ⟨by rw [c4 _ _ (by omega)]; exact t2.1, fun k hk => by rw [c4 _ _ (by omega), c4 _ _ (by omega), c4 _ _ (by omega)]; exact t2.2 k hk⟩
      obtain ⟨M1, g1, g2, g3, g4, g5⟩ := gat M13 hX13
      rw [ec, jcR, t1, Option.bind_some, c1, Option.bind_some] at kA
      dsimp only at kA
      have kB' := kB M13 M1 hX13 g1 g3 g4.1
      rw [ec, jcR] at kB'
      by_cases e0 : F.oc m = 0
      · rw [if_pos (show nI (F.oc m) = 0 by rw [e0]; rfl)] at kB'
        refine ⟨N, M13, M1, 0, ?_, kB', F, od, S, k, q, g2⟩
        rw [kA]
        by_cases z : w = 0
        · rw [if_pos (show nI w = 0 by rw [z]; rfl), e0]
          rfl
        · rw [if_neg (show ¬ nI w = 0 by rw [jeqL (by omega) (by decide)]; exact z), jwholeA hJ hJA (by omega) c3.2.2.2.2.2 hN1, Option.bind_some, if_pos e0]
      · rw [if_neg (show ¬ nI (F.oc m) = 0 by rw [jeqL (by omega) (by decide)]; exact e0)] at kB'
        by_cases z : w = 0
        · rw [if_pos (show nI w = 0 by rw [z]; rfl)] at kA kB'
          obtain ⟨⟨M2, r⟩, d1, d2, d3⟩ := jcutB (N := N) hJ g4 g5 hN1
          dsimp only at d2 d3
          subst d2
          rw [d1, Option.bind_some] at kB'
          exact ⟨N, M13, M2, _, kA, kB', F, od, S, k, q, g2.core (fun a i y => by
            unfold jcore at y
            exact d3 a i (by omega))⟩
        · rw [if_neg (show ¬ nI w = 0 by rw [jeqL (by omega) (by decide)]; exact z)] at kA kB'
          rw [jwholeA hJ hJA (by omega) c3.2.2.2.2.2 hN1, Option.bind_some, if_neg e0] at kA
          obtain ⟨⟨M2, r⟩, d1, d2, d3⟩ := jwholeB (N := N) hJ g4 (by omega) (by omega) (by rw [← hn]; exact hN)
          dsimp only at d2 d3
          subst d2
          rw [d1, Option.bind_some] at kB'
          exact ⟨N, M13, M2, _, kA, kB', F, od, S, k, q, g2.core (fun a i y => by
            unfold jcore at y
            exact d3 a i (by omega))⟩
  · obtain ⟨M1, g1, g2, g3, -⟩ := gat M hX
    have n0 : ¬ nI (F.kd m) = 0 := by rw [jeqL (by omega) (by decide)]; exact e1
    refine ⟨N, M, M1, -100003, ?_, ?_, F, od, S, k, q, g2⟩
    · unfold f_X7_bound
      rw [jisMachine, a0, if_pos h1, Option.bind_some, if_neg n10, jisOut, if_pos h2, Option.bind_some, if_pos rfl, jrd_nI hm8 (by decide), Option.bind_some, kdA, if_neg n0]
    · unfold f_X8_bound
      rw [b0', jin_0_v, if_pos h1, if_neg n10, jin_0_1, if_pos h2, if_neg n10, g1, Option.bind_some, jrd_nI hm8 (by decide), Option.bind_some, g3, if_neg n0]
