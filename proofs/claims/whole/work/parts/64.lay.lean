/-! a step laid at another place of its row -/
def odU (od : Nat → Nat → Nat) (m f : Nat) : Nat → Nat → Nat → Nat
  | 0 => od
  | k + 1 => odX (odU od m f k) m (f + k)
def odD (od : Nat → Nat → Nat) (m f : Nat) : Nat → Nat → Nat → Nat
  | 0 => od
  | k + 1 => odX (odD od m f k) m (f - k - 1)
theorem odU_wo {F : FT} {od : Nat → Nat → Nat} {m f : Nat} (h : WO F od) : ∀ k, (k = 0 ∨ f + k < F.oc m) → WO F (odU od m f k)
  | 0, _ => h
  | k + 1, hk => odX_wo (odU_wo h k (by omega)) (by omega)
theorem odD_wo {F : FT} {od : Nat → Nat → Nat} {m f : Nat} (h : WO F od) (hf : f < F.oc m) : ∀ k, k ≤ f → WO F (odD od m f k)
  | 0, _ => h
  | k + 1, hk => odX_wo (odD_wo h hf k (by omega)) (by omega)
theorem jmoveA {M : JMem} {r m f t N : Nat} {F : FT} {od : Nat → Nat → Nat} (hW : WF F) (h : AO M r F od) (hm : m < 8) (hf : f < F.oc m) (ht : t < F.oc m) (hN : 100 ≤ N) : ∃ M', f_X3_move N M r (nI m) (nI f) (nI t) = some M' ∧ AO M' r F (odD (odU od m f (t - f)) m f (f - t)) ∧ ∀ a j, ¬ (r + 2 ≤ a ∧ a ≤ r + 9) → M' a j = M a j := by
  have hoc := oc_le hW m
  have hns := hW.2.2.1.1
  have l1 : ∃ x, jLp (σ := Int32 × JMem) (ρ := JMem) N (fun ((z7, M8) : Int32 × JMem) => (if nI t ≤ z7 then some (Sum.inr M8) else (f_X3_exchange M8 r (nI m) z7).bind fun M10 => some (Sum.inl (z7 + 1, M10)))) (nI f, M) = some x ∧ (AO x r F (odU od m f (t - f)) ∧ ∀ a j, ¬ (r + 2 ≤ a ∧ a ≤ r + 9) → x a j = M a j) := by
    refine jLp_tot (fun n z => ∃ k, n + k = t - f ∧ z.1 = nI (f + k) ∧ AO z.2 r F (odU od m f k) ∧ ∀ a j, ¬ (r + 2 ≤ a ∧ a ≤ r + 9) → z.2 a j = M a j) _ ?_ N (t - f) (nI f, M) (by omega) ⟨0, by omega, rfl, h, fun _ _ _ => rfl⟩
    rintro n ⟨z7, M8⟩ ⟨k, hn, hz, ha, hfr⟩
    dsimp only at hz ha hfr ⊢
    subst hz
    rcases Nat.eq_zero_or_pos n with en | en
    · rw [if_pos (jleT (by omega) (by omega))]
      exact ⟨_, rfl, Or.inr ⟨_, rfl, by rw [show t - f = k by omega]; exact ha, hfr⟩⟩
    · obtain ⟨M10, e1, e2, e3⟩ := jexA (i := f + k) hW ha hm (by omega)
      rw [if_neg (jleF (by omega) (by omega)), e1, Option.bind_some]
      exact ⟨_, rfl, Or.inl ⟨_, n - 1, rfl, by omega, k + 1, by omega, nI_1 (f + k), e2, fun a j z => (e3 a j z).trans (hfr a j z)⟩⟩
  obtain ⟨M1, e1, a1, f1⟩ := l1
  have l2 : ∃ x, jLp (σ := Int32 × JMem) (ρ := JMem) N (fun ((z18, M19) : Int32 × JMem) => (if z18 ≤ nI t then some (Sum.inr M19) else (f_X3_exchange M19 r (nI m) (z18 - 1)).bind fun M21 => some (Sum.inl (z18 + (-1), M21)))) (nI f, M1) = some x ∧ (AO x r F (odD (odU od m f (t - f)) m f (f - t)) ∧ ∀ a j, ¬ (r + 2 ≤ a ∧ a ≤ r + 9) → x a j = M a j) := by
    refine jLp_tot (fun n z => ∃ k, n + k = f - t ∧ z.1 = nI (f - k) ∧ AO z.2 r F (odD (odU od m f (t - f)) m f k) ∧ ∀ a j, ¬ (r + 2 ≤ a ∧ a ≤ r + 9) → z.2 a j = M a j) _ ?_ N (f - t) (nI f, M1) (by omega) ⟨0, by omega, rfl, a1, f1⟩
    rintro n ⟨z7, M8⟩ ⟨k, hn, hz, ha, hfr⟩
    dsimp only at hz ha hfr ⊢
    subst hz
    rcases Nat.eq_zero_or_pos n with en | en
    · rw [if_pos (jleT (by omega) (by omega))]
      exact ⟨_, rfl, Or.inr ⟨_, rfl, by rw [show f - t = k by omega]; exact ha, hfr⟩⟩
    · obtain ⟨M10, e1, e2, e3⟩ := jexA (i := f - k - 1) hW ha hm (by omega)
      rw [if_neg (jleF (by omega) (by omega)), jsub1 (by omega), e1, Option.bind_some]
      refine ⟨_, rfl, Or.inl ⟨_, n - 1, rfl, by omega, k + 1, by omega, ?_, e2, fun a j z => (e3 a j z).trans (hfr a j z)⟩⟩
      show nI (f - k) + -1 = nI (f - (k + 1))
      rw [← Int32.sub_eq_add_neg, jsub1 (by omega)]
      congr 1
  obtain ⟨M2, e2, a2, f2⟩ := l2
  refine ⟨M2, ?_, a2, f2⟩
  unfold f_X3_move
  rw [e1, Option.bind_some, e2, Option.bind_some]
theorem jst_lay_ok : jst_lay jInv := by
  rintro M x1 x2 ⟨F, od, S, k, q, hX⟩
  have hI : jInv M := ⟨F, od, S, k, q, hX⟩
  obtain ⟨hW, hO, hA, hAO, hB, hBO, -⟩ := id hX
  have hns := hW.2.2.1.1
  have hnm := hW.1.1
  have n10 : ¬ (1 : Int32) = 0 := by decide
  have eA := hA.2.2.1
  have eB := hB.2.2.1
  rcases jem (0 ≤ x1 ∧ x1 ≤ nI F.ns - 1) with h1 | h1
  · exact ⟨0, M, M, -100001, by simp [f_X7_lay, jisStep, eA, h1], by simp [f_X8_lay, jisStepB, eB, h1], hI⟩
  obtain ⟨s, hs, rfl⟩ := (jbelow (by omega)).mp h1
  obtain ⟨a1, a2, a3, a4⟩ := hA.2.2.2.2.2.2.2.1 s hs
  obtain ⟨b1, b2, b3, b4⟩ := hB.2.2.2.2.2.2.2 s hs
  have hm := (hW.2.2.1.2 s hs).2.1
  have hm8 : F.mc s < 8 := by omega
  have s32 : s < 32 := by omega
  obtain ⟨f, hf, hof⟩ := hO.2.2 s hs
  have hoc := oc_le hW (F.mc s)
  rcases jem (0 ≤ x2 ∧ x2 ≤ nI (F.oc (F.mc s)) - 1) with h2 | h2
  · refine ⟨0, M, M, -100002, ?_, ?_, hI⟩
    · unfold f_X7_lay
      rw [jisStep, eA, if_pos h1, Option.bind_some, if_neg n10, jrd_nI s32 (by decide), Option.bind_some, a2, jrd_nI hm8 (by decide), Option.bind_some, show (43 : Nat) = 33 + 10 from rfl, hAO.1 _ hm8, jisOut, if_neg h2, Option.bind_some, if_neg n10]
    · unfold f_X8_lay
      rw [jisStepB, eB, if_pos h1, Option.bind_some, if_neg n10, jrd_nI s32 (by decide), Option.bind_some, b2, jrd_nI hm8 (by decide), Option.bind_some, hBO.1 _ hm8, jin_0_v, if_neg h2, if_pos rfl]
  obtain ⟨t, ht, rfl⟩ := (jbelow (by omega)).mp h2
  have pA : f_X3_placeOf 100 M 33 (nI (F.mc s)) (nI s) = some (nI f) := jplA (c := F.oc (F.mc s)) (row := od (F.mc s)) (by omega) (by omega) (hAO.1 _ (by omega)) (fun j hj => hAO.2 _ j (by omega) hj) (fun j hj => by have := (hO.1 _ j hj).1; omega) hf hof (fun j hj e => hO.2.1 _ j f hj hf (by rw [e, hof])) (by omega)
  obtain ⟨M6, c1, c2, c3⟩ := jmoveA (N := 100) hW hAO hm8 hf ht (by omega)
  generalize hod' : odD (odU od (F.mc s) f (t - f)) (F.mc s) f (f - t) = od' at *
  have hO' : WO F od' := by
    rw [← hod']
    exact odD_wo (odU_wo hO _ (by omega)) hf _ (by omega)
  have hEA6 : EA M6 54 33 F od' (fun _ => none) (fun _ => 0) 0 := EA.of hW hO' (hA.fr hnm (fun a j _ _ => c3 a j (by omega))) c2 (hX.2.2.2.2.2.2.2.2.2.2.1.fr (fun a j _ => c3 a j (by omega))) (by decide) (by decide)
  obtain ⟨M7, d1, d2⟩ := jhasA (N := 100) hEA6 (by omega)
  have f7 : ∀ a j, ¬ ((35 ≤ a ∧ a ≤ 42) ∨ (a = 54 ∧ (j = 4 ∨ j = 6)) ∨ a = 55 ∨ (59 ≤ a ∧ a ≤ 63)) → M7 a j = M a j := fun a j z => (d2 a j (by omega)).trans (c3 a j (by omega))
  have hB7 : BF M7 F := hB.fr ⟨f7 _ _ (by omega), f7 _ _ (by omega), f7 _ _ (by omega)⟩ (fun a j _ _ => f7 a j (by omega))
  have hBO7 : BO M7 F od := hBO.fr (fun a j _ _ => f7 a j (by omega))
  have pB := EB.place (N := 100) (show EB M7 F od from ⟨hW, hO, hB7, hBO7⟩) hs hf hof (by omega)
  have l1 : ∃ x, jLp (σ := Int32 × JMem) (ρ := Int32 × JMem) 100 (fun ((z11, M12) : Int32 × JMem) => (if nI t ≤ z11 then some (Sum.inr (z11, M12)) else (f_X8_exchange M12 (nI (F.mc s)) z11).bind fun M15 => some (Sum.inl (z11 + 1, M15)))) (nI f, M7) = some x ∧ (x.1 = nI (f + (t - f)) ∧ BO x.2 F (odU od (F.mc s) f (t - f)) ∧ ∀ a j, a ≠ 231 → x.2 a j = M7 a j) := by
    refine jLp_tot (fun n z => ∃ k, n + k = t - f ∧ z.1 = nI (f + k) ∧ BO z.2 F (odU od (F.mc s) f k) ∧ ∀ a j, a ≠ 231 → z.2 a j = M7 a j) _ ?_ 100 (t - f) (nI f, M7) (by omega) ⟨0, by omega, rfl, hBO7, fun _ _ _ => rfl⟩
    rintro n ⟨z7, M8⟩ ⟨k, hn, hz, ha, hfr⟩
    dsimp only at hz ha hfr ⊢
    subst hz
    rcases Nat.eq_zero_or_pos n with en | en
    · rw [if_pos (jleT (by omega) (by omega))]
      refine ⟨_, rfl, Or.inr ⟨_, rfl, ?_, ?_, hfr⟩⟩
      · rw [show t - f = k by omega]
      · rw [show t - f = k by omega]
        exact ha
    · obtain ⟨M10, e1, e2, e3⟩ := jexB (i := f + k) hW ha hm8 (by omega)
      rw [if_neg (jleF (by omega) (by omega)), e1, Option.bind_some]
      exact ⟨_, rfl, Or.inl ⟨_, n - 1, rfl, by omega, k + 1, by omega, nI_1 (f + k), e2, fun a j z => (e3 a j z).trans (hfr a j z)⟩⟩
  obtain ⟨⟨z1, M1⟩, g1, g2, g3, g4⟩ := l1
  dsimp only at g2 g3 g4
  subst g2
  have l2 : ∃ x, jLp (σ := Int32 × JMem) (ρ := JMem) 100 (fun ((z23, M24) : Int32 × JMem) => (if z23 ≤ nI t then some (Sum.inr M24) else (f_X8_exchange M24 (nI (F.mc s)) (z23 - 1)).bind fun M26 => some (Sum.inl (z23 + (-1), M26)))) (nI (f + (t - f)), M1) = some x ∧ (BO x F od' ∧ ∀ a j, a ≠ 231 → x a j = M7 a j) := by
    refine jLp_tot (fun n z => ∃ k, n + k = f - t ∧ z.1 = nI (f + (t - f) - k) ∧ BO z.2 F (odD (odU od (F.mc s) f (t - f)) (F.mc s) f k) ∧ ∀ a j, a ≠ 231 → z.2 a j = M7 a j) _ ?_ 100 (f - t) (nI (f + (t - f)), M1) (by omega) ⟨0, by omega, rfl, g3, g4⟩
    rintro n ⟨z7, M8⟩ ⟨k, hn, hz, ha, hfr⟩
    dsimp only at hz ha hfr ⊢
    subst hz
    rcases Nat.eq_zero_or_pos n with en | en
    · rw [if_pos (jleT (by omega) (by omega))]
      exact ⟨_, rfl, Or.inr ⟨_, rfl, by rw [← hod', show f - t = k by omega]; exact ha, hfr⟩⟩
    · obtain ⟨M10, e1, e2, e3⟩ := jexB (i := f - k - 1) hW ha hm8 (by omega)
      rw [if_neg (jleF (by omega) (by omega)), jsub1 (by omega), show f + (t - f) - k - 1 = f - k - 1 by omega, e1, Option.bind_some]
      refine ⟨_, rfl, Or.inl ⟨_, n - 1, rfl, by omega, k + 1, by omega, ?_, e2, fun a j z => (e3 a j z).trans (hfr a j z)⟩⟩
      show nI (f + (t - f) - k) + -1 = nI (f + (t - f) - (k + 1))
      rw [← Int32.sub_eq_add_neg, jsub1 (by omega)]
      congr 1
  obtain ⟨M9, h3, h4, h5⟩ := l2
  have hEB9 : EB M9 F od' := ⟨hW, hO', hB7.fr ⟨h5 _ _ (by omega), h5 _ _ (by omega), h5 _ _ (by omega)⟩ (fun a j _ _ => h5 a j (by omega)), h4⟩
  obtain ⟨M10, i1, i2⟩ := jhasB (N := 100) hEB9 (by omega)
  have key : ∃ rr : Int32, f_X7_lay 100 M (nI s) (nI t) = some (M7, rr) ∧ f_X8_lay 100 M7 (nI s) (nI t) = some (M10, rr) := by
    have kA : f_X7_lay 100 M (nI s) (nI t) = (f_X1_work 100 M6 54 33).bind fun (M7, v8) => (if v8 = 0 then some (M7, (0 : Int32)) else some (M7, 1)) := by
      unfold f_X7_lay
      rw [jisStep, eA, if_pos h1, Option.bind_some, if_neg n10, jrd_nI s32 (by decide), Option.bind_some, a2, jrd_nI hm8 (by decide), Option.bind_some, show (43 : Nat) = 33 + 10 from rfl, hAO.1 _ hm8, jisOut, if_pos h2, Option.bind_some, if_pos rfl, pA, Option.bind_some, c1, Option.bind_some]
    have kB : f_X8_lay 100 M7 (nI s) (nI t) = (f_X8_work 100 M9).bind fun (M28, v29) => (if v29 = 0 then some (M28, (0 : Int32)) else some (M28, 1)) := by
      unfold f_X8_lay
      rw [jisStepB, hB7.2.2.1, if_pos h1, Option.bind_some, if_neg n10, jrd_nI s32 (by decide), Option.bind_some, (hB7.2.2.2.2.2.2.2 s hs).2.1, jrd_nI hm8 (by decide), Option.bind_some, hBO7.1 _ hm8, jin_0_v, if_pos h2, if_neg n10, pB, Option.bind_some, g1, Option.bind_some]
      dsimp only
      rw [h3, Option.bind_some]
    rw [kA, kB]
    rcases d1 with ⟨d0, d1⟩ | ⟨d0, d1⟩
    · rcases i1 with ⟨i0, i1⟩ | ⟨i0, i1⟩
      · exact ⟨1, by rw [d1]; rfl, by rw [i1]; rfl⟩
      · exact absurd d0 i0
    · rcases i1 with ⟨i0, i1⟩ | ⟨i0, i1⟩
      · exact absurd i0 d0
      · exact ⟨0, by rw [d1]; rfl, by rw [i1]; rfl⟩
  obtain ⟨rr, k1, k2⟩ := key
  have f10 : ∀ a j, ¬ (a = 231 ∨ (a = 221 ∧ j = 21) ∨ (237 ≤ a ∧ a ≤ 239)) → M10 a j = M7 a j := fun a j z => (i2 a j (by omega)).trans (h5 a j (by omega))
  refine ⟨100, M7, M10, rr, k1, k2, F, od', S, k, q, hX.ord hO' (c2.fr (fun a j _ _ => by rw [f10 a j (by omega), d2 a j (by omega)])) (h4.fr (fun a j _ _ => i2 a j (by omega))) (fun a j z y => ?_)⟩
  unfold jcore at z
  rw [f10 a j (by omega), f7 a j (by omega)]
