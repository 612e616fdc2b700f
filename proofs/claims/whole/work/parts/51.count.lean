/-- all steps stand on machines that are plain or drying -/
def FT.simp (F : FT) : Prop := ∀ s, s < F.ns → F.kd (F.mc s) ≤ 1
def jsum (f : Nat → Nat) : Nat → Nat
  | 0 => 0
  | n + 1 => jsum f n + f n
theorem oc_pos {F : FT} (h : WF F) {m : Nat} : 0 < F.oc m ↔ ∃ s, s < F.ns ∧ F.mc s = m := by
  constructor
  · intro h1
    exact ⟨F.on m 0, h.2.2.2.2.2.1 m 0 h1⟩
  · rintro ⟨s, h1, rfl⟩
    obtain ⟨i, hi, -⟩ := h.2.2.2.2.2.2.2 s h1
    omega
theorem jsimpA {M : JMem} {F : FT} {N : Nat} (hW : WF F) (hA : AF M F) (hN : 100 ≤ N) : (F.simp ∧ f_X2_isSimple N M = some 1) ∨ (¬ F.simp ∧ f_X2_isSimple N M = some 0) := by
  have hnm := hW.1.1
  obtain ⟨g1, g2, g3, g4, g5, g6, g7, g8, g9, g10⟩ := hA
  have hl : ∃ r, jLp (σ := Int32) (ρ := (Int32) ⊕ (Unit)) N (fun (z7 : Int32) => (if (M 1 0) ≤ z7 then some (Sum.inr (Sum.inr ())) else (jrd M 32 8 z7).bind fun v8 => (jcase (α := (Int32) ⊕ ((Int32) ⊕ (Unit))) (β := Unit) (if v8 ≤ 0 then some (Sum.inr ()) else (jrd M 2 8 z7).bind fun v14 => (if v14 = 0 then some (Sum.inr ()) else (jrd M 2 8 z7).bind fun v15 => (if v15 = 1 then some (Sum.inr ()) else some (Sum.inl (Sum.inr (Sum.inl 0)))))) fun _ => some (Sum.inl (z7 + 1))))) 0 = some r ∧ ((F.simp ∧ r = Sum.inr ()) ∨ (¬ F.simp ∧ r = Sum.inl 0)) := by
    refine jLp_tot (fun n z => ∃ j, n + j = F.nm ∧ z = nI j ∧ ∀ m, m < j → 0 < F.oc m → F.kd m ≤ 1) _ ?_ N F.nm 0 (by omega) ⟨0, by omega, rfl, fun m h => absurd h (Nat.not_lt_zero m)⟩
    rintro n z ⟨j, hn, rfl, hj⟩
    rw [g1]
    rcases Nat.eq_zero_or_pos n with e | e
    · refine ⟨_, if_pos (jleT (by omega) (by omega)), Or.inr ⟨_, rfl, Or.inl ⟨fun s hs => ?_, rfl⟩⟩⟩
      exact hj _ (by have := (hW.2.2.1.2 s hs).2.1; omega) ((oc_pos hW).mpr ⟨s, hs, rfl⟩)
    · have hk := hW.1.2 j (by omega)
      have hoc := oc_le hW j
      have hns := hW.2.2.1.1
      rw [if_neg (jleF (by omega) (by omega)), jrd_nI (show j < 8 by omega) (by decide), Option.bind_some, g9 j (by omega), jrd_nI (show j < 8 by omega) (by decide), (g4 j (by omega)).1, Option.bind_some, Option.bind_some]
      have next : (∀ m, m < j + 1 → 0 < F.oc m → F.kd m ≤ 1) → ∃ x, (some (Sum.inl (nI j + 1)) : Option (Int32 ⊕ (Int32 ⊕ Unit))) = some x ∧ ((∃ s' m, x = .inl s' ∧ m < n ∧ ∃ j, m + j = F.nm ∧ s' = nI j ∧ ∀ m, m < j → 0 < F.oc m → F.kd m ≤ 1) ∨ (∃ r, x = .inr r ∧ ((F.simp ∧ r = Sum.inr ()) ∨ (¬ F.simp ∧ r = Sum.inl 0)))) := by
        intro h
        exact ⟨_, rfl, Or.inl ⟨_, n - 1, rfl, by omega, j + 1, by omega, nI_1 j, h⟩⟩
      by_cases e1 : F.oc j = 0
      · rw [if_pos (by rw [jleL (by omega) (by decide)]; omega), jcR]
        exact next (fun m hm ho => by rcases Nat.lt_succ_iff_lt_or_eq.mp hm with h | h
                                      · exact hj m h ho
                                      · subst h; omega)
      · rw [if_neg (by rw [jleL (by omega) (by decide)]; omega)]
        by_cases e2 : F.kd j ≤ 1
        · have hx := next (fun m hm ho => by rcases Nat.lt_succ_iff_lt_or_eq.mp hm with h | h
                                             · exact hj m h ho
                                             · subst h; exact e2)
          by_cases e3 : F.kd j = 0
          · rw [if_pos (by rw [e3]; rfl), jcR]
            exact hx
          · rw [if_neg (by rw [jeqL (by omega) (by decide)]; omega), if_pos (by rw [show F.kd j = 1 by omega]; rfl), jcR]
            exact hx
        · rw [if_neg (by rw [jeqL (by omega) (by decide)]; omega), if_neg (by rw [jeqL (by omega) (by decide)]; omega), jcL]
          refine ⟨_, rfl, Or.inr ⟨_, rfl, Or.inr ⟨fun h => ?_, rfl⟩⟩⟩
          obtain ⟨s, hs, hs2⟩ := (oc_pos hW).mp (Nat.pos_of_ne_zero e1)
          have := h s hs
          rw [hs2] at this
          omega
  obtain ⟨r, e, hr⟩ := hl
  unfold f_X2_isSimple
  rw [e]
  rcases hr with ⟨h, rfl⟩ | ⟨h, rfl⟩
  · exact Or.inl ⟨h, rfl⟩
  · exact Or.inr ⟨h, rfl⟩
theorem jsimpB {M : JMem} {F : FT} {N : Nat} (hW : WF F) (hB : BF M F) (hN : 100 ≤ N) : (F.simp ∧ f_X8_isSimple N M = some 1) ∨ (¬ F.simp ∧ f_X8_isSimple N M = some 0) := by
  have hns := hW.2.2.1.1
  have hnm := hW.1.1
  obtain ⟨g1, g2, g3, g4, g5, g6, g7, g8⟩ := hB
  have hl : ∃ r, jLp (σ := Int32 × Int32) (ρ := Int32) N (fun ((z7, z8) : Int32 × Int32) => (if (M 221 11) ≤ z8 then some (Sum.inr z7) else (((jcase (α := Int32) (β := Unit) (if z7 = 0 then some (Sum.inr ()) else (jrd M 228 32 z8).bind fun v20 => (jrd M 222 8 v20).bind fun v21 => (if 1 < v21 then some (Sum.inr ()) else some (Sum.inl (1)))) fun _ => some (0)) : Option (Int32)).bind fun u24 => some (Sum.inl (u24, z8 + 1))))) (1, 0) = some r ∧ ((F.simp ∧ r = 1) ∨ (¬ F.simp ∧ r = 0)) := by
    refine jLp_tot (fun n z => ∃ j, n + j = F.ns ∧ z.2 = nI j ∧ (((∀ s, s < j → F.kd (F.mc s) ≤ 1) ∧ z.1 = 1) ∨ ((¬ F.simp) ∧ z.1 = 0))) _ ?_ N F.ns (1, 0) (by omega) ⟨0, by omega, rfl, Or.inl ⟨fun m h => absurd h (Nat.not_lt_zero m), rfl⟩⟩
    rintro n ⟨f, z⟩ ⟨j, hn, hz, hf⟩
    have hz : z = nI j := hz
    subst hz
    have hf : ((∀ s, s < j → F.kd (F.mc s) ≤ 1) ∧ f = 1) ∨ ((¬ F.simp) ∧ f = 0) := hf
    show ∃ x, (if (M 221 11) ≤ nI j then some (Sum.inr f) else (((jcase (α := Int32) (β := Unit) (if f = 0 then some (Sum.inr ()) else (jrd M 228 32 (nI j)).bind fun v20 => (jrd M 222 8 v20).bind fun v21 => (if 1 < v21 then some (Sum.inr ()) else some (Sum.inl (1)))) fun _ => some (0)) : Option (Int32)).bind fun u24 => some (Sum.inl (u24, nI j + 1)))) = some x ∧ _
    rw [g3]
    rcases Nat.eq_zero_or_pos n with e | e
    · rw [if_pos (jleT (by omega) (by omega))]
      refine ⟨_, rfl, Or.inr ⟨_, rfl, ?_⟩⟩
      rcases hf with ⟨h, e2⟩ | h
      · exact Or.inl ⟨fun s hs => h s (by omega), e2⟩
      · exact Or.inr h
    · have hk := hW.1.2 (F.mc j) (hW.2.2.1.2 j (by omega)).2.1
      have hm := (hW.2.2.1.2 j (by omega)).2.1
      rw [if_neg (jleF (by omega) (by omega)), jrd_nI (show j < 32 by omega) (by decide), Option.bind_some, (g8 j (by omega)).2.1, jrd_nI (show F.mc j < 8 by omega) (by decide), Option.bind_some, (g4 _ hm).1]
      rcases hf with ⟨h, rfl⟩ | ⟨h, rfl⟩
      · rw [if_neg (show ¬ (1 : Int32) = 0 by decide)]
        by_cases e2 : F.kd (F.mc j) ≤ 1
        · rw [if_neg (by rw [jLlt (by omega) (by decide)]; omega), jcL, Option.bind_some]
          refine ⟨_, rfl, Or.inl ⟨_, n - 1, rfl, by omega, j + 1, by omega, nI_1 j, Or.inl ⟨fun s hs => ?_, rfl⟩⟩⟩
          rcases Nat.lt_succ_iff_lt_or_eq.mp hs with h3 | h3
          · exact h s h3
          · subst h3; exact e2
        · rw [if_pos (by rw [jLlt (by omega) (by decide)]; omega), jcR, Option.bind_some]
          exact ⟨_, rfl, Or.inl ⟨_, n - 1, rfl, by omega, j + 1, by omega, nI_1 j, Or.inr ⟨fun h3 => e2 (h3 j (by omega)), rfl⟩⟩⟩
      · rw [if_pos (show (0 : Int32) = 0 by decide), jcR, Option.bind_some]
        exact ⟨_, rfl, Or.inl ⟨_, n - 1, rfl, by omega, j + 1, by omega, nI_1 j, Or.inr ⟨h, rfl⟩⟩⟩
  obtain ⟨r, e, hr⟩ := hl
  unfold f_X8_isSimple
  rw [e]
  rcases hr with ⟨h, rfl⟩ | ⟨h, rfl⟩
  · exact Or.inl ⟨h, rfl⟩
  · exact Or.inr ⟨h, rfl⟩
theorem jsumsL {M : JMem} {a f1 f2 n N : Nat} {f : Nat → Nat} (h1 : M f1 f2 = nI n) (hn : n ≤ 32) (h : ∀ s, s < n → M a s = nI (f s)) (hN : 100 ≤ N) : jLp (σ := Int32 × Int32) (ρ := Int32) N (fun ((z7, z8) : Int32 × Int32) => (if (M f1 f2) ≤ z8 then some (Sum.inr z7) else (jrd M a 32 z8).bind fun v10 => some (Sum.inl (z7 + v10, z8 + 1)))) (0, 0) = some (nI (jsum f n)) := by
  refine jLp_for (fun j => (nI (jsum f j), nI j)) n 0 N (by omega) (fun j _ hj => ?_) ?_
  · show (if (M f1 f2) ≤ nI j then some (Sum.inr (nI (jsum f j))) else (jrd M a 32 (nI j)).bind fun v10 => some (Sum.inl (nI (jsum f j) + v10, nI j + 1))) = _
    rw [h1, if_neg (jleF (by omega) (by omega)), jrd_nI (show j < 32 by omega) (by decide), Option.bind_some, h j (by omega), nI_add, nI_1]
    rfl
  · show (if (M f1 f2) ≤ nI (0 + n) then some (Sum.inr (nI (jsum f (0 + n)))) else _) = _
    rw [h1, if_pos (jleT (by omega) (by omega)), Nat.zero_add]
theorem jst_count_ok : jst_count jInv := by
  rintro M x1 ⟨F, od, S, k, q, hX⟩
  obtain ⟨hW, hO, hA, hAO, hB, hBO, -⟩ := id hX
  have hI : jInv M := ⟨F, od, S, k, q, hX⟩
  have hns := hW.2.2.1.1
  have key : ∃ r : Int32, f_X7_count 100 M x1 = some r ∧ f_X8_count 100 M x1 = some r := by
    unfold f_X7_count f_X8_count
    rw [hA.1, hA.2.1, hA.2.2.1, hB.1, hB.2.1, hB.2.2.1]
    by_cases e0 : x1 = 0
    · exact ⟨_, by rw [if_pos e0], by rw [if_pos e0]⟩
    by_cases e1 : x1 = 1
    · exact ⟨_, by rw [if_neg e0, if_pos e1], by rw [if_neg e0, if_pos e1]⟩
    by_cases e2 : x1 = 2
    · exact ⟨_, by rw [if_neg e0, if_neg e1, if_pos e2], by rw [if_neg e0, if_neg e1, if_pos e2]⟩
    by_cases e3 : x1 = 3
    · rw [if_neg e0, if_neg e1, if_neg e2, if_pos e3, if_neg e0, if_neg e1, if_neg e2, if_pos e3]
      rcases jsimpA (N := 100) hW hA (by omega) with ⟨h1, e⟩ | ⟨h1, e⟩
      · rcases jsimpB (N := 100) hW hB (by omega) with ⟨h2, e9⟩ | ⟨h2, e9⟩
        · rw [e, e9]
          exact ⟨1, rfl, rfl⟩
        · exact absurd h1 h2
      · rcases jsimpB (N := 100) hW hB (by omega) with ⟨h2, e9⟩ | ⟨h2, e9⟩
        · exact absurd h2 h1
        · rw [e, e9]
          exact ⟨0, rfl, rfl⟩
    by_cases e4 : x1 = 4
    · refine ⟨nI (jsum F.sp F.ns), ?_, ?_⟩
      · rw [if_neg e0, if_neg e1, if_neg e2, if_neg e3, if_pos e4]
        unfold f_X2_allSpans
        rw [jsumsL hA.2.2.1 hns (fun s hs => (hA.2.2.2.2.2.2.2.1 s hs).2.2.1) (by omega)]
        rfl
      · rw [if_neg e0, if_neg e1, if_neg e2, if_neg e3, if_pos e4]
        unfold f_X8_sumOfSpans
        rw [jsumsL hB.2.2.1 hns (fun s hs => (hB.2.2.2.2.2.2.2 s hs).2.2.1) (by omega)]
        rfl
    exact ⟨_, by rw [if_neg e0, if_neg e1, if_neg e2, if_neg e3, if_neg e4], by rw [if_neg e0, if_neg e1, if_neg e2, if_neg e3, if_neg e4]⟩
  obtain ⟨r, k1, k2⟩ := key
  exact ⟨100, r, k1, k2, hI⟩
