theorem jleT {a b : Nat} (h : a ≤ b) (hb : b < 2 ^ 31) : nI a ≤ nI b := (nI_leI (by omega) hb).mpr h
theorem jleF {a b : Nat} (h : b < a) (ha : a < 2 ^ 31) : ¬ nI a ≤ nI b := fun z => absurd ((nI_leI ha (by omega)).mp z) (by omega)
theorem jltT {a b : Nat} (h : a < b) (hb : b < 2 ^ 31) : nI a < nI b := (nI_ltI (by omega) hb).mpr h
theorem jltF {a b : Nat} (h : b ≤ a) (ha : a < 2 ^ 31) : ¬ nI a < nI b := fun z => absurd ((nI_ltI ha (by omega)).mp z) (by omega)
theorem jeqF {a b : Nat} (h : a ≠ b) (ha : a < 2 ^ 31) (hb : b < 2 ^ 31) : ¬ nI a = nI b := fun z => h ((nI_eq ha hb).mp z)
/-- the place of a step in its machine's row: the class's, by the last that fits -/
theorem jplA {M : JMem} {r c m i s N : Nat} {row : Nat → Nat} (hm : m < 8) (hc : c ≤ 32) (h1 : M (r + 10) m = nI c) (h2 : ∀ j, j < c → M (r + 1 + 1 + m) j = nI (row j)) (hr : ∀ j, j < c → row j ≤ 32) (hi : i < c) (hs : row i = s) (hu : ∀ j, j < c → row j = s → j = i) (hN : 100 ≤ N) : f_X3_placeOf N M r (nI m) (nI s) = some (nI i) := by
  unfold f_X3_placeOf
  have hs2 : s ≤ 32 := by rw [← hs]; exact hr i hi
  have hl : jLp (σ := Int32 × Int32) (ρ := Int32) N (fun ((z7, z8) : Int32 × Int32) => (jrd M (r + 10) 8 (nI m)).bind fun v10 => (if v10 ≤ z8 then some (Sum.inr z7) else (jrw (r + 1) 8 (nI m)).bind fun w11 => (jrd M w11 32 z8).bind fun v12 => (((if v12 = nI s then some (z8) else some (z7)) : Option (Int32)).bind fun u19 => some (Sum.inl (u19, z8 + 1))))) ((fun j => (nI (if i < j then i else 0), nI j)) 0) = some (nI i) := by
    refine jLp_for (fun j => (nI (if i < j then i else 0), nI j)) c 0 N (by omega) (fun j _ hj => ?_) ?_
    · have hj2 : j < c := by omega
      show ((jrd M (r + 10) 8 (nI m)).bind fun v10 => (if v10 ≤ nI j then some (Sum.inr (nI (if i < j then i else 0))) else (jrw (r + 1) 8 (nI m)).bind fun w11 => (jrd M w11 32 (nI j)).bind fun v12 => (((if v12 = nI s then some (nI j) else some (nI (if i < j then i else 0))) : Option (Int32)).bind fun u19 => some (Sum.inl (u19, nI j + 1))))) = _
      rw [jrd_nI hm (by decide), Option.bind_some, h1, if_neg (jleF hj2 (by omega)), jrw_nI hm (by decide), Option.bind_some, jrd_nI (show j < 32 by omega) (by decide), Option.bind_some, h2 j hj2, nI_1]
      have hrj := hr j hj2
      by_cases e : row j = s
      · have e2 := hu j hj2 e
        rw [if_pos (by rw [e]), Option.bind_some, if_pos (show i < j + 1 by omega), e2]
      · rw [if_neg (jeqF e (by omega) (by omega)), Option.bind_some]
        have e3 : j ≠ i := fun z => e (by rw [z]; exact hs)
        by_cases e4 : i < j
        · rw [if_pos e4, if_pos (show i < j + 1 by omega)]
        · rw [if_neg e4, if_neg (show ¬ i < j + 1 by omega)]
    · show ((jrd M (r + 10) 8 (nI m)).bind fun v10 => (if v10 ≤ nI (0 + c) then some (Sum.inr (nI (if i < 0 + c then i else 0))) else _)) = _
      rw [jrd_nI hm (by decide), Option.bind_some, h1, if_pos (jleT (by omega) (by omega)), if_pos (show i < 0 + c by omega)]
  have hl2 := hl
  simp only [Nat.not_lt_zero, if_false] at hl2
  rw [show ((0 : Int32), (0 : Int32)) = (nI 0, nI 0) from rfl, hl2]
  rfl
/-- the model's, by the first that fits -/
theorem jplB {M : JMem} {c m i s N : Nat} {row : Nat → Nat} (hm : m < 8) (hc : c ≤ 32) (h2 : ∀ j, j < c → M 231 (32 * m + j) = nI (row j)) (hr : ∀ j, j < c → row j ≤ 32) (hi : i < c) (hs : row i = s) (hs32 : s < 32) (hu : ∀ j, j < c → row j = s → j = i) (h3 : M 228 s = nI m) (hN : 100 ≤ N) : f_X8_placeOf N M (nI s) = some (nI i) := by
  unfold f_X8_placeOf
  rw [jrd_nI hs32 (by decide), Option.bind_some, h3]
  have hl : jLp (σ := Int32) (ρ := Int32) N (fun (z8 : Int32) => (jrd M 231 256 ((32 * nI m) + z8)).bind fun v10 => (if v10 = nI s then some (Sum.inr z8) else some (Sum.inl (z8 + 1)))) ((fun j => nI j) 0) = some (nI i) := by
    refine jLp_for (fun j => nI j) i 0 N (by omega) (fun j _ hj => ?_) ?_
    · have hj2 : j < c := by omega
      have hrj := hr j hj2
      show ((jrd M 231 256 ((32 * nI m) + nI j)).bind fun v10 => (if v10 = nI s then some (Sum.inr (nI j)) else some (Sum.inl (nI j + 1)))) = _
      rw [jmul32, nI_add, jrd_nI (show 32 * m + j < 256 by omega) (by decide), Option.bind_some, h2 j hj2, if_neg (jeqF (fun e => by have := hu j hj2 e; omega) (by omega) (by omega)), nI_1]
    · show ((jrd M 231 256 ((32 * nI m) + nI (0 + i))).bind fun v10 => (if v10 = nI s then some (Sum.inr (nI (0 + i))) else some (Sum.inl (nI (0 + i) + 1)))) = _
      rw [Nat.zero_add, jmul32, nI_add, jrd_nI (show 32 * m + i < 256 by omega) (by decide), Option.bind_some, h2 i hi, if_pos (by rw [hs])]
  rw [show (0 : Int32) = nI 0 from rfl, hl]
  rfl
theorem jst_told_ok : jst_told jInv := by
  rintro M x1 x2 ⟨F, od, S, k, q, hX⟩
  obtain ⟨hW, hO, hA, hAO, hB, hBO, -⟩ := id hX
  have hI : jInv M := ⟨F, od, S, k, q, hX⟩
  have hns := hW.2.2.1.1
  have hnm := hW.1.1
  have eA := hA.2.2.1
  have eB := hB.2.2.1
  rcases jem (0 ≤ x1 ∧ x1 ≤ nI F.ns - 1) with h1 | h1
  · exact ⟨0, -100001, by simp [f_X7_told, jisStep, eA, h1], by simp [f_X8_told, jisStepB, eB, h1], hI⟩
  obtain ⟨s, hs, rfl⟩ := (jbelow (by omega)).mp h1
  obtain ⟨a1, a2, a3, a4⟩ := hA.2.2.2.2.2.2.2.1 s hs
  obtain ⟨b1, b2, b3, b4⟩ := hB.2.2.2.2.2.2.2 s hs
  have hm := (hW.2.2.1.2 s hs).2.1
  obtain ⟨i, hi, hoi⟩ := hO.2.2 s hs
  have hoc := oc_le hW (F.mc s)
  have pA : f_X3_placeOf 100 M 33 (nI (F.mc s)) (nI s) = some (nI i) := jplA (c := F.oc (F.mc s)) (row := od (F.mc s)) (by omega) (by omega) (hAO.1 _ (by omega)) (fun j hj => hAO.2 _ j (by omega) hj) (fun j hj => by have := (hO.1 _ j hj).1; omega) hi hoi (fun j hj e => hO.2.1 _ j i hj hi (by rw [e, hoi])) (by omega)
  have pB : f_X8_placeOf 100 M (nI s) = some (nI i) := jplB (c := F.oc (F.mc s)) (m := F.mc s) (row := od (F.mc s)) (by omega) (by omega) (fun j hj => hBO.2 _ j (by omega) hj) (fun j hj => by have := (hO.1 _ j hj).1; omega) hi hoi (by omega) (fun j hj e => hO.2.1 _ j i hj hi (by rw [e, hoi])) b2 (by omega)
  have s32 : s < 32 := by omega
  have hh : (32 : Nat) ≤ 100000 := by decide
  have key : ∃ r : Int32, f_X7_told 100 M (nI s) x2 = some r ∧ f_X8_told 100 M (nI s) x2 = some r := by
    unfold f_X7_told f_X8_told
    rw [jisStep, jisStepB, eA, eB, if_pos h1, Option.bind_some, Option.bind_some, if_neg (show ¬ (1 : Int32) = 0 by decide), if_neg (show ¬ (1 : Int32) = 0 by decide)]
    rw [jrd_nI s32 hh, jrd_nI s32 hh, jrd_nI s32 hh, jrd_nI s32 hh, jrd_nI s32 hh, jrd_nI s32 hh, jrd_nI s32 hh, jrd_nI s32 hh, a1, a2, a3, a4, b1, b2, b3, b4]
    simp only [Option.bind_some]
    rw [pA, pB]
    by_cases e0 : x2 = 0
    · exact ⟨_, by rw [if_pos e0], by rw [if_pos e0]⟩
    by_cases e1 : x2 = 1
    · exact ⟨_, by rw [if_neg e0, if_pos e1], by rw [if_neg e0, if_pos e1]⟩
    by_cases e2 : x2 = 2
    · exact ⟨_, by rw [if_neg e0, if_neg e1, if_pos e2], by rw [if_neg e0, if_neg e1, if_pos e2]⟩
    by_cases e3 : x2 = 3
    · exact ⟨_, by rw [if_neg e0, if_neg e1, if_neg e2, if_pos e3], by rw [if_neg e0, if_neg e1, if_neg e2, if_pos e3]⟩
    by_cases e4 : x2 = 4
    · exact ⟨nI i, by rw [if_neg e0, if_neg e1, if_neg e2, if_neg e3, if_pos e4]; rfl, by rw [if_neg e0, if_neg e1, if_neg e2, if_neg e3, if_pos e4]; rfl⟩
    exact ⟨_, by rw [if_neg e0, if_neg e1, if_neg e2, if_neg e3, if_neg e4], by rw [if_neg e0, if_neg e1, if_neg e2, if_neg e3, if_neg e4]⟩
  obtain ⟨r, k1, k2⟩ := key
  exact ⟨100, r, k1, k2, hI⟩
