theorem jbit_bt (x : Int32) (g : Nat) : jbit x g = bt x g := rfl
theorem b_one (i : Nat) : bt 1 i = decide (i = 0) := by
  rcases Nat.lt_or_ge i 32 with h | h
  · exact (by decide +kernel : ∀ i, i < 32 → bt 1 i = decide (i = 0)) i h
  · rw [b_big h, decide_eq_false (by omega)]
/-- one bit, looked at -/
theorem jb1 (x : Int32) {g : Nat} (hg : g < 32) : (jushr x (nI g) &&& 1) = if bt x g = true then 1 else 0 := by
  apply b_ext
  intro i hi
  rw [b_and, b_ushr g hg, b_one]
  by_cases e : i = 0
  · subst e
    rw [Nat.add_zero, decide_eq_true rfl, Bool.and_true]
    cases bt x g
    · rfl
    · rfl
  · rw [decide_eq_false e, Bool.and_false]
    split
    · rw [b_one, decide_eq_false e]
    · rw [b_0]
theorem jst_must_ok : jst_must jInv := by
  rintro M x1 x2 ⟨F, od, S, k, q, hX⟩
  obtain ⟨hW, hO, hA, hAO, hB, hBO, hS, hIA, -⟩ := id hX
  have hI : jInv M := ⟨F, od, S, k, q, hX⟩
  have hns := hW.2.2.1.1
  have eA := hA.2.2.1
  have eB := hB.2.2.1
  rcases jem (0 ≤ x1 ∧ x1 ≤ nI F.ns - 1) with h1 | h1
  · exact ⟨-100001, by simp [f_X7_must, jisStep, eA, h1], by simp [f_X8_must, jisStepB, eB, h1], hI⟩
  rcases jem (0 ≤ x2 ∧ x2 ≤ nI F.ns - 1) with h2 | h2
  · exact ⟨-100001, by simp [f_X7_must, jisStep, eA, h1, h2], by simp [f_X8_must, jisStepB, eB, h1, h2], hI⟩
  obtain ⟨s, hs, rfl⟩ := (jbelow (by omega)).mp h1
  obtain ⟨t, ht, rfl⟩ := (jbelow (by omega)).mp h2
  obtain ⟨a1, a2, a3, a4, a5⟩ := hIA
  have s32 : s < 32 := by omega
  have t32 : t < 32 := by omega
  have i0 : ∀ b : Bool, ((if b = true then (1 : Int32) else 0) = 0) ↔ ¬ b = true := by decide
  have i1 : ∀ b : Bool, ((if b = true then (1 : Int32) else 0) = 1) ↔ b = true := by decide
  have n10 : ¬ (1 : Int32) = 0 := by decide
  have hA1 : f_X7_must M (nI s) (nI t) = some (if bt (M 77 s) t = true then 1 else if bt (M 77 t) s = true then 2 else 0) := by
    unfold f_X7_must f_X6_isAhead
    rw [jisStep, jisStep, eA, if_pos h1, if_pos h2, Option.bind_some, if_neg n10, Option.bind_some, if_neg n10, jrd_nI s32 (by decide), jrd_nI t32 (by decide), Option.bind_some, Option.bind_some, jb1 _ t32, jb1 _ s32]
    simp only [i0]
    by_cases e : bt (M 77 s) t = true
    · simp [e]
    · by_cases e2 : bt (M 77 t) s = true
      · simp [e, e2]
      · simp [e, e2]
  refine ⟨_, hA1, ?_, hI⟩
  unfold f_X8_must
  rw [jisStepB, jisStepB, eB, if_pos h1, if_pos h2, Option.bind_some, if_neg n10, Option.bind_some, if_neg n10]
  have z1 : ∀ g, bt (M 77 s) g = true → s < k ∧ g < k := fun g h => a5 s g s32 h
  have z2 : ∀ g, bt (M 77 t) g = true → t < k ∧ g < k := fun g h => a5 t g t32 h
  rcases jem (s < k ∧ t < k) with e | e
  · have u0 : ((jcase (α := Int32) (β := Unit) (if (M 221 30) = 0 then some (Sum.inr ()) else (if (M 221 31) ≤ nI s then some (Sum.inr ()) else (if (M 221 31) ≤ nI t then some (Sum.inr ()) else some (Sum.inl (1))))) fun _ => some (0)) : Option (Int32)) = some 0 := by
      rcases a3 with ⟨c1, c2⟩ | ⟨c1, c2⟩
      · rw [c1, if_pos rfl]
        rfl
      · rw [c1, if_neg n10, c2]
        by_cases e3 : k ≤ s
        · rw [if_pos (jleT e3 (by omega))]
          rfl
        · rw [if_neg (jleF (by omega) (by omega)), if_pos (jleT (by omega) (by omega))]
          rfl
    have y1 : ¬ bt (M 77 s) t = true := fun z => e (z1 t z)
    have y2 : ¬ bt (M 77 t) s = true := fun z => e ⟨(z2 s z).2, (z2 s z).1⟩
    rw [u0, Option.bind_some, if_pos rfl, if_neg y1, if_neg y2]
  · have u0 : ((jcase (α := Int32) (β := Unit) (if (M 221 30) = 0 then some (Sum.inr ()) else (if (M 221 31) ≤ nI s then some (Sum.inr ()) else (if (M 221 31) ≤ nI t then some (Sum.inr ()) else some (Sum.inl (1))))) fun _ => some (0)) : Option (Int32)) = some 1 := by
      rcases a3 with ⟨c1, c2⟩ | ⟨c1, c2⟩
      · omega
      · rw [c1, if_neg n10, c2, if_neg (jleF (by omega) (by omega)), if_neg (jleF (by omega) (by omega))]
        rfl
    rw [u0, Option.bind_some, if_neg n10, jrd_nI s32 (by decide), jrd_nI t32 (by decide), Option.bind_some, Option.bind_some, ← (a4 s e.1).2.2, ← (a4 t e.2).2.2, jb1 _ t32, jb1 _ s32]
    simp only [i1]
    by_cases e5 : bt (M 77 s) t = true
    · simp [e5]
    · by_cases e6 : bt (M 77 t) s = true
      · simp [e5, e6]
      · simp [e5, e6]
