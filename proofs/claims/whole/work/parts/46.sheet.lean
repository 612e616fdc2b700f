theorem jst_sheet_ok : jst_sheet jInv := by
  rintro M x1 x2 x3 ⟨F, od, S, k, q, hX⟩
  have hI : jInv M := ⟨F, od, S, k, q, hX⟩
  have hS := hX.2.2.2.2.2.2.1
  rcases jem (0 ≤ x1 ∧ x1 ≤ 5) with h1 | h1
  · exact ⟨0, M, M, -100001, by simp [f_X7_sheet, jisSheet, h1], by simp [f_X8_sheet, jisSheetB, h1], hI⟩
  rcases jem (0 ≤ x2 ∧ x2 ≤ 2) with h0 | h0
  · exact ⟨0, M, M, -100002, by simp [f_X7_sheet, jisSheet, h1, jisOut, h0], by simp [f_X8_sheet, jisSheetB, h1, jin_0_2, h0], hI⟩
  rcases jem (x3 ≤ 40) with h2 | h2
  · exact ⟨0, M, M, -100002, by simp [f_X7_sheet, jisSheet, h1, jisOut, h0, h2], by simp [f_X8_sheet, jisSheetB, h1, jin_0_2, h0, h2], hI⟩
  obtain ⟨s, hs, rfl⟩ := jsix h1
  have h6 : (6 : Nat) ≤ 100000 := by decide
  rcases jem (0 ≤ x3) with h3 | h3
  · let M1 : JMem := jup M 44 3 4
    let M2 : JMem := jup M1 221 14 4
    have hf : ∀ a i, ¬ ((a = 44 ∧ i = 3) ∨ (a = 221 ∧ i = 14)) → M2 a i = M a i := by
      intro a i h
      simp only [M2, M1, jup_at]
      repeat' rw [if_neg (by omega)]
    refine ⟨0, M1, M2, 0, ?_, ?_, F, od, S, k, q, hX.sh (fun a i h => hf a i (by omega)) (hS.code (v := 4) (by simp [M2, M1, jup_at]) (by simp [M2, jup_at]) hf)⟩
    · unfold f_X7_sheet
      rw [jisSheet, if_pos h1, Option.bind_some, if_neg (by decide), jisOut, if_pos h0, Option.bind_some, if_pos rfl, if_pos h2, if_neg h3, Option.bind_some, Option.bind_some, jup_eq, if_neg (by decide)]
    · unfold f_X8_sheet
      rw [jisSheetB, if_pos h1, Option.bind_some, if_neg (by decide), jin_0_2, if_pos h0, if_neg (by decide), if_pos h2, if_neg h3, Option.bind_some, Option.bind_some, jup_eq, if_neg (by decide)]
  obtain ⟨n, -, hn, rfl⟩ := jnat (lo := 0) (hi := 40) h3 h2 (by decide) (by decide)
  obtain ⟨f, -, hfm, rfl⟩ := jnat (lo := 0) (hi := 2) h0.1 h0.2 (by decide) (by decide)
  let M0 : JMem := jup (jup (jup M 44 3 0) 45 s (nI f)) 46 s (nI n)
  let M1 : JMem := jfill M0 (47 + 1 + s) 40 0
  let Mb : JMem := jup (jup (jup M1 221 14 0) 234 s (nI f)) 233 s (nI n)
  let M2 : JMem := jrow Mb 235 (fun j => if 40 * s ≤ j ∧ j < 40 * s + n then 0 else Mb 235 j)
  have e1 : ∀ a i, M1 a i = if a = 48 + s then (if i < 40 then 0 else M0 (48 + s) i) else M0 a i := by
    intro a i
    show jrow M0 (47 + 1 + s) _ a i = _
    unfold jrow
    rw [show 47 + 1 + s = 48 + s by omega]
    by_cases e : a = 48 + s
    · simp only [if_pos e]
    · simp only [if_neg e]
  have e2 : ∀ a i, M2 a i = if a = 235 then (if 40 * s ≤ i ∧ i < 40 * s + n then 0 else Mb 235 i) else Mb a i := by
    intro a i
    show jrow Mb 235 _ a i = _
    unfold jrow
    by_cases e : a = 235
    · simp only [if_pos e]
    · simp only [if_neg e]
  have hf : ∀ a i, ¬ ((a = 44 ∧ i = 3) ∨ (a = 48 + s ∧ i < 40) ∨ ((a = 45 ∨ a = 46 ∨ a = 233 ∨ a = 234) ∧ i = s) ∨ (a = 221 ∧ i = 14) ∨ (a = 235 ∧ 40 * s ≤ i ∧ i < 40 * s + n)) → M2 a i = M a i := by
    intro a i h
    have q0 : ∀ b j, ¬ ((b = 44 ∧ j = 3) ∨ ((b = 45 ∨ b = 46) ∧ j = s)) → M0 b j = M b j := by
      intro b j h9
      simp only [M0, jup_at]
      repeat' rw [if_neg (by omega)]
    have q1 : ∀ b j, ¬ ((b = 44 ∧ j = 3) ∨ ((b = 45 ∨ b = 46) ∧ j = s) ∨ (b = 48 + s ∧ j < 40)) → M1 b j = M b j := by
      intro b j h9
      rw [e1]
      by_cases e : b = 48 + s
      · rw [if_pos e, if_neg (by omega), e]
        exact q0 _ _ (by omega)
      · rw [if_neg e]
        exact q0 _ _ (by omega)
    have q2 : ∀ b j, ¬ ((b = 44 ∧ j = 3) ∨ ((b = 45 ∨ b = 46) ∧ j = s) ∨ (b = 48 + s ∧ j < 40) ∨ (b = 221 ∧ j = 14) ∨ ((b = 233 ∨ b = 234) ∧ j = s)) → Mb b j = M b j := by
      intro b j h9
      show jup (jup (jup M1 221 14 0) 234 s (nI f)) 233 s (nI n) b j = M b j
      rw [jup_at, if_neg (by omega), jup_at, if_neg (by omega), jup_at, if_neg (by omega)]
      exact q1 _ _ (by omega)
    rw [e2]
    by_cases e : a = 235
    · rw [if_pos e, if_neg (by omega), e]
      exact q2 _ _ (by omega)
    · rw [if_neg e]
      exact q2 _ _ (by omega)
  have w1 : M2 44 3 = 0 := by
    rw [e2, if_neg (by decide)]
    show jup (jup (jup M1 221 14 0) 234 s (nI f)) 233 s (nI n) 44 3 = 0
    rw [jup_at, if_neg (by omega), jup_at, if_neg (by omega), jup_at, if_neg (by omega), e1, if_neg (by omega)]
    show jup (jup (jup M 44 3 0) 45 s (nI f)) 46 s (nI n) 44 3 = 0
    rw [jup_at, if_neg (by omega), jup_at, if_neg (by omega), jup_at, if_pos (by omega)]
  have w2 : M2 221 14 = 0 := by
    rw [e2, if_neg (by decide)]
    show jup (jup (jup M1 221 14 0) 234 s (nI f)) 233 s (nI n) 221 14 = 0
    rw [jup_at, if_neg (by omega), jup_at, if_neg (by omega), jup_at, if_pos (by omega)]
  have w3 : M2 45 s = nI f := by
    rw [e2, if_neg (by decide)]
    show jup (jup (jup M1 221 14 0) 234 s (nI f)) 233 s (nI n) 45 s = nI f
    rw [jup_at, if_neg (by omega), jup_at, if_neg (by omega), jup_at, if_neg (by omega), e1, if_neg (by omega)]
    show jup (jup (jup M 44 3 0) 45 s (nI f)) 46 s (nI n) 45 s = nI f
    rw [jup_at, if_neg (by omega), jup_at, if_pos (by omega)]
  have w4 : M2 46 s = nI n := by
    rw [e2, if_neg (by decide)]
    show jup (jup (jup M1 221 14 0) 234 s (nI f)) 233 s (nI n) 46 s = nI n
    rw [jup_at, if_neg (by omega), jup_at, if_neg (by omega), jup_at, if_neg (by omega), e1, if_neg (by omega)]
    show jup (jup (jup M 44 3 0) 45 s (nI f)) 46 s (nI n) 46 s = nI n
    rw [jup_at, if_pos (by omega)]
  have w5 : M2 233 s = nI n := by
    rw [e2, if_neg (by decide)]
    show jup (jup (jup M1 221 14 0) 234 s (nI f)) 233 s (nI n) 233 s = nI n
    rw [jup_at, if_pos (by omega)]
  have w6 : M2 234 s = nI f := by
    rw [e2, if_neg (by decide)]
    show jup (jup (jup M1 221 14 0) 234 s (nI f)) 233 s (nI n) 234 s = nI f
    rw [jup_at, if_neg (by omega), jup_at, if_pos (by omega)]
  have w7 : ∀ i, i < n → M2 (47 + 1 + s) i = 0 ∧ M2 235 (40 * s + i) = 0 := by
    intro i hi
    constructor
    · rw [e2, if_neg (by omega)]
      show jup (jup (jup M1 221 14 0) 234 s (nI f)) 233 s (nI n) (47 + 1 + s) i = 0
      rw [jup_at, if_neg (by omega), jup_at, if_neg (by omega), jup_at, if_neg (by omega), e1, if_pos (by omega), if_pos (by omega)]
    · rw [e2, if_pos rfl, if_pos (by omega)]
  refine ⟨100000, M1, M2, nI n, ?_, ?_, F, od, fun t => if t = s then some (f, n, fun _ => 0) else S t, k, q, hX.sh (fun a i h => hf a i (by omega)) (hS.one hs (by rw [w1, w2]) ⟨hfm, hn, w3, w4, w5, w6, w7⟩ (fun a i h => hf a i (by omega)))⟩
  · unfold f_X7_sheet f_X5_make
    rw [jisSheet, if_pos h1, Option.bind_some, if_neg (by decide), jisOut, if_pos h0, Option.bind_some, if_pos rfl, if_pos h2, if_pos h3, Option.bind_some, Option.bind_some, jup_eq, if_pos rfl, jwr_nI hs h6, Option.bind_some, jwr_nI hs h6, Option.bind_some, jrw_nI hs h6, Option.bind_some]
    rfl
  · unfold f_X8_sheet
    rw [jisSheetB, if_pos h1, Option.bind_some, if_neg (by decide), jin_0_2, if_pos h0, if_neg (by decide), if_pos h2, if_pos h3, Option.bind_some, Option.bind_some, jup_eq, if_pos (by decide), jwr_nI hs h6, Option.bind_some, jwr_nI hs h6, Option.bind_some]
    have hl : jLp (σ := Int32 × JMem) (ρ := JMem) 100000 (fun ((z18, M19) : Int32 × JMem) => (if nI n ≤ z18 then some (Sum.inr M19) else (jwr M19 235 240 ((40 * nI s) + z18) 0).bind fun M21 => some (Sum.inl (z18 + 1, M21)))) (nI 0, jrow Mb 235 (fun j => if 40 * s ≤ j ∧ j < 40 * s + 0 then 0 else Mb 235 j)) = some M2 := by
      refine jLp_for (fun i => (nI i, jrow Mb 235 (fun j => if 40 * s ≤ j ∧ j < 40 * s + i then 0 else Mb 235 j))) n 0 100000 (by omega) (fun j _ hj => ?_) ?_
      · show (if nI n ≤ nI j then _ else _) = _
        rw [if_neg (fun z => by have := (nI_leI (by omega) (by omega)).mp z; omega), jmul40, nI_add, jwr_nI (by omega) (by decide), Option.bind_some, nI_1]
        congr 3
        funext b
        by_cases hb : b = 235
        · subst hb
          simp only [jup, jrow, if_true]
          funext i
          unfold upd
          by_cases hi : i = 40 * s + j
          · rw [if_pos hi, if_pos (by omega)]
          · rw [if_neg hi]
            show (if 40 * s ≤ i ∧ i < 40 * s + j then 0 else Mb 235 i) = _
            by_cases hi2 : 40 * s ≤ i ∧ i < 40 * s + j
            · rw [if_pos hi2, if_pos (by omega)]
            · rw [if_neg hi2, if_neg (by omega)]
        · simp [jup, jrow, hb]
      · show (if nI n ≤ nI (0 + n) then _ else _) = _
        rw [if_pos (by rw [Nat.zero_add]; exact (nI_leI (by omega) (by omega)).mpr (Nat.le_refl n)), Nat.zero_add]
    have e0 : jrow Mb 235 (fun j => if 40 * s ≤ j ∧ j < 40 * s + 0 then 0 else Mb 235 j) = Mb := by
      funext b i
      unfold jrow
      by_cases hb : b = 235
      · subst hb
        simp only [if_true]
        rw [if_neg (by omega)]
      · simp only [if_neg hb]
    rw [e0] at hl
    have hl2 : jLp (σ := Int32 × JMem) (ρ := JMem) 100000 (fun ((z18, M19) : Int32 × JMem) => (if nI n ≤ z18 then some (Sum.inr M19) else (jwr M19 235 240 ((40 * nI s) + z18) 0).bind fun M21 => some (Sum.inl (z18 + 1, M21)))) (0, jup (jup (jup M1 221 14 0) 234 s (nI f)) 233 s (nI n)) = some M2 := hl
    rw [hl2]
    rfl
