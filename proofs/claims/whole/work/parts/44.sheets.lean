theorem IX.sh {M M2 : JMem} {F : FT} {od : Nat → Nat → Nat} {S S' : ST} {k q : Nat} (h : IX M F od S k q) (e : ∀ a i, ¬ (a = 44 ∨ (45 ≤ a ∧ a ≤ 53) ∨ (a = 221 ∧ i = 14) ∨ (233 ≤ a ∧ a ≤ 235)) → M2 a i = M a i) (hS : IS M2 S') : IX M2 F od S' k q := by
  obtain ⟨h1, h2, h3, h4, h5, h6, -, h8, h9, h10, h11, h12, h13⟩ := h
  have q9 : IQ M2 := ⟨by rw [e 83 0 (by omega), e 221 45 (by omega)]; exact h9.1, by rw [e 83 1 (by omega), e 221 46 (by omega)]; exact h9.2.1, by rw [e 83 2 (by omega), e 221 47 (by omega)]; exact h9.2.2⟩
  exact ⟨h1, h2, h3.fr h1.1.1 (fun a i _ _ => e a i (by omega)), h4.fr (fun a i _ _ => e a i (by omega)), h5.fr ⟨e _ _ (by omega), e _ _ (by omega), e _ _ (by omega)⟩ (fun a i _ _ => e a i (by omega)), h6.fr (fun a i _ _ => e a i (by omega)), hS, h8.fr ⟨e _ _ (by omega), e _ _ (by omega), e _ _ (by omega)⟩ (fun a i _ => e a i (by omega)), q9, h10.fr ⟨e _ _ (by omega), e _ _ (by omega), e _ _ (by omega)⟩ (fun a i _ => e a i (by omega)), h11.fr (fun a i _ => e a i (by omega)), h12.fr (fun a i _ => e a i (by omega)), h13.fr (fun a i _ => e a i (by omega))⟩
theorem jisSheet (M : JMem) (x : Int32) : f_X7_isSheet M x = some (if 0 ≤ x ∧ x ≤ 5 then 1 else 0) := by
  unfold f_X7_isSheet
  rw [jisOut]
  by_cases h : 0 ≤ x ∧ x ≤ 5
  · rw [if_pos h, if_pos h]
    rfl
  · rw [if_neg h, if_neg h]
    rfl
theorem jisSheetB (M : JMem) (x : Int32) : f_X8_isSheet M x = some (if 0 ≤ x ∧ x ≤ 5 then 1 else 0) := by
  unfold f_X8_isSheet
  rw [jin_0_5]
theorem jsix {x : Int32} (h : 0 ≤ x ∧ x ≤ 5) : ∃ s, s < 6 ∧ x = nI s := by
  obtain ⟨s, -, hs, e⟩ := jnat (lo := 0) (hi := 5) h.1 h.2 (by decide) (by decide)
  exact ⟨s, by omega, e⟩
theorem jst_tear_ok : jst_tear jInv := by
  rintro M x1 ⟨F, od, S, k, q, hX⟩
  have hI : jInv M := ⟨F, od, S, k, q, hX⟩
  have hS := hX.2.2.2.2.2.2.1
  rcases jem (0 ≤ x1 ∧ x1 ≤ 5) with h1 | h1
  · exact ⟨M, M, -100001, by simp [f_X7_tear, jisSheet, h1], by simp [f_X8_tear, jisSheetB, h1], hI⟩
  obtain ⟨s, hs, rfl⟩ := jsix h1
  have h6 : (6 : Nat) ≤ 100000 := by decide
  let M1 : JMem := jup (jup M 45 s (-1)) 46 s 0
  let M2 : JMem := jup M1 233 s (-1)
  have r1 : M1 233 s = M 233 s := by simp [M1, jup_at]
  have key : ∃ r : Int32, (if M 45 s = -1 then (0 : Int32) else 1) = r ∧ (if 0 ≤ M 233 s then (1 : Int32) else 0) = r := by
    have h2 := hS.1 s hs
    cases hx : S s with
    | none =>
      rw [hx] at h2
      rw [h2.1, h2.2]
      exact ⟨0, by decide, by decide⟩
    | some y =>
      obtain ⟨f, n, c⟩ := y
      rw [hx] at h2
      obtain ⟨a1, a2, a3, a4, a5, -⟩ := h2
      refine ⟨1, ?_, ?_⟩
      · rw [a3, if_neg (jnm1 (by omega))]
      · rw [a5, if_pos (jle0 (by omega))]
  obtain ⟨r, k1, k2⟩ := key
  refine ⟨M1, M2, r, ?_, ?_, F, od, fun t => if t = s then none else S t, k, q, ?_⟩
  · unfold f_X7_tear f_X5_isThere f_X5_remove
    rw [jisSheet, if_pos h1, Option.bind_some, if_neg (by decide), jrd_nI hs h6, Option.bind_some]
    rw [← k1]
    by_cases e : M 45 s = -1
    · rw [if_pos e, if_pos e, Option.bind_some, if_pos rfl, Option.bind_some, jwr_nI hs h6, Option.bind_some, jwr_nI hs h6]
      rfl
    · rw [if_neg e, if_neg e, Option.bind_some, if_neg (by decide), Option.bind_some, jwr_nI hs h6, Option.bind_some, jwr_nI hs h6]
      rfl
  · unfold f_X8_tear
    rw [jisSheetB, if_pos h1, Option.bind_some, if_neg (by decide), jrd_nI hs h6, Option.bind_some, r1]
    rw [← k2]
    by_cases e : 0 ≤ M 233 s
    · rw [if_pos e, if_pos e, Option.bind_some, jwr_nI hs h6]
      rfl
    · rw [if_neg e, if_neg e, Option.bind_some, jwr_nI hs h6]
      rfl
  · have hf : ∀ a i, ¬ ((a = 45 ∨ a = 46 ∨ a = 233) ∧ i = s) → M2 a i = M a i := by
      intro a i h
      simp only [M2, M1, jup_at]
      repeat' rw [if_neg (by omega)]
    refine hX.sh (fun a i h => hf a i (by omega)) ⟨fun t ht => ?_, by rw [hf 44 3 (by omega), hf 221 14 (by omega)]; exact hS.2⟩
    show IS1 M2 t (if t = s then none else S t)
    by_cases e : t = s
    · rw [if_pos e, e]
      exact ⟨by simp [M2, M1, jup_at], by simp [M2, M1, jup_at]⟩
    · rw [if_neg e]
      have h2 := hS.1 t ht
      cases hx : S t with
      | none =>
        rw [hx] at h2
        exact ⟨(hf _ _ (by omega)).trans h2.1, (hf _ _ (by omega)).trans h2.2⟩
      | some y =>
        obtain ⟨f, n, c⟩ := y
        rw [hx] at h2
        obtain ⟨a1, a2, a3, a4, a5, a6, a7⟩ := h2
        exact ⟨a1, a2, (hf _ _ (by omega)).trans a3, (hf _ _ (by omega)).trans a4, (hf _ _ (by omega)).trans a5, (hf _ _ (by omega)).trans a6, fun j hj => ⟨(hf _ _ (by omega)).trans (a7 j hj).1, (hf _ _ (by omega)).trans (a7 j hj).2⟩⟩
/-- the code of a place: 1 no row, 3 no such place -/
def jcodeP (x : Option (Nat × Nat × (Nat → Int32))) (i : Int32) : Int32 := match x with
  | none => 1
  | some (_, n, _) => if 0 ≤ i ∧ i ≤ nI n - 1 then 0 else 3
theorem jthere {M : JMem} {S : ST} {s : Nat} (h : IS M S) (hs : s < 6) : f_X5_isThere M (nI s) = some (if S s = none then 0 else 1) := by
  unfold f_X5_isThere
  rw [jrd_nI hs (by decide), Option.bind_some]
  have h2 := h.1 s hs
  cases hx : S s with
  | none =>
    rw [hx] at h2
    rw [h2.1]
    rfl
  | some y =>
    obtain ⟨f, n, c⟩ := y
    rw [hx] at h2
    rw [h2.2.2.1, if_neg (jnm1 (by have := h2.1; omega))]
    rfl
theorem jplace {M : JMem} {S : ST} {s : Nat} {i : Int32} (h : IS M S) (hs : s < 6) : f_X5_codeOfPlace M (nI s) i = some (jcodeP (S s) i) := by
  unfold f_X5_codeOfPlace
  rw [jthere h hs, Option.bind_some]
  have h2 := h.1 s hs
  cases hx : S s with
  | none => rfl
  | some y =>
    obtain ⟨f, n, c⟩ := y
    rw [hx] at h2
    obtain ⟨a1, a2, a3, a4, a5, a6, a7⟩ := h2
    have e0 : (if some (f, n, c) = none then (0 : Int32) else 1) = 1 := if_neg (by simp)
    rw [e0, if_neg (show ¬ (1 : Int32) = 0 by decide)]
    show jcase _ _ = some (if 0 ≤ i ∧ i ≤ nI n - 1 then 0 else 3)
    have hle : (i ≤ nI n - 1) ↔ i < nI n := by
      rw [Int32.le_iff_toInt_le, Int32.lt_iff_toInt_lt, jpred_toInt (by omega), nI_toInt (by omega)]
      omega
    by_cases e1 : i < 0
    · rw [if_pos e1, if_neg (fun z => absurd e1 ((jcmp_gt _ _).mpr z.1))]
      rfl
    · rw [if_neg e1, jrd_nI hs (by decide), Option.bind_some, a4]
      by_cases e2 : i < nI n
      · rw [if_pos e2, if_pos ⟨(jcmp_gt _ _).mp e1, hle.mpr e2⟩]
        rfl
      · rw [if_neg e2, if_neg (fun z => e2 (hle.mp z.2))]
        rfl
theorem jcodeP_0 {x : Option (Nat × Nat × (Nat → Int32))} {i : Int32} (h : jcodeP x i = 0) (hn : ∀ f n c, x = some (f, n, c) → n ≤ 40) : ∃ f n c j, x = some (f, n, c) ∧ j < n ∧ i = nI j := by
  cases x with
  | none =>
    have h2 : (1 : Int32) = 0 := h
    exact absurd h2 (by decide)
  | some y =>
    obtain ⟨f, n, c⟩ := y
    have h2 : (if 0 ≤ i ∧ i ≤ nI n - 1 then (0 : Int32) else 3) = 0 := h
    by_cases e : 0 ≤ i ∧ i ≤ nI n - 1
    · obtain ⟨j, hj, e2⟩ := (jbelow (by have := hn f n c rfl; omega)).mp e
      exact ⟨f, n, c, j, rfl, hj, e2⟩
    · rw [if_neg e] at h2
      exact absurd h2 (by decide)
theorem jcodeP_n {x : Option (Nat × Nat × (Nat → Int32))} {i : Int32} (h : ¬ jcodeP x i = 0) : jcodeP x i = 1 ∨ jcodeP x i = 3 := by
  cases x with
  | none => exact Or.inl rfl
  | some y =>
    obtain ⟨f, n, c⟩ := y
    right
    show (if 0 ≤ i ∧ i ≤ nI n - 1 then (0 : Int32) else 3) = 3
    have h2 : ¬ (if 0 ≤ i ∧ i ≤ nI n - 1 then (0 : Int32) else 3) = 0 := h
    by_cases e : 0 ≤ i ∧ i ≤ nI n - 1
    · rw [if_pos e] at h2
      exact absurd rfl h2
    · rw [if_neg e]
theorem IS.n40 {M : JMem} {S : ST} (h : IS M S) {s : Nat} (hs : s < 6) : ∀ f n c, S s = some (f, n, c) → n ≤ 40 := by
  intro f n c e
  have h2 := h.1 s hs
  rw [e] at h2
  exact h2.2.1
/-- a code that is told, nothing else -/
theorem IS.code {M M2 : JMem} {S : ST} {v : Int32} (h : IS M S) (e1 : M2 44 3 = v) (e2 : M2 221 14 = v) (hf : ∀ a i, ¬ ((a = 44 ∧ i = 3) ∨ (a = 221 ∧ i = 14)) → M2 a i = M a i) : IS M2 S := by
  have h3 : IS (fun a i => if a = 44 ∧ i = 3 then v else if a = 221 ∧ i = 14 then v else M a i) S := by
    refine ⟨fun s hs => ?_, rfl⟩
    have h2 := h.1 s hs
    cases hx : S s with
    | none => rw [hx] at h2; exact h2
    | some y =>
      obtain ⟨f, n, c⟩ := y
      rw [hx] at h2
      obtain ⟨a1, a2, a3, a4, a5, a6, a7⟩ := h2
      refine ⟨a1, a2, a3, a4, a5, a6, fun j hj => ⟨?_, (a7 j hj).2⟩⟩
      show (if 47 + 1 + s = 44 ∧ j = 3 then v else if 47 + 1 + s = 221 ∧ j = 14 then v else M (47 + 1 + s) j) = c j
      rw [if_neg (by omega), if_neg (by omega)]
      exact (a7 j hj).1
  have e : M2 = (fun a i => if a = 44 ∧ i = 3 then v else if a = 221 ∧ i = 14 then v else M a i) := by
    funext a i
    by_cases q1 : a = 44 ∧ i = 3
    · rw [if_pos q1, q1.1, q1.2, e1]
    · rw [if_neg q1]
      by_cases q2 : a = 221 ∧ i = 14
      · rw [if_pos q2, q2.1, q2.2, e2]
      · rw [if_neg q2]
        exact hf a i (by omega)
  rw [e]
  exact h3
theorem jst_at_ok : jst_at jInv := by
  rintro M x1 x2 ⟨F, od, S, k, q, hX⟩
  have hI : jInv M := ⟨F, od, S, k, q, hX⟩
  have hS := hX.2.2.2.2.2.2.1
  rcases jem (0 ≤ x1 ∧ x1 ≤ 5) with h1 | h1
  · exact ⟨M, M, -100001, by simp [f_X7_at, jisSheet, h1], by simp [f_X8_at, jisSheetB, h1], hI⟩
  obtain ⟨s, hs, rfl⟩ := jsix h1
  have h6 : (6 : Nat) ≤ 100000 := by decide
  generalize hv : jcodeP (S s) x2 = v
  let M1 : JMem := jup M 44 3 v
  let M2 : JMem := jup M1 221 14 v
  have m1 : M1 44 3 = v := by simp [M1, jup_at]
  have m2 : M2 221 14 = v := by simp [M2, jup_at]
  have hf1 : ∀ a i, ¬ (a = 44 ∧ i = 3) → M1 a i = M a i := by
    intro a i h
    simp only [M1, jup_at]
    rw [if_neg (by omega)]
  have hf : ∀ a i, ¬ ((a = 44 ∧ i = 3) ∨ (a = 221 ∧ i = 14)) → M2 a i = M a i := by
    intro a i h
    simp only [M2, M1, jup_at]
    repeat' rw [if_neg (by omega)]
  have hI2 : jInv M2 := ⟨F, od, S, k, q, hX.sh (fun a i h => hf a i (by omega)) (hS.code (v := v) (by simp [M2, M1, jup_at]) m2 hf)⟩
  -- the model's code is the same
  have hb : ∀ g : Int32 → Option (JMem × Int32), ((jrd M1 233 6 (nI s)).bind fun v2 => (((if 0 ≤ v2 then (jrd M1 233 6 (nI s)).bind fun v8 => (if (jin3 x2.toInt64 0 ((v8 - 1).toInt64)) = 0 then some (3) else some (0)) else some (1)) : Option (Int32)).bind g)) = g v := by
    intro g
    rw [jrd_nI hs h6, Option.bind_some, hf1 233 s (by omega), Option.bind_some, ← hv]
    have h2 := hS.1 s hs
    cases hx : S s with
    | none =>
      rw [hx] at h2
      rw [h2.2, if_neg (by decide)]
      rfl
    | some y =>
      obtain ⟨f, n, c⟩ := y
      rw [hx] at h2
      obtain ⟨a1, a2, a3, a4, a5, a6, a7⟩ := h2
      rw [a5, if_pos (jle0 (by omega)), jin_0_v]
      show _ = g (if 0 ≤ x2 ∧ x2 ≤ nI n - 1 then 0 else 3)
      by_cases e : 0 ≤ x2 ∧ x2 ≤ nI n - 1
      · rw [if_pos e, if_pos e, if_neg (by decide)]
        rfl
      · rw [if_neg e, if_neg e, if_pos rfl]
        rfl
  have eA : f_X7_at M (nI s) x2 = if v = 0 then ((jrw 47 6 (nI s)).bind fun w4 => (jrd M1 w4 40 x2).bind fun v5 => some (M1, v5)) else some (M1, 0) := by
    unfold f_X7_at
    rw [jisSheet, if_pos h1, Option.bind_some, if_neg (by decide), jplace hS hs, hv, Option.bind_some, Option.bind_some]
    show (if M1 44 3 = 0 then _ else _) = _
    rw [m1]
  have eB : f_X8_at M1 (nI s) x2 = if v ≤ 0 then ((jrd M2 235 240 ((40 * nI s) + x2)).bind fun v13 => some (M2, v13)) else some (M2, 0) := by
    unfold f_X8_at
    rw [jisSheetB, if_pos h1, Option.bind_some, if_neg (by decide), hb]
    show (if M2 221 14 ≤ 0 then _ else _) = _
    rw [m2]
  rcases jem (v = 0) with h2 | h2
  · have h3 : ¬ v ≤ 0 := by
      rw [← hv] at h2 ⊢
      rcases jcodeP_n h2 with e | e <;> rw [e] <;> decide
    exact ⟨M1, M2, 0, by rw [eA, if_neg h2], by rw [eB, if_neg h3], hI2⟩
  · have h3 : v ≤ 0 := by rw [h2]; decide
    obtain ⟨f, n, c, j, ex, hj, rfl⟩ := jcodeP_0 (hv.trans h2) (hS.n40 hs)
    have h4 := hS.1 s hs
    rw [ex] at h4
    obtain ⟨a1, a2, a3, a4, a5, a6, a7⟩ := h4
    refine ⟨M1, M2, c j, ?_, ?_, hI2⟩
    · rw [eA, if_pos h2, jrw_nI hs h6, Option.bind_some, jrd_nI (by omega) (by decide), Option.bind_some, hf1 _ _ (by omega), (a7 j hj).1]
    · rw [eB, if_pos h3, jmul40, nI_add, jrd_nI (by omega) (by decide), Option.bind_some, hf _ _ (by omega), (a7 j hj).2]
