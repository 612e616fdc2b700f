/-- the code of put -/
def jcodeU (x : Option (Nat × Nat × (Nat → Int32))) (f i : Int32) : Int32 := match x with
  | none => 1
  | some (g, n, _) => if nI g = f then (if 0 ≤ i ∧ i ≤ nI n - 1 then 0 else 3) else 2
def jcut (f v : Int32) : Int32 := if f = 0 then v.toInt8.toInt32 else if f = 1 then v.toInt16.toInt32 else v
theorem jcutTo (M : JMem) (f v : Int32) : f_X5_cutTo M f v = some (jcut f v) := by
  unfold f_X5_cutTo jcut
  repeat' split
  all_goals first | rfl | contradiction
theorem jputA {M : JMem} {S : ST} {s : Nat} {f i : Int32} (h : IS M S) (hs : s < 6) : f_X5_codeOfPut M (nI s) f i = some (jcodeU (S s) f i) := by
  unfold f_X5_codeOfPut
  rw [jthere h hs, Option.bind_some, jplace h hs, Option.bind_some]
  have h2 := h.1 s hs
  cases hx : S s with
  | none => rfl
  | some y =>
    obtain ⟨g, n, c⟩ := y
    rw [hx] at h2
    have e0 : (if some (g, n, c) = none then (0 : Int32) else 1) = 1 := if_neg (by simp)
    rw [e0, if_neg (show ¬ (1 : Int32) = 0 by decide), jrd_nI hs (by decide), Option.bind_some, h2.2.2.1]
    show jcase _ _ = some (if nI g = f then (if 0 ≤ i ∧ i ≤ nI n - 1 then 0 else 3) else 2)
    by_cases e : nI g = f
    · rw [if_pos e, if_pos e]
      rfl
    · rw [if_neg e, if_neg e]
      rfl
theorem jputB {M M1 : JMem} {S : ST} {s : Nat} {f i : Int32} (h : IS M S) (hs : s < 6) (hf : ∀ a i, a = 233 ∨ a = 234 → M1 a i = M a i) (g : Int32 → Option (JMem × Int32)) : ((jrd M1 233 6 (nI s)).bind fun v2 => (((if 0 ≤ v2 then (jrd M1 234 6 (nI s)).bind fun v8 => (if v8 = f then (jrd M1 233 6 (nI s)).bind fun v9 => (if (jin3 i.toInt64 0 ((v9 - 1).toInt64)) = 0 then some (3) else some (0)) else some (2)) else some (1)) : Option (Int32)).bind g)) = g (jcodeU (S s) f i) := by
  rw [jrd_nI hs (by decide), jrd_nI hs (by decide), Option.bind_some, hf 233 s (by omega), hf 234 s (by omega), Option.bind_some, Option.bind_some]
  have h2 := h.1 s hs
  cases hx : S s with
  | none =>
    rw [hx] at h2
    rw [h2.2, if_neg (by decide)]
    rfl
  | some y =>
    obtain ⟨k, n, c⟩ := y
    rw [hx] at h2
    obtain ⟨a1, a2, a3, a4, a5, a6, a7⟩ := h2
    rw [a5, a6, if_pos (jle0 (by omega)), jin_0_v]
    show _ = g (if nI k = f then (if 0 ≤ i ∧ i ≤ nI n - 1 then 0 else 3) else 2)
    by_cases e : nI k = f
    · rw [if_pos e, if_pos e]
      by_cases e2 : 0 ≤ i ∧ i ≤ nI n - 1
      · rw [if_pos e2, if_pos e2, if_neg (by decide)]
        rfl
      · rw [if_neg e2, if_neg e2, if_pos rfl]
        rfl
    · rw [if_neg e, if_neg e]
      rfl
theorem jcodeU_n {x : Option (Nat × Nat × (Nat → Int32))} {f i : Int32} (h : ¬ jcodeU x f i = 0) : jcodeU x f i = 1 ∨ jcodeU x f i = 2 ∨ jcodeU x f i = 3 := by
  cases x with
  | none => exact Or.inl rfl
  | some y =>
    obtain ⟨g, n, c⟩ := y
    have h2 : ¬ (if nI g = f then (if 0 ≤ i ∧ i ≤ nI n - 1 then (0 : Int32) else 3) else 2) = 0 := h
    show (if nI g = f then (if 0 ≤ i ∧ i ≤ nI n - 1 then (0 : Int32) else 3) else 2) = 1 ∨ (if nI g = f then (if 0 ≤ i ∧ i ≤ nI n - 1 then (0 : Int32) else 3) else 2) = 2 ∨ (if nI g = f then (if 0 ≤ i ∧ i ≤ nI n - 1 then (0 : Int32) else 3) else 2) = 3
    by_cases e : nI g = f
    · rw [if_pos e] at h2 ⊢
      by_cases e2 : 0 ≤ i ∧ i ≤ nI n - 1
      · rw [if_pos e2] at h2
        exact absurd rfl h2
      · rw [if_neg e2]
        exact Or.inr (Or.inr rfl)
    · rw [if_neg e]
      exact Or.inr (Or.inl rfl)
theorem jcodeU_0 {x : Option (Nat × Nat × (Nat → Int32))} {f i : Int32} (h : jcodeU x f i = 0) (hn : ∀ f n c, x = some (f, n, c) → n ≤ 40) : ∃ g n c j, x = some (g, n, c) ∧ f = nI g ∧ j < n ∧ i = nI j := by
  cases x with
  | none =>
    have h2 : (1 : Int32) = 0 := h
    exact absurd h2 (by decide)
  | some y =>
    obtain ⟨g, n, c⟩ := y
    have h2 : (if nI g = f then (if 0 ≤ i ∧ i ≤ nI n - 1 then (0 : Int32) else 3) else 2) = 0 := h
    by_cases e : nI g = f
    · rw [if_pos e] at h2
      by_cases e2 : 0 ≤ i ∧ i ≤ nI n - 1
      · obtain ⟨j, hj, e3⟩ := (jbelow (by have := hn g n c rfl; omega)).mp e2
        exact ⟨g, n, c, j, rfl, e.symm, hj, e3⟩
      · rw [if_neg e2] at h2
        exact absurd h2 (by decide)
    · rw [if_neg e] at h2
      exact absurd h2 (by decide)
/-- one sheet anew, the code 0 -/
theorem IS.one {M M2 : JMem} {S : ST} {s : Nat} {x : Option (Nat × Nat × (Nat → Int32))} (h : IS M S) (hs : s < 6) (hc : M2 44 3 = M2 221 14) (hx : IS1 M2 s x) (hf : ∀ a i, (((a = 45 ∨ a = 46 ∨ a = 233 ∨ a = 234) ∧ i ≠ s) ∨ (48 ≤ a ∧ a ≤ 53 ∧ a ≠ 48 + s) ∨ (a = 235 ∧ (i < 40 * s ∨ 40 * s + 40 ≤ i))) → M2 a i = M a i) : IS M2 (fun t => if t = s then x else S t) := by
  refine ⟨fun t ht => ?_, hc⟩
  show IS1 M2 t (if t = s then x else S t)
  by_cases e : t = s
  · rw [if_pos e, e]
    exact hx
  · rw [if_neg e]
    have h2 := h.1 t ht
    cases hy : S t with
    | none =>
      rw [hy] at h2
      exact ⟨(hf _ _ (by omega)).trans h2.1, (hf _ _ (by omega)).trans h2.2⟩
    | some y =>
      obtain ⟨f, n, c⟩ := y
      rw [hy] at h2
      obtain ⟨a1, a2, a3, a4, a5, a6, a7⟩ := h2
      exact ⟨a1, a2, (hf _ _ (by omega)).trans a3, (hf _ _ (by omega)).trans a4, (hf _ _ (by omega)).trans a5, (hf _ _ (by omega)).trans a6, fun j hj => ⟨(hf _ _ (by omega)).trans (a7 j hj).1, (hf _ _ (by omega)).trans (a7 j hj).2⟩⟩
theorem jst_put_ok : jst_put jInv := by
  rintro M x1 x2 x3 x4 ⟨F, od, S, k, q, hX⟩
  have hI : jInv M := ⟨F, od, S, k, q, hX⟩
  have hS := hX.2.2.2.2.2.2.1
  rcases jem (0 ≤ x1 ∧ x1 ≤ 5) with h1 | h1
  · exact ⟨M, M, -100001, by simp [f_X7_put, jisSheet, h1], by simp [f_X8_put, jisSheetB, h1], hI⟩
  rcases jem (0 ≤ x2 ∧ x2 ≤ 2) with h0 | h0
  · exact ⟨M, M, -100002, by simp [f_X7_put, jisSheet, h1, jisOut, h0], by simp [f_X8_put, jisSheetB, h1, jin_0_2, h0], hI⟩
  obtain ⟨s, hs, rfl⟩ := jsix h1
  have h6 : (6 : Nat) ≤ 100000 := by decide
  generalize hv : jcodeU (S s) x2 x3 = v
  have eA : f_X7_put M (nI s) x2 x3 x4 = if v = 0 then ((jrw 47 6 (nI s)).bind fun w5 => (f_X5_cutTo (jup M 44 3 v) x2 x4).bind fun v6 => (jwr (jup M 44 3 v) w5 40 x3 v6).bind fun M7 => (jrw 47 6 (nI s)).bind fun w8 => (jrd M7 w8 40 x3).bind fun v9 => some (M7, v9)) else some (jup M 44 3 v, 0) := by
    unfold f_X7_put
    rw [jisSheet, if_pos h1, Option.bind_some, if_neg (by decide), jisOut, if_pos h0, Option.bind_some, if_pos rfl, jputA hS hs, hv, Option.bind_some, Option.bind_some, jup_eq]
  have eB : ∀ M1 : JMem, (∀ a i, a = 233 ∨ a = 234 → M1 a i = M a i) → f_X8_put M1 (nI s) x2 x3 x4 = if v ≤ 0 then ((((if x2 = 0 then some (x4.toInt8.toInt32) else (if x2 = 1 then some (x4.toInt16.toInt32) else some (x4))) : Option (Int32)).bind fun u22 => (jwr (jup M1 221 14 v) 235 240 ((40 * nI s) + x3) u22).bind fun M23 => (jrd M23 235 240 ((40 * nI s) + x3)).bind fun v24 => some (M23, v24))) else some (jup M1 221 14 v, 0) := by
    intro M1 hf1
    unfold f_X8_put
    rw [jisSheetB, if_pos h1, Option.bind_some, if_neg (by decide), jin_0_2, if_pos h0, if_neg (by decide), jputB hS hs hf1, hv, Option.bind_some, jup_eq]
  rcases jem (v = 0) with h2 | h2
  · have h3 : ¬ v ≤ 0 := by
      rw [← hv] at h2 ⊢
      rcases jcodeU_n h2 with e | e | e <;> rw [e] <;> decide
    let M1 : JMem := jup M 44 3 v
    let M2 : JMem := jup M1 221 14 v
    have hf : ∀ a i, ¬ ((a = 44 ∧ i = 3) ∨ (a = 221 ∧ i = 14)) → M2 a i = M a i := by
      intro a i h
      simp only [M2, M1, jup_at]
      repeat' rw [if_neg (by omega)]
    refine ⟨M1, M2, 0, by rw [eA, if_neg h2], by rw [eB M1 (fun a i h => by simp only [M1, jup_at]; rw [if_neg (by omega)]), if_neg h3], F, od, S, k, q, hX.sh (fun a i h => hf a i (by omega)) (hS.code (v := v) (by simp [M2, M1, jup_at]) (by simp [M2, jup_at]) hf)⟩
  · have h3 : v ≤ 0 := by rw [h2]; decide
    obtain ⟨f, n, c, j, ex, ef, hj, rfl⟩ := jcodeU_0 (hv.trans h2) (hS.n40 hs)
    have h4 := hS.1 s hs
    rw [ex] at h4
    obtain ⟨a1, a2, a3, a4, a5, a6, a7⟩ := h4
    let M1 : JMem := jup (jup M 44 3 v) (47 + 1 + s) j (jcut x2 x4)
    let M2 : JMem := jup (jup M1 221 14 v) 235 (40 * s + j) (jcut x2 x4)
    have hf : ∀ a i, ¬ ((a = 44 ∧ i = 3) ∨ (a = 48 + s ∧ i = j) ∨ (a = 221 ∧ i = 14) ∨ (a = 235 ∧ i = 40 * s + j)) → M2 a i = M a i := by
      intro a i h
      simp only [M2, M1, jup_at]
      repeat' rw [if_neg (by omega)]
    have hu : (((if x2 = 0 then some (x4.toInt8.toInt32) else (if x2 = 1 then some (x4.toInt16.toInt32) else some (x4))) : Option (Int32))) = some (jcut x2 x4) := by
      unfold jcut
      repeat' split
      all_goals first | rfl | contradiction
    refine ⟨M1, M2, jcut x2 x4, ?_, ?_, F, od, fun t => if t = s then some (f, n, upd c j (jcut x2 x4)) else S t, k, q, hX.sh (fun a i h => hf a i (by omega)) (hS.one hs ?_ ?_ (fun a i h => hf a i (by omega)))⟩
    · rw [eA, if_pos h2, jrw_nI hs h6, Option.bind_some, jcutTo, Option.bind_some, jwr_nI (by omega) (by decide), Option.bind_some, Option.bind_some, jrd_nI (by omega) (by decide), Option.bind_some, jup_eq]
    · rw [eB M1 (fun a i h => by simp only [M1, jup_at]; rw [if_neg (by omega), if_neg (by omega)]), if_pos h3, hu, Option.bind_some, jmul40, nI_add, jwr_nI (by omega) (by decide), Option.bind_some, jrd_nI (by omega) (by decide), Option.bind_some, jup_eq]
    · simp [M2, M1, jup_at]
      omega
    · refine ⟨a1, a2, (hf _ _ (by omega)).trans a3, (hf _ _ (by omega)).trans a4, (hf _ _ (by omega)).trans a5, (hf _ _ (by omega)).trans a6, fun i hi => ?_⟩
      unfold upd
      by_cases e : i = j
      · subst e
        rw [if_pos rfl]
        exact ⟨by simp [M2, M1, jup_at]; omega, by simp [M2, M1, jup_at]⟩
      · rw [if_neg e]
        exact ⟨(hf _ _ (by omega)).trans (a7 i hi).1, (hf _ _ (by omega)).trans (a7 i hi).2⟩
