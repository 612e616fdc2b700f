/-! copy -/
theorem IX.shc {M M2 : JMem} {F : FT} {od : Nat → Nat → Nat} {S S' : ST} {k q : Nat} (h : IX M F od S k q) (e : ∀ a i, jcore a i → ¬ (a = 44 ∨ (45 ≤ a ∧ a ≤ 53) ∨ (a = 221 ∧ i = 14) ∨ (233 ≤ a ∧ a ≤ 235)) → M2 a i = M a i) (hS : IS M2 S') : IX M2 F od S' k q := by
  obtain ⟨h1, h2, h3, h4, h5, h6, -, h8, h9, h10, h11, h12, h13⟩ := h
  have q9 : IQ M2 := ⟨by rw [e 83 0 (by unfold jcore; omega) (by omega), e 221 45 (by unfold jcore; omega) (by omega)]; exact h9.1, by rw [e 83 1 (by unfold jcore; omega) (by omega), e 221 46 (by unfold jcore; omega) (by omega)]; exact h9.2.1, by rw [e 83 2 (by unfold jcore; omega) (by omega), e 221 47 (by unfold jcore; omega) (by omega)]; exact h9.2.2⟩
  refine ⟨h1, h2, h3.fr h1.1.1 (fun a i _ _ => e a i ?_ ?_), h4.fr (fun a i _ _ => e a i ?_ ?_), h5.fr ⟨e _ _ ?_ ?_, e _ _ ?_ ?_, e _ _ ?_ ?_⟩ (fun a i _ _ => e a i ?_ ?_), h6.fr (fun a i _ _ => e a i ?_ ?_), hS, h8.fr ⟨e _ _ ?_ ?_, e _ _ ?_ ?_, e _ _ ?_ ?_⟩ (fun a i _ => e a i ?_ ?_), q9, h10.fr ⟨e _ _ ?_ ?_, e _ _ ?_ ?_, e _ _ ?_ ?_⟩ (fun a i _ => e a i ?_ ?_), h11.fr (fun a i _ => e a i ?_ ?_), h12.fr (fun a i _ => e a i ?_ ?_), h13.fr (fun a i _ => e a i ?_ ?_)⟩
  all_goals (first | omega | (unfold jcore; omega))
def jfit (n : Nat) (i k : Int32) : Prop := 0 ≤ i.toInt ∧ 0 ≤ k.toInt ∧ i.toInt + k.toInt ≤ n
theorem jlt0 (x : Int32) : x < 0 ↔ x.toInt < 0 := by
  rw [Int32.lt_iff_toInt_lt]
  rfl
theorem jfitA {M : JMem} {n s : Nat} {i k : Int32} (hn : n ≤ 40) (hs : s < 6) (h : M 46 s = nI n) : (jfit n i k ∧ f_X5_hasPlaces M (nI s) i k = some 1) ∨ (¬ jfit n i k ∧ f_X5_hasPlaces M (nI s) i k = some 0) := by
  have en := nI_toInt (show n < 2 ^ 31 by omega)
  unfold f_X5_hasPlaces jfit
  by_cases h1 : i < 0
  · rw [if_pos h1]
    rw [jlt0] at h1
    exact Or.inr ⟨fun z => by omega, rfl⟩
  · rw [if_neg h1]
    rw [jlt0] at h1
    by_cases h2 : k < 0
    · rw [if_pos h2]
      rw [jlt0] at h2
      exact Or.inr ⟨fun z => by omega, rfl⟩
    · rw [if_neg h2, jrd_nI hs (by decide)]
      rw [jlt0] at h2
      simp only [Option.bind_some]
      rw [h]
      by_cases h3 : nI n < k
      · rw [if_pos h3]
        rw [Int32.lt_iff_toInt_lt, en] at h3
        exact Or.inr ⟨fun z => by omega, rfl⟩
      · rw [if_neg h3]
        rw [Int32.lt_iff_toInt_lt, en] at h3
        have e0 : (nI 0).toInt = 0 := rfl
        obtain ⟨k', -, hk', rfl⟩ := jnat (x := k) (lo := 0) (hi := n) (by rw [Int32.le_iff_toInt_le, e0]; omega) (by rw [Int32.le_iff_toInt_le, en]; omega) (by omega) (by omega)
        have ek := nI_toInt (show k' < 2 ^ 31 by omega)
        rw [jsubN hk']
        by_cases h4 : nI (n - k') < i
        · rw [if_pos h4]
          rw [Int32.lt_iff_toInt_lt, nI_toInt (by omega)] at h4
          exact Or.inr ⟨fun z => by omega, rfl⟩
        · rw [if_neg h4]
          rw [Int32.lt_iff_toInt_lt, nI_toInt (by omega)] at h4
          exact Or.inl ⟨by omega, rfl⟩
theorem jlsum (i k v : Int32) : (0 < lg_cmp (i.toInt64 + k.toInt64) v.toInt64) ↔ v.toInt < i.toInt + k.toInt := by
  have h1 := Int32.toInt_lt i
  have h2 := Int32.le_toInt i
  have h3 := Int32.toInt_lt k
  have h4 := Int32.le_toInt k
  rw [lg_cmp_gt, Int64.lt_iff_toInt_lt, Int64.toInt_add, Int32.toInt_toInt64, Int32.toInt_toInt64, Int32.toInt_toInt64, Int.bmod_eq_of_le (by omega) (by omega)]
theorem jcopU {M : JMem} {s r : Nat} (x2 x4 x5 : Int32) (hs : s < 6) (hr : r < 6) : ∃ u : Int32, ((jcase (α := Int32) (β := Unit) (if x2 < 0 then some (Sum.inr ()) else (if x4 < 0 then some (Sum.inr ()) else (if x5 < 0 then some (Sum.inr ()) else (jrd M 233 6 (nI s)).bind fun v13 => (if 0 < (lg_cmp (x2.toInt64 + x5.toInt64) v13.toInt64) then some (Sum.inr ()) else (jrd M 233 6 (nI r)).bind fun v14 => (if 0 < (lg_cmp (x4.toInt64 + x5.toInt64) v14.toInt64) then some (Sum.inr ()) else some (Sum.inl (1))))))) fun _ => some (0)) : Option (Int32)) = some u ∧ ((u = 1 ∧ 0 ≤ x2.toInt ∧ 0 ≤ x4.toInt ∧ 0 ≤ x5.toInt ∧ x2.toInt + x5.toInt ≤ (M 233 s).toInt ∧ x4.toInt + x5.toInt ≤ (M 233 r).toInt) ∨ (u = 0 ∧ ¬ (0 ≤ x2.toInt ∧ 0 ≤ x4.toInt ∧ 0 ≤ x5.toInt ∧ x2.toInt + x5.toInt ≤ (M 233 s).toInt ∧ x4.toInt + x5.toInt ≤ (M 233 r).toInt))) := by
  rw [jrd_nI hs (by decide), jrd_nI hr (by decide)]
  simp only [Option.bind_some, jlsum, jlt0]
  by_cases h1 : x2.toInt < 0
  · rw [if_pos h1]
    exact ⟨0, rfl, Or.inr ⟨rfl, fun z => by omega⟩⟩
  · rw [if_neg h1]
    by_cases h2 : x4.toInt < 0
    · rw [if_pos h2]
      exact ⟨0, rfl, Or.inr ⟨rfl, fun z => by omega⟩⟩
    · rw [if_neg h2]
      by_cases h3 : x5.toInt < 0
      · rw [if_pos h3]
        exact ⟨0, rfl, Or.inr ⟨rfl, fun z => by omega⟩⟩
      · rw [if_neg h3]
        by_cases h4 : (M 233 s).toInt < x2.toInt + x5.toInt
        · rw [if_pos h4]
          exact ⟨0, rfl, Or.inr ⟨rfl, fun z => by omega⟩⟩
        · rw [if_neg h4]
          by_cases h5 : (M 233 r).toInt < x4.toInt + x5.toInt
          · rw [if_pos h5]
            exact ⟨0, rfl, Or.inr ⟨rfl, fun z => by omega⟩⟩
          · rw [if_neg h5]
            exact ⟨1, rfl, Or.inl ⟨rfl, by omega⟩⟩
theorem jnatI {x : Int32} (h : 0 ≤ x.toInt) : ∃ k, x = nI k ∧ x.toInt = k := by
  have h1 := Int32.toInt_lt x
  refine ⟨x.toInt.toNat, ?_, by omega⟩
  apply Int32.toInt_inj.mp
  rw [nI_toInt (by omega)]
  omega
theorem jcopyC {M : JMem} {S : ST} {s r : Nat} (x2 x4 x5 : Int32) (h : IS M S) (hs : s < 6) (hr : r < 6) : ∃ v, f_X5_codeOfCopy M (nI s) x2 (nI r) x4 x5 = some v ∧
    (∀ M1 : JMem, (∀ a i, a = 233 ∨ a = 234 → M1 a i = M a i) → ∀ g : Int32 → Option (JMem × Int32), (((jcase (α := Int32) (β := Unit) (if x2 < 0 then some (Sum.inr ()) else (if x4 < 0 then some (Sum.inr ()) else (if x5 < 0 then some (Sum.inr ()) else (jrd M1 233 6 (nI s)).bind fun v13 => (if 0 < (lg_cmp (x2.toInt64 + x5.toInt64) v13.toInt64) then some (Sum.inr ()) else (jrd M1 233 6 (nI r)).bind fun v14 => (if 0 < (lg_cmp (x4.toInt64 + x5.toInt64) v14.toInt64) then some (Sum.inr ()) else some (Sum.inl (1))))))) fun _ => some (0)) : Option (Int32)).bind fun u20 => (jrd M1 233 6 (nI s)).bind fun v21 => (((jcase (α := Int32) (β := Unit) (if v21 < 0 then some (Sum.inr ()) else (jrd M1 233 6 (nI r)).bind fun v32 => (if 0 ≤ v32 then (jrd M1 234 6 (nI s)).bind fun v33 => (jrd M1 234 6 (nI r)).bind fun v34 => (if v33 = v34 then (if u20 = 0 then some (Sum.inl (3)) else some (Sum.inl (0))) else some (Sum.inl (2))) else some (Sum.inr ()))) fun _ => some (1)) : Option (Int32)).bind g)) = g v) ∧
    ((¬ v = 0 ∧ ¬ v ≤ 0) ∨ (v = 0 ∧ ∃ f n c n' c' i j k, S s = some (f, n, c) ∧ S r = some (f, n', c') ∧ x2 = nI i ∧ x4 = nI j ∧ x5 = nI k ∧ i + k ≤ n ∧ j + k ≤ n')) := by
  have n10 : ¬ (1 : Int32) = 0 := by decide
  have tA := jthere h hs
  have tB := jthere h hr
  have q1 := h.1 s hs
  have q2 := h.1 r hr
  unfold f_X5_codeOfCopy
  rw [tA, tB, jrd_nI hs (by decide), jrd_nI hr (by decide)]
  simp only [Option.bind_some]
  cases e1 : S s with
  | none =>
    rw [e1] at q1
    refine ⟨1, by rw [if_pos rfl, if_pos rfl], fun M1 hf g => ?_, Or.inl ⟨by decide, by decide⟩⟩
    obtain ⟨u, e, -⟩ := jcopU (M := M1) x2 x4 x5 hs hr
    rw [e, Option.bind_some, jrd_nI hs (by decide), Option.bind_some, hf 233 s (by omega), q1.2, if_pos (by decide)]
    rfl
  | some y1 =>
    obtain ⟨f, n, c⟩ := y1
    rw [e1] at q1
    obtain ⟨a1, a2, a3, a4, a5, a6, a7⟩ := q1
    rw [if_neg (show ¬ (some (f, n, c) = none) by simp), if_neg n10]
    cases e2 : S r with
    | none =>
      rw [e2] at q2
      refine ⟨1, by rw [if_pos rfl, if_pos rfl], fun M1 hf g => ?_, Or.inl ⟨by decide, by decide⟩⟩
      obtain ⟨u, e, -⟩ := jcopU (M := M1) x2 x4 x5 hs hr
      rw [e, Option.bind_some, jrd_nI hs (by decide), Option.bind_some, hf 233 s (by omega), a5, if_neg (jnlt0 (by omega)), jrd_nI hr (by decide), Option.bind_some, hf 233 r (by omega), q2.2, if_neg (by decide)]
      rfl
    | some y2 =>
      obtain ⟨f', n', c'⟩ := y2
      rw [e2] at q2
      obtain ⟨b1, b2, b3, b4, b5, b6, b7⟩ := q2
      rw [if_neg (show ¬ (some (f', n', c') = none) by simp), if_neg n10, a3, b3]
      have key : ∀ (M1 : JMem), (∀ a i, a = 233 ∨ a = 234 → M1 a i = M a i) → ∀ (g : Int32 → Option (JMem × Int32)) (u : Int32), ((jrd M1 233 6 (nI s)).bind fun v21 => (((jcase (α := Int32) (β := Unit) (if v21 < 0 then some (Sum.inr ()) else (jrd M1 233 6 (nI r)).bind fun v32 => (if 0 ≤ v32 then (jrd M1 234 6 (nI s)).bind fun v33 => (jrd M1 234 6 (nI r)).bind fun v34 => (if v33 = v34 then (if u = 0 then some (Sum.inl (3)) else some (Sum.inl (0))) else some (Sum.inl (2))) else some (Sum.inr ()))) fun _ => some (1)) : Option (Int32)).bind g)) = g (if nI f = nI f' then (if u = 0 then 3 else 0) else 2) := by
        intro M1 hf g u
        rw [jrd_nI hs (by decide), Option.bind_some, hf 233 s (by omega), a5, if_neg (jnlt0 (by omega)), jrd_nI hr (by decide), Option.bind_some, hf 233 r (by omega), b5, if_pos (jle0 (by omega)), jrd_nI hs (by decide), Option.bind_some, jrd_nI hr (by decide), Option.bind_some, hf 234 s (by omega), hf 234 r (by omega), a6, b6]
        repeat' split
        all_goals rfl
      have en := nI_toInt (show n < 2 ^ 31 by omega)
      have en' := nI_toInt (show n' < 2 ^ 31 by omega)
      by_cases ef : nI f = nI f'
      · have ef2 : f = f' := (nI_eq (by omega) (by omega)).mp ef
        rw [if_pos ef]
        have full : ∀ v : Int32, ((v = 0 ∧ jfit n x2 x5 ∧ jfit n' x4 x5) ∨ (v = 3 ∧ ¬ (jfit n x2 x5 ∧ jfit n' x4 x5))) → ∀ (M1 : JMem), (∀ a i, a = 233 ∨ a = 234 → M1 a i = M a i) → ∀ (g : Int32 → Option (JMem × Int32)), (((jcase (α := Int32) (β := Unit) (if x2 < 0 then some (Sum.inr ()) else (if x4 < 0 then some (Sum.inr ()) else (if x5 < 0 then some (Sum.inr ()) else (jrd M1 233 6 (nI s)).bind fun v13 => (if 0 < (lg_cmp (x2.toInt64 + x5.toInt64) v13.toInt64) then some (Sum.inr ()) else (jrd M1 233 6 (nI r)).bind fun v14 => (if 0 < (lg_cmp (x4.toInt64 + x5.toInt64) v14.toInt64) then some (Sum.inr ()) else some (Sum.inl (1))))))) fun _ => some (0)) : Option (Int32)).bind fun u20 => (jrd M1 233 6 (nI s)).bind fun v21 => (((jcase (α := Int32) (β := Unit) (if v21 < 0 then some (Sum.inr ()) else (jrd M1 233 6 (nI r)).bind fun v32 => (if 0 ≤ v32 then (jrd M1 234 6 (nI s)).bind fun v33 => (jrd M1 234 6 (nI r)).bind fun v34 => (if v33 = v34 then (if u20 = 0 then some (Sum.inl (3)) else some (Sum.inl (0))) else some (Sum.inl (2))) else some (Sum.inr ()))) fun _ => some (1)) : Option (Int32)).bind g)) = g v := by
          intro v hv M1 hf g
          obtain ⟨u, e, hu⟩ := jcopU (M := M1) x2 x4 x5 hs hr
          rw [e, Option.bind_some, key M1 hf g u, if_pos ef]
          rw [hf 233 s (by omega), hf 233 r (by omega), a5, b5, en, en'] at hu
          unfold jfit at hv
          rcases hu with ⟨u1, u2⟩ | ⟨u1, u2⟩
          · rcases hv with ⟨v1, v2⟩ | ⟨v1, v2⟩
            · rw [u1, v1, if_neg n10]
            · exact absurd (by omega) v2
          · rcases hv with ⟨v1, v2⟩ | ⟨v1, v2⟩
            · exact absurd (by omega) u2
            · rw [u1, v1, if_pos rfl]
        rcases jfitA (i := x2) (k := x5) a2 hs a4 with ⟨z1, z2⟩ | ⟨z1, z2⟩
        · rw [z2, Option.bind_some, if_neg n10]
          rcases jfitA (i := x4) (k := x5) b2 hr b4 with ⟨w1, w2⟩ | ⟨w1, w2⟩
          · rw [w2, Option.bind_some, if_neg n10]
            refine ⟨0, rfl, full 0 (Or.inl ⟨rfl, z1, w1⟩), Or.inr ⟨rfl, ?_⟩⟩
            obtain ⟨i, i1, i2⟩ := jnatI z1.1
            obtain ⟨j, j1, j2⟩ := jnatI w1.1
            obtain ⟨k, k1, k2⟩ := jnatI z1.2.1
            have z3 := z1.2.2
            have w3 := w1.2.2
            exact ⟨f, n, c, n', c', i, j, k, rfl, by rw [ef2], i1, j1, k1, by omega, by omega⟩
          · rw [w2, Option.bind_some, if_pos rfl]
            exact ⟨3, rfl, full 3 (Or.inr ⟨rfl, fun z => w1 z.2⟩), Or.inl ⟨by decide, by decide⟩⟩
        · rw [z2, Option.bind_some, if_pos rfl]
          exact ⟨3, rfl, full 3 (Or.inr ⟨rfl, fun z => z1 z.1⟩), Or.inl ⟨by decide, by decide⟩⟩
      · rw [if_neg ef]
        refine ⟨2, rfl, fun M1 hf g => ?_, Or.inl ⟨by decide, by decide⟩⟩
        obtain ⟨u, e, -⟩ := jcopU (M := M1) x2 x4 x5 hs hr
        rw [e, Option.bind_some, key M1 hf g u, if_neg ef]
theorem jst_copy_ok : jst_copy jInv := by
  rintro M x1 x2 x3 x4 x5 ⟨F, od, S, k, q, hX⟩
  have hI : jInv M := ⟨F, od, S, k, q, hX⟩
  have hS := hX.2.2.2.2.2.2.1
  rcases jem (0 ≤ x1 ∧ x1 ≤ 5) with h1 | h1
  · exact ⟨0, M, M, -100001, by simp [f_X7_copy, jisSheet, h1], by simp [f_X8_copy, jisSheetB, h1], hI⟩
  rcases jem (0 ≤ x3 ∧ x3 ≤ 5) with h0 | h0
  · exact ⟨0, M, M, -100001, by simp [f_X7_copy, jisSheet, h1, h0], by simp [f_X8_copy, jisSheetB, h1, h0], hI⟩
  obtain ⟨s, hs, rfl⟩ := jsix h1
  obtain ⟨r, hr, rfl⟩ := jsix h0
  have n10 : ¬ (1 : Int32) = 0 := by decide
  obtain ⟨v, cA, cB, hv⟩ := jcopyC x2 x4 x5 hS hs hr
  have eA : f_X7_copy M (nI s) x2 (nI r) x4 x5 = if v = 0 then ((jrw 47 6 (nI s)).bind fun w5 => (jrw 47 6 (nI r)).bind fun w6 => (jcpy (jup M 44 3 v) w5 40 x2 w6 40 x4 x5).bind fun M7 => some (M7, 1)) else some (jup M 44 3 v, 0) := by
    unfold f_X7_copy
    rw [jisSheet, if_pos h1, Option.bind_some, if_neg n10, jisSheet, if_pos h0, Option.bind_some, if_neg n10, cA, Option.bind_some, Option.bind_some, jup_eq]
  rcases hv with ⟨h2, h3⟩ | ⟨rfl, f, n, c, n', c', i, j, l, e1, e2, rfl, rfl, rfl, g1, g2⟩
  · let M1 : JMem := jup M 44 3 v
    let M2 : JMem := jup M1 221 14 v
    have hf : ∀ a i, ¬ ((a = 44 ∧ i = 3) ∨ (a = 221 ∧ i = 14)) → M2 a i = M a i := by
      intro a i h
      simp only [M2, M1, jup_at]
      repeat' rw [if_neg (by omega)]
    have hf1 : ∀ a i, a = 233 ∨ a = 234 → M1 a i = M a i := by
      intro a i h
      simp only [M1, jup_at]
      rw [if_neg (by omega)]
    refine ⟨0, M1, M2, 0, by rw [eA, if_neg h2], ?_, F, od, S, k, q, hX.sh (fun a i h => hf a i (by omega)) (hS.code (v := v) (by simp [M2, M1, jup_at]) (by simp [M2, jup_at]) hf)⟩
    unfold f_X8_copy
    rw [jisSheetB, if_pos h1, Option.bind_some, if_neg n10, jisSheetB, if_pos h0, Option.bind_some, if_neg n10, cB M1 hf1, Option.bind_some, jup_eq, if_neg h3]
  · have q1 := hS.1 s hs
    have q2 := hS.1 r hr
    rw [e1] at q1
    rw [e2] at q2
    obtain ⟨a1, a2, a3, a4, a5, a6, a7⟩ := q1
    obtain ⟨b1, b2, b3, b4, b5, b6, b7⟩ := q2
    obtain ⟨M4, u4, f4, v4⟩ := jupX M 44 3 0
    obtain ⟨c2, hc2⟩ : ∃ c2 : Nat → Int32, ∀ t, c2 t = if j ≤ t ∧ t < j + l then c (i + (t - j)) else c' t := ⟨_, fun _ => rfl⟩
    -- the class
    have eC : jcpy M4 (47 + 1 + s) 40 (nI i) (47 + 1 + r) 40 (nI j) (nI l) = some (jrow M4 (47 + 1 + r) (va_cpy (M4 (47 + 1 + s)) (M4 (47 + 1 + r)) i j l)) := by
      unfold jcpy
      rw [nI_clamp (by omega), nI_clamp (by omega), nI_clamp (by omega), if_pos ⟨jnlt0 (by omega), jnlt0 (by omega), jnlt0 (by omega), by omega, by omega⟩]
    obtain ⟨M1, hM1⟩ : ∃ M1, M1 = jrow M4 (47 + 1 + r) (va_cpy (M4 (47 + 1 + s)) (M4 (47 + 1 + r)) i j l) := ⟨_, rfl⟩
    rw [← hM1] at eC
    have f1 : ∀ a t, a ≠ 48 + r → M1 a t = M4 a t := by
      intro a t ha
      rw [hM1]
      unfold jrow
      rw [if_neg (by omega)]
    have p1 : ∀ t, t < n' → M1 (48 + r) t = c2 t := by
      intro t ht
      rw [hM1, hc2]
      unfold jrow va_cpy
      rw [if_pos (by omega)]
      by_cases z : j ≤ t ∧ t < j + l
      · rw [if_pos z, if_pos z, f4 _ _ (by omega)]
        exact (a7 _ (by omega)).1
      · rw [if_neg z, if_neg z, f4 _ _ (by omega)]
        exact (b7 t ht).1
    -- the model
    obtain ⟨M2, u2, f2, v2⟩ := jupX M1 221 14 0
    have l1 : ∃ x, jLp (σ := Int32 × JMem) (ρ := JMem) 100 (fun ((z47, M48) : Int32 × JMem) => (if (nI l) ≤ z47 then some (Sum.inr M48) else (jrd M48 235 240 (((40 * nI s) + nI i) + z47)).bind fun v50 => (jwr M48 236 40 z47 v50).bind fun M51 => some (Sum.inl (z47 + 1, M51)))) (0, M2) = some x ∧ ((∀ t, t < l → x 236 t = c (i + t)) ∧ ∀ a t, a ≠ 236 → x a t = M2 a t) := by
      refine jLp_tot (fun m z => ∃ t, m + t = l ∧ z.1 = nI t ∧ (∀ t', t' < t → z.2 236 t' = c (i + t')) ∧ ∀ a t', a ≠ 236 → z.2 a t' = M2 a t') _ ?_ 100 l (0, M2) (by omega) ⟨0, by omega, rfl, fun t ht => absurd ht (Nat.not_lt_zero t), fun _ _ _ => rfl⟩
      rintro m ⟨z1, M3⟩ ⟨t, hm, hz, hp, hf⟩
      dsimp only at hz hp hf ⊢
      subst hz
      rcases Nat.eq_zero_or_pos m with em | em
      · rw [if_pos (jleT (by omega) (by omega))]
        exact ⟨_, rfl, Or.inr ⟨_, rfl, fun t' ht' => hp t' (by omega), hf⟩⟩
      · rw [if_neg (jleF (by omega) (by omega)), jmul40, nI_add, nI_add, jrd_nI (show 40 * s + i + t < 240 by omega) (by decide), Option.bind_some, jwr_nI (show t < 40 by omega) (by decide), Option.bind_some]
        refine ⟨_, rfl, Or.inl ⟨_, m - 1, rfl, by omega, t + 1, by omega, nI_1 t, fun t' ht' => ?_, fun a t' ha => ?_⟩⟩
        · show jup M3 236 t (M3 235 (40 * s + i + t)) 236 t' = _
          rw [jup_at]
          by_cases z : t' = t
          · rw [if_pos ⟨rfl, z⟩, hf _ _ (by omega), f2 _ _ (by omega), f1 _ _ (by omega), f4 _ _ (by omega), z, show 40 * s + i + t = 40 * s + (i + t) by omega]
            exact (a7 _ (by omega)).2
          · rw [if_neg (fun y => z y.2)]
            exact hp t' (by omega)
        · show jup M3 236 t (M3 235 (40 * s + i + t)) a t' = _
          rw [jup_ne ha]
          exact hf a t' ha
    obtain ⟨M5, w1, w2, w3⟩ := l1
    have l2 : ∃ x, jLp (σ := Int32 × JMem) (ρ := JMem) 100 (fun ((z59, M60) : Int32 × JMem) => (if (nI l) ≤ z59 then some (Sum.inr M60) else (jrd M60 236 40 z59).bind fun v62 => (jwr M60 235 240 (((40 * nI r) + nI j) + z59) v62).bind fun M63 => some (Sum.inl (z59 + 1, M63)))) (0, M5) = some x ∧ ((∀ t, t < l → x 235 (40 * r + j + t) = c (i + t)) ∧ ∀ a t, ¬ (a = 235 ∧ 40 * r + j ≤ t ∧ t < 40 * r + j + l) → x a t = M5 a t) := by
      refine jLp_tot (fun m z => ∃ t, m + t = l ∧ z.1 = nI t ∧ (∀ t', t' < t → z.2 235 (40 * r + j + t') = c (i + t')) ∧ ∀ a t', ¬ (a = 235 ∧ 40 * r + j ≤ t' ∧ t' < 40 * r + j + l) → z.2 a t' = M5 a t') _ ?_ 100 l (0, M5) (by omega) ⟨0, by omega, rfl, fun t ht => absurd ht (Nat.not_lt_zero t), fun _ _ _ => rfl⟩
      rintro m ⟨z1, M3⟩ ⟨t, hm, hz, hp, hf⟩
      dsimp only at hz hp hf ⊢
      subst hz
      rcases Nat.eq_zero_or_pos m with em | em
      · rw [if_pos (jleT (by omega) (by omega))]
        exact ⟨_, rfl, Or.inr ⟨_, rfl, fun t' ht' => hp t' (by omega), hf⟩⟩
      · rw [if_neg (jleF (by omega) (by omega)), jrd_nI (show t < 40 by omega) (by decide), Option.bind_some, jmul40, nI_add, nI_add, jwr_nI (show 40 * r + j + t < 240 by omega) (by decide), Option.bind_some]
        refine ⟨_, rfl, Or.inl ⟨_, m - 1, rfl, by omega, t + 1, by omega, nI_1 t, fun t' ht' => ?_, fun a t' ha => ?_⟩⟩
        · show jup M3 235 (40 * r + j + t) (M3 236 t) 235 (40 * r + j + t') = _
          rw [jup_at]
          by_cases z : t' = t
          · rw [if_pos ⟨rfl, by omega⟩, hf _ _ (by omega), z]
            exact w2 t (by omega)
          · rw [if_neg (fun y => by omega)]
            exact hp t' (by omega)
        · show jup M3 235 (40 * r + j + t) (M3 236 t) a t' = _
          rw [jup_at, if_neg (fun y => by omega)]
          exact hf a t' ha
    obtain ⟨M6, y1, y2, y3⟩ := l2
    have hf : ∀ a t, ¬ ((a = 44 ∧ t = 3) ∨ a = 48 + r ∨ (a = 221 ∧ t = 14) ∨ a = 236 ∨ (a = 235 ∧ 40 * r + j ≤ t ∧ t < 40 * r + j + l)) → M6 a t = M a t := fun a t z => by
      rw [y3 a t (by omega), w3 a t (by omega), f2 a t (by omega), f1 a t (by omega), f4 a t (by omega)]
    refine ⟨100, M1, M6, 1, ?_, ?_, F, od, fun t => if t = r then some (f, n', c2) else S t, k, q, hX.shc (fun a i h h' => hf a i (by unfold jcore at h; omega)) (hS.one hr ?_ ?_ (fun a i h => hf a i (by omega)))⟩
    · rw [eA, if_pos rfl, jrw_nI hs (by decide), Option.bind_some, jrw_nI hr (by decide), Option.bind_some, u4, eC, Option.bind_some]
    · unfold f_X8_copy
      rw [jisSheetB, if_pos h1, Option.bind_some, if_neg n10, jisSheetB, if_pos h0, Option.bind_some, if_neg n10, cB M1 (fun a t h => by rw [f1 a t (by omega), f4 a t (by omega)]), u2, Option.bind_some, v2, if_pos (by decide), w1, Option.bind_some, y1, Option.bind_some]
    · rw [y3 44 3 (by omega), w3 44 3 (by omega), f2 44 3 (by omega), f1 44 3 (by omega), v4, y3 221 14 (by omega), w3 221 14 (by omega), v2]
    · refine ⟨b1, b2, (hf _ _ (by omega)).trans b3, (hf _ _ (by omega)).trans b4, (hf _ _ (by omega)).trans b5, (hf _ _ (by omega)).trans b6, fun t ht => ⟨?_, ?_⟩⟩
      · rw [y3 _ _ (by omega), w3 _ _ (by omega), f2 _ _ (by omega), show 47 + 1 + r = 48 + r by omega]
        exact p1 t ht
      · rw [hc2]
        by_cases z : j ≤ t ∧ t < j + l
        · rw [if_pos z, ← y2 (t - j) (by omega), show 40 * r + j + (t - j) = 40 * r + t by omega]
        · rw [if_neg z, hf _ _ (by omega)]
          exact (b7 t ht).2
