/-! read: a piece by a sheet -/
def FT.addR (F : FT) (od : Nat → Nat → Nat) (p : Nat) (mch spn : Nat → Nat) : Nat → FT × (Nat → Nat → Nat)
  | 0 => (F, od)
  | k + 1 => ((FT.addR F od p mch spn k).1.addS p (mch k) (spn k), odS (FT.addR F od p mch spn k).1 (FT.addR F od p mch spn k).2 (mch k))
theorem addR_ok {F : FT} {od : Nat → Nat → Nat} {p : Nat} {mch spn : Nat → Nat} (hW : WF F) (hO : WO F od) (hp : p < F.np) (hl : F.lc p = 0) : ∀ k, k ≤ 8 → F.ns + k ≤ 32 → (∀ j, j < k → mch j < F.nm ∧ 1 ≤ spn j ∧ spn j ≤ 1000) → WF (F.addR od p mch spn k).1 ∧ WO (F.addR od p mch spn k).1 (F.addR od p mch spn k).2 ∧ (F.addR od p mch spn k).1.nm = F.nm ∧ (F.addR od p mch spn k).1.np = F.np ∧ (F.addR od p mch spn k).1.ns = F.ns + k ∧ (F.addR od p mch spn k).1.lc p = k
  | 0, _, _, _ => ⟨hW, hO, rfl, rfl, rfl, hl⟩
  | k + 1, h8, h32, hm => by
    obtain ⟨a1, a2, a3, a4, a5, a6⟩ := addR_ok hW hO hp hl k (by omega) (by omega) (fun j hj => hm j (by omega))
    obtain ⟨m1, m2, m3⟩ := hm k (by omega)
    refine ⟨addS_wf a1 (by rw [a4]; exact hp) (by rw [a3]; exact m1) ⟨m2, m3⟩ (by rw [a6]; omega) (by rw [a5]; omega), addS_wo a2, a3, a4, ?_, ?_⟩
    · show (F.addR od p mch spn k).1.ns + 1 = _
      omega
    · show (if p = p then (F.addR od p mch spn k).1.lc p + 1 else (F.addR od p mch spn k).1.lc p) = k + 1
      rw [if_pos rfl, a6]
def jgst (F : FT) (c : Nat → Int32) (j : Nat) : Prop := (0 ≤ c (2 * j) ∧ c (2 * j) ≤ nI F.nm - 1) ∧ (1 ≤ c (2 * j + 1) ∧ c (2 * j + 1) ≤ 1000)
theorem jholdsA {M : JMem} {F : FT} {s h : Nat} {c : Nat → Int32} (hA : M 1 0 = nI F.nm) (hh : h ≤ 20) (hc : ∀ j, j < 2 * h → M (47 + 1 + s) j = c j) : ((∀ j, j < h → jgst F c j) ∧ f_X7_holdsSteps 100 M (47 + 1 + s) (nI h) = some 1) ∨ ((¬ ∀ j, j < h → jgst F c j) ∧ f_X7_holdsSteps 100 M (47 + 1 + s) (nI h) = some 0) := by
  have n10 : ¬ (1 : Int32) = 0 := by decide
  have hl : ∃ x, jLp (σ := Int32) (ρ := (Int32) ⊕ (Unit)) 100 (fun (z7 : Int32) => (if nI h ≤ z7 then some (Sum.inr (Sum.inr ())) else (jrd M (47 + 1 + s) 40 (2 * z7)).bind fun v8 => (f_X7_isMachine M v8).bind fun v9 => (if v9 = 0 then some (Sum.inr (Sum.inl 0)) else (jrd M (47 + 1 + s) 40 ((2 * z7) + 1)).bind fun v10 => (f_X7_isOut M v10 1 1000).bind fun v11 => (if v11 = 0 then some (Sum.inl (z7 + 1)) else some (Sum.inr (Sum.inl 0)))))) 0 = some x ∧ ((x = Sum.inr () ∧ ∀ j, j < h → jgst F c j) ∨ (x = Sum.inl 0 ∧ ¬ ∀ j, j < h → jgst F c j)) := by
    refine jLp_tot (fun n z => ∃ j, n + j = h ∧ z = nI j ∧ ∀ j', j' < j → jgst F c j') _ ?_ 100 h 0 (by omega) ⟨0, by omega, rfl, fun j hj => absurd hj (Nat.not_lt_zero j)⟩
    rintro n z ⟨j, hn, hz, hg⟩
    subst hz
    rcases Nat.eq_zero_or_pos n with en | en
    · rw [if_pos (jleT (by omega) (by omega))]
      exact ⟨_, rfl, Or.inr ⟨_, rfl, Or.inl ⟨rfl, fun j' hj' => hg j' (by omega)⟩⟩⟩
    · rw [if_neg (jleF (by omega) (by omega)), jmul2, jrd_nI (show 2 * j < 40 by omega) (by decide), Option.bind_some, hc _ (by omega), jisMachine, hA, Option.bind_some]
      by_cases e1 : 0 ≤ c (2 * j) ∧ c (2 * j) ≤ nI F.nm - 1
      · rw [if_pos e1, if_neg n10, nI_1, jrd_nI (show 2 * j + 1 < 40 by omega) (by decide), Option.bind_some, hc _ (by omega), jisOut, Option.bind_some]
        by_cases e2 : 1 ≤ c (2 * j + 1) ∧ c (2 * j + 1) ≤ 1000
        · rw [if_pos e2, if_pos rfl]
          refine ⟨_, rfl, Or.inl ⟨_, n - 1, rfl, by omega, j + 1, by omega, nI_1 j, fun j' hj' => ?_⟩⟩
          rcases Nat.lt_succ_iff_lt_or_eq.mp hj' with z | z
          · exact hg j' z
          · rw [z]
            exact ⟨e1, e2⟩
        · rw [if_neg e2, if_neg n10]
          exact ⟨_, rfl, Or.inr ⟨_, rfl, Or.inr ⟨rfl, fun z => e2 (z j (by omega)).2⟩⟩⟩
      · rw [if_neg e1, if_pos rfl]
        exact ⟨_, rfl, Or.inr ⟨_, rfl, Or.inr ⟨rfl, fun z => e1 (z j (by omega)).1⟩⟩⟩
  obtain ⟨x, e1, e2⟩ := hl
  unfold f_X7_holdsSteps
  rw [e1]
  rcases e2 with ⟨rfl, e2⟩ | ⟨rfl, e2⟩
  · exact Or.inl ⟨e2, rfl⟩
  · exact Or.inr ⟨e2, rfl⟩
theorem jholdsB {M : JMem} {F : FT} {s h : Nat} {c : Nat → Int32} (hB : M 221 2 = nI F.nm) (hs : s < 6) (hh : h ≤ 20) (hc : ∀ j, j < 2 * h → M 235 (40 * s + j) = c j) : ∃ x, jLp (σ := Int32 × Int32) (ρ := Int32) 100 (fun ((z19, z20) : Int32 × Int32) => (if nI h ≤ z20 then some (Sum.inr z19) else (((jcase (α := Int32) (β := Unit) (if z19 = 0 then some (Sum.inr ()) else (jrd M 235 240 ((40 * nI s) + (2 * z20))).bind fun v32 => (if (jin3 v32.toInt64 0 (((M 221 2) - 1).toInt64)) = 0 then some (Sum.inr ()) else (jrd M 235 240 (((40 * nI s) + (2 * z20)) + 1)).bind fun v33 => (if (jin3 v33.toInt64 1 1000) = 0 then some (Sum.inr ()) else some (Sum.inl (1))))) fun _ => some (0)) : Option (Int32)).bind fun u37 => some (Sum.inl (u37, z20 + 1))))) (1, 0) = some x ∧ ((x = 1 ∧ ∀ j, j < h → jgst F c j) ∨ (x = 0 ∧ ¬ ∀ j, j < h → jgst F c j)) := by
  have n10 : ¬ (1 : Int32) = 0 := by decide
  refine jLp_tot (fun n z => ∃ j, n + j = h ∧ z.2 = nI j ∧ ((z.1 = 1 ∧ ∀ j', j' < j → jgst F c j') ∨ (z.1 = 0 ∧ ¬ ∀ j, j < h → jgst F c j))) _ ?_ 100 h (1, 0) (by omega) ⟨0, by omega, rfl, Or.inl ⟨rfl, fun j hj => absurd hj (Nat.not_lt_zero j)⟩⟩
  rintro n ⟨z1, z2⟩ ⟨j, hn, hz, hg⟩
  dsimp only at hz hg ⊢
  subst hz
  rcases Nat.eq_zero_or_pos n with en | en
  · rw [if_pos (jleT (by omega) (by omega))]
    refine ⟨_, rfl, Or.inr ⟨_, rfl, ?_⟩⟩
    rcases hg with ⟨g1, g2⟩ | g
    · exact Or.inl ⟨g1, fun j' hj' => g2 j' (by omega)⟩
    · exact Or.inr g
  · rw [if_neg (jleF (by omega) (by omega))]
    rcases hg with ⟨rfl, g2⟩ | ⟨rfl, g2⟩
    · rw [if_neg n10, jmul2, jmul40, nI_add, jrd_nI (show 40 * s + 2 * j < 240 by omega) (by decide), Option.bind_some, hc _ (by omega), jin_0_v, hB]
      by_cases e1 : 0 ≤ c (2 * j) ∧ c (2 * j) ≤ nI F.nm - 1
      · rw [if_pos e1, if_neg n10, nI_1, jrd_nI (show 40 * s + 2 * j + 1 < 240 by omega) (by decide), Option.bind_some, show 40 * s + 2 * j + 1 = 40 * s + (2 * j + 1) by omega, hc _ (by omega), jin_1_1000]
        by_cases e2 : 1 ≤ c (2 * j + 1) ∧ c (2 * j + 1) ≤ 1000
        · rw [if_pos e2, if_neg n10, jcL, Option.bind_some]
          refine ⟨_, rfl, Or.inl ⟨_, n - 1, rfl, by omega, j + 1, by omega, nI_1 j, Or.inl ⟨rfl, fun j' hj' => ?_⟩⟩⟩
          rcases Nat.lt_succ_iff_lt_or_eq.mp hj' with z | z
          · exact g2 j' z
          · rw [z]
            exact ⟨e1, e2⟩
        · rw [if_neg e2, if_pos rfl, jcR, Option.bind_some]
          exact ⟨_, rfl, Or.inl ⟨_, n - 1, rfl, by omega, j + 1, by omega, nI_1 j, Or.inr ⟨rfl, fun z => e2 (z j (by omega)).2⟩⟩⟩
      · rw [if_neg e1, if_pos rfl, jcR, Option.bind_some]
        exact ⟨_, rfl, Or.inl ⟨_, n - 1, rfl, by omega, j + 1, by omega, nI_1 j, Or.inr ⟨rfl, fun z => e1 (z j (by omega)).1⟩⟩⟩
    · rw [if_pos rfl, jcR, Option.bind_some]
      exact ⟨_, rfl, Or.inl ⟨_, n - 1, rfl, by omega, j + 1, by omega, nI_1 j, Or.inr ⟨rfl, g2⟩⟩⟩
theorem jhalf {n : Nat} (hn : n ≤ 40) : nI n / 2 = nI (n / 2) := pk_div (by omega) (by decide) (by decide)
theorem jodd {n : Nat} (hn : n ≤ 40) : nI n - nI n / 2 * 2 = nI (n % 2) := pk_rem (by omega) (by decide) (by decide)
theorem jst_read_ok : jst_read jInv := by
  rintro M x1 x2 ⟨F, od, S, k, q, hX⟩
  have hI : jInv M := ⟨F, od, S, k, q, hX⟩
  obtain ⟨hW, hO, hA, hAO, hB, hBO, hS, -⟩ := id hX
  have hns := hW.2.2.1.1
  have hnp := hW.2.1.1
  have hnm := hW.1.1
  have n10 : ¬ (1 : Int32) = 0 := by decide
  rcases jem (0 ≤ x1 ∧ x1 ≤ 5) with h1 | h1
  · exact ⟨0, M, M, -100001, by simp [f_X7_read, jisSheet, h1], by simp [f_X8_read, jisSheetB, h1], hI⟩
  rcases jem (0 ≤ x2 ∧ x2 ≤ 9) with h0 | h0
  · exact ⟨0, M, M, -100002, by simp [f_X7_read, jisSheet, h1, jisOut, h0], by simp [f_X8_read, jisSheetB, h1, jin_0_9, h0], hI⟩
  obtain ⟨s, hs, rfl⟩ := jsix h1
  have cod : ∀ v : Int32, IX (jup (jup M 44 3 v) 221 14 v) F od S k q := by
    intro v
    have hf : ∀ a i, ¬ ((a = 44 ∧ i = 3) ∨ (a = 221 ∧ i = 14)) → jup (jup M 44 3 v) 221 14 v a i = M a i := by
      intro a i h
      simp only [jup_at]
      repeat' rw [if_neg (by omega)]
    exact hX.sh (fun a i h => hf a i (by omega)) (hS.code (v := v) (by simp [jup_at]) (by simp [jup_at]) hf)
  have q1 := hS.1 s hs
  have tA := jthere hS hs
  cases e1 : S s with
  | none =>
    rw [e1] at q1 tA
    refine ⟨0, jup M 44 3 1, jup (jup M 44 3 1) 221 14 1, 0, ?_, ?_, F, od, S, k, q, cod 1⟩
    · unfold f_X7_read f_X5_codeOfRead
      rw [jisSheet, if_pos h1, Option.bind_some, if_neg n10, jisOut, if_pos h0, Option.bind_some, if_pos rfl, tA, if_pos rfl, Option.bind_some, if_pos rfl, Option.bind_some, if_neg n10, Option.bind_some]
    · unfold f_X8_read
      rw [jisSheetB, if_pos h1, Option.bind_some, if_neg n10, jin_0_9, if_pos h0, if_neg n10, jrd_nI hs (by decide), Option.bind_some, show jup M 44 3 1 233 s = -1 by rw [jup_ne (by decide)]; exact q1.2, if_neg (by decide), Option.bind_some, if_neg (by decide), Option.bind_some]
  | some y =>
    obtain ⟨f, n, c⟩ := y
    rw [e1] at q1 tA
    obtain ⟨a1, a2, a3, a4, a5, a6, a7⟩ := q1
    rw [if_neg (show ¬ (some (f, n, c) = none) by simp)] at tA
    by_cases eo : n % 2 = 0
    · generalize hh : n / 2 = h at *
      have hn2 : n = 2 * h := by omega
      have cA : f_X5_codeOfRead M (nI s) = some 0 := by
        unfold f_X5_codeOfRead
        rw [tA, Option.bind_some, if_neg n10, jrd_nI hs (by decide), Option.bind_some, a4, jodd a2, eo, if_pos (show nI 0 = 0 from rfl)]
      have eA : f_X7_read 100 M (nI s) x2 = (f_X7_holdsSteps 100 M (47 + 1 + s) (nI h)).bind fun v6 => (if v6 = 0 then some (M, (-100003)) else (if 12 ≤ (M 1 1) then some (M, (-100004)) else (if 8 < nI h then some (M, (-100004)) else (if ((M 1 2) + nI h) ≤ 32 then (some (jup M 44 3 0)).bind fun M7 => (jrw 47 6 (nI s)).bind fun w8 => (f_X7_addPieceBy 100 M7 x2 w8 (nI h)).bind fun (M9, v10) => some (M9, v10) else some (M, (-100004)))))) := by
        unfold f_X7_read
        rw [jisSheet, if_pos h1, Option.bind_some, if_neg n10, jisOut, if_pos h0, Option.bind_some, if_pos rfl, cA, Option.bind_some, if_pos rfl, jrd_nI hs (by decide), Option.bind_some, a4, jhalf a2, hh, jrw_nI hs (by decide), Option.bind_some]
      have eB : ∀ M1 : JMem, M1 233 s = nI n → f_X8_read 100 M1 (nI s) x2 = ((jLp (σ := Int32 × Int32) (ρ := Int32) 100 (fun ((z19, z20) : Int32 × Int32) => (if nI h ≤ z20 then some (Sum.inr z19) else (((jcase (α := Int32) (β := Unit) (if z19 = 0 then some (Sum.inr ()) else (jrd M1 235 240 ((40 * nI s) + (2 * z20))).bind fun v32 => (if (jin3 v32.toInt64 0 (((M1 221 2) - 1).toInt64)) = 0 then some (Sum.inr ()) else (jrd M1 235 240 (((40 * nI s) + (2 * z20)) + 1)).bind fun v33 => (if (jin3 v33.toInt64 1 1000) = 0 then some (Sum.inr ()) else some (Sum.inl (1))))) fun _ => some (0)) : Option (Int32)).bind fun u37 => some (Sum.inl (u37, z20 + 1))))) (1, 0)).bind fun t21 => (if t21 = 0 then (some (M1, (-100003)) : Option (JMem × Int32)) else (if (M1 221 6) = 12 then (some (M1, (-100004)) : Option (JMem × Int32)) else (if 8 < nI h then some (M1, (-100004)) else (if ((M1 221 11) + nI h) ≤ 32 then (some (jup M1 221 14 0)).bind fun M39 => (jwr M39 224 12 (M39 221 6) x2).bind fun M40 => (jwr M40 225 12 (M40 221 6) 0).bind fun M41 => (some (jup M41 221 6 ((M41 221 6) + 1))).bind fun M42 => ((jLp (σ := Int32 × JMem) (ρ := JMem) 100 (fun ((z49, M50) : Int32 × JMem) => (if nI h ≤ z49 then some (Sum.inr M50) else (jrd M50 235 240 ((40 * nI s) + (2 * z49))).bind fun v52 => (jrd M50 235 240 (((40 * nI s) + (2 * z49)) + 1)).bind fun v53 => (f_X8_more M50 ((M50 221 6) - 1) v52 v53).bind fun (M54, v55) => some (Sum.inl (z49 + 1, M54)))) (0, M42)).bind fun t51 => some (t51, ((t51 221 6) - 1 : Int32))) else some (M1, (-100004))))))) := by
        intro M1 hM1
        unfold f_X8_read
        rw [jisSheetB, if_pos h1, Option.bind_some, if_neg n10, jin_0_9, if_pos h0, if_neg n10, jrd_nI hs (by decide), Option.bind_some, hM1, if_pos (jle0 (by omega)), Option.bind_some, jodd a2, eo, if_pos (show nI 0 = 0 from rfl), Option.bind_some, if_pos (by decide), Option.bind_some, jhalf a2, hh]
      have hA1 : ∀ j, j < 2 * h → M (47 + 1 + s) j = c j := fun j hj => (a7 j (by omega)).1
      have hB1 : ∀ j, j < 2 * h → M 235 (40 * s + j) = c j := fun j hj => (a7 j (by omega)).2
      have lp : M 1 1 = nI F.np := hA.2.1
      have ls : M 1 2 = nI F.ns := hA.2.2.1
      have g1 := eB M a5
      obtain ⟨t, t1, t2⟩ := jholdsB (F := F) hB.1 hs (show h ≤ 20 by omega) hB1
      rcases jholdsA (F := F) hA.1 (show h ≤ 20 by omega) hA1 with ⟨w1, w2⟩ | ⟨w1, w2⟩
      · have t3 : t = 1 := by
          rcases t2 with ⟨t2, -⟩ | ⟨-, t2⟩
          · exact t2
          · exact absurd w1 t2
        subst t3
        rw [w2, Option.bind_some, if_neg n10, lp, ls, nI_add] at eA
        by_cases full : F.np < 12 ∧ h ≤ 8 ∧ F.ns + h ≤ 32
        · obtain ⟨u1, u2, u3⟩ := full
          rw [if_neg (by rw [jLle (by omega) (by decide)]; omega), if_neg (by rw [jLlt (by omega) (by decide)]; omega), if_pos (by rw [jleL (by omega) (by decide)]; omega), Option.bind_some, jrw_nI hs (by decide), Option.bind_some] at eA
          -- the numbers
          obtain ⟨mch, hmch⟩ : ∃ mch : Nat → Nat, ∀ j, j < h → c (2 * j) = nI (mch j) ∧ mch j < F.nm := by
            refine ⟨fun j => (c (2 * j)).toNatClampNeg, fun j hj => ?_⟩
            obtain ⟨m, m1, m2⟩ := (jbelow (by omega)).mp (w1 j hj).1
            show c (2 * j) = nI (c (2 * j)).toNatClampNeg ∧ (c (2 * j)).toNatClampNeg < F.nm
            rw [m2, nI_clamp (by omega)]
            exact ⟨rfl, m1⟩
          obtain ⟨spn, hspn⟩ : ∃ spn : Nat → Nat, ∀ j, j < h → c (2 * j + 1) = nI (spn j) ∧ 1 ≤ spn j ∧ spn j ≤ 1000 := by
            refine ⟨fun j => (c (2 * j + 1)).toNatClampNeg, fun j hj => ?_⟩
            obtain ⟨m, m1, m2, m3⟩ := jnat (lo := 1) (hi := 1000) (w1 j hj).2.1 (w1 j hj).2.2 (by decide) (by decide)
            show c (2 * j + 1) = nI (c (2 * j + 1)).toNatClampNeg ∧ 1 ≤ (c (2 * j + 1)).toNatClampNeg ∧ (c (2 * j + 1)).toNatClampNeg ≤ 1000
            rw [m3, nI_clamp (by omega)]
            exact ⟨rfl, m1, m2⟩
          -- the piece
          have hX0 := cod 0
          obtain ⟨M7, p7, f7, v7⟩ := jupX M 44 3 0
          rw [p7] at eA hX0
          obtain ⟨Ma, pa, fa, va⟩ := jupX M7 4 F.np x2
          obtain ⟨Mb, pb, fb, vb⟩ := jupX Ma 1 1 (nI (F.np + 1))
          obtain ⟨Mc, pc, fc, vc⟩ := jupX Mb 221 14 0
          obtain ⟨Md, pd, fd, vd⟩ := jupX Mc 224 F.np x2
          obtain ⟨Me, pe, fe, ve⟩ := jupX Md 225 F.np 0
          obtain ⟨Mf, pf, ff, vf⟩ := jupX Me 221 6 (nI (F.np + 1))
          have vc' : jup M7 221 14 0 221 14 = 0 := jup_eq
          have hXf : IX Mf (F.addP x2) od S k q := by
            refine hX0.addP u1 (fun a i z => ?_) ?_ ?_ vf ?_ ?_
            · rw [ff a i (by omega), fe a i (by omega), fd a i (by omega)]
              by_cases y : a = 221 ∧ i = 14
              · rw [y.1, y.2, vc, vc']
              · rw [fc a i y, fb a i (by omega), fa a i (by omega), jup_at, if_neg y]
            · rw [ff _ _ (by omega), fe _ _ (by omega), fd _ _ (by omega), fc _ _ (by omega)]
              exact vb
            · rw [ff _ _ (by omega), fe _ _ (by omega), fd _ _ (by omega), fc _ _ (by omega), fb _ _ (by omega)]
              exact va
            · rw [ff _ _ (by omega), fe _ _ (by omega)]
              exact vd
            · rw [ff _ _ (by omega)]
              exact ve
          obtain ⟨hWf, hOf, hAf, hAOf, hBf, hBOf, hSf, -⟩ := id hXf
          have hl0 : (F.addP x2).lc F.np = 0 := hW.2.1.2.1 F.np (Nat.le_refl _)
          have hpp : F.np < (F.addP x2).np := Nat.lt_succ_self _
          have hRa := fun j (hj : j ≤ h) => addR_ok (p := F.np) (mch := mch) (spn := spn) hWf hOf hpp hl0 j (by omega) (show F.ns + j ≤ 32 by omega) (fun j' hj' => ⟨(hmch j' (by omega)).2, (hspn j' (by omega)).2⟩)
          -- the class's steps
          have hAb : AF Mb (F.addP x2) := hAf.fr hnm (fun a i y1 y2 => by rw [ff a i (by omega), fe a i (by omega), fd a i (by omega), fc a i (by omega)])
          have hAOb : AO Mb 33 (F.addP x2) od := hAOf.fr (fun a i y1 y2 => by rw [ff a i (by omega), fe a i (by omega), fd a i (by omega), fc a i (by omega)])
          have lA : ∃ x, jLp (σ := Int32 × JMem) (ρ := JMem) 100 (fun ((z9, M10) : Int32 × JMem) => (if nI h ≤ z9 then some (Sum.inr M10) else (jrd M10 (47 + 1 + s) 40 (2 * z9)).bind fun v12 => (jrd M10 (47 + 1 + s) 40 ((2 * z9) + 1)).bind fun v13 => (f_X7_addStep M10 (nI F.np) v12 v13).bind fun (M14, v15) => some (Sum.inl (z9 + 1, M14)))) (0, Mb) = some x ∧ (AF x ((F.addP x2).addR od F.np mch spn h).1 ∧ AO x 33 ((F.addP x2).addR od F.np mch spn h).1 ((F.addP x2).addR od F.np mch spn h).2 ∧ ∀ a i, ¬ (1 ≤ a ∧ a ≤ 43) → x a i = Mb a i) := by
            refine jLp_tot (fun m z => ∃ j, m + j = h ∧ z.1 = nI j ∧ AF z.2 ((F.addP x2).addR od F.np mch spn j).1 ∧ AO z.2 33 ((F.addP x2).addR od F.np mch spn j).1 ((F.addP x2).addR od F.np mch spn j).2 ∧ ∀ a i, ¬ (1 ≤ a ∧ a ≤ 43) → z.2 a i = Mb a i) _ ?_ 100 h (0, Mb) (by omega) ⟨0, by omega, rfl, hAb, hAOb, fun _ _ _ => rfl⟩
            rintro m ⟨z1, M3⟩ ⟨j, hm, hz, b1, b2, b3⟩
            dsimp only at hz b1 b2 b3 ⊢
            subst hz
            rcases Nat.eq_zero_or_pos m with em | em
            · rw [if_pos (jleT (by omega) (by omega))]
              have ej : j = h := by omega
              subst ej
              exact ⟨_, rfl, Or.inr ⟨_, rfl, b1, b2, b3⟩⟩
            · obtain ⟨r1, r2, r3, r4, r5, r6⟩ := hRa j (by omega)
              obtain ⟨o1, o2⟩ := hmch j (by omega)
              obtain ⟨o3, o4, o5⟩ := hspn j (by omega)
              have k1 : M3 (47 + 1 + s) (2 * j) = nI (mch j) := by
                rw [b3 _ _ (by omega), fb _ _ (by omega), fa _ _ (by omega), f7 _ _ (by omega), hA1 _ (by omega)]
                exact o1
              have k2 : M3 (47 + 1 + s) (2 * j + 1) = nI (spn j) := by
                rw [b3 _ _ (by omega), fb _ _ (by omega), fa _ _ (by omega), f7 _ _ (by omega), hA1 _ (by omega)]
                exact o3
              obtain ⟨M14, y1, y2, y3, y4⟩ := jaddA (v := spn j) r1 b1 b2 (show F.np < _ by rw [r4]; exact hpp) (show mch j < _ by rw [r3]; exact o2) (by rw [r6]; omega) (by rw [r5]; show F.ns + j < 32; omega)
              rw [if_neg (jleF (by omega) (by omega)), jmul2, jrd_nI (show 2 * j < 40 by omega) (by decide), Option.bind_some, k1, nI_1, jrd_nI (show 2 * j + 1 < 40 by omega) (by decide), Option.bind_some, k2, y1, Option.bind_some]
              exact ⟨_, rfl, Or.inl ⟨_, m - 1, rfl, by omega, j + 1, by omega, nI_1 j, y2, y3, fun a i z => (y4 a i z).trans (b3 a i z)⟩⟩
          obtain ⟨M9, l1, l2, l3, l4⟩ := lA
          -- the model's
          have hM9 : M9 233 s = nI n := by rw [l4 _ _ (by omega), fb _ _ (by omega), fa _ _ (by omega), f7 _ _ (by omega)]; exact a5
          have hB9 : BF M9 F := hB.fr ⟨by rw [l4 _ _ (by omega), fb _ _ (by omega), fa _ _ (by omega), f7 _ _ (by omega)], by rw [l4 _ _ (by omega), fb _ _ (by omega), fa _ _ (by omega), f7 _ _ (by omega)], by rw [l4 _ _ (by omega), fb _ _ (by omega), fa _ _ (by omega), f7 _ _ (by omega)]⟩ (fun a i _ _ => by rw [l4 _ _ (by omega), fb _ _ (by omega), fa _ _ (by omega), f7 _ _ (by omega)])
          have hc9 : ∀ j, j < 2 * h → M9 235 (40 * s + j) = c j := fun j hj => by rw [l4 _ _ (by omega), fb _ _ (by omega), fa _ _ (by omega), f7 _ _ (by omega)]; exact hB1 j hj
          have g1' := eB M9 hM9
          obtain ⟨t', t1', t2'⟩ := jholdsB (F := F) hB9.1 hs (show h ≤ 20 by omega) hc9
          have t3' : t' = 1 := by
            rcases t2' with ⟨t2, -⟩ | ⟨-, t2⟩
            · exact t2
            · exact absurd w1 t2
          subst t3'
          obtain ⟨Ng, ng, fg, vg⟩ := jupX M9 221 14 0
          obtain ⟨Nd, nd, fnd, vnd⟩ := jupX Ng 224 F.np x2
          obtain ⟨Ne, ne, fne, vne⟩ := jupX Nd 225 F.np 0
          obtain ⟨Nf, nf, fnf, vnf⟩ := jupX Ne 221 6 (nI (F.np + 1))
          -- it is the piece's memory, but for the class's steps
          have same : ∀ a i, ¬ (1 ≤ a ∧ a ≤ 43) → Nf a i = Mf a i := by
            intro a i z
            by_cases z1 : a = 221 ∧ i = 6
            · rw [z1.1, z1.2, vnf, vf]
            rw [fnf a i z1, ff a i z1]
            by_cases z2 : a = 225 ∧ i = F.np
            · rw [z2.1, z2.2, vne, ve]
            rw [fne a i z2, fe a i z2]
            by_cases z3 : a = 224 ∧ i = F.np
            · rw [z3.1, z3.2, vnd, vd]
            rw [fnd a i z3, fd a i z3]
            by_cases z4 : a = 221 ∧ i = 14
            · rw [z4.1, z4.2, vg, vc]
            rw [fg a i z4, fc a i z4, l4 a i z]
          have hBn : BF Nf (F.addP x2) := hBf.fr ⟨same _ _ (by omega), same _ _ (by omega), same _ _ (by omega)⟩ (fun a i _ _ => same a i (by omega))
          have hBOn : BO Nf (F.addP x2) od := hBOf.fr (fun a i _ _ => same a i (by omega))
          have lB : ∃ x, jLp (σ := Int32 × JMem) (ρ := JMem) 100 (fun ((z49, M50) : Int32 × JMem) => (if nI h ≤ z49 then some (Sum.inr M50) else (jrd M50 235 240 ((40 * nI s) + (2 * z49))).bind fun v52 => (jrd M50 235 240 (((40 * nI s) + (2 * z49)) + 1)).bind fun v53 => (f_X8_more M50 ((M50 221 6) - 1) v52 v53).bind fun (M54, v55) => some (Sum.inl (z49 + 1, M54)))) (0, Nf) = some x ∧ (BF x ((F.addP x2).addR od F.np mch spn h).1 ∧ BO x ((F.addP x2).addR od F.np mch spn h).1 ((F.addP x2).addR od F.np mch spn h).2 ∧ ∀ a i, ¬ ((a = 221 ∧ i = 11) ∨ (225 ≤ a ∧ a ≤ 232)) → x a i = Nf a i) := by
            refine jLp_tot (fun m z => ∃ j, m + j = h ∧ z.1 = nI j ∧ BF z.2 ((F.addP x2).addR od F.np mch spn j).1 ∧ BO z.2 ((F.addP x2).addR od F.np mch spn j).1 ((F.addP x2).addR od F.np mch spn j).2 ∧ ∀ a i, ¬ ((a = 221 ∧ i = 11) ∨ (225 ≤ a ∧ a ≤ 232)) → z.2 a i = Nf a i) _ ?_ 100 h (0, Nf) (by omega) ⟨0, by omega, rfl, hBn, hBOn, fun _ _ _ => rfl⟩
            rintro m ⟨z1, M3⟩ ⟨j, hm, hz, b1, b2, b3⟩
            dsimp only at hz b1 b2 b3 ⊢
            subst hz
            rcases Nat.eq_zero_or_pos m with em | em
            · rw [if_pos (jleT (by omega) (by omega))]
              have ej : j = h := by omega
              subst ej
              exact ⟨_, rfl, Or.inr ⟨_, rfl, b1, b2, b3⟩⟩
            · obtain ⟨r1, r2, r3, r4, r5, r6⟩ := hRa j (by omega)
              obtain ⟨o1, o2⟩ := hmch j (by omega)
              obtain ⟨o3, o4, o5⟩ := hspn j (by omega)
              have k1 : M3 235 (40 * s + 2 * j) = nI (mch j) := by
                rw [b3 _ _ (by omega), fnf _ _ (by omega), fne _ _ (by omega), fnd _ _ (by omega), fg _ _ (by omega), hc9 _ (by omega)]
                exact o1
              have k2 : M3 235 (40 * s + 2 * j + 1) = nI (spn j) := by
                rw [show 40 * s + 2 * j + 1 = 40 * s + (2 * j + 1) by omega, b3 _ _ (by omega), fnf _ _ (by omega), fne _ _ (by omega), fnd _ _ (by omega), fg _ _ (by omega), hc9 _ (by omega)]
                exact o3
              have k3 : M3 221 6 - 1 = nI F.np := by
                rw [b1.2.1, r4]
                exact jsub1 (k := F.np + 1) (by omega)
              obtain ⟨M14, y1, y2, y3, y4⟩ := jaddB (v := spn j) r1 b1 b2 (show F.np < _ by rw [r4]; exact hpp) (show mch j < _ by rw [r3]; exact o2) (by rw [r6]; omega) (by rw [r5]; show F.ns + j < 32; omega)
              rw [if_neg (jleF (by omega) (by omega)), jmul2, jmul40, nI_add, jrd_nI (show 40 * s + 2 * j < 240 by omega) (by decide), Option.bind_some, k1, nI_1, jrd_nI (show 40 * s + 2 * j + 1 < 240 by omega) (by decide), Option.bind_some, k2, k3, y1, Option.bind_some]
              exact ⟨_, rfl, Or.inl ⟨_, m - 1, rfl, by omega, j + 1, by omega, nI_1 j, y2, y3, fun a i z => (y4 a i z).trans (b3 a i z)⟩⟩
          obtain ⟨Nz, z1, z2, z3, z4⟩ := lB
          obtain ⟨r1, r2, r3, r4, r5, r6⟩ := hRa h (Nat.le_refl _)
          have rA : ∀ a i, 1 ≤ a → a ≤ 43 → Nz a i = M9 a i := fun a i y1 y2 => by rw [z4 a i (by omega), fnf a i (by omega), fne a i (by omega), fnd a i (by omega), fg a i (by omega)]
          refine ⟨100, M9, Nz, nI F.np, ?_, ?_, ((F.addP x2).addR od F.np mch spn h).1, ((F.addP x2).addR od F.np mch spn h).2, S, k, q, hXf.fl (fun a i y => ?_) (by rw [r5]; exact Nat.le_add_right _ _) r1 r2 (l2.fr (by rw [r3]; exact hnm) (fun a i y1 y2 => rA a i (by omega) (by omega))) (l3.fr (fun a i y1 y2 => rA a i (by omega) (by omega))) z2 z3⟩
          · rw [eA]
            unfold f_X7_addPieceBy f_X2_addPiece
            rw [show M7 1 1 = nI F.np by rw [f7 _ _ (by omega)]; exact lp, jwr_nI u1 (by decide), pa, Option.bind_some, show Ma 1 1 = nI F.np by rw [fa _ _ (by omega), f7 _ _ (by omega)]; exact lp, nI_1, pb, Option.bind_some, Option.bind_some]
            dsimp only
            rw [l1, Option.bind_some, Option.bind_some]
          · have e6 : M9 221 6 = nI F.np := hB9.2.1
            rw [g1', t1', Option.bind_some, if_neg n10, e6, hB9.2.2.1, nI_add, if_neg (by rw [jeqL (by omega) (by decide)]; omega), if_neg (by rw [jLlt (by omega) (by decide)]; omega), if_pos (by rw [jleL (by omega) (by decide)]; omega), ng, Option.bind_some, show Ng 221 6 = nI F.np by rw [fg _ _ (by omega)]; exact e6, jwr_nI u1 (by decide), nd, Option.bind_some, show Nd 221 6 = nI F.np by rw [fnd _ _ (by omega), fg _ _ (by omega)]; exact e6, jwr_nI u1 (by decide), ne, Option.bind_some, show Ne 221 6 = nI F.np by rw [fne _ _ (by omega), fnd _ _ (by omega), fg _ _ (by omega)]; exact e6, nI_1, nf, Option.bind_some, z1, Option.bind_some, z2.2.1, r4]
            show some (Nz, nI (F.np + 1) - 1) = _
            rw [jsub1 (by omega)]
            rfl
          · rw [z4 a i (by omega), same a i (by omega)]
        · refine ⟨100, M, M, -100004, ?_, ?_, hI⟩
          · rw [eA]
            by_cases e2 : F.np < 12
            · rw [if_neg (by rw [jLle (by omega) (by decide)]; omega)]
              by_cases e3 : h ≤ 8
              · rw [if_neg (by rw [jLlt (by omega) (by decide)]; omega), if_neg (by rw [jleL (by omega) (by decide)]; omega)]
              · rw [if_pos (by rw [jLlt (by omega) (by decide)]; omega)]
            · rw [if_pos (by rw [jLle (by omega) (by decide)]; omega)]
          · rw [g1, t1, Option.bind_some, if_neg n10, hB.2.1, hB.2.2.1, nI_add]
            by_cases e2 : F.np < 12
            · rw [if_neg (by rw [jeqL (by omega) (by decide)]; omega)]
              by_cases e3 : h ≤ 8
              · rw [if_neg (by rw [jLlt (by omega) (by decide)]; omega), if_neg (by rw [jleL (by omega) (by decide)]; omega)]
              · rw [if_pos (by rw [jLlt (by omega) (by decide)]; omega)]
            · rw [if_pos (by rw [jeqL (by omega) (by decide)]; omega)]
      · have t3 : t = 0 := by
          rcases t2 with ⟨-, t2⟩ | ⟨t2, -⟩
          · exact absurd t2 w1
          · exact t2
        subst t3
        refine ⟨100, M, M, -100003, ?_, ?_, hI⟩
        · rw [eA, w2, Option.bind_some, if_pos rfl]
        · rw [g1, t1, Option.bind_some, if_pos rfl]
    · have eo2 : n % 2 = 1 := by omega
      have n30 : ¬ (3 : Int32) = 0 := by decide
      refine ⟨0, jup M 44 3 3, jup (jup M 44 3 3) 221 14 3, 0, ?_, ?_, F, od, S, k, q, cod 3⟩
      · unfold f_X7_read f_X5_codeOfRead
        rw [jisSheet, if_pos h1, Option.bind_some, if_neg n10, jisOut, if_pos h0, Option.bind_some, if_pos rfl, tA, Option.bind_some, if_neg n10, jrd_nI hs (by decide), Option.bind_some, a4, jodd a2, eo2, if_neg (show ¬ nI 1 = 0 by decide), Option.bind_some, if_neg n30, Option.bind_some]
      · unfold f_X8_read
        rw [jisSheetB, if_pos h1, Option.bind_some, if_neg n10, jin_0_9, if_pos h0, if_neg n10, jrd_nI hs (by decide), Option.bind_some, show jup M 44 3 3 233 s = nI n by rw [jup_ne (by decide)]; exact a5, if_pos (jle0 (by omega)), Option.bind_some, jodd a2, eo2, if_neg (show ¬ nI 1 = 0 by decide), Option.bind_some, if_neg (by decide), Option.bind_some]
