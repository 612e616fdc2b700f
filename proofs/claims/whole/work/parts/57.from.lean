theorem jaheadB {M : JMem} {s : Nat} {F : FT} (hW : WF F) (hB : BF M F) (hs : s < F.ns) : f_X8_ahead M (nI s) = some (if F.rk s = 0 then -1 else nI (F.ln (F.pc s) (F.rk s - 1))) := by
  have hns := hW.2.2.1.1
  have hnp := hW.2.1.1
  obtain ⟨g1, g2, g3, g4, g5, g6, g7, g8⟩ := hB
  obtain ⟨a1, a2, a3, a4⟩ := g8 s hs
  obtain ⟨p1, p2, p3, p4, p5, p6⟩ := hW.2.2.1.2 s hs
  have hlc := hW.2.1.2.2.1 (F.pc s)
  unfold f_X8_ahead
  rw [jrd_nI (by omega) (by decide), Option.bind_some, a4]
  by_cases e : F.rk s = 0
  · rw [if_pos (by rw [e]; rfl), if_pos e]
  · rw [if_neg (by rw [jeqL (by omega) (by decide)]; omega), if_neg e, jrd_nI (by omega) (by decide), Option.bind_some, a1, Option.bind_some, jmul8, nI_add, jsub1 (by omega), jrd_nI (by omega) (by decide), Option.bind_some, show 8 * F.pc s + F.rk s - 1 = 8 * F.pc s + (F.rk s - 1) by omega, g7 _ _ (by omega) (by omega)]
/-- the model's insertion of one end -/
theorem jinsB {M : JMem} {k e N : Nat} {T : Nat → Nat} (hk : k < 32) (hm : ∀ j, j < k → M 239 j = nI (T j)) (hd : ∀ j, T (j + 1) ≤ T j) (h0 : T k = 0) (hT : T 0 < 2 ^ 31) (he : e < 2 ^ 31) (he1 : 0 < e) (hN : 100 ≤ N) : ∃ at' M', jLp (σ := Int32 × JMem) (ρ := Int32 × JMem) N (fun ((z24, M25) : Int32 × JMem) => (if z24 ≤ 0 then some (Sum.inr (z24, M25)) else (jrd M25 239 32 (z24 - 1)).bind fun v28 => (if nI e ≤ v28 then some (Sum.inr (z24, M25)) else (jrd M25 239 32 (z24 - 1)).bind fun v29 => (jwr M25 239 32 z24 v29).bind fun M30 => some (Sum.inl (z24 + (-1), M30))))) (nI k, M) = some (nI at', M') ∧ at' ≤ k ∧ (∀ j, j < k + 1 → jup M' 239 at' (nI e) 239 j = nI (insF e T j)) ∧ ∀ a j, a ≠ 239 → M' a j = M a j := by
  have hT2 : ∀ j, T j ≤ T 0 := by
    intro j
    induction j with
    | zero => exact Nat.le_refl _
    | succ j ih => exact Nat.le_trans (hd j) ih
  have hT3 : ∀ d i, T (i + d) ≤ T i := by
    intro d
    induction d with
    | zero => intro i; exact Nat.le_refl _
    | succ d ih => intro i; exact Nat.le_trans (hd (i + d)) (ih i)
  have hl : ∃ r, jLp (σ := Int32 × JMem) (ρ := Int32 × JMem) N (fun ((z24, M25) : Int32 × JMem) => (if z24 ≤ 0 then some (Sum.inr (z24, M25)) else (jrd M25 239 32 (z24 - 1)).bind fun v28 => (if nI e ≤ v28 then some (Sum.inr (z24, M25)) else (jrd M25 239 32 (z24 - 1)).bind fun v29 => (jwr M25 239 32 z24 v29).bind fun M30 => some (Sum.inl (z24 + (-1), M30))))) (nI k, M) = some r ∧ (∃ c, r.1 = nI c ∧ c ≤ k ∧ (c = 0 ∨ e ≤ T (c - 1)) ∧ T c < e ∧ (∀ j, j < c → r.2 239 j = nI (T j)) ∧ (∀ j, c < j → j ≤ k → r.2 239 j = nI (T (j - 1))) ∧ ∀ a j, a ≠ 239 → r.2 a j = M a j) := by
    refine jLp_tot (fun n z => n ≤ k ∧ z.1 = nI n ∧ T n < e ∧ (∀ j, j < n → z.2 239 j = nI (T j)) ∧ (∀ j, n < j → j ≤ k → z.2 239 j = nI (T (j - 1))) ∧ ∀ a j, a ≠ 239 → z.2 a j = M a j) _ ?_ N k (nI k, M) (by omega) ⟨Nat.le_refl _, rfl, by omega, hm, fun j h1 h2 => by omega, fun _ _ _ => rfl⟩
    rintro n ⟨z, M9⟩ ⟨hn, hz, hlt, hx, hy, hf⟩
    dsimp only at hz hx hy hf ⊢
    subst hz
    rcases Nat.eq_zero_or_pos n with en | en
    · rw [if_pos (by rw [jleL (by omega) (by decide)]; omega)]
      exact ⟨_, rfl, Or.inr ⟨_, rfl, n, rfl, hn, Or.inl en, hlt, hx, hy, hf⟩⟩
    · have ht := hT2 (n - 1)
      rw [if_neg (by rw [jleL (by omega) (by decide)]; omega), jsub1 en, jrd_nI (show n - 1 < 32 by omega) (by decide), Option.bind_some, hx _ (by omega)]
      by_cases e1 : e ≤ T (n - 1)
      · rw [if_pos (jleT e1 (by omega))]
        exact ⟨_, rfl, Or.inr ⟨_, rfl, n, rfl, hn, Or.inr e1, hlt, hx, hy, hf⟩⟩
      · rw [if_neg (jleF (by omega) he), Option.bind_some, jwr_nI (show n < 32 by omega) (by decide), Option.bind_some]
        refine ⟨_, rfl, Or.inl ⟨_, n - 1, rfl, by omega, by omega, ?_, by omega, fun j hj => ?_, fun j h1 h2 => ?_, fun a j ha => ?_⟩⟩
        · show nI n + (-1) = nI (n - 1)
          rw [← jsub1 en]
          rw [Int32.sub_eq_add_neg]
        · show jup M9 239 n (nI (T (n - 1))) 239 j = _
          rw [jup_at, if_neg (by omega)]
          exact hx j (by omega)
        · show jup M9 239 n (nI (T (n - 1))) 239 j = _
          rw [jup_at]
          by_cases ej : j = n
          · rw [if_pos ⟨rfl, ej⟩, ej]
          · rw [if_neg (by omega)]
            exact hy j (by omega) h2
        · show jup M9 239 n (nI (T (n - 1))) a j = _
          rw [jup_ne ha]
          exact hf a j ha
  obtain ⟨⟨z, M'⟩, e1, c, hz, hc, h1, h2, h3, h4, h5⟩ := hl
  dsimp only at hz h3 h4 h5
  subst hz
  refine ⟨c, M', e1, hc, fun j hj => ?_, h5⟩
  rw [jup_at]
  unfold insF
  by_cases ej : j = c
  · rw [if_pos ⟨rfl, ej⟩]
    congr 1
    by_cases e0 : j = 0
    · rw [if_pos e0]
      have : T 0 < e := by rw [← e0, ej]; exact h2
      omega
    · rw [if_neg e0, ej]
      rcases h1 with h1 | h1
      · omega
      · omega
  · rw [if_neg (fun z => ej z.2)]
    by_cases e2 : j < c
    · rw [h3 j e2]
      congr 1
      rcases h1 with h1 | h1
      · omega
      · have h6 := hT3 (c - 1 - j) j
        rw [show j + (c - 1 - j) = c - 1 by omega] at h6
        by_cases e0 : j = 0
        · rw [if_pos e0]
          subst e0
          omega
        · rw [if_neg e0]
          have h7 := hd (j - 1)
          rw [Nat.sub_add_cancel (by omega)] at h7
          omega
    · rw [h4 j (by omega) (by omega), if_neg (by omega)]
      congr 1
      have h6 := hT3 (j - 1 - c) c
      rw [show c + (j - 1 - c) = j - 1 by omega] at h6
      have h7 := hd (j - 1)
      rw [Nat.sub_add_cancel (by omega)] at h7
      omega
theorem jfromB {M : JMem} {s i N : Nat} {F : FT} {b row : Nat → Nat} (hW : WF F) (hB : BF M F) (hs : s < F.ns) (hi : i ≤ 32) (h4 : F.kd (F.mc s) ≠ 1 → ∀ j, j < i → row j < F.ns ∧ M 231 (32 * F.mc s + j) = nI (row j) ∧ M 237 (row j) = nI (b (row j)) ∧ b (row j) + F.sp (row j) ≤ 1000000) (hN : 100 ≤ N) :
    ∃ M', f_X8_fromOrder N M (nI (F.mc s)) (nI i) (nI s) = some (M', nI (F.fo b row i s)) ∧ ∀ a j, a ≠ 239 → M' a j = M a j := by
  have hns := hW.2.2.1.1
  have hnm := hW.1.1
  have hnp := hW.2.1.1
  obtain ⟨p1, p2, p3, p4, p5, p6⟩ := hW.2.2.1.2 s hs
  have hk := hW.1.2 _ p2
  obtain ⟨g1, g2, g3, g4, g5, g6, g7, g8⟩ := id hB
  have hm8 : F.mc s < 8 := by omega
  have h8 : (8 : Nat) ≤ 100000 := by decide
  unfold f_X8_fromOrder
  rw [jrd_nI hm8 h8, Option.bind_some, (g4 _ p2).1]
  by_cases e1 : F.kd (F.mc s) = 1
  · rw [if_pos (by rw [e1]; rfl), fo_a (Or.inl e1)]
    exact ⟨M, rfl, fun _ _ _ => rfl⟩
  rw [if_neg (by rw [jeqL (by omega) (by decide)]; exact e1)]
  by_cases e2 : i = 0
  · rw [if_pos (by rw [e2]; rfl), fo_a (Or.inr e2)]
    exact ⟨M, rfl, fun _ _ _ => rfl⟩
  rw [if_neg (by rw [jeqL (by omega) (by decide)]; exact e2)]
  obtain ⟨c1, c2, c3, c4⟩ := h4 e1 (i - 1) (by omega)
  rw [jmul32, nI_add, jsub1 (by omega), jrd_nI (show 32 * F.mc s + i - 1 < 256 by omega) (by decide), Option.bind_some, show 32 * F.mc s + i - 1 = 32 * F.mc s + (i - 1) by omega, c2, Option.bind_some]
  by_cases e3 : F.kd (F.mc s) = 3
  · obtain ⟨h, hh1, hh2, eh⟩ := hk.2.2 e3
    rw [if_pos (by rw [e3]; rfl), jrd_nI (show row (i - 1) < 32 by omega) (by decide), Option.bind_some, c3, jrd_nI hm8 h8, Option.bind_some, (g4 _ p2).2, eh, fo_c e2 e3, eh, nI_clamp (by omega)]
    by_cases e4 : i < h
    · rw [if_pos (jltT e4 (by omega)), tt_zero F b row i (h - 1) (by omega), Nat.max_zero]
      exact ⟨M, rfl, fun _ _ _ => rfl⟩
    rw [if_neg (jltF (by omega) (by omega))]
    have hl : ∃ t, jLp (σ := Int32 × JMem) (ρ := JMem) N (fun ((z12, M13) : Int32 × JMem) => (if nI i ≤ z12 then some (Sum.inr M13) else (jrd M13 231 256 ((nI (32 * F.mc s)) + z12)).bind fun v15 => (jrd M13 237 32 v15).bind fun v16 => (jrd M13 229 32 v15).bind fun v17 => ((jLp (σ := Int32 × JMem) (ρ := Int32 × JMem) N (fun ((z24, M25) : Int32 × JMem) => (if z24 ≤ 0 then some (Sum.inr (z24, M25)) else (jrd M25 239 32 (z24 - 1)).bind fun v28 => (if (v16 + v17) ≤ v28 then some (Sum.inr (z24, M25)) else (jrd M25 239 32 (z24 - 1)).bind fun v29 => (jwr M25 239 32 z24 v29).bind fun M30 => some (Sum.inl (z24 + (-1), M30))))) (z12, M13)).bind fun (t26, t27) => (jwr t27 239 32 t26 (v16 + v17)).bind fun M33 => some (Sum.inl (z12 + 1, M33))))) (0, M) = some t ∧ ((∀ j, j < i → t 239 j = nI (F.tt b row i j)) ∧ ∀ a j, a ≠ 239 → t a j = M a j) := by
      refine jLp_tot (fun n z => ∃ k, n + k = i ∧ z.1 = nI k ∧ (∀ j, j < k → z.2 239 j = nI (F.tt b row k j)) ∧ ∀ a j, a ≠ 239 → z.2 a j = M a j) _ ?_ N i (0, M) (by omega) ⟨0, by omega, rfl, fun j hj => absurd hj (Nat.not_lt_zero j), fun _ _ _ => rfl⟩
      rintro n ⟨z8, M9⟩ ⟨k, hn, hz, hx, hf⟩
      dsimp only at hz hx hf ⊢
      subst hz
      rcases Nat.eq_zero_or_pos n with en | en
      · have ek : k = i := by omega
        rw [if_pos (jleT (by omega) (by omega))]
        exact ⟨_, rfl, Or.inr ⟨_, rfl, by rw [← ek]; exact hx, hf⟩⟩
      · obtain ⟨a1, a2, a3, a5⟩ := h4 e1 k (by omega)
        have q3 := (hW.2.2.1.2 _ a1).2.2.1
        have hb : F.tt b row k 0 ≤ 1000000 := tt_le k 0 (fun j hj => (h4 e1 j (by omega)).2.2.2)
        obtain ⟨c, M', f1, f2, f3, f4⟩ := jinsB (M := M9) (k := k) (e := b (row k) + F.sp (row k)) (N := N) (T := F.tt b row k) (by omega) hx (tt_desc F b row k) (tt_zero F b row k k (Nat.le_refl _)) (by omega) (by omega) (by omega) hN
        rw [if_neg (jleF (by omega) (by omega)), nI_add, jrd_nI (show 32 * F.mc s + k < 256 by omega) (by decide), Option.bind_some, hf _ _ (by omega), a2, jrd_nI (show row k < 32 by omega) (by decide), Option.bind_some, hf _ _ (by omega), a3, jrd_nI (show row k < 32 by omega) (by decide), Option.bind_some, hf _ _ (by omega), (g8 _ a1).2.2.1, nI_add, f1, Option.bind_some]
        dsimp only
        rw [jwr_nI (show c < 32 by omega) (by decide), Option.bind_some]
        exact ⟨_, rfl, Or.inl ⟨_, n - 1, rfl, by omega, k + 1, by omega, nI_1 k, f3, fun a j ha => (by show jup M' 239 c _ a j = _; rw [jup_ne ha, f4 a j ha]; exact hf a j ha)⟩⟩
    obtain ⟨t, f1, f2, f3⟩ := hl
    have htt : F.tt b row i (h - 1) ≤ 1000000 := tt_le _ _ (fun j hj => (h4 e1 j hj).2.2.2)
    rw [f1, Option.bind_some, jsub1 hh1, jrd_nI (show h - 1 < 32 by omega) (by decide), Option.bind_some, f2 _ (by omega), Option.bind_some]
    refine ⟨t, ?_, f3⟩
    by_cases e5 : F.tt b row i (h - 1) ≤ b (row (i - 1))
    · rw [if_pos (jleT e5 (by omega)), Option.bind_some, Nat.max_eq_left e5]
    · rw [if_neg (jleF (by omega) (by omega)), Option.bind_some, Nat.max_eq_right (by omega)]
  · obtain ⟨q1, q2, q3, q4, q5, q6⟩ := hW.2.2.1.2 _ c1
    rw [if_neg (by rw [jeqL (by omega) (by decide)]; exact e3), jrd_nI hm8 h8, jrd_nI (show row (i - 1) < 32 by omega) (by decide), Option.bind_some, Option.bind_some, (g8 _ c1).1, jrd_nI (show F.pc (row (i - 1)) < 12 by omega) (by decide), Option.bind_some, g5 _ q1, jrd_nI (show s < 32 by omega) (by decide), Option.bind_some, (g8 _ hs).1, jrd_nI (show F.pc s < 12 by omega) (by decide), Option.bind_some, g5 _ p1, (g4 _ p2).2, jrd_nI (show row (i - 1) < 32 by omega) (by decide), c3, jrd_nI (show row (i - 1) < 32 by omega) (by decide), (g8 _ c1).2.2.1, fo_o e2 e1 e3]
    have hu : ((jcase (α := Int32) (β := Unit) (if nI (F.kd (F.mc s)) = 2 then (if F.so (F.pc (row (i - 1))) = F.so (F.pc s) then some (Sum.inr ()) else some (Sum.inl (F.wi (F.mc s)))) else some (Sum.inr ())) fun _ => some (0)) : Option Int32) = some (nI (F.gap (row (i - 1)) s)) := by
      unfold FT.gap
      by_cases e5 : F.kd (F.mc s) = 2
      · obtain ⟨g, hg, eg⟩ := hk.2.1 e5
        rw [if_pos (by rw [e5]; rfl)]
        by_cases e6 : F.so (F.pc (row (i - 1))) = F.so (F.pc s)
        · rw [if_pos e6, if_neg (fun z => z.2 e6)]
          rfl
        · rw [if_neg e6, if_pos ⟨e5, e6⟩, eg, nI_clamp (by omega)]
          rfl
      · rw [if_neg (by rw [jeqL (by omega) (by decide)]; exact e5), if_neg (fun z => e5 z.1)]
        rfl
    simp only [Option.bind_some]
    rw [hu]
    simp only [Option.bind_some]
    rw [nI_add, nI_add]
    exact ⟨M, rfl, fun _ _ _ => rfl⟩
