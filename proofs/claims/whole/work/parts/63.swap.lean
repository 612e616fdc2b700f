/-! two neighbours exchanged -/
def odX (od : Nat → Nat → Nat) (m i : Nat) : Nat → Nat → Nat := fun x j => if x = m ∧ j = i then od m (i + 1) else if x = m ∧ j = i + 1 then od m i else od x j
theorem odX_twice (od : Nat → Nat → Nat) (m i : Nat) : odX (odX od m i) m i = od := by
  funext x j
  unfold odX
  by_cases e1 : x = m ∧ j = i
  · rw [if_pos e1, if_neg (by omega), if_pos ⟨rfl, rfl⟩, e1.1, e1.2]
  · rw [if_neg e1]
    by_cases e2 : x = m ∧ j = i + 1
    · rw [if_pos e2, if_pos ⟨rfl, rfl⟩, e2.1, e2.2]
    · rw [if_neg e2, if_neg e1, if_neg e2]
theorem odX_wo {F : FT} {od : Nat → Nat → Nat} {m i : Nat} (h : WO F od) (hi : i + 1 < F.oc m) : WO F (odX od m i) := by
  obtain ⟨h1, h2, h3⟩ := h
  refine ⟨fun x j hj => ?_, fun x j l hj hl e => ?_, fun s hs => ?_⟩
  · unfold odX
    by_cases e1 : x = m ∧ j = i
    · rw [if_pos e1, e1.1]
      exact h1 m (i + 1) hi
    · rw [if_neg e1]
      by_cases e2 : x = m ∧ j = i + 1
      · rw [if_pos e2, e2.1]
        exact h1 m i (by omega)
      · rw [if_neg e2]
        exact h1 x j hj
  · unfold odX at e
    by_cases ex : x = m
    · subst ex
      by_cases a1 : j = i
      · by_cases b1 : l = i
        · omega
        · by_cases b2 : l = i + 1
          · rw [if_pos ⟨rfl, a1⟩, if_neg (by omega), if_pos ⟨rfl, b2⟩] at e
            have := h2 x _ _ hi (by omega) e
            omega
          · rw [if_pos ⟨rfl, a1⟩, if_neg (by omega), if_neg (by omega)] at e
            have := h2 x _ _ hi (by omega) e
            omega
      · by_cases a2 : j = i + 1
        · by_cases b1 : l = i
          · rw [if_neg (by omega), if_pos ⟨rfl, a2⟩, if_pos ⟨rfl, b1⟩] at e
            have := h2 x _ _ (by omega) hi e
            omega
          · by_cases b2 : l = i + 1
            · omega
            · rw [if_neg (by omega), if_pos ⟨rfl, a2⟩, if_neg (by omega), if_neg (by omega)] at e
              have := h2 x _ _ (by omega) (by omega) e
              omega
        · by_cases b1 : l = i
          · rw [if_neg (by omega), if_neg (by omega), if_pos ⟨rfl, b1⟩] at e
            have := h2 x _ _ (by omega) hi e
            omega
          · by_cases b2 : l = i + 1
            · rw [if_neg (by omega), if_neg (by omega), if_neg (by omega), if_pos ⟨rfl, b2⟩] at e
              have := h2 x _ _ (by omega) (by omega) e
              omega
            · rw [if_neg (by omega), if_neg (by omega), if_neg (by omega), if_neg (by omega)] at e
              exact h2 x _ _ (by omega) (by omega) e
    · rw [if_neg (fun z => ex z.1), if_neg (fun z => ex z.1), if_neg (fun z => ex z.1), if_neg (fun z => ex z.1)] at e
      exact h2 x j l hj hl e
  · obtain ⟨j, hj, e⟩ := h3 s hs
    unfold odX
    by_cases ex : F.mc s = m
    · by_cases a1 : j = i
      · exact ⟨i + 1, by rw [ex]; exact hi, by rw [if_neg (by omega), if_pos ⟨ex, rfl⟩, ← a1, ← ex]; exact e⟩
      · by_cases a2 : j = i + 1
        · exact ⟨i, by rw [ex]; omega, by rw [if_pos ⟨ex, rfl⟩, ← a2, ← ex]; exact e⟩
        · exact ⟨j, hj, by rw [if_neg (by omega), if_neg (by omega)]; exact e⟩
    · exact ⟨j, hj, by rw [if_neg (fun z => ex z.1), if_neg (fun z => ex z.1)]; exact e⟩
theorem jexA {M : JMem} {r m i : Nat} {F : FT} {od : Nat → Nat → Nat} (hW : WF F) (h : AO M r F od) (hm : m < 8) (hi : i + 1 < F.oc m) : ∃ M', f_X3_exchange M r (nI m) (nI i) = some M' ∧ AO M' r F (odX od m i) ∧ ∀ a j, ¬ (r + 2 ≤ a ∧ a ≤ r + 9) → M' a j = M a j := by
  have hoc := oc_le hW m
  have hns := hW.2.2.1.1
  obtain ⟨k1, k2⟩ := h
  obtain ⟨M6, e6, f6, v6⟩ := jupX M (r + 1 + 1 + m) i (nI (od m (i + 1)))
  obtain ⟨M8, e8, f8, v8⟩ := jupX M6 (r + 1 + 1 + m) (i + 1) (nI (od m i))
  refine ⟨M8, ?_, ⟨fun x hx => ?_, fun x j hx hj => ?_⟩, fun a j ha => ?_⟩
  · unfold f_X3_exchange
    rw [jrw_nI hm (by decide), Option.bind_some, jrd_nI (show i < 32 by omega) (by decide), Option.bind_some, k2 m i hm (by omega), Option.bind_some, Option.bind_some, nI_1, jrd_nI (show i + 1 < 32 by omega) (by decide), Option.bind_some, k2 m (i + 1) hm hi, jwr_nI (show i < 32 by omega) (by decide), e6, Option.bind_some, Option.bind_some, jwr_nI (show i + 1 < 32 by omega) (by decide), e8, Option.bind_some]
  · rw [f8 _ _ (by omega), f6 _ _ (by omega)]
    exact k1 x hx
  · unfold odX
    by_cases e1 : x = m ∧ j = i
    · rw [if_pos e1, e1.1, e1.2, f8 _ _ (by omega)]
      exact v6
    · rw [if_neg e1]
      by_cases e2 : x = m ∧ j = i + 1
      · rw [if_pos e2, e2.1, e2.2]
        exact v8
      · rw [if_neg e2, f8 _ _ (by omega), f6 _ _ (by omega)]
        exact k2 x j hx hj
  · rw [f8 _ _ (by omega), f6 _ _ (by omega)]
theorem jexB {M : JMem} {m i : Nat} {F : FT} {od : Nat → Nat → Nat} (hW : WF F) (h : BO M F od) (hm : m < 8) (hi : i + 1 < F.oc m) : ∃ M', f_X8_exchange M (nI m) (nI i) = some M' ∧ BO M' F (odX od m i) ∧ ∀ a j, a ≠ 231 → M' a j = M a j := by
  have hoc := oc_le hW m
  have hns := hW.2.2.1.1
  obtain ⟨k1, k2⟩ := h
  obtain ⟨M6, e6, f6, v6⟩ := jupX M 231 (32 * m + i) (nI (od m (i + 1)))
  obtain ⟨M8, e8, f8, v8⟩ := jupX M6 231 (32 * m + i + 1) (nI (od m i))
  have hoc2 := hW.2.2.2.2.1
  refine ⟨M8, ?_, ⟨fun x hx => ?_, fun x j hx hj => ?_⟩, fun a j ha => ?_⟩
  · unfold f_X8_exchange
    rw [jmul32, nI_add, jrd_nI (show 32 * m + i < 256 by omega) (by decide), Option.bind_some, k2 m i hm (by omega), nI_1, jrd_nI (show 32 * m + i + 1 < 256 by omega) (by decide), Option.bind_some, show 32 * m + i + 1 = 32 * m + (i + 1) by omega, k2 m (i + 1) hm hi, jwr_nI (show 32 * m + i < 256 by omega) (by decide), e6, Option.bind_some, show 32 * m + (i + 1) = 32 * m + i + 1 by omega, jwr_nI (show 32 * m + i + 1 < 256 by omega) (by decide), e8, Option.bind_some]
  · rw [f8 _ _ (by omega), f6 _ _ (by omega)]
    exact k1 x hx
  · have h32 := hoc2 x
    unfold odX
    by_cases e1 : x = m ∧ j = i
    · rw [if_pos e1, e1.1, e1.2, f8 _ _ (by omega)]
      exact v6
    · rw [if_neg e1]
      by_cases e2 : x = m ∧ j = i + 1
      · rw [if_pos e2, e2.1, e2.2]
        exact v8
      · rw [if_neg e2, f8 _ _ (by omega), f6 _ _ (by omega)]
        exact k2 x j hx hj
  · rw [f8 _ _ (by omega), f6 _ _ (by omega)]
/-- an order has a day -/
def FT.day (F : FT) (od : Nat → Nat → Nat) : Prop := ∀ s, s < F.ns → Acc (F.pre od) s
theorem day_iff {F : FT} {od : Nat → Nat → Nat} {fx : Nat → Option Nat} {nb b : Nat → Nat} {B : Nat} {P : Nat → Bool} (hW : WF F) (hO : WO F od) (h : F.snd od fx nb B P b) (hc : F.cpl od P) : fb_ct P F.ns = F.ns ↔ F.day od := by
  constructor
  · intro e s hs
    exact (h s hs (fb_ct_all.mp e s hs)).2.2.2
  · intro hd
    have key : ∀ s, Acc (F.pre od) s → s < F.ns → P s = true := by
      intro s ha
      induction ha with
      | intro s _ ih => exact fun hs => hc s hs (fun t ht => ih t ht (pre_lt hW hO hs ht))
    exact fb_ct_all.mpr (fun s hs => key s (hd s hs) hs)
theorem jhasA {M : JMem} {o r B N : Nat} {F : FT} {od : Nat → Nat → Nat} {fx : Nat → Option Nat} {nb : Nat → Nat} (hEA : EA M o r F od fx nb B) (hN : 100 ≤ N) : ∃ M', ((F.day od ∧ f_X1_work N M o r = some (M', 1)) ∨ (¬ F.day od ∧ f_X1_work N M o r = some (M', 0))) ∧ ∀ a i, ¬ ((a = o ∧ (i = 4 ∨ i = 6)) ∨ a = o + 1 ∨ (o + 5 ≤ a ∧ a ≤ o + 9)) → M' a i = M a i := by
  obtain ⟨M', q, P, lp, lm, b, E, e1, e2, e3, e4⟩ := jworkA (N := N) hEA hN
  have hd := day_iff hEA.1 hEA.2.1 e2.1 e3
  refine ⟨M', ?_, e4⟩
  by_cases e : fb_ct P F.ns = F.ns
  · rw [if_pos e] at e1
    exact Or.inl ⟨hd.mp e, e1⟩
  · rw [if_neg e] at e1
    exact Or.inr ⟨fun z => e (hd.mpr z), e1⟩
theorem jhasB {M : JMem} {N : Nat} {F : FT} {od : Nat → Nat → Nat} (hEB : EB M F od) (hN : 100 ≤ N) : ∃ M', ((F.day od ∧ f_X8_work N M = some (M', 1)) ∨ (¬ F.day od ∧ f_X8_work N M = some (M', 0))) ∧ ∀ a i, ¬ ((a = 221 ∧ i = 21) ∨ (237 ≤ a ∧ a ≤ 239)) → M' a i = M a i := by
  obtain ⟨M', P, b, E, e1, e2, e3, e4⟩ := jworkB (N := N) hEB hN
  have hd := day_iff hEB.1 hEB.2.1 e2.1 e3
  refine ⟨M', ?_, e4⟩
  by_cases e : fb_ct P F.ns = F.ns
  · rw [if_pos e] at e1
    exact Or.inl ⟨hd.mp e, e1⟩
  · rw [if_neg e] at e1
    exact Or.inr ⟨fun z => e (hd.mpr z), e1⟩
/-- another order, all else as it was -/
theorem IX.ord {M M2 : JMem} {F : FT} {od od' : Nat → Nat → Nat} {S : ST} {k q : Nat} (h : IX M F od S k q) (hO : WO F od') (hAO : AO M2 33 F od') (hBO : BO M2 F od') (e : ∀ a i, jcore a i → ¬ ((34 ≤ a ∧ a ≤ 43) ∨ a = 231 ∨ a = 232) → M2 a i = M a i) : IX M2 F od' S k q := by
  let M3 : JMem := fun a i => if (34 ≤ a ∧ a ≤ 43) ∨ a = 231 ∨ a = 232 then M2 a i else M a i
  have e3 : ∀ a i, ¬ ((34 ≤ a ∧ a ≤ 43) ∨ a = 231 ∨ a = 232) → M3 a i = M a i := fun a i z => if_neg z
  have e4 : ∀ a i, ((34 ≤ a ∧ a ≤ 43) ∨ a = 231 ∨ a = 232) → M3 a i = M2 a i := fun a i z => if_pos z
  obtain ⟨hW, -, hA, -, hB, -⟩ := id h
  have h3 : IX M3 F od' S k q := h.fl (fun a i z => e3 a i (by omega)) (Nat.le_refl _) hW hO (hA.fr hW.1.1 (fun a i _ _ => e3 a i (by omega))) (hAO.fr (fun a i _ _ => e4 a i (by omega))) (hB.fr ⟨e3 _ _ (by omega), e3 _ _ (by omega), e3 _ _ (by omega)⟩ (fun a i _ _ => e3 a i (by omega))) (hBO.fr (fun a i _ _ => e4 a i (by omega)))
  refine h3.core (fun a i hc => ?_)
  by_cases z : (34 ≤ a ∧ a ≤ 43) ∨ a = 231 ∨ a = 232
  · exact (e4 a i z).symm
  · rw [e3 a i z]
    exact e a i hc z
theorem jpred2 {n : Nat} {x : Int32} (hn : n ≤ 1000) : (0 ≤ x ∧ x ≤ nI n - 2) ↔ ∃ i, i + 1 < n ∧ x = nI i := by
  have e2 : (nI n - 2).toInt = (n : Int) - 2 := pk_sub_toInt (a := n) (b := 2) (by omega) (by decide)
  constructor
  · rintro ⟨h1, h2⟩
    rw [Int32.le_iff_toInt_le, e2] at h2
    rw [Int32.le_iff_toInt_le] at h1
    have e0 : (0 : Int32).toInt = 0 := rfl
    refine ⟨x.toInt.toNat, by omega, ?_⟩
    apply Int32.toInt_inj.mp
    rw [nI_toInt (by omega)]
    omega
  · rintro ⟨k, hk, rfl⟩
    refine ⟨jle0 (by omega), ?_⟩
    rw [Int32.le_iff_toInt_le, e2, nI_toInt (by omega)]
    omega
theorem jst_swap_ok : jst_swap jInv := by
  rintro M x1 x2 ⟨F, od, S, k, q, hX⟩
  have hI : jInv M := ⟨F, od, S, k, q, hX⟩
  obtain ⟨hW, hO, hA, hAO, hB, hBO, -⟩ := id hX
  have hns := hW.2.2.1.1
  have hnm := hW.1.1
  have n10 : ¬ (1 : Int32) = 0 := by decide
  rcases jem (0 ≤ x1 ∧ x1 ≤ nI F.nm - 1) with h1 | h1
  · exact ⟨0, M, M, -100001, by unfold f_X7_swap; rw [jisMachine, hA.1, if_neg h1, Option.bind_some, if_pos rfl], by unfold f_X8_swap; rw [hB.1, jin_0_v, if_neg h1, if_pos rfl], hI⟩
  obtain ⟨m, hm, rfl⟩ := (jbelow (by omega)).mp h1
  have hm8 : m < 8 := by omega
  have hoc := oc_le hW m
  have hk := hW.1.2 m hm
  rcases jem (0 ≤ x2 ∧ x2 ≤ nI (F.oc m) - 2) with h2 | h2
  · refine ⟨0, M, M, -100002, ?_, ?_, hI⟩
    · unfold f_X7_swap
      rw [jisMachine, hA.1, if_pos h1, Option.bind_some, if_neg n10, jrd_nI hm8 (by decide), Option.bind_some, show (43 : Nat) = 33 + 10 from rfl, hAO.1 m hm8, jisOut, if_neg h2, Option.bind_some, if_neg n10]
    · unfold f_X8_swap
      rw [hB.1, jin_0_v, if_pos h1, if_neg n10, jrd_nI hm8 (by decide), Option.bind_some, hBO.1 m hm8, jin_0_v, if_neg h2, if_pos rfl]
  obtain ⟨i, hi, rfl⟩ := (jpred2 (by omega)).mp h2
  have eA : ∀ N, f_X7_swap N M (nI m) (nI i) = if nI (F.kd m) = 1 then some (M, (-100003 : Int32)) else (f_X1_work N M 54 33).bind fun (M5, v6) => (f_X3_exchange M5 33 (nI m) (nI i)).bind fun M7 => (if v6 = 0 then some (M7, 1) else (f_X1_work N M7 54 33).bind fun (M8, v9) => (if v9 = 0 then (f_X3_exchange M8 33 (nI m) (nI i)).bind fun M10 => some (M10, 0) else some (M8, 1))) := by
    intro N
    unfold f_X7_swap
    rw [jisMachine, hA.1, if_pos h1, Option.bind_some, if_neg n10, jrd_nI hm8 (by decide), Option.bind_some, show (43 : Nat) = 33 + 10 from rfl, hAO.1 m hm8, jisOut, if_pos h2, Option.bind_some, if_pos rfl, jrd_nI hm8 (by decide), Option.bind_some, (hA.2.2.2.1 m hm).1]
  have eB : ∀ (N : Nat) (M1 : JMem), BF M1 F → BO M1 F od → f_X8_swap N M1 (nI m) (nI i) = if nI (F.kd m) = 1 then some (M1, (-100003 : Int32)) else (f_X8_work N M1).bind fun (M3, v4) => (f_X8_exchange M3 (nI m) (nI i)).bind fun M5 => (if v4 = 0 then some (M5, 1) else (f_X8_work N M5).bind fun (M6, v7) => (if v7 = 0 then (f_X8_exchange M6 (nI m) (nI i)).bind fun M8 => some (M8, 0) else some (M6, 1))) := by
    intro N M1 hB hBO
    unfold f_X8_swap
    rw [hB.1, jin_0_v, if_pos h1, if_neg n10, jrd_nI hm8 (by decide), Option.bind_some, hBO.1 m hm8, jin_0_v, if_pos h2, if_neg n10, jrd_nI hm8 (by decide), Option.bind_some, (hB.2.2.2.1 m hm).1]
  rcases jem (F.kd m = 1) with h3 | h3
  case inr =>
    have h4 : nI (F.kd m) = 1 := by rw [h3]; rfl
    exact ⟨0, M, M, -100003, by rw [eA, if_pos h4], by rw [eB 0 M hB hBO, if_pos h4], hI⟩
  have h4 : ¬ nI (F.kd m) = 1 := by rw [jeqL (by omega) (by decide)]; exact h3
  have hO' := odX_wo hO hi
  -- the class
  have sA : ∃ M1 od' rr, f_X7_swap 100 M (nI m) (nI i) = some (M1, rr) ∧ AO M1 33 F od' ∧ (∀ a j, ¬ ((35 ≤ a ∧ a ≤ 42) ∨ (a = 54 ∧ (j = 4 ∨ j = 6)) ∨ a = 55 ∨ (59 ≤ a ∧ a ≤ 63)) → M1 a j = M a j) ∧ ((rr = 1 ∧ od' = odX od m i ∧ (F.day od → F.day (odX od m i))) ∨ (rr = 0 ∧ od' = od ∧ F.day od ∧ ¬ F.day (odX od m i))) := by
    obtain ⟨M5, w1, w2⟩ := jhasA (N := 100) hX.ea (by omega)
    have hAO5 : AO M5 33 F od := hAO.fr (fun a j _ _ => w2 a j (by omega))
    obtain ⟨M7, x1, x2, x3⟩ := jexA hW hAO5 hm8 hi
    have f7 : ∀ a j, ¬ ((35 ≤ a ∧ a ≤ 42) ∨ (a = 54 ∧ (j = 4 ∨ j = 6)) ∨ a = 55 ∨ (59 ≤ a ∧ a ≤ 63)) → M7 a j = M a j := fun a j z => (x3 a j (by omega)).trans (w2 a j (by omega))
    have hEA7 : EA M7 54 33 F (odX od m i) (fun _ => none) (fun _ => 0) 0 := by
      have := hX.ea.fr (M' := M5) (fun a j _ => w2 a j (by omega))
      obtain ⟨u1, u2, u3, u4, u5, u6, u7⟩ := this
      refine ⟨u1, hO', u3.fr hnm (fun a j _ _ => x3 a j (by omega)), x2, fun s hs => ?_, fun m' hm' => ?_, u7⟩
      · rw [x3 _ _ (by omega)]
        exact u5 s hs
      · rw [x3 _ _ (by omega)]
        exact u6 m' hm'
    rw [eA, if_neg h4]
    rcases w1 with ⟨d1, w1⟩ | ⟨d1, w1⟩
    · obtain ⟨M8, y1, y2⟩ := jhasA (N := 100) hEA7 (by omega)
      have hAO8 : AO M8 33 F (odX od m i) := x2.fr (fun a j _ _ => y2 a j (by omega))
      rcases y1 with ⟨d2, y1⟩ | ⟨d2, y1⟩
      · refine ⟨M8, odX od m i, 1, ?_, hAO8, fun a j z => (y2 a j (by omega)).trans (f7 a j z), Or.inl ⟨rfl, rfl, fun _ => d2⟩⟩
        rw [w1, Option.bind_some]
        dsimp only
        rw [x1, Option.bind_some, if_neg n10, y1, Option.bind_some]
        dsimp only
        rw [if_neg n10]
      · obtain ⟨M10, t1, t2, t3⟩ := jexA hW hAO8 hm8 hi
        rw [odX_twice] at t2
        refine ⟨M10, od, 0, ?_, t2, fun a j z => (t3 a j (by omega)).trans ((y2 a j (by omega)).trans (f7 a j z)), Or.inr ⟨rfl, rfl, d1, d2⟩⟩
        rw [w1, Option.bind_some]
        dsimp only
        rw [x1, Option.bind_some, if_neg n10, y1, Option.bind_some]
        dsimp only
        rw [if_pos rfl, t1, Option.bind_some]
    · refine ⟨M7, odX od m i, 1, ?_, x2, f7, Or.inl ⟨rfl, rfl, fun z => absurd z d1⟩⟩
      rw [w1, Option.bind_some]
      dsimp only
      rw [x1, Option.bind_some, if_pos rfl]
  obtain ⟨M1, od', rr, a1, a2, a3, a4⟩ := sA
  have hEB1 : EB M1 F od := ⟨hW, hO, hB.fr ⟨a3 _ _ (by omega), a3 _ _ (by omega), a3 _ _ (by omega)⟩ (fun a j _ _ => a3 a j (by omega)), hBO.fr (fun a j _ _ => a3 a j (by omega))⟩
  -- the model
  have sB : ∃ M2, f_X8_swap 100 M1 (nI m) (nI i) = some (M2, rr) ∧ BO M2 F od' ∧ (∀ a j, ¬ (a = 231 ∨ (a = 221 ∧ j = 21) ∨ (237 ≤ a ∧ a ≤ 239)) → M2 a j = M1 a j) := by
    obtain ⟨M5, w1, w2⟩ := jhasB (N := 100) hEB1 (by omega)
    have hBO5 : BO M5 F od := hEB1.2.2.2.fr (fun a j _ _ => w2 a j (by omega))
    obtain ⟨M7, x1, x2, x3⟩ := jexB hW hBO5 hm8 hi
    have f7 : ∀ a j, ¬ (a = 231 ∨ (a = 221 ∧ j = 21) ∨ (237 ≤ a ∧ a ≤ 239)) → M7 a j = M1 a j := fun a j z => (x3 a j (by omega)).trans (w2 a j (by omega))
    have hEB7 : EB M7 F (odX od m i) := ⟨hW, hO', hEB1.2.2.1.fr ⟨f7 _ _ (by omega), f7 _ _ (by omega), f7 _ _ (by omega)⟩ (fun a j _ _ => f7 a j (by omega)), x2⟩
    rw [eB 100 M1 hEB1.2.2.1 hEB1.2.2.2, if_neg h4]
    obtain ⟨M8, y1, y2⟩ := jhasB (N := 100) hEB7 (by omega)
    have hBO8 : BO M8 F (odX od m i) := x2.fr (fun a j _ _ => y2 a j (by omega))
    obtain ⟨M10, t1, t2, t3⟩ := jexB hW hBO8 hm8 hi
    rw [odX_twice] at t2
    rcases a4 with ⟨rfl, rfl, d0⟩ | ⟨rfl, rfl, d1, d2⟩
    · rcases w1 with ⟨d1, w1⟩ | ⟨d1, w1⟩
      · rcases y1 with ⟨d2, y1⟩ | ⟨d2, y1⟩
        · refine ⟨M8, ?_, hBO8, fun a j z => (y2 a j (by omega)).trans (f7 a j z)⟩
          rw [w1, Option.bind_some]
          dsimp only
          rw [x1, Option.bind_some, if_neg n10, y1, Option.bind_some]
          dsimp only
          rw [if_neg n10]
        · exact absurd (d0 d1) d2
      · refine ⟨M7, ?_, x2, f7⟩
        rw [w1, Option.bind_some]
        dsimp only
        rw [x1, Option.bind_some, if_pos rfl]
    · rcases w1 with ⟨-, w1⟩ | ⟨d3, w1⟩
      · rcases y1 with ⟨d4, y1⟩ | ⟨-, y1⟩
        · exact absurd d4 d2
        · refine ⟨M10, ?_, t2, fun a j z => (t3 a j (by omega)).trans ((y2 a j (by omega)).trans (f7 a j z))⟩
          rw [w1, Option.bind_some]
          dsimp only
          rw [x1, Option.bind_some, if_neg n10, y1, Option.bind_some]
          dsimp only
          rw [if_pos rfl, t1, Option.bind_some]
      · exact absurd d1 d3
  obtain ⟨M2, b1, b2, b3⟩ := sB
  refine ⟨100, M1, M2, rr, a1, b1, F, od', S, k, q, hX.ord ?_ (a2.fr (fun a j _ _ => b3 a j (by omega))) b2 (fun a j z y => ?_)⟩
  · rcases a4 with ⟨-, rfl, -⟩ | ⟨-, rfl, -⟩
    · exact hO'
    · exact hO
  · unfold jcore at z
    rw [b3 a j (by omega), a3 a j (by omega)]
