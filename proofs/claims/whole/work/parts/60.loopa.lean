theorem jfillX (M : JMem) (a n : Nat) (v : Int32) : ∃ M1, jfill M a n v = M1 ∧ (∀ b j, ¬ (b = a ∧ j < n) → M1 b j = M b j) ∧ ∀ j, j < n → M1 a j = v := by
  refine ⟨_, rfl, fun b j h => ?_, fun j hj => ?_⟩
  · unfold jfill jrow
    by_cases e : b = a
    · subst e
      rw [if_pos rfl, if_neg (by omega)]
    · rw [if_neg e]
  · unfold jfill jrow
    rw [if_pos rfl, if_pos hj]
section WL
variable {M : JMem} {o r B N : Nat} {F : FT} {od : Nat → Nat → Nat} {fx : Nat → Option Nat} {nb : Nat → Nat} {q : Nat → Nat} {P : Nat → Bool} {lp lm b : Nat → Nat} {E : Nat}
theorem jnextP (hEA : EA M o r F od fx nb B) (h : DA M o F od fx nb B q P lp lm b E) {p : Nat} (hp : p < 12) : f_X1_nextOfPiece M o (nI p) = some (if lp p < F.lc p then nI (F.ln p (lp p)) else -1) := by
  obtain ⟨hW, hO, hA, hAO, -⟩ := hEA
  obtain ⟨-, -, -, -, -, -, -, -, h9, -⟩ := h
  obtain ⟨a1, a2⟩ := h9 p hp
  have hlc := hW.2.1.2.2.1 p
  unfold f_X1_nextOfPiece
  rw [jrd_nI hp (by decide), Option.bind_some, a1, jrd_nI hp (by decide), Option.bind_some, hA.2.2.2.2.2.1 p hp]
  by_cases e : lp p < F.lc p
  · rw [if_neg (jleF e (by omega)), if_pos e, jrw_nI hp (by decide), Option.bind_some, jrd_nI (show lp p < 8 by omega) (by decide), Option.bind_some, hA.2.2.2.2.2.2.1 p _ hp e]
  · rw [if_pos (jleT (by omega) (by omega)), if_neg e]
theorem jnextM (hEA : EA M o r F od fx nb B) (h : DA M o F od fx nb B q P lp lm b E) {s : Nat} (hs : s < F.ns) : f_X1_isNextOnMachine M o r (nI s) = some (if F.kd (F.mc s) = 1 ∨ (lm (F.mc s) < F.oc (F.mc s) ∧ od (F.mc s) (lm (F.mc s)) = s) then 1 else 0) := by
  obtain ⟨hW, hO, hA, hAO, -⟩ := hEA
  obtain ⟨-, -, -, -, -, -, -, -, -, -, h11, -⟩ := h
  have hns := hW.2.2.1.1
  have hnm := hW.1.1
  obtain ⟨p1, p2, p3, p4, p5, p6⟩ := hW.2.2.1.2 s hs
  have hm8 : F.mc s < 8 := by omega
  obtain ⟨l1, l2, l3⟩ := h11 _ hm8
  have hk := hW.1.2 _ p2
  have hoc := oc_le hW (F.mc s)
  have hct := fb_ct_le P F.ns
  unfold f_X1_isNextOnMachine
  rw [jrd_nI (by omega) (by decide), Option.bind_some, (hA.2.2.2.2.2.2.2.1 s hs).2.1, jrd_nI hm8 (by decide), Option.bind_some, l1, jrd_nI hm8 (by decide), Option.bind_some, (hA.2.2.2.1 _ p2).1]
  by_cases e1 : F.kd (F.mc s) = 1
  · rw [if_pos (by rw [e1]; rfl), if_pos (Or.inl e1), jcR]
  · rw [if_neg (by rw [jeqL (by omega) (by decide)]; exact e1), jrd_nI hm8 (by decide), Option.bind_some, hAO.1 _ hm8]
    by_cases e2 : lm (F.mc s) < F.oc (F.mc s)
    · have hlt := (hO.1 _ _ e2).1
      rw [if_neg (jleF e2 (by omega)), jrw_nI hm8 (by decide), Option.bind_some, jrd_nI (show lm (F.mc s) < 32 by omega) (by decide), Option.bind_some, hAO.2 _ _ hm8 e2]
      by_cases e3 : od (F.mc s) (lm (F.mc s)) = s
      · rw [if_pos (by rw [e3]), if_pos (Or.inr ⟨e2, e3⟩), jcR]
      · rw [if_neg (jeqF e3 (by omega) (by omega)), if_neg (fun z => by rcases z with z | z; exact e1 z; exact e3 z.2), jcL]
    · rw [if_pos (jleT (by omega) (by omega)), if_neg (fun z => by rcases z with z | z; exact e1 z; exact e2 z.1), jcL]
/-- the next of a piece, whether it is ready -/
theorem jready (hEA : EA M o r F od fx nb B) (h : DA M o F od fx nb B q P lp lm b E) {p : Nat} (hp : p < 12) (hl : lp p < F.lc p) : F.ln p (lp p) < F.ns ∧ P (F.ln p (lp p)) = false ∧ ((F.kd (F.mc (F.ln p (lp p))) = 1 ∨ (lm (F.mc (F.ln p (lp p))) < F.oc (F.mc (F.ln p (lp p))) ∧ od (F.mc (F.ln p (lp p))) (lm (F.mc (F.ln p (lp p)))) = F.ln p (lp p))) ↔ ∀ t, F.pre od t (F.ln p (lp p)) → P t = true) := by
  have hlme := fun s i => h.lme (s := s) (i := i) hEA
  obtain ⟨hW, hO, hA, hAO, -⟩ := hEA
  obtain ⟨-, -, -, -, -, -, -, -, h9, h10, h11, -⟩ := h
  obtain ⟨a1, a2, a3⟩ := hW.2.1.2.2.2 p (lp p) hl
  generalize hsd : F.ln p (lp p) = s at *
  have hP : P s = false := by
    cases e : P s with
    | false => rfl
    | true =>
      have := (h10 s a1).mp e
      rw [a2, a3] at this
      omega
  have hm8 : F.mc s < 8 := Nat.lt_of_lt_of_le (hW.2.2.1.2 s a1).2.1 hW.1.1
  refine ⟨a1, hP, fun z t ht => ?_, fun z => ?_⟩
  · rcases ht with ⟨h1, rfl⟩ | ⟨h1, i, j, hi, hoi, hj, rfl⟩
    · have b1 := jahead hW a1 h1
      have b2 := hW.2.1.2.2.2 (F.pc s) (F.rk s - 1) (by have := (hW.2.2.1.2 s a1).2.2.2.2.1; omega)
      refine (h10 _ b1).mpr ?_
      rw [b2.2.1, b2.2.2, a2, a3]
      omega
    · rcases z with z | ⟨z1, z2⟩
      · exact absurd z h1
      · have e := hO.2.1 _ i (lm (F.mc s)) hi z1 (by rw [hoi, z2])
        exact (((h11 _ hm8).2.2 h1).2 j (by omega)).mpr (by omega)
  · by_cases e1 : F.kd (F.mc s) = 1
    · exact Or.inl e1
    · obtain ⟨i, hi, hoi⟩ := hO.2.2 s a1
      have e := hlme s i a1 hP z e1 hi hoi
      exact Or.inr ⟨by omega, by rw [e]; exact hoi⟩
theorem jpassA (hEA : EA M o r F od fx nb B) (h : DA M o F od fx nb B q P lp lm b E) (hN : 100 ≤ N) :
    ∃ x, jLp (σ := Int32 × Int32 × JMem) (ρ := Int32 × JMem) N (fun ((z18, z19, M20) : Int32 × Int32 × JMem) => (if (M20 1 1) ≤ z19 then some (Sum.inr (z18, M20)) else (f_X1_nextOfPiece M20 o z19).bind fun v23 => (((if v23 = ((-1)) then some ((z18, M20)) else (f_X1_isNextOnMachine M20 o r v23).bind fun v29 => (if v29 = 0 then some ((z18, M20)) else (f_X1_earliest N M20 o r v23).bind fun (M30, v31) => (f_X1_set M30 o r v23 v31).bind fun M32 => some ((1, M32)))) : Option (Int32 × JMem)).bind fun (u35, M36) => some (Sum.inl (u35, z19 + 1, M36))))) (0, 0, M) = some x ∧
    ((∀ a i, ¬ ((a = o ∧ (i = 4 ∨ i = 6)) ∨ a = o + 1 ∨ (o + 5 ≤ a ∧ a ≤ o + 9)) → x.2 a i = M a i) ∧ ((x.1 = 0 ∧ x.2 = M ∧ F.cpl od P) ∨ (x.1 = 1 ∧ ∃ q' P' lp' lm' b' E', DA x.2 o F od fx nb B q' P' lp' lm' b' E' ∧ fb_ct P F.ns < fb_ct P' F.ns))) := by
  have hW := hEA.1
  have hnp := hW.2.1.1
  have hns := hW.2.2.1.1
  refine jLp_tot (fun n z => ∃ p, n + p = F.np ∧ z.2.1 = nI p ∧ (∀ a i, ¬ ((a = o ∧ (i = 4 ∨ i = 6)) ∨ a = o + 1 ∨ (o + 5 ≤ a ∧ a ≤ o + 9)) → z.2.2 a i = M a i) ∧ ((z.1 = 0 ∧ z.2.2 = M ∧ ∀ p', p' < p → lp p' < F.lc p' → ¬ ∀ t, F.pre od t (F.ln p' (lp p')) → P t = true) ∨ (z.1 = 1 ∧ ∃ q' P' lp' lm' b' E', DA z.2.2 o F od fx nb B q' P' lp' lm' b' E' ∧ fb_ct P F.ns < fb_ct P' F.ns))) _ ?_ N F.np (0, 0, M) (by omega) ⟨0, by omega, rfl, fun _ _ _ => rfl, Or.inl ⟨rfl, rfl, fun p' hp' => absurd hp' (Nat.not_lt_zero p')⟩⟩
  rintro n ⟨z18, z19, M20⟩ ⟨p, hn, hz, hf, hst⟩
  dsimp only at hz hf hst ⊢
  subst hz
  have hEA2 : EA M20 o r F od fx nb B := hEA.fr (fun a i _ => hf a i (by omega))
  rw [hEA2.2.2.1.2.1]
  rcases Nat.eq_zero_or_pos n with en | en
  · rw [if_pos (jleT (by omega) (by omega))]
    refine ⟨_, rfl, Or.inr ⟨_, rfl, hf, ?_⟩⟩
    rcases hst with ⟨e1, e2, e3⟩ | e1
    · refine Or.inl ⟨e1, e2, fun s hs hpre => ?_⟩
      cases hP : P s with
      | true => rfl
      | false =>
        exfalso
        have hl := h.lpe hEA hs hP hpre
        have b1 := hW.2.2.1.2 s hs
        have b2 := e3 (F.pc s) (by omega) (by omega)
        rw [hl, b1.2.2.2.2.2] at b2
        exact b2 hpre
    · exact Or.inr e1
  · rw [if_neg (jleF (by omega) (by omega))]
    have hp12 : p < 12 := by omega
    -- one piece, over whatever state stands
    have one : ∀ (q' : Nat → Nat) (P' : Nat → Bool) (lp' lm' b' : Nat → Nat) (E' : Nat), DA M20 o F od fx nb B q' P' lp' lm' b' E' → ∃ y, ((f_X1_nextOfPiece M20 o (nI p)).bind fun v23 => (((if v23 = ((-1)) then some ((z18, M20)) else (f_X1_isNextOnMachine M20 o r v23).bind fun v29 => (if v29 = 0 then some ((z18, M20)) else (f_X1_earliest N M20 o r v23).bind fun (M30, v31) => (f_X1_set M30 o r v23 v31).bind fun M32 => some ((1, M32)))) : Option (Int32 × JMem)).bind fun (u35, M36) => some (Sum.inl (u35, nI p + 1, M36)))) = some (.inl y : (Int32 × Int32 × JMem) ⊕ (Int32 × JMem)) ∧ y.2.1 = nI (p + 1) ∧ ((y.1 = z18 ∧ y.2.2 = M20 ∧ (lp' p < F.lc p → ¬ ∀ t, F.pre od t (F.ln p (lp' p)) → P' t = true)) ∨ (y.1 = 1 ∧ (∀ a i, ¬ ((a = o ∧ (i = 4 ∨ i = 6)) ∨ a = o + 1 ∨ (o + 5 ≤ a ∧ a ≤ o + 9)) → y.2.2 a i = M20 a i) ∧ ∃ q2 P2 lp2 lm2 b2 E2, DA y.2.2 o F od fx nb B q2 P2 lp2 lm2 b2 E2 ∧ fb_ct P' F.ns < fb_ct P2 F.ns)) := by
      intro q' P' lp' lm' b' E' hD
      rw [jnextP hEA2 hD hp12, Option.bind_some]
      by_cases e1 : lp' p < F.lc p
      · obtain ⟨r1, r2, r3⟩ := jready hEA2 hD hp12 e1
        rw [if_pos e1, if_neg (jnm1 (by omega)), jnextM hEA2 hD r1, Option.bind_some]
        by_cases e2 : F.kd (F.mc (F.ln p (lp' p))) = 1 ∨ (lm' (F.mc (F.ln p (lp' p))) < F.oc (F.mc (F.ln p (lp' p))) ∧ od (F.mc (F.ln p (lp' p))) (lm' (F.mc (F.ln p (lp' p)))) = F.ln p (lp' p))
        · obtain ⟨M1, v, M', c1, c2, c3, c4⟩ := hD.lay hEA2 r1 r2 (r3.mp e2) hN
          rw [if_pos e2, if_neg (show ¬ (1 : Int32) = 0 by decide), c1, Option.bind_some]
          dsimp only
          rw [c2, Option.bind_some, Option.bind_some]
          refine ⟨_, rfl, nI_1 p, Or.inr ⟨rfl, c4, _, _, _, _, _, _, c3, ?_⟩⟩
          rw [addB_ct r1 r2]
          omega
        · rw [if_neg e2, if_pos rfl, Option.bind_some]
          exact ⟨_, rfl, nI_1 p, Or.inl ⟨rfl, rfl, fun _ z => e2 (r3.mpr z)⟩⟩
      · rw [if_neg e1, if_pos rfl, Option.bind_some]
        exact ⟨_, rfl, nI_1 p, Or.inl ⟨rfl, rfl, fun z => absurd z e1⟩⟩
    rcases hst with ⟨e1, e2, e3⟩ | ⟨e1, q', P', lp', lm', b', E', hD, hlt⟩
    · obtain ⟨⟨y1, y2, y3⟩, f1, f2, f3⟩ := one q P lp lm b E (by rw [e2]; exact h)
      dsimp only at f2 f3
      rw [f1]
      refine ⟨_, rfl, Or.inl ⟨_, n - 1, rfl, by omega, p + 1, by omega, f2, ?_⟩⟩
      rcases f3 with ⟨g1, g2, g3⟩ | ⟨g1, g2, q2, P2, lp2, lm2, b2, E2, g3, g4⟩
      · refine ⟨fun a i z => by show y3 a i = M a i; rw [g2]; exact hf a i z, Or.inl ⟨g1.trans e1, g2.trans e2, fun p' hp' => ?_⟩⟩
        rcases Nat.lt_succ_iff_lt_or_eq.mp hp' with z | z
        · exact e3 p' z
        · rw [z]
          exact g3
      · exact ⟨fun a i z => (g2 a i z).trans (hf a i z), Or.inr ⟨g1, q2, P2, lp2, lm2, b2, E2, g3, g4⟩⟩
    · obtain ⟨⟨y1, y2, y3⟩, f1, f2, f3⟩ := one q' P' lp' lm' b' E' hD
      dsimp only at f2 f3
      rw [f1]
      refine ⟨_, rfl, Or.inl ⟨_, n - 1, rfl, by omega, p + 1, by omega, f2, ?_⟩⟩
      rcases f3 with ⟨g1, g2, g3⟩ | ⟨g1, g2, q2, P2, lp2, lm2, b2, E2, g3, g4⟩
      · refine ⟨fun a i z => by show y3 a i = M a i; rw [g2]; exact hf a i z, Or.inr ⟨g1.trans e1, q', P', lp', lm', b', E', by show DA y3 o F od fx nb B q' P' lp' lm' b' E'; rw [g2]; exact hD, hlt⟩⟩
      · exact ⟨fun a i z => (g2 a i z).trans (hf a i z), Or.inr ⟨g1, q2, P2, lp2, lm2, b2, E2, g3, by omega⟩⟩
theorem jclearA (hEA : EA M o r F od fx nb B) : ∃ M1, f_X1_clear M o = some M1 ∧ DA M1 o F od fx nb B (fun _ => 0) (fun _ => false) (fun _ => 0) (fun _ => 0) (fun _ => 0) 0 ∧ ∀ a i, ¬ ((a = o ∧ (i = 4 ∨ i = 6)) ∨ (o + 6 ≤ a ∧ a ≤ o + 8)) → M1 a i = M a i := by
  have hW := hEA.1
  have hns := hW.2.2.1.1
  have hz : ∀ n, fb_ct (fun _ => false) n = 0 := fun n => fb_ct_zero.mpr (fun _ _ => rfl)
  obtain ⟨M2, e2, f2, v2⟩ := jupX M o 6 0
  obtain ⟨M3, e3, f3, v3⟩ := jupX M2 o 4 0
  obtain ⟨M4, e4, f4, v4⟩ := jfillX M3 (o + 6) 32 (-1)
  obtain ⟨M5, e5, f5, v5⟩ := jfillX M4 (o + 7) 12 0
  obtain ⟨M6, e6, f6, v6⟩ := jfillX M5 (o + 8) 8 0
  refine ⟨M6, ?_, ⟨fun s hs hP => (by cases hP), ⟨fun s hs hP => (by cases hP), Or.inl rfl⟩, ?_, ?_, fun s hs hP => (by cases hP), fun k hk => ?_, fun i j hi => ?_, fun s hs hP => (by cases hP), fun p hp => ⟨?_, Nat.zero_le _⟩, fun s hs => ?_, fun m hm => ⟨?_, Nat.zero_le _, fun _ => ⟨Nat.zero_le _, fun i hi => ?_⟩⟩, fun s hs i hi hoi => ?_⟩, fun a i h => ?_⟩
  · unfold f_X1_clear
    rw [e2, Option.bind_some, e3, Option.bind_some, e4, Option.bind_some, e5, Option.bind_some, e6, Option.bind_some]
  · rw [f6 _ _ (by omega), f5 _ _ (by omega), f4 _ _ (by omega), f3 _ _ (by omega), v2, hz]
    rfl
  · rw [f6 _ _ (by omega), f5 _ _ (by omega), f4 _ _ (by omega), v3]
    rfl
  · rw [hz] at hk
    exact absurd hk (Nat.not_lt_zero k)
  · rw [hz] at hi
    exact absurd hi (Nat.not_lt_zero i)
  · rw [f6 _ _ (by omega)]
    exact v5 p hp
  · exact ⟨fun z => (by cases z), fun z => absurd z (Nat.not_lt_zero _)⟩
  · exact v6 m hm
  · exact ⟨fun z => (by cases z), fun z => absurd z (Nat.not_lt_zero _)⟩
  · rw [f6 _ _ (by omega), f5 _ _ (by omega), v4 s (by omega), if_neg (show ¬ (F.kd (F.mc s) = 0 ∧ i + 1 < 0) by omega)]
  · rw [f6 _ _ (by omega), f5 _ _ (by omega), f4 _ _ (by omega), f3 _ _ (by omega), f2 _ _ (by omega)]
theorem jworkA (hEA : EA M o r F od fx nb B) (hN : 100 ≤ N) : ∃ M' q P lp lm b E, f_X1_work N M o r = some (M', if fb_ct P F.ns = F.ns then 1 else 0) ∧ DA M' o F od fx nb B q P lp lm b E ∧ F.cpl od P ∧ ∀ a i, ¬ ((a = o ∧ (i = 4 ∨ i = 6)) ∨ a = o + 1 ∨ (o + 5 ≤ a ∧ a ≤ o + 9)) → M' a i = M a i := by
  have hW := hEA.1
  have hns := hW.2.2.1.1
  obtain ⟨M1, c1, c2, c3⟩ := jclearA hEA
  have hl : ∃ x, jLp (σ := Int32 × Int32 × JMem) (ρ := JMem) N (fun ((z8, z9, M10) : Int32 × Int32 × JMem) => (if (M10 1 2) ≤ z9 then some (Sum.inr M10) else (if z8 = 0 then some (Sum.inr M10) else ((jLp (σ := Int32 × Int32 × JMem) (ρ := Int32 × JMem) N (fun ((z18, z19, M20) : Int32 × Int32 × JMem) => (if (M20 1 1) ≤ z19 then some (Sum.inr (z18, M20)) else (f_X1_nextOfPiece M20 o z19).bind fun v23 => (((if v23 = ((-1)) then some ((z18, M20)) else (f_X1_isNextOnMachine M20 o r v23).bind fun v29 => (if v29 = 0 then some ((z18, M20)) else (f_X1_earliest N M20 o r v23).bind fun (M30, v31) => (f_X1_set M30 o r v23 v31).bind fun M32 => some ((1, M32)))) : Option (Int32 × JMem)).bind fun (u35, M36) => some (Sum.inl (u35, z19 + 1, M36))))) (0, 0, M10)).bind fun (t21, t22) => some (Sum.inl (t21, z9 + 1, t22)))))) (1, 0, M1) = some x ∧ ((∀ a i, ¬ ((a = o ∧ (i = 4 ∨ i = 6)) ∨ a = o + 1 ∨ (o + 5 ≤ a ∧ a ≤ o + 9)) → x a i = M a i) ∧ ∃ q P lp lm b E, DA x o F od fx nb B q P lp lm b E ∧ F.cpl od P) := by
    refine jLp_tot (fun n z => ∃ k, n + k = F.ns + 1 ∧ k ≤ F.ns + 1 ∧ z.2.1 = nI k ∧ (∀ a i, ¬ ((a = o ∧ (i = 4 ∨ i = 6)) ∨ a = o + 1 ∨ (o + 5 ≤ a ∧ a ≤ o + 9)) → z.2.2 a i = M a i) ∧ ∃ q P lp lm b E, DA z.2.2 o F od fx nb B q P lp lm b E ∧ ((z.1 = 1 ∧ k ≤ fb_ct P F.ns) ∨ (z.1 = 0 ∧ F.cpl od P))) _ ?_ N (F.ns + 1) (1, 0, M1) (by omega) ⟨0, by omega, by omega, rfl, fun a i z => c3 a i (by omega), _, _, _, _, _, _, c2, Or.inl ⟨rfl, Nat.zero_le _⟩⟩
    rintro n ⟨z8, z9, M10⟩ ⟨k, hn, hk, hz, hf, q, P, lp, lm, b, E, hD, hst⟩
    dsimp only at hz hf hD hst ⊢
    subst hz
    have hEA2 : EA M10 o r F od fx nb B := hEA.fr (fun a i _ => hf a i (by omega))
    rw [hEA2.2.2.1.2.2.1]
    by_cases e1 : F.ns ≤ k
    · rw [if_pos (jleT e1 (by omega))]
      refine ⟨_, rfl, Or.inr ⟨_, rfl, hf, q, P, lp, lm, b, E, hD, ?_⟩⟩
      rcases hst with ⟨-, h2⟩ | ⟨-, h2⟩
      · have h3 := fb_ct_le P F.ns
        exact fun s hs _ => fb_ct_all.mp (show fb_ct P F.ns = F.ns by omega) s hs
      · exact h2
    · rw [if_neg (jleF (by omega) (by omega))]
      rcases hst with ⟨rfl, h2⟩ | ⟨rfl, h2⟩
      · rw [if_neg (show ¬ (1 : Int32) = 0 by decide)]
        obtain ⟨⟨x1, x2⟩, d1, d2, d3⟩ := jpassA (N := N) hEA2 hD hN
        dsimp only at d2 d3
        rw [d1, Option.bind_some]
        refine ⟨_, rfl, Or.inl ⟨_, n - 1, rfl, by omega, k + 1, by omega, by omega, nI_1 k, fun a i z => (d2 a i z).trans (hf a i z), ?_⟩⟩
        rcases d3 with ⟨g1, g2, g3⟩ | ⟨g1, q2, P2, lp2, lm2, b2, E2, g2, g3⟩
        · exact ⟨q, P, lp, lm, b, E, by show DA x2 o F od fx nb B q P lp lm b E; rw [g2]; exact hD, Or.inr ⟨g1, g3⟩⟩
        · exact ⟨q2, P2, lp2, lm2, b2, E2, g2, Or.inl ⟨g1, by omega⟩⟩
      · rw [if_pos rfl]
        exact ⟨_, rfl, Or.inr ⟨_, rfl, hf, q, P, lp, lm, b, E, hD, h2⟩⟩
  obtain ⟨x, e1, e2, q, P, lp, lm, b, E, e3, e4⟩ := hl
  refine ⟨x, q, P, lp, lm, b, E, ?_, e3, e4, e2⟩
  unfold f_X1_work
  rw [c1, Option.bind_some, e1, Option.bind_some, e3.2.2.1, (hEA.fr (M' := x) (fun a i _ => e2 a i (by omega))).2.2.1.2.2.1]
  have hct := fb_ct_le P F.ns
  by_cases e : fb_ct P F.ns = F.ns
  · rw [if_pos (by rw [e]), if_pos e]
  · rw [if_neg (jeqF e (by omega) (by omega)), if_neg e]
end WL
