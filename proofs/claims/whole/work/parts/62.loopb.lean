section WC
variable {M : JMem} {N : Nat} {F : FT} {od : Nat → Nat → Nat} {P : Nat → Bool} {b : Nat → Nat} {E : Nat}
theorem jpassB (hEB : EB M F od) (hD : DB M F od P b E) (hN : 100 ≤ N) :
    ∃ x, jLp (σ := Int32 × Int32 × Int32 × JMem) (ρ := Int32 × Int32 × JMem) N (fun ((z30, z31, z32, M33) : Int32 × Int32 × Int32 × JMem) => (if (M33 221 11) ≤ z32 then some (Sum.inr (z30, z31, M33)) else (jrd M33 238 32 z32).bind fun v37 => (((if v37 = 0 then (f_X8_isReady N M33 z32).bind fun v43 => (if v43 = 0 then some ((z30, z31, M33)) else (f_X8_ahead M33 z32).bind fun v44 => (((if 0 ≤ v44 then (jrd M33 237 32 v44).bind fun v50 => (jrd M33 229 32 v44).bind fun v51 => some ((v50 + v51)) else some (0)) : Option (Int32)).bind fun u53 => (jrd M33 228 32 z32).bind fun v54 => (f_X8_placeOf N M33 z32).bind fun v55 => (f_X8_fromOrder N M33 v54 v55 z32).bind fun (M56, v57) => (((if u53 ≤ v57 then some (v57) else some (u53)) : Option (Int32)).bind fun u64 => (jwr M56 237 32 z32 u64).bind fun M65 => (jwr M65 238 32 z32 1).bind fun M66 => (jrd M66 237 32 z32).bind fun v67 => (jrd M66 229 32 z32).bind fun v68 => (((if (v67 + v68) ≤ (M66 221 21) then some ((M66 221 21)) else (jrd M66 237 32 z32).bind fun v74 => (jrd M66 229 32 z32).bind fun v75 => some ((v74 + v75))) : Option (Int32)).bind fun u77 => (some (jup M66 221 21 u77)).bind fun M78 => some ((z30 + 1, 1, M78)))))) else some ((z30, z31, M33))) : Option (Int32 × Int32 × JMem)).bind fun (u81, u82, M83) => some (Sum.inl (u81, u82, z32 + 1, M83))))) (nI (fb_ct P F.ns), 0, 0, M) = some x ∧
    ((∀ a i, ¬ ((a = 221 ∧ i = 21) ∨ (237 ≤ a ∧ a ≤ 239)) → x.2.2 a i = M a i) ∧ ((x.1 = nI (fb_ct P F.ns) ∧ x.2.1 = 0 ∧ x.2.2 = M ∧ F.cpl od P) ∨ (x.2.1 = 1 ∧ ∃ P' b' E', DB x.2.2 F od P' b' E' ∧ x.1 = nI (fb_ct P' F.ns) ∧ fb_ct P F.ns < fb_ct P' F.ns))) := by
  have hns := hEB.1.2.2.1.1
  refine jLp_tot (fun n z => ∃ s, n + s = F.ns ∧ z.2.2.1 = nI s ∧ (∀ a i, ¬ ((a = 221 ∧ i = 21) ∨ (237 ≤ a ∧ a ≤ 239)) → z.2.2.2 a i = M a i) ∧ ((z.1 = nI (fb_ct P F.ns) ∧ z.2.1 = 0 ∧ z.2.2.2 = M ∧ ∀ u, u < s → P u = true ∨ ¬ ∀ t, F.pre od t u → P t = true) ∨ (z.2.1 = 1 ∧ ∃ P' b' E', DB z.2.2.2 F od P' b' E' ∧ z.1 = nI (fb_ct P' F.ns) ∧ fb_ct P F.ns < fb_ct P' F.ns))) _ ?_ N F.ns (nI (fb_ct P F.ns), 0, 0, M) (by omega) ⟨0, by omega, rfl, fun _ _ _ => rfl, Or.inl ⟨rfl, rfl, rfl, fun u hu => absurd hu (Nat.not_lt_zero u)⟩⟩
  rintro n ⟨z30, z31, z32, M33⟩ ⟨s, hn, hz, hf, hst⟩
  dsimp only at hz hf hst ⊢
  subst hz
  have hEB2 : EB M33 F od := hEB.fr (fun a i _ => hf a i (by omega))
  rw [hEB2.2.2.1.2.2.1]
  rcases Nat.eq_zero_or_pos n with en | en
  · rw [if_pos (jleT (by omega) (by omega))]
    refine ⟨_, rfl, Or.inr ⟨_, rfl, hf, ?_⟩⟩
    rcases hst with ⟨e1, e2, e3, e4⟩ | e1
    · refine Or.inl ⟨e1, e2, e3, fun u hu hpre => ?_⟩
      rcases e4 u (by omega) with z | z
      · exact z
      · exact absurd hpre z
    · exact Or.inr e1
  · rw [if_neg (jleF (by omega) (by omega))]
    rcases hst with ⟨e1, e2, e3, e4⟩ | ⟨e1, P', b', E', e2, e3, e4⟩
    · subst e1 e2 e3
      obtain ⟨⟨y1, y2, y3, y4⟩, f1, f2, f3⟩ := joneB (s := s) hEB2 hD (by omega) hN 0
      dsimp only at f2 f3
      rw [f1]
      refine ⟨_, rfl, Or.inl ⟨_, n - 1, rfl, by omega, s + 1, by omega, f2, ?_⟩⟩
      rcases f3 with ⟨g1, g2, g3, g4⟩ | ⟨g1, g2, P2, b2, E2, g3, g4, g5⟩
      · refine ⟨fun a i z => by show y4 a i = _; rw [g3], Or.inl ⟨g1, g2, g3, fun u hu => ?_⟩⟩
        rcases Nat.lt_succ_iff_lt_or_eq.mp hu with z | z
        · exact e4 u z
        · rw [z]
          exact g4
      · exact ⟨fun a i z => g2 a i z, Or.inr ⟨g1, P2, b2, E2, g3, g4, g5⟩⟩
    · subst e1 e3
      obtain ⟨⟨y1, y2, y3, y4⟩, f1, f2, f3⟩ := joneB (s := s) hEB2 e2 (by omega) hN 1
      dsimp only at f2 f3
      rw [f1]
      refine ⟨_, rfl, Or.inl ⟨_, n - 1, rfl, by omega, s + 1, by omega, f2, ?_⟩⟩
      rcases f3 with ⟨g1, g2, g3, g4⟩ | ⟨g1, g2, P2, b2, E2, g3, g4, g5⟩
      · exact ⟨fun a i z => by show y4 a i = _; rw [g3]; exact hf a i z, Or.inr ⟨g2, P', b', E', by show DB y4 F od P' b' E'; rw [g3]; exact e2, g1, e4⟩⟩
      · exact ⟨fun a i z => (g2 a i z).trans (hf a i z), Or.inr ⟨g1, P2, b2, E2, g3, g4, by omega⟩⟩
theorem jzeroB {n N c : Nat} {M : JMem} (hc : c ≤ 32) (h : M 221 11 = nI c) (hN : 100 ≤ N) : ∃ M1, jLp (σ := Int32 × JMem) (ρ := JMem) N (fun ((z7, M8) : Int32 × JMem) => (if (M8 221 11) ≤ z7 then some (Sum.inr M8) else (jwr M8 238 32 z7 0).bind fun M10 => some (Sum.inl (z7 + 1, M10)))) (0, M) = some M1 ∧ (∀ s, s < c → M1 238 s = 0) ∧ ∀ a i, a ≠ 238 → M1 a i = M a i := by
  refine jLp_tot (fun n z => ∃ k, n + k = c ∧ z.1 = nI k ∧ (∀ s, s < k → z.2 238 s = 0) ∧ ∀ a i, a ≠ 238 → z.2 a i = M a i) _ ?_ N c (0, M) (by omega) ⟨0, by omega, rfl, fun s hs => absurd hs (Nat.not_lt_zero s), fun _ _ _ => rfl⟩
  rintro n ⟨z7, M8⟩ ⟨k, hn, hz, hx, hf⟩
  dsimp only at hz hx hf ⊢
  subst hz
  rw [hf _ _ (by omega), h]
  rcases Nat.eq_zero_or_pos n with en | en
  · rw [if_pos (jleT (by omega) (by omega))]
    exact ⟨_, rfl, Or.inr ⟨_, rfl, fun s hs => hx s (by omega), hf⟩⟩
  · rw [if_neg (jleF (by omega) (by omega)), jwr_nI (show k < 32 by omega) (by decide), Option.bind_some]
    refine ⟨_, rfl, Or.inl ⟨_, n - 1, rfl, by omega, k + 1, by omega, nI_1 k, fun s hs => ?_, fun a i ha => ?_⟩⟩
    · show jup M8 238 k 0 238 s = 0
      rw [jup_at]
      by_cases e : s = k
      · rw [if_pos ⟨rfl, e⟩]
      · rw [if_neg (fun z => e z.2)]
        exact hx s (by omega)
    · show jup M8 238 k 0 a i = _
      rw [jup_ne ha]
      exact hf a i ha
theorem jworkB (hEB : EB M F od) (hN : 100 ≤ N) : ∃ M' P b E, f_X8_work N M = some (M', if fb_ct P F.ns = F.ns then 1 else 0) ∧ DB M' F od P b E ∧ F.cpl od P ∧ ∀ a i, ¬ ((a = 221 ∧ i = 21) ∨ (237 ≤ a ∧ a ≤ 239)) → M' a i = M a i := by
  have hns := hEB.1.2.2.1.1
  have hzz : ∀ n, fb_ct (fun _ => false) n = 0 := fun n => fb_ct_zero.mpr (fun _ _ => rfl)
  obtain ⟨M1, c1, c2, c3⟩ := jzeroB (n := 0) (N := N) hns hEB.2.2.1.2.2.1 hN
  obtain ⟨M2, e2, f2, v2⟩ := jupX M1 221 21 0
  have hf0 : ∀ a i, ¬ ((a = 221 ∧ i = 21) ∨ (237 ≤ a ∧ a ≤ 239)) → M2 a i = M a i := fun a i z => (f2 a i (by omega)).trans (c3 a i (by omega))
  have hD0 : DB M2 F od (fun _ => false) (fun _ => 0) 0 := ⟨fun s hs hP => (by cases hP), ⟨fun s hs hP => (by cases hP), Or.inl rfl⟩, fun s hs => (by rw [f2 _ _ (by omega)]; exact c2 s hs), fun s hs hP => (by cases hP), v2⟩
  have hl : ∃ x, jLp (σ := Int32 × Int32 × JMem) (ρ := Int32 × JMem) N (fun ((z19, z20, M21) : Int32 × Int32 × JMem) => (if z20 = 0 then some (Sum.inr (z19, M21)) else ((jLp (σ := Int32 × Int32 × Int32 × JMem) (ρ := Int32 × Int32 × JMem) N (fun ((z30, z31, z32, M33) : Int32 × Int32 × Int32 × JMem) => (if (M33 221 11) ≤ z32 then some (Sum.inr (z30, z31, M33)) else (jrd M33 238 32 z32).bind fun v37 => (((if v37 = 0 then (f_X8_isReady N M33 z32).bind fun v43 => (if v43 = 0 then some ((z30, z31, M33)) else (f_X8_ahead M33 z32).bind fun v44 => (((if 0 ≤ v44 then (jrd M33 237 32 v44).bind fun v50 => (jrd M33 229 32 v44).bind fun v51 => some ((v50 + v51)) else some (0)) : Option (Int32)).bind fun u53 => (jrd M33 228 32 z32).bind fun v54 => (f_X8_placeOf N M33 z32).bind fun v55 => (f_X8_fromOrder N M33 v54 v55 z32).bind fun (M56, v57) => (((if u53 ≤ v57 then some (v57) else some (u53)) : Option (Int32)).bind fun u64 => (jwr M56 237 32 z32 u64).bind fun M65 => (jwr M65 238 32 z32 1).bind fun M66 => (jrd M66 237 32 z32).bind fun v67 => (jrd M66 229 32 z32).bind fun v68 => (((if (v67 + v68) ≤ (M66 221 21) then some ((M66 221 21)) else (jrd M66 237 32 z32).bind fun v74 => (jrd M66 229 32 z32).bind fun v75 => some ((v74 + v75))) : Option (Int32)).bind fun u77 => (some (jup M66 221 21 u77)).bind fun M78 => some ((z30 + 1, 1, M78)))))) else some ((z30, z31, M33))) : Option (Int32 × Int32 × JMem)).bind fun (u81, u82, M83) => some (Sum.inl (u81, u82, z32 + 1, M83))))) (z19, 0, 0, M21)).bind fun (t34, t35, t36) => some (Sum.inl (t34, t35, t36))))) (0, 1, M2) = some x ∧ ((∀ a i, ¬ ((a = 221 ∧ i = 21) ∨ (237 ≤ a ∧ a ≤ 239)) → x.2 a i = M a i) ∧ ∃ P b E, DB x.2 F od P b E ∧ x.1 = nI (fb_ct P F.ns) ∧ F.cpl od P) := by
    refine jLp_tot (fun n z => (∀ a i, ¬ ((a = 221 ∧ i = 21) ∨ (237 ≤ a ∧ a ≤ 239)) → z.2.2 a i = M a i) ∧ ∃ P b E, DB z.2.2 F od P b E ∧ z.1 = nI (fb_ct P F.ns) ∧ ((z.2.1 = 1 ∧ n + fb_ct P F.ns = F.ns + 1) ∨ (z.2.1 = 0 ∧ F.cpl od P))) _ ?_ N (F.ns + 1) (0, 1, M2) (by omega) ⟨hf0, _, _, _, hD0, by rw [hzz]; rfl, Or.inl ⟨rfl, by rw [hzz]⟩⟩
    rintro n ⟨z19, z20, M21⟩ ⟨hf, P, b, E, hD, hz, hst⟩
    dsimp only at hz hf hD hst ⊢
    subst hz
    have hEB2 : EB M21 F od := hEB.fr (fun a i _ => hf a i (by omega))
    rcases hst with ⟨rfl, h2⟩ | ⟨rfl, h2⟩
    · rw [if_neg (show ¬ (1 : Int32) = 0 by decide)]
      obtain ⟨⟨x1, x2, x3⟩, d1, d2, d3⟩ := jpassB (N := N) hEB2 hD hN
      dsimp only at d2 d3
      rw [d1, Option.bind_some]
      have hle := fb_ct_le P F.ns
      rcases d3 with ⟨g1, g2, g3, g4⟩ | ⟨g1, P2, b2, E2, g2, g3, g4⟩
      · refine ⟨_, rfl, Or.inl ⟨_, n - 1, rfl, by omega, fun a i z => (d2 a i z).trans (hf a i z), P, b, E, by show DB x3 F od P b E; rw [g3]; exact hD, g1, Or.inr ⟨g2, g4⟩⟩⟩
      · have hle2 := fb_ct_le P2 F.ns
        refine ⟨_, rfl, Or.inl ⟨_, F.ns + 1 - fb_ct P2 F.ns, rfl, by omega, fun a i z => (d2 a i z).trans (hf a i z), P2, b2, E2, g2, g3, Or.inl ⟨g1, by omega⟩⟩⟩
    · rw [if_pos rfl]
      exact ⟨_, rfl, Or.inr ⟨_, rfl, hf, P, b, E, hD, rfl, h2⟩⟩
  obtain ⟨⟨x1, x2⟩, e1, e3, P, b, E, e4, e5, e6⟩ := hl
  dsimp only at e3 e4 e5
  subst e5
  refine ⟨x2, P, b, E, ?_, e4, e6, e3⟩
  unfold f_X8_work
  rw [c1, Option.bind_some, e2, Option.bind_some, e1, Option.bind_some]
  dsimp only
  rw [(hEB.fr (M' := x2) (fun a i _ => e3 a i (by omega))).2.2.1.2.2.1]
  have hct := fb_ct_le P F.ns
  by_cases e : fb_ct P F.ns = F.ns
  · rw [if_pos (by rw [e]), if_pos e]
  · rw [if_neg (jeqF e (by omega) (by omega)), if_neg e]
end WC
/-- the plain day's ground -/
theorem EA.of {M : JMem} {o r : Nat} {F : FT} {od : Nat → Nat → Nat} (hW : WF F) (hO : WO F od) (hA : AF M F) (hAO : AO M r F od) (hD : ID M o) (ho : r + 10 < o) (hr : 33 ≤ r) : EA M o r F od (fun _ => none) (fun _ => 0) 0 :=
  ⟨hW, hO, hA, hAO, fun s hs => Or.inl ⟨rfl, hD.1 s (Nat.lt_of_lt_of_le hs hW.2.2.1.1)⟩, fun m hm => ⟨hD.2 m hm, Nat.le_refl _⟩, by omega, ho, hr⟩
theorem IX.ea {M : JMem} {F : FT} {od : Nat → Nat → Nat} {S : ST} {k q : Nat} (h : IX M F od S k q) : EA M 54 33 F od (fun _ => none) (fun _ => 0) 0 := EA.of h.1 h.2.1 h.2.2.1 h.2.2.2.1 h.2.2.2.2.2.2.2.2.2.2.1 (by decide) (by decide)
theorem IX.eb {M : JMem} {F : FT} {od : Nat → Nat → Nat} {S : ST} {k q : Nat} (h : IX M F od S k q) : EB M F od := ⟨h.1, h.2.1, h.2.2.2.2.1, h.2.2.2.2.2.1⟩
/-- both days, worked: the same -/
theorem jboth {M : JMem} {F : FT} {od : Nat → Nat → Nat} {S : ST} {k q N : Nat} (hX : IX M F od S k q) (hN : 100 ≤ N) : ∃ M1 qq P lp lm b E, f_X1_work N M 54 33 = some (M1, if fb_ct P F.ns = F.ns then 1 else 0) ∧ DA M1 54 F od (fun _ => none) (fun _ => 0) 0 qq P lp lm b E ∧ F.cpl od P ∧ IX M1 F od S k q ∧ (∀ a i, ¬ ((a = 54 ∧ (i = 4 ∨ i = 6)) ∨ a = 55 ∨ (59 ≤ a ∧ a ≤ 63)) → M1 a i = M a i) := by
  obtain ⟨M1, qq, P, lp, lm, b, E, e1, e2, e3, e4⟩ := jworkA (N := N) hX.ea hN
  exact ⟨M1, qq, P, lp, lm, b, E, e1, e2, e3, hX.core (fun a i h => e4 a i (by unfold jcore at h; omega)), fun a i z => e4 a i (by omega)⟩
theorem jbothB {M : JMem} {F : FT} {od : Nat → Nat → Nat} {S : ST} {k q N B E : Nat} {P : Nat → Bool} {b : Nat → Nat} (hX : IX M F od S k q) (h1 : F.snd od (fun _ => none) (fun _ => 0) B P b) (h2 : F.cpl od P) (h3 : F.mx P b E) (hN : 100 ≤ N) : ∃ M1, f_X8_work N M = some (M1, if fb_ct P F.ns = F.ns then 1 else 0) ∧ IX M1 F od S k q ∧ M1 221 21 = nI E ∧ (∀ s, s < F.ns → P s = true → M1 237 s = nI (b s)) ∧ (∀ a i, ¬ ((a = 221 ∧ i = 21) ∨ (237 ≤ a ∧ a ≤ 239)) → M1 a i = M a i) := by
  obtain ⟨M1, P', b', E', e1, e2, e3, e4⟩ := jworkB (N := N) hX.eb hN
  obtain ⟨a1, a2, a3⟩ := jagree hX.1 hX.2.1 h1 e2.1 h2 e3 h3 e2.2.1
  refine ⟨M1, by rw [a1]; exact e1, hX.core (fun a i h => e4 a i (by unfold jcore at h; omega)), by rw [a2]; exact e2.2.2.2.2, fun s hs hP => ?_, e4⟩
  rw [(a3 s hs).2 hP]
  exact e2.2.2.2.1 s hs (by rw [← (a3 s hs).1]; exact hP)
theorem jst_end_ok : jst_end jInv := by
  rintro M ⟨F, od, S, k, q, hX⟩
  obtain ⟨M1, qq, P, lp, lm, b, E, e1, e2, e3, hX1, -⟩ := jboth (N := 100) hX (by omega)
  obtain ⟨M2, f1, hX2, f2, f3, -⟩ := jbothB (N := 100) hX1 e2.1 e3 e2.2.1 (by omega)
  refine ⟨100, M1, M2, if fb_ct P F.ns = F.ns then nI E else -1, ?_, ?_, F, od, S, k, q, hX2⟩
  · unfold f_X7_end
    rw [e1, Option.bind_some]
    dsimp only
    rw [e2.2.2.2.1]
    by_cases e : fb_ct P F.ns = F.ns
    · rw [if_pos e, if_pos e, if_neg (by decide)]
    · rw [if_neg e, if_neg e, if_pos rfl]
  · unfold f_X8_end
    rw [f1, Option.bind_some]
    dsimp only
    rw [f2]
    by_cases e : fb_ct P F.ns = F.ns
    · rw [if_pos e, if_pos e, if_neg (by decide)]
    · rw [if_neg e, if_neg e, if_pos rfl]
theorem jst_begin_ok : jst_begin jInv := by
  rintro M x1 ⟨F, od, S, k, q, hX⟩
  have hI : jInv M := ⟨F, od, S, k, q, hX⟩
  have hns := hX.1.2.2.1.1
  have eA := hX.2.2.1.2.2.1
  have eB := hX.2.2.2.2.1.2.2.1
  rcases jem (0 ≤ x1 ∧ x1 ≤ nI F.ns - 1) with h1 | h1
  · exact ⟨0, M, M, -100001, by simp [f_X7_begin, jisStep, eA, h1], by simp [f_X8_begin, jisStepB, eB, h1], hI⟩
  obtain ⟨s, hs, rfl⟩ := (jbelow (by omega)).mp h1
  obtain ⟨M1, qq, P, lp, lm, b, E, e1, e2, e3, hX1, -⟩ := jboth (N := 100) hX (by omega)
  obtain ⟨M2, f1, hX2, f2, f3, -⟩ := jbothB (N := 100) hX1 e2.1 e3 e2.2.1 (by omega)
  have n10 : ¬ (1 : Int32) = 0 := by decide
  refine ⟨100, M1, M2, if fb_ct P F.ns = F.ns then nI (b s) else -100003, ?_, ?_, F, od, S, k, q, hX2⟩
  · unfold f_X7_begin
    rw [jisStep, eA, if_pos h1, Option.bind_some, if_neg n10, e1, Option.bind_some]
    dsimp only
    by_cases e : fb_ct P F.ns = F.ns
    · rw [if_pos e, if_pos e, if_neg n10, jrd_nI (by omega) (by decide), Option.bind_some, show (55 : Nat) = 54 + 1 from rfl, e2.2.2.2.2.1 s hs (fb_ct_all.mp e s hs)]
    · rw [if_neg e, if_neg e, if_pos rfl]
  · unfold f_X8_begin
    rw [jisStepB, hX1.2.2.2.2.1.2.2.1, if_pos h1, Option.bind_some, if_neg n10, f1, Option.bind_some]
    dsimp only
    by_cases e : fb_ct P F.ns = F.ns
    · rw [if_pos e, if_pos e, if_neg n10, jrd_nI (by omega) (by decide), Option.bind_some, f3 s hs (fb_ct_all.mp e s hs)]
    · rw [if_neg e, if_neg e, if_pos rfl]
