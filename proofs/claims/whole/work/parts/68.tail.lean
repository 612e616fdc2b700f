/-! tail -/
def FT.dy (F : FT) (od : Nat → Nat → Nat) (b : Nat → Nat) (E : Nat) : Prop := F.snd od (fun _ => none) (fun _ => 0) 0 (fun _ => true) b ∧ F.mx (fun _ => true) b E
def TA (M : JMem) (o : Nat) (F : FT) (od : Nat → Nat → Nat) (b : Nat → Nat) (E : Nat) : Prop := M o 4 = nI E ∧ ∀ s, s < F.ns → M (o + 1) s = nI (b s) ∧ M (o + 2) s = nI (F.tl od s) ∧ M (o + 6) s = jopt (F.nx od s)
def TB (M : JMem) (F : FT) (od : Nat → Nat → Nat) (b : Nat → Nat) (E : Nat) : Prop := M 221 21 = nI E ∧ ∀ s, s < F.ns → M 237 s = nI (b s) ∧ M 240 s = nI (F.tl od s)
def FT.tq (F : FT) (od : Nat → Nat → Nat) : Prop := ∀ s, s < F.ns → F.tl od s = max (F.jlen (F.tl od) (F.bh s)) (F.jlen (F.tl od) (F.nx od s))
section TT
variable {M : JMem} {N : Nat} {F : FT} {od : Nat → Nat → Nat} {S : ST} {k q : Nat} {b : Nat → Nat} {E : Nat}
theorem ct_true (n : Nat) : fb_ct (fun _ => true) n = n := fb_ct_all.mpr (fun _ _ => rfl)
theorem snd_all {fx : Nat → Option Nat} {nb : Nat → Nat} {B : Nat} {P : Nat → Bool} (h : F.snd od fx nb B P b) (hP : ∀ s, s < F.ns → P s = true) : F.snd od fx nb B (fun _ => true) b := by
  intro s hs _
  obtain ⟨c1, c2, c3, c4⟩ := h s hs (hP s hs)
  exact ⟨fun _ _ => rfl, c2, by rw [ct_true]; rw [fb_ct_all.mpr hP] at c3; exact c3, c4⟩
theorem mx_all {P : Nat → Bool} (h : F.mx P b E) (hP : ∀ s, s < F.ns → P s = true) : F.mx (fun _ => true) b E := by
  refine ⟨fun s hs _ => h.1 s hs (hP s hs), ?_⟩
  rcases h.2 with z | ⟨s, hs, z1, z2⟩
  · exact Or.inl z
  · exact Or.inr ⟨s, hs, rfl, z2⟩
theorem dy_day (hW : WF F) (hO : WO F od) (h : F.dy od b E) : F.day od := (day_iff hW hO h.1 (fun _ _ _ => rfl)).mp (ct_true _)
theorem dy_le (h : F.dy od b E) (hW : WF F) : E ≤ 40000 ∧ ∀ s, s < F.ns → b s + F.sp s ≤ E := by
  have hns := hW.2.2.1.1
  refine ⟨?_, fun s hs => h.2.1 s hs rfl⟩
  rcases h.2.2 with z | ⟨s, hs, -, z2⟩
  · omega
  · have h1 := (h.1 s hs rfl).2.2.1
    have h2 := fb_ct_le (fun _ => true) F.ns
    omega
theorem jhasTA (hX : IX M F od S k q) (hN : 100 ≤ N) : ∃ M1, IX M1 F od S k q ∧ (∀ a i, ¬ ((a = 54 ∧ (i = 4 ∨ i = 6)) ∨ a = 55 ∨ a = 56 ∨ (59 ≤ a ∧ a ≤ 63)) → M1 a i = M a i) ∧ ((¬ (F.simp ∧ F.day od) ∧ f_X7_hasTails N M = some (M1, 0)) ∨ (F.simp ∧ F.day od ∧ f_X7_hasTails N M = some (M1, 1) ∧ ∃ b E, F.dy od b E ∧ F.tq od ∧ TA M1 54 F od b E)) := by
  obtain ⟨hW, hO, hA, hAO, -⟩ := id hX
  have hns := hW.2.2.1.1
  have n10 : ¬ (1 : Int32) = 0 := by decide
  unfold f_X7_hasTails
  rcases jsimpA hW hA hN with ⟨hs, e⟩ | ⟨hs, e⟩
  · rw [e, Option.bind_some, if_neg n10]
    obtain ⟨M1, qq, P, lp, lm, b, E, e1, e2, e3, hX1, hf1⟩ := jboth (N := N) hX hN
    rw [e1, Option.bind_some]
    dsimp only
    have hd := day_iff hW hO e2.1 e3
    by_cases ed : fb_ct P F.ns = F.ns
    · have hP := fb_ct_all.mp ed
      have day := hd.mp ed
      rw [if_pos ed, if_neg n10]
      obtain ⟨d1, d2, d3, d4, d5, d6, d7, d8, d9, d10, d11, d12⟩ := e2
      rw [ed] at d3 d6 d7 d8 d11
      have hnx : ∀ s, s < F.ns → M1 (54 + 6) s = jopt (F.nx od s) := by
        intro s hs
        obtain ⟨hi, hoi⟩ := pl_at hO hs
        rw [d12 s hs _ hi hoi]
        have hm8 : F.mc s < 8 := Nat.lt_of_lt_of_le (hW.2.2.1.2 s hs).2.1 hW.1.1
        unfold FT.nx
        by_cases z : F.kd (F.mc s) = 0
        · obtain ⟨-, -, g⟩ := d11 _ hm8
          obtain ⟨g1, g2⟩ := g (by omega)
          have hl : lm (F.mc s) = F.oc (F.mc s) := by
            have := (g2 (F.oc (F.mc s) - 1) (by omega)).mp (hP _ (hO.1 _ _ (by omega)).1)
            omega
          rw [hl]
          by_cases z2 : F.kd (F.mc s) = 0 ∧ F.pl od s + 1 < F.oc (F.mc s)
          · rw [if_pos z2, if_pos z2]
            rfl
          · rw [if_neg z2, if_neg z2]
            rfl
        · rw [if_neg (fun y => z y.1), if_neg (fun y => z y.1)]
          rfl
      have hq : ∀ k, k < F.ns → M1 (54 + 5) k = nI (qq k) ∧ qq k < F.ns ∧ ∀ t, F.pre od t (qq k) → ∃ j, j < k ∧ qq j = t := fun k hk => ⟨(d6 k hk).1, (d6 k hk).2.1, (d6 k hk).2.2.2⟩
      obtain ⟨M4, t1, t2, t3⟩ := jtailsA (N := N) hW hO hX1.2.2.1 (by omega) d3 hq d7 (fun s hs => d8 s hs (hP s hs)) hnx hN
      rw [t1, Option.bind_some]
      refine ⟨M4, hX1.core (fun a i z => t3 a i (by unfold jcore at z; omega)), fun a i z => (t3 a i (by omega)).trans (hf1 a i (by omega)), Or.inr ⟨hs, day, rfl, b, E, ⟨snd_all d1 hP, mx_all d2 hP⟩, fun s hs => tl_eqn hW hO (fun k hk => (hq k hk).2) d7 (fun s hs => d8 s hs (hP s hs)) hs, (t3 _ _ (by omega)).trans d4, fun s hs => ⟨(t3 _ _ (by omega)).trans (d5 s hs (hP s hs)), t2 s hs, (t3 _ _ (by omega)).trans (hnx s hs)⟩⟩⟩
    · rw [if_neg ed, if_pos rfl]
      exact ⟨M1, hX1, fun a i z => hf1 a i (by omega), Or.inl ⟨fun z => ed (hd.mpr z.2), rfl⟩⟩
  · rw [e, Option.bind_some, if_pos rfl]
    exact ⟨M, hX, fun _ _ _ => rfl, Or.inl ⟨fun z => hs z.1, rfl⟩⟩
theorem jhasTB0 (hX : IX M F od S k q) (h : ¬ (F.simp ∧ F.day od)) (hN : 100 ≤ N) : ∃ M1, f_X8_hasTails N M = some (M1, 0) ∧ IX M1 F od S k q ∧ ∀ a i, ¬ ((a = 221 ∧ i = 21) ∨ (237 ≤ a ∧ a ≤ 240)) → M1 a i = M a i := by
  obtain ⟨hW, hO, hA, hAO, hB, -⟩ := id hX
  have n10 : ¬ (1 : Int32) = 0 := by decide
  unfold f_X8_hasTails
  rcases jsimpB hW hB hN with ⟨hs, e⟩ | ⟨hs, e⟩
  · rw [e, Option.bind_some, if_neg n10]
    obtain ⟨M1, d, hf⟩ := jhasB (N := N) hX.eb hN
    rcases d with ⟨d, -⟩ | ⟨-, d⟩
    · exact absurd ⟨hs, d⟩ h
    · rw [d, Option.bind_some]
      dsimp only
      rw [if_pos rfl]
      exact ⟨M1, rfl, hX.core (fun a i z => hf a i (by unfold jcore at z; omega)), fun a i z => hf a i (by omega)⟩
  · rw [e, Option.bind_some, if_pos rfl]
    exact ⟨M, rfl, hX, fun _ _ _ => rfl⟩
theorem jhasTB1 (hX : IX M F od S k q) (hs : F.simp) (hd : F.dy od b E) (ht : F.tq od) (hN : 100 ≤ N) : ∃ M1, f_X8_hasTails N M = some (M1, 1) ∧ IX M1 F od S k q ∧ TB M1 F od b E ∧ ∀ a i, ¬ ((a = 221 ∧ i = 21) ∨ (237 ≤ a ∧ a ≤ 240)) → M1 a i = M a i := by
  obtain ⟨hW, hO, hA, hAO, hB, -⟩ := id hX
  have n10 : ¬ (1 : Int32) = 0 := by decide
  unfold f_X8_hasTails
  rcases jsimpB hW hB hN with ⟨-, e⟩ | ⟨z, -⟩
  · rw [e, Option.bind_some, if_neg n10]
    obtain ⟨M1, f1, hX1, f2, f3, f4⟩ := jbothB (N := N) hX hd.1 (fun _ _ _ => rfl) hd.2 hN
    rw [f1, Option.bind_some]
    dsimp only
    rw [if_pos (ct_true _), if_neg n10]
    obtain ⟨M4, t1, t2, t3⟩ := jtailsB (N := N) hX1.eb hd.1 (Nat.zero_le _) (fun _ _ => rfl) ht (fun s hs => f3 s hs rfl) hN
    rw [t1, Option.bind_some]
    exact ⟨M4, rfl, hX1.core (fun a i z => t3 a i (by unfold jcore at z; omega)), ⟨(t3 _ _ (by omega)).trans f2, fun s hs => ⟨(t3 _ _ (by omega)).trans (f3 s hs rfl), t2 s hs⟩⟩, fun a i z => (t3 a i (by omega)).trans (f4 a i (by omega))⟩
  · exact absurd hs z
/-- the slack -/
def FT.sl (F : FT) (od : Nat → Nat → Nat) (b : Nat → Nat) (E s : Nat) : Int32 := nI (E - (b s + F.sp s)) - nI (F.tl od s)
theorem jslA {o : Nat} (hW : WF F) (hA : AF M F) (h : TA M o F od b E) (hd : F.dy od b E) {s : Nat} (hs : s < F.ns) : f_X1_slack M o (nI s) = some (F.sl od b E s) := by
  have hns := hW.2.2.1.1
  obtain ⟨h1, h2, h3⟩ := h.2 s hs
  have hE := (dy_le hd hW).2 s hs
  unfold f_X1_slack FT.sl
  rw [jendA (by omega) h1 (hA.2.2.2.2.2.2.2.1 s hs).2.2.1, Option.bind_some, jrd_nI (by omega) (by decide), Option.bind_some, h2, h.1, jsubN hE]
theorem jslB (hW : WF F) (hB : BF M F) (h : TB M F od b E) (hd : F.dy od b E) {s : Nat} (hs : s < F.ns) : f_X8_slack M (nI s) = some (F.sl od b E s) := by
  have hns := hW.2.2.1.1
  obtain ⟨h1, h2⟩ := h.2 s hs
  have hE := (dy_le hd hW).2 s hs
  unfold f_X8_slack FT.sl
  rw [jrd_nI (by omega) (by decide), Option.bind_some, jrd_nI (by omega) (by decide), Option.bind_some, jrd_nI (by omega) (by decide), Option.bind_some, h1, h2, h.1, (hB.2.2.2.2.2.2.2 s hs).2.2.1, jsubN (by omega), jsubN (by omega), show E - b s - F.sp s = E - (b s + F.sp s) by omega]
end TT
theorem jst_tail_ok : jst_tail jInv := by
  rintro M x1 x2 ⟨F, od, S, k, q, hX⟩
  have hI : jInv M := ⟨F, od, S, k, q, hX⟩
  obtain ⟨hW, hO, hA, hAO, hB, hBO, -⟩ := id hX
  have hns := hW.2.2.1.1
  have n10 : ¬ (1 : Int32) = 0 := by decide
  have eA := hA.2.2.1
  have eB := hB.2.2.1
  rcases jem (0 ≤ x1 ∧ x1 ≤ nI F.ns - 1) with h1 | h1
  · exact ⟨0, M, M, -100001, by simp [f_X7_tail, jisStep, eA, h1], by simp [f_X8_tail, jisStepB, eB, h1], hI⟩
  rcases jem (0 ≤ x2 ∧ x2 ≤ 1) with h0 | h0
  · exact ⟨0, M, M, -100002, by simp [f_X7_tail, jisStep, eA, h1, jisOut, h0], by simp [f_X8_tail, jisStepB, eB, h1, jin_0_1, h0], hI⟩
  obtain ⟨s, hs, rfl⟩ := (jbelow (by omega)).mp h1
  obtain ⟨M1, hX1, hf1, hc⟩ := jhasTA (N := 100) hX (by omega)
  have kA : f_X7_tail 100 M (nI s) x2 = (f_X7_hasTails 100 M).bind fun (M3, v4) => (if v4 = 0 then some (M3, (-100003)) else (if x2 = 0 then (jrd M3 56 32 (nI s)).bind fun v6 => some (M3, v6) else (f_X1_slack M3 54 (nI s)).bind fun v5 => some (M3, v5))) := by
    unfold f_X7_tail
    rw [jisStep, eA, if_pos h1, Option.bind_some, if_neg n10, jisOut, if_pos h0, Option.bind_some, if_pos rfl]
  have kB : f_X8_tail 100 M1 (nI s) x2 = (f_X8_hasTails 100 M1).bind fun (M2, v3) => (if v3 = 0 then some (M2, (-100003)) else (if x2 = 0 then (jrd M2 240 32 (nI s)).bind fun v5 => some (M2, v5) else (f_X8_slack M2 (nI s)).bind fun v4 => some (M2, v4))) := by
    unfold f_X8_tail
    rw [jisStepB, hX1.2.2.2.2.1.2.2.1, if_pos h1, Option.bind_some, if_neg n10, jin_0_1, if_pos h0, if_neg n10]
  rcases hc with ⟨c1, c2⟩ | ⟨c1, c2, c3, b, E, hd, ht, hT⟩
  · obtain ⟨M2, d1, hX2, -⟩ := jhasTB0 (N := 100) hX1 c1 (by omega)
    exact ⟨100, M1, M2, -100003, by rw [kA, c2]; rfl, by rw [kB, d1]; rfl, F, od, S, k, q, hX2⟩
  · obtain ⟨M2, d1, hX2, hU, -⟩ := jhasTB1 (N := 100) hX1 c1 hd ht (by omega)
    refine ⟨100, M1, M2, if x2 = 0 then nI (F.tl od s) else F.sl od b E s, ?_, ?_, F, od, S, k, q, hX2⟩
    · rw [kA, c3, Option.bind_some]
      dsimp only
      rw [if_neg n10, jslA hW hX1.2.2.1 hT hd hs, Option.bind_some, jrd_nI (by omega) (by decide), Option.bind_some, show M1 56 s = nI (F.tl od s) from (hT.2 s hs).2.1]
      by_cases e : x2 = 0
      · rw [if_pos e, if_pos e]
      · rw [if_neg e, if_neg e]
    · rw [kB, d1, Option.bind_some]
      dsimp only
      rw [if_neg n10, jslB hW hX2.2.2.2.2.1 hU hd hs, Option.bind_some, jrd_nI (by omega) (by decide), Option.bind_some, (hU.2 s hs).2]
      by_cases e : x2 = 0
      · rw [if_pos e, if_pos e]
      · rw [if_neg e, if_neg e]
