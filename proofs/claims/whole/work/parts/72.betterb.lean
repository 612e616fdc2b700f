/-! better, in the model -/
theorem jdv32 {k : Nat} (hk : k ≤ 1000) : nI k / 32 = nI (k / 32) := pk_div (by omega) (by decide) (by decide)
theorem jrm32 {k : Nat} (hk : k ≤ 1000) : nI k - nI k / 32 * 32 = nI (k % 32) := pk_rem (by omega) (by decide) (by decide)
section BU
variable {M : JMem} {N : Nat} {F : FT} {od : Nat → Nat → Nat}
theorem jhasY (hX : EB M F od) (hs : F.simp) (hd : F.day od) (hN : 100 ≤ N) : ∃ M1, f_X8_hasTails N M = some (M1, 1) ∧ EB M1 F od ∧ F.dy od (F.cB od) (F.cE od) ∧ TB M1 F od (F.cB od) (F.cE od) ∧ ∀ a i, ¬ ((a = 221 ∧ i = 21) ∨ (237 ≤ a ∧ a ≤ 240)) → M1 a i = M a i := by
  obtain ⟨hW, hO, hB, hBO⟩ := id hX
  have n10 : ¬ (1 : Int32) = 0 := by decide
  unfold f_X8_hasTails
  rcases jsimpB hW hB hN with ⟨-, e⟩ | ⟨z, -⟩
  · rw [e, Option.bind_some, if_neg n10]
    obtain ⟨M1, P, b, E, e1, e2, e3, e4⟩ := jworkB (N := N) hX hN
    have ed : fb_ct P F.ns = F.ns := (day_iff hW hO e2.1 e3).mpr hd
    have hP := fb_ct_all.mp ed
    have hdy : F.dy od b E := ⟨snd_all e2.1 hP, mx_all e2.2.1 hP⟩
    obtain ⟨c1, c2, c3⟩ := cD_of hW hO hdy
    rw [e1, Option.bind_some]
    dsimp only
    rw [if_pos ed, if_neg n10]
    obtain ⟨M4, t1, t2, t3⟩ := jtailsB (N := N) (hX.fr (M' := M1) (fun a i z => e4 a i (by omega))) hdy.1 (Nat.zero_le _) (fun _ _ => rfl) (tq_dy hW hO hdy) (fun s hs => e2.2.2.2.1 s hs (hP s hs)) hN
    rw [t1, Option.bind_some]
    have fr : ∀ a i, ¬ ((a = 221 ∧ i = 21) ∨ (237 ≤ a ∧ a ≤ 240)) → M4 a i = M a i := fun a i z => (t3 a i (by omega)).trans (e4 a i (by omega))
    have hT : TB M4 F od b E := ⟨(t3 _ _ (by omega)).trans e2.2.2.2.2, fun s hs => ⟨(t3 _ _ (by omega)).trans (e2.2.2.2.1 s hs (hP s hs)), t2 s hs⟩⟩
    exact ⟨M4, rfl, hX.fr fr, c1, hT.cong c2 c3, fr⟩
  · exact absurd hs z
theorem jmay1 (hX : EB M F od) {b : Nat → Nat} {E : Nat} (hd : F.dy od b E) (hT : TB M F od b E) {k : Nat} (hk : k < 256) :
    ∃ M45, ((jwr M 241 256 (nI k) 0).bind fun M12 => (((if (M12 221 2) ≤ (nI k / 32) then some (M12) else (jrd M12 222 8 (nI k / 32)).bind fun v18 => (if v18 = 0 then (jrd M12 232 8 (nI k / 32)).bind fun v19 => (if v19 ≤ ((nI k - nI k / 32 * 32) + 1) then some (M12) else (jrd M12 231 256 (nI k)).bind fun v20 => (jrd M12 231 256 (nI k + 1)).bind fun v21 => (f_X8_slack M12 v20).bind fun v22 => (((jcase (α := Int32) (β := Unit) (if v22 = 0 then (f_X8_slack M12 v21).bind fun v33 => (if v33 = 0 then (jrd M12 237 32 v21).bind fun v34 => (jrd M12 237 32 v20).bind fun v35 => (jrd M12 229 32 v20).bind fun v36 => (if v34 = (v35 + v36) then some (Sum.inl (1)) else some (Sum.inr ())) else some (Sum.inr ())) else some (Sum.inr ())) fun _ => some (0)) : Option (Int32)).bind fun u40 => (jwr M12 241 256 (nI k) u40).bind fun M41 => some (M41))) else some (M12))) : Option (JMem)).bind fun M45 => some (Sum.inl (nI k + 1, M45)))) = some (Sum.inl (nI (k + 1), M45) : (Int32 × JMem) ⊕ JMem) ∧ M45 241 k = (if F.tg od b E k = true then 1 else 0) ∧ ∀ a i, ¬ (a = 241 ∧ i = k) → M45 a i = M a i := by
  obtain ⟨hW, hO, hB, hBO⟩ := id hX
  have hns := hW.2.2.1.1
  have hnm := hW.1.1
  have hoc := oc_le hW (k / 32)
  have hle := dy_le hd hW
  have n10 : ¬ (1 : Int32) = 0 := by decide
  obtain ⟨M12, u1, f1, v1⟩ := jupX M 241 k 0
  have hB1 : BF M12 F := hB.fr ⟨f1 _ _ (by omega), f1 _ _ (by omega), f1 _ _ (by omega)⟩ (fun a i _ _ => f1 a i (by omega))
  have hBO1 : BO M12 F od := hBO.fr (fun a i _ _ => f1 a i (by omega))
  have hT1 : TB M12 F od b E := ⟨(f1 _ _ (by omega)).trans hT.1, fun s hs => ⟨(f1 _ _ (by omega)).trans (hT.2 s hs).1, (f1 _ _ (by omega)).trans (hT.2 s hs).2⟩⟩
  have no : F.tg od b E k = false → ∃ M45, ((some M12 : Option JMem).bind fun M45 => some (Sum.inl (nI (k + 1), M45) : (Int32 × JMem) ⊕ JMem)) = some (Sum.inl (nI (k + 1), M45)) ∧ M45 241 k = (if F.tg od b E k = true then 1 else 0) ∧ ∀ a i, ¬ (a = 241 ∧ i = k) → M45 a i = M a i := by
    intro h
    exact ⟨M12, rfl, by rw [h, if_neg (by decide)]; exact v1, f1⟩
  rw [jwr_nI hk (by decide), u1, Option.bind_some, jrm32 (by omega), jdv32 (by omega), nI_1, nI_1, hB1.1]
  by_cases e1 : k / 32 < F.nm
  · rw [if_neg (jleF e1 (by omega)), jrd_nI (show k / 32 < 8 by omega) (by decide), Option.bind_some, (hB1.2.2.2.1 _ e1).1]
    have hkd := (hW.1.2 _ e1).1
    by_cases e2 : F.kd (k / 32) = 0
    · rw [if_pos (by rw [e2]; rfl), jrd_nI (show k / 32 < 8 by omega) (by decide), Option.bind_some, hBO1.1 _ (by omega)]
      by_cases e3 : k % 32 + 1 < F.oc (k / 32)
      · obtain ⟨s1, -⟩ := hO.1 (k / 32) (k % 32) (by omega)
        obtain ⟨s2, -⟩ := hO.1 (k / 32) (k % 32 + 1) e3
        have l1 := hle.2 _ s1
        have l2 := hle.2 _ s2
        have r1 : M12 231 k = nI (od (k / 32) (k % 32)) := by
          have := hBO1.2 (k / 32) (k % 32) (by omega) (by omega)
          rw [show 32 * (k / 32) + k % 32 = k by omega] at this
          exact this
        have r2 : M12 231 (k + 1) = nI (od (k / 32) (k % 32 + 1)) := by
          have := hBO1.2 (k / 32) (k % 32 + 1) (by omega) e3
          rw [show 32 * (k / 32) + (k % 32 + 1) = k + 1 by omega] at this
          exact this
        obtain ⟨u, hu⟩ : ∃ u : Int32, u = if F.tg od b E k = true then 1 else 0 := ⟨_, rfl⟩
        have hc : ((jcase (α := Int32) (β := Unit) (if F.sl od b E (od (k / 32) (k % 32)) = 0 then (if F.sl od b E (od (k / 32) (k % 32 + 1)) = 0 then (if nI (b (od (k / 32) (k % 32 + 1))) = (nI (b (od (k / 32) (k % 32))) + nI (F.sp (od (k / 32) (k % 32)))) then some (Sum.inl (1)) else some (Sum.inr ())) else some (Sum.inr ())) else some (Sum.inr ())) fun _ => some (0)) : Option (Int32)) = some u := by
          rw [hu, nI_add]
          unfold FT.tg
          by_cases g1 : F.sl od b E (od (k / 32) (k % 32)) = 0
          · rw [if_pos g1]
            by_cases g2 : F.sl od b E (od (k / 32) (k % 32 + 1)) = 0
            · rw [if_pos g2]
              by_cases g3 : b (od (k / 32) (k % 32)) + F.sp (od (k / 32) (k % 32)) = b (od (k / 32) (k % 32 + 1))
              · rw [if_pos (by rw [g3]), if_pos (by simp [e1, e2, e3, g1, g2, g3])]
                rfl
              · rw [if_neg (fun z => (jeqF (fun y => g3 y.symm) (by omega) (by omega)) z), if_neg (by simp [g3])]
                rfl
            · rw [if_neg g2, if_neg (by simp [g2])]
              rfl
          · rw [if_neg g1, if_neg (by simp [g1])]
            rfl
        rw [if_neg (jleF e3 (by omega)), jrd_nI hk (by decide), Option.bind_some, jrd_nI (show k + 1 < 256 by omega) (by decide), Option.bind_some, r1, r2, jslB hW hB1 hT1 hd s1, Option.bind_some, jslB hW hB1 hT1 hd s2, Option.bind_some, jrd_nI (show od (k / 32) (k % 32 + 1) < 32 by omega) (by decide), Option.bind_some, jrd_nI (show od (k / 32) (k % 32) < 32 by omega) (by decide), Option.bind_some, jrd_nI (show od (k / 32) (k % 32) < 32 by omega) (by decide), Option.bind_some, (hT1.2 _ s1).1, (hT1.2 _ s2).1, (hB1.2.2.2.2.2.2.2 _ s1).2.2.1, hc, Option.bind_some, jwr_nI hk (by decide), Option.bind_some, Option.bind_some]
        refine ⟨_, rfl, by rw [jup_eq, hu], fun a i z => ?_⟩
        rw [jup_at, if_neg z]
        exact f1 a i z
      · rw [if_pos (jleT (by omega) (by omega))]
        exact no (by simp [FT.tg, e3])
    · rw [if_neg (by rw [jeqL (by omega) (by decide)]; exact e2)]
      exact no (by simp [FT.tg, e2])
  · rw [if_pos (jleT (by omega) (by omega))]
    exact no (by simp [FT.tg, e1])
theorem jtry1 (hX : EB M F od) (hd : F.dy od (F.cB od) (F.cE od)) {k : Nat} (hk : k < 256) (ht : F.tg od (F.cB od) (F.cE od) k = true) (hN : 100 ≤ N) :
    ∃ M77, ((f_X8_exchange M (nI k / 32) (nI k - nI k / 32 * 32)).bind fun M65 => (f_X8_work N M65).bind fun (M66, v67) => (((if v67 = 0 then some ((jopt (F.ps od (F.cB od) (F.cE od) k).2, nI (F.ps od (F.cB od) (F.cE od) k).1)) else (if nI (F.ps od (F.cB od) (F.cE od) k).1 ≤ (M66 221 21) then some ((jopt (F.ps od (F.cB od) (F.cE od) k).2, nI (F.ps od (F.cB od) (F.cE od) k).1)) else some ((nI k, M66 221 21)))) : Option (Int32 × Int32)).bind fun (u75, u76) => (f_X8_exchange M66 (nI k / 32) (nI k - nI k / 32 * 32)).bind fun M77 => some ((u75, u76, M77)))) = some (jopt (F.ps od (F.cB od) (F.cE od) (k + 1)).2, nI (F.ps od (F.cB od) (F.cE od) (k + 1)).1, M77) ∧ EB M77 F od ∧ ∀ a i, ¬ (a = 231 ∨ (a = 221 ∧ i = 21) ∨ (237 ≤ a ∧ a ≤ 239)) → M77 a i = M a i := by
  obtain ⟨hW, hO, hB, hBO⟩ := id hX
  have hns := hW.2.2.1.1
  have hnm := hW.1.1
  have n10 : ¬ (1 : Int32) = 0 := by decide
  obtain ⟨t1, t2, t3⟩ := tg_in ht
  have hle := (dy_le hd hW).1
  have hps := (ps_in (F := F) (od := od) (b := F.cB od) (E := F.cE od) k).1
  obtain ⟨M65, x1, x2, x3⟩ := jexB (m := k / 32) (i := k % 32) hW hBO (by omega) t3
  have hO' := odX_wo hO t3
  have hE1 : EB M65 F (odX od (k / 32) (k % 32)) := ⟨hW, hO', hB.fr ⟨x3 _ _ (by omega), x3 _ _ (by omega), x3 _ _ (by omega)⟩ (fun a j _ _ => x3 a j (by omega)), x2⟩
  obtain ⟨M66, P, b', E', e1, e2, e3, e4⟩ := jworkB (N := N) hE1 hN
  have hBO2 : BO M66 F (odX od (k / 32) (k % 32)) := x2.fr (fun a j _ _ => e4 a j (by omega))
  obtain ⟨M77, y1, y2, y3⟩ := jexB (m := k / 32) (i := k % 32) hW hBO2 (by omega) t3
  rw [odX_twice] at y2
  have fr : ∀ a i, ¬ (a = 231 ∨ (a = 221 ∧ i = 21) ∨ (237 ≤ a ∧ a ≤ 239)) → M77 a i = M a i := fun a i z => by rw [y3 a i (by omega), e4 a i (by omega), x3 a i (by omega)]
  have hE77 : EB M77 F od := ⟨hW, hO, hB.fr ⟨fr _ _ (by omega), fr _ _ (by omega), fr _ _ (by omega)⟩ (fun a j _ _ => fr a j (by omega)), y2⟩
  have dd := day_iff hW hO' e2.1 e3
  refine ⟨M77, ?_, hE77, fr⟩
  rw [jrm32 (by omega), jdv32 (by omega), x1, Option.bind_some, e1, Option.bind_some]
  dsimp only
  by_cases ed : fb_ct P F.ns = F.ns
  · have hP := fb_ct_all.mp ed
    have hdy : F.dy (odX od (k / 32) (k % 32)) b' E' := ⟨snd_all e2.1 hP, mx_all e2.2.1 hP⟩
    obtain ⟨c1, c2, c3⟩ := cD_of hW hO' hdy
    have hen := en_some (dd.mp ed)
    rw [← c2] at hen
    have hle' := (dy_le hdy hW).1
    rw [if_pos ed, if_neg n10, e2.2.2.2.2]
    by_cases hl : E' < (F.ps od (F.cB od) (F.cE od) k).1
    · rw [if_neg (jleF hl (by omega)), Option.bind_some]
      dsimp only
      rw [y1, Option.bind_some, ps_lt ht hen hl]
      rfl
    · rw [if_pos (jleT (by omega) (by omega)), Option.bind_some]
      dsimp only
      rw [y1, Option.bind_some, ps_ge ht hen hl]
  · rw [if_neg ed, if_pos rfl, Option.bind_some]
    dsimp only
    rw [y1, Option.bind_some, ps_nd (en_none (fun z => ed (dd.mpr z)))]
theorem jshortB (hX : EB M F od) (hs : F.simp) (hd : F.day od) (hN : 300 ≤ N) : ∃ M1 v, f_X8_swapBest N M = some (M1, v) ∧ ((F.nxt od = none ∧ v = 0 ∧ EB M1 F od) ∨ ∃ od', F.nxt od = some od' ∧ v = 1 ∧ EB M1 F od') ∧ ∀ a j, ¬ (a = 231 ∨ (a = 221 ∧ j = 21) ∨ (237 ≤ a ∧ a ≤ 241)) → M1 a j = M a j := by
  obtain ⟨hW, hO, hB, hBO⟩ := id hX
  have hns := hW.2.2.1.1
  have n10 : ¬ (1 : Int32) = 0 := by decide
  obtain ⟨M1, e1, hE1, hdy, hT, hf1⟩ := jhasY (N := N) hX hs hd (by omega)
  have l1 : ∃ x, jLp (σ := Int32 × JMem) (ρ := JMem) N (fun ((z9, M10) : Int32 × JMem) => (if 256 ≤ z9 then some (Sum.inr M10) else (jwr M10 241 256 z9 0).bind fun M12 => (((if (M12 221 2) ≤ (z9 / 32) then some (M12) else (jrd M12 222 8 (z9 / 32)).bind fun v18 => (if v18 = 0 then (jrd M12 232 8 (z9 / 32)).bind fun v19 => (if v19 ≤ ((z9 - z9 / 32 * 32) + 1) then some (M12) else (jrd M12 231 256 z9).bind fun v20 => (jrd M12 231 256 (z9 + 1)).bind fun v21 => (f_X8_slack M12 v20).bind fun v22 => (((jcase (α := Int32) (β := Unit) (if v22 = 0 then (f_X8_slack M12 v21).bind fun v33 => (if v33 = 0 then (jrd M12 237 32 v21).bind fun v34 => (jrd M12 237 32 v20).bind fun v35 => (jrd M12 229 32 v20).bind fun v36 => (if v34 = (v35 + v36) then some (Sum.inl (1)) else some (Sum.inr ())) else some (Sum.inr ())) else some (Sum.inr ())) fun _ => some (0)) : Option (Int32)).bind fun u40 => (jwr M12 241 256 z9 u40).bind fun M41 => some (M41))) else some (M12))) : Option (JMem)).bind fun M45 => some (Sum.inl (z9 + 1, M45))))) (0, M1) = some x ∧ ((∀ k, k < 256 → x 241 k = if F.tg od (F.cB od) (F.cE od) k = true then 1 else 0) ∧ ∀ a i, a ≠ 241 → x a i = M1 a i) := by
    refine jLp_tot (fun n z => ∃ k, n + k = 256 ∧ z.1 = nI k ∧ (∀ j, j < k → z.2 241 j = if F.tg od (F.cB od) (F.cE od) j = true then 1 else 0) ∧ ∀ a i, a ≠ 241 → z.2 a i = M1 a i) _ ?_ N 256 (0, M1) (by omega) ⟨0, by omega, rfl, fun j hj => absurd hj (Nat.not_lt_zero j), fun _ _ _ => rfl⟩
    rintro n ⟨z9, M10⟩ ⟨k, hn, hz, hp, hf⟩
    dsimp only at hz hp hf ⊢
    subst hz
    rcases Nat.eq_zero_or_pos n with en | en
    · rw [if_pos (by rw [jLle (by omega) (by decide)]; omega)]
      exact ⟨_, rfl, Or.inr ⟨_, rfl, fun j hj => hp j (by omega), hf⟩⟩
    · rw [if_neg (by rw [jLle (by omega) (by decide)]; omega)]
      have hE10 : EB M10 F od := ⟨hW, hO, hE1.2.2.1.fr ⟨hf _ _ (by omega), hf _ _ (by omega), hf _ _ (by omega)⟩ (fun a i _ _ => hf a i (by omega)), hE1.2.2.2.fr (fun a i _ _ => hf a i (by omega))⟩
      have hT10 : TB M10 F od (F.cB od) (F.cE od) := ⟨(hf _ _ (by omega)).trans hT.1, fun s hs => ⟨(hf _ _ (by omega)).trans (hT.2 s hs).1, (hf _ _ (by omega)).trans (hT.2 s hs).2⟩⟩
      obtain ⟨M45, g1, g2, g3⟩ := jmay1 hE10 hdy hT10 (show k < 256 by omega)
      rw [g1]
      refine ⟨_, rfl, Or.inl ⟨_, n - 1, rfl, by omega, k + 1, by omega, rfl, fun j hj => ?_, fun a i z => ?_⟩⟩
      · show M45 241 j = _
        by_cases z : j = k
        · rw [z]
          exact g2
        · rw [g3 _ _ (by omega)]
          exact hp j (by omega)
      · show M45 a i = _
        rw [g3 _ _ (by omega)]
        exact hf a i z
  obtain ⟨M2, a1, a2, a3⟩ := l1
  have hE2 : EB M2 F od := ⟨hW, hO, hE1.2.2.1.fr ⟨a3 _ _ (by omega), a3 _ _ (by omega), a3 _ _ (by omega)⟩ (fun a i _ _ => a3 a i (by omega)), hE1.2.2.2.fr (fun a i _ _ => a3 a i (by omega))⟩
  have l2 : ∃ x, jLp (σ := Int32 × Int32 × Int32 × JMem) (ρ := Int32 × JMem) N (fun ((z53, z54, z55, M56) : Int32 × Int32 × Int32 × JMem) => (if 256 ≤ z55 then some (Sum.inr (z53, M56)) else (jrd M56 241 256 z55).bind fun v59 => (((if v59 = 0 then some ((z53, z54, M56)) else (f_X8_exchange M56 (z55 / 32) (z55 - z55 / 32 * 32)).bind fun M65 => (f_X8_work N M65).bind fun (M66, v67) => (((if v67 = 0 then some ((z53, z54)) else (if z54 ≤ (M66 221 21) then some ((z53, z54)) else some ((z55, M66 221 21)))) : Option (Int32 × Int32)).bind fun (u75, u76) => (f_X8_exchange M66 (z55 / 32) (z55 - z55 / 32 * 32)).bind fun M77 => some ((u75, u76, M77)))) : Option (Int32 × Int32 × JMem)).bind fun (u79, u80, M81) => some (Sum.inl (u79, u80, z55 + 1, M81))))) ((-1), M1 221 21, 0, M2) = some x ∧ (x.1 = jopt (F.ps od (F.cB od) (F.cE od) 256).2 ∧ EB x.2 F od ∧ ∀ a i, ¬ (a = 231 ∨ (a = 221 ∧ i = 21) ∨ (237 ≤ a ∧ a ≤ 239)) → x.2 a i = M2 a i) := by
    refine jLp_tot (fun n z => ∃ k, n + k = 256 ∧ z.2.2.1 = nI k ∧ z.1 = jopt (F.ps od (F.cB od) (F.cE od) k).2 ∧ z.2.1 = nI (F.ps od (F.cB od) (F.cE od) k).1 ∧ EB z.2.2.2 F od ∧ ∀ a i, ¬ (a = 231 ∨ (a = 221 ∧ i = 21) ∨ (237 ≤ a ∧ a ≤ 239)) → z.2.2.2 a i = M2 a i) _ ?_ N 256 ((-1), M1 221 21, 0, M2) (by omega) ⟨0, by omega, rfl, rfl, hT.1, hE2, fun _ _ _ => rfl⟩
    rintro n ⟨z53, z54, z55, M56⟩ ⟨k, hn, hz, hz1, hz2, hE, hf⟩
    dsimp only at hz hz1 hz2 hE hf ⊢
    subst hz hz1 hz2
    rcases Nat.eq_zero_or_pos n with en | en
    · rw [if_pos (by rw [jLle (by omega) (by decide)]; omega)]
      have ek : k = 256 := by omega
      subst ek
      exact ⟨_, rfl, Or.inr ⟨_, rfl, rfl, hE, hf⟩⟩
    · rw [if_neg (by rw [jLle (by omega) (by decide)]; omega), jrd_nI (show k < 256 by omega) (by decide), Option.bind_some, hf _ _ (by omega), a2 k (by omega)]
      cases ht : F.tg od (F.cB od) (F.cE od) k with
      | false =>
        rw [if_neg (show ¬ (false = true) by decide), if_pos rfl, Option.bind_some]
        exact ⟨_, rfl, Or.inl ⟨_, n - 1, rfl, by omega, k + 1, by omega, nI_1 k, by rw [ps_no ht], by rw [ps_no ht], hE, hf⟩⟩
      | true =>
        obtain ⟨M77, g1, g2, g3⟩ := jtry1 (N := N) hE hdy (show k < 256 by omega) ht (by omega)
        rw [if_pos rfl, if_neg n10, g1, Option.bind_some]
        exact ⟨_, rfl, Or.inl ⟨_, n - 1, rfl, by omega, k + 1, by omega, nI_1 k, rfl, rfl, g2, fun a i z => (g3 a i z).trans (hf a i z)⟩⟩
  obtain ⟨⟨x1, M3⟩, b1, b2, b3, b4⟩ := l2
  dsimp only at b2 b3 b4
  subst b2
  have fr3 : ∀ a j, ¬ (a = 231 ∨ (a = 221 ∧ j = 21) ∨ (237 ≤ a ∧ a ≤ 241)) → M3 a j = M a j := fun a j z => by rw [b4 a j (by omega), a3 a j (by omega), hf1 a j (by omega)]
  unfold f_X8_swapBest
  rw [e1, Option.bind_some]
  dsimp only
  rw [a1, Option.bind_some, b1, Option.bind_some]
  dsimp only
  cases hp : (F.ps od (F.cB od) (F.cE od) 256).2 with
  | none =>
    rw [if_neg (show ¬ (0 : Int32) ≤ jopt none by decide)]
    exact ⟨M3, 0, rfl, Or.inl ⟨by unfold FT.nxt; rw [hp]; rfl, rfl, b3⟩, fr3⟩
  | some k =>
    obtain ⟨h1, h2, h3⟩ := (ps_in 256).2 k hp
    obtain ⟨t1, t2, t3⟩ := tg_in h2
    obtain ⟨M5, y1, y2, y3⟩ := jexB (m := k / 32) (i := k % 32) hW b3.2.2.2 (by omega) t3
    rw [show jopt (some k) = nI k from rfl, if_pos (jle0 (by omega)), jrm32 (by omega), jdv32 (by omega), y1, Option.bind_some]
    exact ⟨M5, 1, rfl, Or.inr ⟨_, by unfold FT.nxt; rw [hp]; rfl, rfl, hW, odX_wo hO t3, b3.2.2.1.fr ⟨y3 _ _ (by omega), y3 _ _ (by omega), y3 _ _ (by omega)⟩ (fun a j _ _ => y3 a j (by omega)), y2⟩, fun a j z => by rw [y3 a j (by omega), fr3 a j z]⟩
end BU
theorem jLp_l {σ ρ : Type} {body : σ → Option (σ ⊕ ρ)} {s s' : σ} {K : Nat} (h : body s = some (.inl s')) : jLp (K + 1) body s = jLp K body s' := by
  show (body s).bind _ = _
  rw [h]
  rfl
theorem jLp_r {σ ρ : Type} {body : σ → Option (σ ⊕ ρ)} {s : σ} {r : ρ} {K : Nat} (h : body s = some (.inr r)) : jLp (K + 1) body s = some r := by
  show (body s).bind _ = _
  rw [h]
  rfl
/-- so many swaps -/
noncomputable def FT.rn2 (F : FT) (od : Nat → Nat → Nat) : Nat → Nat × (Nat → Nat → Nat)
  | 0 => (0, od)
  | n + 1 => match F.nxt od with
    | none => (0, od)
    | some od' => ((FT.rn2 F od' n).1 + 1, (FT.rn2 F od' n).2)
theorem rn2_le {F : FT} : ∀ n od, (F.rn2 od n).1 ≤ n
  | 0, _ => Nat.le_refl _
  | n + 1, od => by
    show (match F.nxt od with | none => (0, od) | some od' => ((F.rn2 od' n).1 + 1, (F.rn2 od' n).2)).1 ≤ n + 1
    cases F.nxt od with
    | none => exact Nat.zero_le _
    | some od' =>
      show (F.rn2 od' n).1 + 1 ≤ n + 1
      have := rn2_le (F := F) n od'
      omega
theorem jlpA {F : FT} {N x : Nat} (hs : F.simp) (hx : x ≤ 50) (hN : 100 ≤ N) : ∀ n od M K, n < K → n ≤ x → AX M F od → F.day od → ∃ M1, jLp (σ := Int32 × JMem) (ρ := Int32 × JMem) K (fun ((z10, M11) : Int32 × JMem) => (if nI x ≤ z10 then some (Sum.inr (z10, M11)) else (f_X7_shorten N M11).bind fun (M14, v15) => (if v15 = 0 then some (Sum.inr (z10, M14)) else some (Sum.inl (z10 + 1, M14))))) (nI (x - n), M) = some (nI (x - n + (F.rn2 od n).1), M1) ∧ AX M1 F (F.rn2 od n).2 ∧ ∀ a j, ¬ ((35 ≤ a ∧ a ≤ 42) ∨ (54 ≤ a ∧ a ≤ 56) ∨ (59 ≤ a ∧ a ≤ 65) ∨ (69 ≤ a ∧ a ≤ 73)) → M1 a j = M a j
  | 0, od, M, 0, hK, _, _, _ => absurd hK (Nat.not_lt_zero _)
  | 0, od, M, K + 1, hK, hn, hX, hd => by
    refine ⟨M, ?_, hX, fun _ _ _ => rfl⟩
    show ((if nI x ≤ nI (x - 0) then _ else _ : Option ((Int32 × JMem) ⊕ (Int32 × JMem)))).bind _ = _
    rw [if_pos (jleT (by omega) (by omega))]
    rfl
  | n + 1, od, M, 0, hK, _, _, _ => absurd hK (Nat.not_lt_zero _)
  | n + 1, od, M, K + 1, hK, hn, hX, hd => by
    obtain ⟨M1, v, e1, e2, e3⟩ := jshortA (N := N) hX hs hd hN
    rcases e2 with ⟨g1, rfl, g3⟩ | ⟨od', g1, rfl, g3⟩
    · have er : F.rn2 od (n + 1) = (0, od) := by
        show (match F.nxt od with | none => (0, od) | some od' => ((F.rn2 od' n).1 + 1, (F.rn2 od' n).2)) = _
        rw [g1]
      rw [er]
      refine ⟨M1, ?_, g3, e3⟩
      refine jLp_r (r := (nI (x - (n + 1)), M1)) ?_
      show (if nI x ≤ nI (x - (n + 1)) then _ else _) = _
      rw [if_neg (jleF (by omega) (by omega)), e1]
      rfl
    · have er : F.rn2 od (n + 1) = ((F.rn2 od' n).1 + 1, (F.rn2 od' n).2) := by
        show (match F.nxt od with | none => (0, od) | some od' => ((F.rn2 od' n).1 + 1, (F.rn2 od' n).2)) = _
        rw [g1]
      rw [er]
      obtain ⟨-, hd', -⟩ := nxt_ok hX.2.1 g1
      obtain ⟨M2, i1, i2, i3⟩ := jlpA hs hx hN n od' M1 K (by omega) (by omega) g3 hd'
      refine ⟨M2, ?_, i2, fun a j z => (i3 a j z).trans (e3 a j z)⟩
      refine (jLp_l (s' := (nI (x - n), M1)) ?_).trans ?_
      · show (if nI x ≤ nI (x - (n + 1)) then _ else _) = _
        rw [if_neg (jleF (by omega) (by omega)), e1, Option.bind_some]
        dsimp only
        rw [if_neg (by decide), nI_1, show x - (n + 1) + 1 = x - n by omega]
      rw [i1, show x - n + (F.rn2 od' n).1 = x - (n + 1) + ((F.rn2 od' n).1 + 1) by omega]
theorem jlpB {F : FT} {N x : Nat} (hs : F.simp) (hx : x ≤ 50) (hN : 300 ≤ N) : ∀ n od M K, n < K → n ≤ x → EB M F od → F.day od → ∃ M1, jLp (σ := Int32 × JMem) (ρ := Int32 × JMem) K (fun ((z9, M10) : Int32 × JMem) => (if nI x ≤ z9 then some (Sum.inr (z9, M10)) else (f_X8_swapBest N M10).bind fun (M13, v14) => (if v14 = 0 then some (Sum.inr (z9, M13)) else some (Sum.inl (z9 + 1, M13))))) (nI (x - n), M) = some (nI (x - n + (F.rn2 od n).1), M1) ∧ EB M1 F (F.rn2 od n).2 ∧ ∀ a j, ¬ (a = 231 ∨ (a = 221 ∧ j = 21) ∨ (237 ≤ a ∧ a ≤ 241)) → M1 a j = M a j
  | 0, od, M, 0, hK, _, _, _ => absurd hK (Nat.not_lt_zero _)
  | 0, od, M, K + 1, hK, hn, hX, hd => by
    refine ⟨M, ?_, hX, fun _ _ _ => rfl⟩
    show ((if nI x ≤ nI (x - 0) then _ else _ : Option ((Int32 × JMem) ⊕ (Int32 × JMem)))).bind _ = _
    rw [if_pos (jleT (by omega) (by omega))]
    rfl
  | n + 1, od, M, 0, hK, _, _, _ => absurd hK (Nat.not_lt_zero _)
  | n + 1, od, M, K + 1, hK, hn, hX, hd => by
    obtain ⟨M1, v, e1, e2, e3⟩ := jshortB (N := N) hX hs hd hN
    rcases e2 with ⟨g1, rfl, g3⟩ | ⟨od', g1, rfl, g3⟩
    · have er : F.rn2 od (n + 1) = (0, od) := by
        show (match F.nxt od with | none => (0, od) | some od' => ((F.rn2 od' n).1 + 1, (F.rn2 od' n).2)) = _
        rw [g1]
      rw [er]
      refine ⟨M1, ?_, g3, e3⟩
      refine jLp_r (r := (nI (x - (n + 1)), M1)) ?_
      show (if nI x ≤ nI (x - (n + 1)) then _ else _) = _
      rw [if_neg (jleF (by omega) (by omega)), e1]
      rfl
    · have er : F.rn2 od (n + 1) = ((F.rn2 od' n).1 + 1, (F.rn2 od' n).2) := by
        show (match F.nxt od with | none => (0, od) | some od' => ((F.rn2 od' n).1 + 1, (F.rn2 od' n).2)) = _
        rw [g1]
      rw [er]
      obtain ⟨-, hd', -⟩ := nxt_ok hX.2.1 g1
      obtain ⟨M2, i1, i2, i3⟩ := jlpB hs hx hN n od' M1 K (by omega) (by omega) g3 hd'
      refine ⟨M2, ?_, i2, fun a j z => (i3 a j z).trans (e3 a j z)⟩
      refine (jLp_l (s' := (nI (x - n), M1)) ?_).trans ?_
      · show (if nI x ≤ nI (x - (n + 1)) then _ else _) = _
        rw [if_neg (jleF (by omega) (by omega)), e1, Option.bind_some]
        dsimp only
        rw [if_neg (by decide), nI_1, show x - (n + 1) + 1 = x - n by omega]
      rw [i1, show x - n + (F.rn2 od' n).1 = x - (n + 1) + ((F.rn2 od' n).1 + 1) by omega]
theorem jst_better_ok : jst_better jInv := by
  rintro M x1 ⟨F, od, S, k, q, hX⟩
  have hI : jInv M := ⟨F, od, S, k, q, hX⟩
  obtain ⟨hW, hO, hA, hAO, hB, hBO, -⟩ := id hX
  have n10 : ¬ (1 : Int32) = 0 := by decide
  have jn : ∀ x : Int32, jin3 x.toInt64 0 50 = if 0 ≤ x ∧ x ≤ 50 then 1 else 0 := fun x => jin3_i x 0 50
  rcases jem (0 ≤ x1 ∧ x1 ≤ 50) with h1 | h1
  · exact ⟨0, M, M, -100002, by unfold f_X7_better; rw [jisOut, if_neg h1, Option.bind_some, if_neg n10], by unfold f_X8_better; rw [jn, if_neg h1, if_pos rfl], hI⟩
  obtain ⟨x, -, hx, rfl⟩ := jnat (lo := 0) (hi := 50) h1.1 h1.2 (by decide) (by decide)
  obtain ⟨M1, hX1, hf1, hc⟩ := jhasTA (N := 300) hX (by omega)
  rcases hc with ⟨c1, c2⟩ | ⟨c1, c2, c3, -⟩
  · obtain ⟨M2, d1, hX2, -⟩ := jhasTB0 (N := 300) hX1 c1 (by omega)
    refine ⟨300, M1, M2, -100003, ?_, ?_, F, od, S, k, q, hX2⟩
    · unfold f_X7_better
      rw [jisOut, if_pos h1, Option.bind_some, if_pos rfl, c2]
      rfl
    · unfold f_X8_better
      rw [jn, if_pos h1, if_neg n10, d1]
      rfl
  · have hAX : AX M1 F od := ⟨hW, hO, hX1.2.2.1, hX1.2.2.2.1, hX1.2.2.2.2.2.2.2.2.2.2.1, hX1.2.2.2.2.2.2.2.2.2.2.2.1⟩
    obtain ⟨M2, i1, i2, i3⟩ := jlpA (N := 300) c1 hx (by omega) x od M1 300 (by omega) (Nat.le_refl _) hAX c2
    rw [Nat.sub_self, Nat.zero_add, show nI 0 = (0 : Int32) from rfl] at i1
    have fA : ∀ a j, ¬ ((35 ≤ a ∧ a ≤ 42) ∨ (54 ≤ a ∧ a ≤ 56) ∨ (59 ≤ a ∧ a ≤ 65) ∨ (69 ≤ a ∧ a ≤ 73)) → M2 a j = M a j := fun a j z => (i3 a j z).trans (hf1 a j (by omega))
    have hEB : EB M2 F od := ⟨hW, hO, hB.fr ⟨fA _ _ (by omega), fA _ _ (by omega), fA _ _ (by omega)⟩ (fun a j _ _ => fA a j (by omega)), hBO.fr (fun a j _ _ => fA a j (by omega))⟩
    obtain ⟨M3, j1, j2, -, -, j3⟩ := jhasY (N := 300) hEB c1 c2 (by omega)
    obtain ⟨M4, k1, k2, k3⟩ := jlpB (N := 300) c1 hx (by omega) x od M3 300 (by omega) (Nat.le_refl _) j2 c2
    rw [Nat.sub_self, Nat.zero_add, show nI 0 = (0 : Int32) from rfl] at k1
    have fB : ∀ a j, ¬ (a = 231 ∨ (a = 221 ∧ j = 21) ∨ (237 ≤ a ∧ a ≤ 241)) → M4 a j = M2 a j := fun a j z => (k3 a j z).trans (j3 a j (by omega))
    refine ⟨300, M2, M4, nI (F.rn2 od x).1, ?_, ?_, F, (F.rn2 od x).2, S, k, q, hX.ord i2.2.1 (i2.2.2.2.1.fr (fun a j _ _ => fB a j (by omega))) k2.2.2.2 (fun a j z y => ?_)⟩
    · unfold f_X7_better
      rw [jisOut, if_pos h1, Option.bind_some, if_pos rfl, c3, Option.bind_some]
      dsimp only
      rw [if_neg n10, i1, Option.bind_some]
    · unfold f_X8_better
      rw [jn, if_pos h1, if_neg n10, j1, Option.bind_some]
      dsimp only
      rw [if_neg n10, k1, Option.bind_some]
    · unfold jcore at z
      rw [fB a j (by omega), fA a j (by omega)]
