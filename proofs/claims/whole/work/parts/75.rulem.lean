/-! rule: the class -/
def RA (M : JMem) (F : FT) (st : RT) (n : Nat) : Prop := M 54 6 = nI n ∧ M 54 4 = nI st.2.2.2.2 ∧ (∀ p, p < 12 → M 61 p = nI (st.1 p)) ∧ (∀ m, m < 8 → M 62 m = nI (st.2.1 m) ∧ M 43 m = nI (st.2.1 m)) ∧ (∀ m i, m < 8 → i < st.2.1 m → M (35 + m) i = nI (st.2.2.1 m i)) ∧ ∀ s, s < F.ns → F.pP st.1 s = true → M 55 s = nI (st.2.2.2.1 s)
theorem RA.fr {M M' : JMem} {F : FT} {st : RT} {n : Nat} (h : RA M F st n) (e : ∀ a i, a ≠ 63 → M' a i = M a i) : RA M' F st n := by
  obtain ⟨h1, h2, h3, h4, h5, h6⟩ := h
  exact ⟨(e _ _ (by omega)).trans h1, (e _ _ (by omega)).trans h2, fun p hp => (e _ _ (by omega)).trans (h3 p hp), fun m hm => ⟨(e _ _ (by omega)).trans (h4 m hm).1, (e _ _ (by omega)).trans (h4 m hm).2⟩, fun m i hm hi => (e _ _ (by omega)).trans (h5 m i hm hi), fun s hs hp => (e _ _ (by omega)).trans (h6 s hs hp)⟩
def jenc3 (x : Option (Nat × Nat × Int32)) (a b c : Int32) : Prop := match x with
  | none => a = -1
  | some (s, v, r) => a = nI s ∧ b = nI v ∧ c = r
section RM
variable {M : JMem} {N k n : Nat} {F : FT} {st : RT}
theorem jearR (hW : WF F) (hA : AF M F) (hI : ID M 54) (hR : RI F st n) (h : RA M F st n) (hn : n ≤ 32) {s : Nat} (hs : s < F.ns) (hr : F.rk s = st.1 (F.pc s)) (hN : 100 ≤ N) : ∃ M', f_X1_earliest N M 54 33 (nI s) = some (M', nI (F.vq st s)) ∧ ∀ a j, a ≠ 63 → M' a j = M a j := by
  obtain ⟨h1, h2, h3, h4, h5, h6⟩ := id h
  have hns := hW.2.2.1.1
  have hm8 : F.mc s < 8 := Nat.lt_of_lt_of_le (hW.2.2.1.2 s hs).2.1 hW.1.1
  have hcn := hR.cn (F.mc s)
  obtain ⟨M', e1, e2⟩ := jearA (M := M) (o := 54) (r := 33) (s := s) (i := st.2.1 (F.mc s)) (nb := 0) (N := N) (F := F) (b := st.2.2.2.1) (row := st.2.2.1 (F.mc s)) hW hA hs (by decide) (by decide) (by omega) (hI.1 s (by omega)) (hI.2 _ hm8) (by omega) (h4 _ hm8).1
    (fun z => by
      have g1 := jahead hW hs z
      have g2 := hW.2.1.2.2.2 (F.pc s) (F.rk s - 1) (by have := (hW.2.2.1.2 s hs).2.2.2.2.1; omega)
      have g3 : F.pP st.1 (F.ln (F.pc s) (F.rk s - 1)) = true := by
        unfold FT.pP
        rw [g2.2.1, g2.2.2]
        simp
        omega
      have g4 := (hR.2.2.2.2.1 _ g1 g3).2
      exact ⟨h6 _ g1 g3, by omega⟩)
    (fun _ j hj => by
      obtain ⟨c1, c2, c3⟩ := hR.2.2.1 _ j hj
      have g4 := (hR.2.2.2.2.1 _ c1 c3).2
      exact ⟨c1, h5 _ j hm8 hj, h6 _ c1 c3, by omega⟩) hN
  rw [Nat.zero_max] at e1
  exact ⟨M', e1, e2⟩
theorem jnextR (hW : WF F) (hA : AF M F) (h : RA M F st n) (hR : ∀ p, st.1 p ≤ F.lc p) {p : Nat} (hp : p < 12) : f_X1_nextOfPiece M 54 (nI p) = some (if st.1 p < F.lc p then nI (F.ln p (st.1 p)) else -1) := by
  have hlc := hW.2.1.2.2.1 p
  have hl := hR p
  unfold f_X1_nextOfPiece
  rw [jrd_nI hp (by decide), Option.bind_some, show M (54 + 7) p = nI (st.1 p) from h.2.2.1 p hp, jrd_nI hp (by decide), Option.bind_some, hA.2.2.2.2.2.1 p hp]
  by_cases e : st.1 p < F.lc p
  · rw [if_neg (jleF e (by omega)), if_pos e, jrw_nI hp (by decide), Option.bind_some, jrd_nI (show st.1 p < 8 by omega) (by decide), Option.bind_some, hA.2.2.2.2.2.2.1 p _ hp e]
  · rw [if_pos (jleT (by omega) (by omega)), if_neg e]
theorem jrankA (hW : WF F) (hA : AF M F) {s : Nat} (hs : s < F.ns) (hk : k ≤ 2) (hN : 100 ≤ N) : f_X7_rankBy N M (nI k) (nI s) = some (F.rq k s) := by
  have hns := hW.2.2.1.1
  unfold f_X7_rankBy FT.rq
  rw [jrd_nI (by omega) (by decide), Option.bind_some, Option.bind_some, (hA.2.2.2.2.2.2.2.1 s hs).2.2.1, jsbA hW hA hs hN, Option.bind_some, nI_add]
  by_cases e : k = 0
  · rw [if_pos (by rw [e]; rfl), if_pos e]
  · rw [if_neg (by rw [jeqL (by omega) (by decide)]; exact e), if_neg e]
    by_cases e2 : k = 1
    · rw [if_pos (by rw [e2]; rfl), if_pos e2]
    · rw [if_neg (by rw [jeqL (by omega) (by decide)]; exact e2), if_neg e2]
theorem vq_small (hW : WF F) (hR : RI F st n) (hn : n ≤ 32) {s : Nat} (hs : s < F.ns) (hr : F.rk s = st.1 (F.pc s)) : F.vq st s ≤ 40000 := by
  have := hR.vq_le hW hs hr
  unfold FT.vq
  omega
theorem pk_small (hW : WF F) (hR : RI F st n) (hn : n ≤ 32) {p s v : Nat} {r : Int32} (h : F.pk k st p = some (s, v, r)) : s < F.ns ∧ F.rk s = st.1 (F.pc s) ∧ v = F.vq st s ∧ v ≤ 40000 := by
  obtain ⟨p', a1, a2, a3, a4⟩ := pk_inn hR.1 _ _ _ _ h
  obtain ⟨b1, b2, b3, b4⟩ := hR.nxt hW a2
  have c1 : s < F.ns := by rw [a3]; exact b1
  have c2 : F.rk s = st.1 (F.pc s) := by rw [a3, b2, b3]
  exact ⟨c1, c2, a4, by rw [a4]; exact vq_small hW hR hn c1 c2⟩
theorem jpickA (hW : WF F) (hA : AF M F) (hI : ID M 54) (hR : RI F st n) (h : RA M F st n) (hn : n ≤ 32) (hk : k ≤ 2) (hN : 100 ≤ N) : ∃ M', f_X7_pickBy N M (nI k) = some (M', match F.pk k st F.np with | none => -1 | some (s, _, _) => nI s) ∧ ∀ a j, a ≠ 63 → M' a j = M a j := by
  have hns := hW.2.2.1.1
  have hnp := hW.2.1.1
  have hl : ∃ x, jLp (σ := Int32 × Int32 × Int32 × Int32 × JMem) (ρ := Int32 × JMem) N (fun ((z7, z8, z9, z10, M11) : Int32 × Int32 × Int32 × Int32 × JMem) => (if (M11 1 1) ≤ z10 then some (Sum.inr (z7, M11)) else (f_X1_nextOfPiece M11 54 z10).bind fun v14 => (((if v14 = ((-1)) then some ((z7, z8, z9, M11)) else (f_X1_earliest N M11 54 33 v14).bind fun (M20, v21) => (f_X7_rankBy N M20 (nI k) v14).bind fun v22 => (((jcase (α := Int32) (β := Unit) (if v21 < z8 then some (Sum.inr ()) else (jcase (α := (Int32) ⊕ (Unit)) (β := Unit) (if v21 = z8 then (if z9 ≤ v22 then some (Sum.inr ()) else some (Sum.inl (Sum.inr ()))) else some (Sum.inr ())) fun _ => some (Sum.inl (0)))) fun _ => some (1)) : Option (Int32)).bind fun u41 => (jcase (α := Int32 × Int32 × Int32 × JMem) (β := Unit) (if z7 = ((-1)) then some (Sum.inr ()) else (if u41 = 0 then some (Sum.inl ((z7, z8, z9, M20))) else some (Sum.inr ()))) fun _ => some ((v14, v21, v22, M20))))) : Option (Int32 × Int32 × Int32 × JMem)).bind fun (u50, u51, u52, M53) => some (Sum.inl (u50, u51, u52, z10 + 1, M53))))) ((-1), 0, 0, 0, M) = some x ∧ (x.1 = (match F.pk k st F.np with | none => -1 | some (s, _, _) => nI s) ∧ ∀ a j, a ≠ 63 → x.2 a j = M a j) := by
    refine jLp_tot (fun n z => ∃ p, n + p = F.np ∧ z.2.2.2.1 = nI p ∧ jenc3 (F.pk k st p) z.1 z.2.1 z.2.2.1 ∧ ∀ a j, a ≠ 63 → z.2.2.2.2 a j = M a j) _ ?_ N F.np ((-1), 0, 0, 0, M) (by omega) ⟨0, by omega, rfl, rfl, fun _ _ _ => rfl⟩
    rintro c ⟨z7, z8, z9, z10, M11⟩ ⟨p, hc, hz, he, hf⟩
    dsimp only at hz he hf ⊢
    subst hz
    have hA1 : AF M11 F := hA.fr hW.1.1 (fun a i _ _ => hf a i (by omega))
    have hI1 : ID M11 54 := hI.fr (fun a i _ => hf a i (by omega))
    have hR1 : RA M11 F st n := h.fr hf
    rw [hA1.2.1]
    rcases Nat.eq_zero_or_pos c with en | en
    · rw [if_pos (jleT (by omega) (by omega))]
      refine ⟨_, rfl, Or.inr ⟨_, rfl, ?_, hf⟩⟩
      have ep : p = F.np := by omega
      rw [← ep]
      cases e : F.pk k st p with
      | none => rw [e] at he; exact he
      | some y =>
        obtain ⟨s, v, r⟩ := y
        rw [e] at he
        exact he.1
    · have hpk : F.pk k st (p + 1) = if st.1 p < F.lc p then pkS (F.pk k st p) (F.ln p (st.1 p)) (F.vq st (F.ln p (st.1 p))) (F.rq k (F.ln p (st.1 p))) else F.pk k st p := rfl
      rw [if_neg (jleF (by omega) (by omega)), jnextR hW hA1 hR1 hR.1 (by omega), Option.bind_some]
      by_cases e : st.1 p < F.lc p
      · obtain ⟨b1, b2, b3, b4⟩ := hR.nxt hW e
        have c2 : F.rk (F.ln p (st.1 p)) = st.1 (F.pc (F.ln p (st.1 p))) := by rw [b2, b3]
        have hv := vq_small hW hR hn b1 c2
        obtain ⟨M20, g1, g2⟩ := jearR (N := N) hW hA1 hI1 hR hR1 hn b1 c2 hN
        have hA2 : AF M20 F := hA1.fr hW.1.1 (fun a i _ _ => g2 a i (by omega))
        have hf2 : ∀ a j, a ≠ 63 → M20 a j = M a j := fun a j z => (g2 a j z).trans (hf a j z)
        rw [if_pos e] at hpk
        rw [if_pos e, if_neg (jnm1 (by omega)), g1, Option.bind_some]
        dsimp only
        rw [jrankA hW hA2 b1 hk hN, Option.bind_some]
        cases ho : F.pk k st p with
        | none =>
          rw [ho] at he hpk
          have he2 : z7 = -1 := he
          have hu : ∃ u : Int32, ((jcase (α := Int32) (β := Unit) (if nI (F.vq st (F.ln p (st.1 p))) < z8 then some (Sum.inr ()) else (jcase (α := (Int32) ⊕ (Unit)) (β := Unit) (if nI (F.vq st (F.ln p (st.1 p))) = z8 then (if z9 ≤ F.rq k (F.ln p (st.1 p)) then some (Sum.inr ()) else some (Sum.inl (Sum.inr ()))) else some (Sum.inr ())) fun _ => some (Sum.inl (0)))) fun _ => some (1)) : Option (Int32)) = some u := by
            repeat' split
            all_goals exact ⟨_, rfl⟩
          obtain ⟨u, hu⟩ := hu
          rw [hu, Option.bind_some, if_pos he2, jcR, Option.bind_some]
          refine ⟨_, rfl, Or.inl ⟨_, c - 1, rfl, by omega, p + 1, by omega, nI_1 p, ?_, hf2⟩⟩
          rw [hpk]
          exact ⟨rfl, rfl, rfl⟩
        | some y =>
          obtain ⟨s0, v0, r0⟩ := y
          obtain ⟨d1, d2, d3, d4⟩ := pk_small hW hR hn ho
          rw [ho] at he hpk
          obtain ⟨rfl, rfl, rfl⟩ := he
          have hpk2 : F.pk k st (p + 1) = if F.vq st (F.ln p (st.1 p)) < v0 ∨ (F.vq st (F.ln p (st.1 p)) = v0 ∧ F.rq k (F.ln p (st.1 p)) < z9) then some (F.ln p (st.1 p), F.vq st (F.ln p (st.1 p)), F.rq k (F.ln p (st.1 p))) else some (s0, v0, z9) := hpk
          have hs0 : ¬ nI s0 = -1 := jnm1 (by omega)
          by_cases q1 : F.vq st (F.ln p (st.1 p)) < v0
          · rw [if_pos (jltT q1 (by omega)), jcR, Option.bind_some, if_neg hs0, if_neg (by decide), jcR, Option.bind_some]
            refine ⟨_, rfl, Or.inl ⟨_, c - 1, rfl, by omega, p + 1, by omega, nI_1 p, ?_, hf2⟩⟩
            rw [hpk2, if_pos (Or.inl q1)]
            exact ⟨rfl, rfl, rfl⟩
          · rw [if_neg (jltF (by omega) (by omega))]
            by_cases q2 : F.vq st (F.ln p (st.1 p)) = v0
            · rw [if_pos (by rw [q2])]
              by_cases q3 : z9 ≤ F.rq k (F.ln p (st.1 p))
              · rw [if_pos q3, jcR, jcL, Option.bind_some, if_neg hs0, if_pos rfl, jcL, Option.bind_some]
                refine ⟨_, rfl, Or.inl ⟨_, c - 1, rfl, by omega, p + 1, by omega, nI_1 p, ?_, hf2⟩⟩
                rw [hpk2, if_neg (fun z => by
                  rcases z with z | z
                  · exact q1 z
                  · exact (jcmp_gt _ _).mpr q3 z.2)]
                exact ⟨rfl, rfl, rfl⟩
              · rw [if_neg q3, jcL, jcR, Option.bind_some, if_neg hs0, if_neg (by decide), jcR, Option.bind_some]
                refine ⟨_, rfl, Or.inl ⟨_, c - 1, rfl, by omega, p + 1, by omega, nI_1 p, ?_, hf2⟩⟩
                rw [hpk2, if_pos (Or.inr ⟨q2, (jcmp_le _ _).mp q3⟩)]
                exact ⟨rfl, rfl, rfl⟩
            · rw [if_neg (jeqF q2 (by omega) (by omega)), jcR, jcL, Option.bind_some, if_neg hs0, if_pos rfl, jcL, Option.bind_some]
              refine ⟨_, rfl, Or.inl ⟨_, c - 1, rfl, by omega, p + 1, by omega, nI_1 p, ?_, hf2⟩⟩
              rw [hpk2, if_neg (fun z => by
                rcases z with z | z
                · exact q1 z
                · exact q2 z.1)]
              exact ⟨rfl, rfl, rfl⟩
      · rw [if_neg e] at hpk
        rw [if_neg e, if_pos rfl, Option.bind_some]
        exact ⟨_, rfl, Or.inl ⟨_, c - 1, rfl, by omega, p + 1, by omega, nI_1 p, by rw [hpk]; exact he, hf⟩⟩
  obtain ⟨⟨x1, x2⟩, e1, e2, e3⟩ := hl
  refine ⟨x2, ?_, e3⟩
  unfold f_X7_pickBy
  rw [e1, Option.bind_some]
  dsimp only at e2 ⊢
  rw [e2]
theorem jputR (hW : WF F) (hA : AF M F) (hR : RI F st n) (h : RA M F st n) (hn : n < 32) {s : Nat} (hs : s < F.ns) (hr : F.rk s = st.1 (F.pc s)) : ∃ M23 M24, f_X3_append M 33 (nI (F.mc s)) (nI s) = some M23 ∧ f_X1_set M23 54 33 (nI s) (nI (F.vq st s)) = some M24 ∧ RA M24 F (F.put st s (F.vq st s)) (n + 1) ∧ ∀ a j, ¬ ((35 ≤ a ∧ a ≤ 43) ∨ (a = 54 ∧ (j = 4 ∨ j = 6)) ∨ a = 55 ∨ (59 ≤ a ∧ a ≤ 62)) → M24 a j = M a j := by
  obtain ⟨h1, h2, h3, h4, h5, h6⟩ := id h
  have hns := hW.2.2.1.1
  obtain ⟨p1, p2, p3, p4, p5, p6⟩ := hW.2.2.1.2 s hs
  have hm8 : F.mc s < 8 := Nat.lt_of_lt_of_le p2 hW.1.1
  have hp12 : F.pc s < 12 := Nat.lt_of_lt_of_le p1 hW.2.1.1
  have hcn := hR.cn (F.mc s)
  have hv := vq_small hW hR (by omega) hs hr
  have hE := hR.2.2.2.2.2
  have hk := (hW.1.2 _ p2).1
  have hP0 : F.pP st.1 s = false := by
    unfold FT.pP
    rw [hr]
    simp
  have hct := ct_lt hs hP0
  have hcn2 : st.2.1 (F.mc s) < F.ns := by
    rcases Nat.lt_or_ge (st.2.1 (F.mc s)) F.ns with z | z
    · exact z
    · exfalso
      have ec : st.2.1 (F.mc s) = F.ns := by omega
      obtain ⟨i, hi, e⟩ := fb_onto (n := F.ns) (f := st.2.2.1 (F.mc s)) (fun i hi => (hR.2.2.1 _ i (by omega)).1) (fun i j hij hj e => by
        have := hR.2.2.2.1 _ i j (by omega) (by omega) e
        omega) hs
      have := (hR.2.2.1 (F.mc s) i (by omega)).2.2
      rw [e, hP0] at this
      cases this
  obtain ⟨Ma, ua, fa, va⟩ := jupX M (35 + F.mc s) (st.2.1 (F.mc s)) (nI s)
  obtain ⟨Mb, ub, fb, vb⟩ := jupX Ma 43 (F.mc s) (nI (st.2.1 (F.mc s) + 1))
  have eap : f_X3_append M 33 (nI (F.mc s)) (nI s) = some Mb := by
    unfold f_X3_append
    rw [jrw_nI hm8 (by decide), Option.bind_some, jrd_nI hm8 (by decide), Option.bind_some, show M (33 + 10) (F.mc s) = _ from (h4 _ hm8).2, jwr_nI (show st.2.1 (F.mc s) < 32 by omega) (by decide), show 33 + 1 + 1 + F.mc s = 35 + F.mc s by omega, ua, Option.bind_some, jrd_nI hm8 (by decide), Option.bind_some, show Ma (33 + 10) (F.mc s) = nI (st.2.1 (F.mc s)) by rw [fa _ _ (by omega)]; exact (h4 _ hm8).2, nI_1, jwr_nI hm8 (by decide), show (33 + 10 : Nat) = 43 from rfl, ub, Option.bind_some]
  have fab : ∀ a j, ¬ ((a = 35 + F.mc s ∧ j = st.2.1 (F.mc s)) ∨ (a = 43 ∧ j = F.mc s)) → Mb a j = M a j := fun a j z => by rw [fb a j (by omega), fa a j (by omega)]
  obtain ⟨g1, g2, g3, g4⟩ := hA.2.2.2.2.2.2.2.1 s hs
  obtain ⟨M', s1, s2, s3, s4, s5, s6, s7, s8, s9⟩ := jsetA (M := Mb) (o := 54) (r := 33) (s := s) (v := F.vq st s) (n := n) (p := F.pc s) (m := F.mc s) (lp := st.1 (F.pc s)) (lm := st.2.1 (F.mc s)) (E := st.2.2.2.2) (w := F.sp s) (kd := F.kd (F.mc s)) (prev := st.2.2.1 (F.mc s) (st.2.1 (F.mc s) - 1)) (by omega) hn hp12 hm8 (by omega) p4 (by omega) (by omega) (by decide) (by decide) hk
    ((fab _ _ (by omega)).trans g2) ((fab _ _ (by omega)).trans (h4 _ hm8).1) ((fab _ _ (by omega)).trans g3) ((fab _ _ (by omega)).trans h2) ((fab _ _ (by omega)).trans (hA.2.2.2.1 _ p2).1) ((fab _ _ (by omega)).trans h1) ((fab _ _ (by omega)).trans g1) ((fab _ _ (by omega)).trans (h3 _ hp12))
    (fun z1 z2 => by
      have z4 := (hR.2.2.1 (F.mc s) (st.2.1 (F.mc s) - 1) (by omega)).1
      refine ⟨by omega, (fab _ _ (by omega)).trans ?_⟩
      rw [show 33 + 1 + 1 + F.mc s = 35 + F.mc s by omega]
      exact h5 _ _ hm8 (by omega))
  refine ⟨Mb, M', eap, s1, ⟨s5, s4, fun p hp => ?_, fun m hm => ⟨?_, ?_⟩, fun m i hm hi => ?_, fun u hu hP => ?_⟩, fun a j z => by rw [s2 a j (by omega), fab a j (by omega)]⟩
  · show M' 61 p = nI (if p = F.pc s then st.1 (F.pc s) + 1 else st.1 p)
    by_cases e : p = F.pc s
    · rw [if_pos e, e]
      exact s7
    · rw [if_neg e, s2 _ _ (by omega), fab _ _ (by omega)]
      exact h3 p hp
  · show M' 62 m = nI (if m = F.mc s then st.2.1 (F.mc s) + 1 else st.2.1 m)
    by_cases e : m = F.mc s
    · rw [if_pos e, e]
      exact s8
    · rw [if_neg e, s2 _ _ (by omega), fab _ _ (by omega)]
      exact (h4 m hm).1
  · show M' 43 m = nI (if m = F.mc s then st.2.1 (F.mc s) + 1 else st.2.1 m)
    by_cases e : m = F.mc s
    · rw [if_pos e, e, s2 _ _ (by omega)]
      exact vb
    · rw [if_neg e, s2 _ _ (by omega), fab _ _ (by omega)]
      exact (h4 m hm).2
  · have hi2 : i < (if m = F.mc s then st.2.1 (F.mc s) + 1 else st.2.1 m) := hi
    show M' (35 + m) i = nI (if m = F.mc s ∧ i = st.2.1 (F.mc s) then s else st.2.2.1 m i)
    by_cases e : m = F.mc s ∧ i = st.2.1 (F.mc s)
    · rw [if_pos e, e.1, e.2, s2 _ _ (by omega), fb _ _ (by omega)]
      exact va
    · rw [if_neg e, s2 _ _ (by omega), fab _ _ (by omega)]
      refine h5 m i hm ?_
      by_cases e2 : m = F.mc s
      · rw [if_pos e2] at hi2
        rw [e2]
        omega
      · rw [if_neg e2] at hi2
        exact hi2
  · rw [pP_put hW hs hr u hu] at hP
    show M' 55 u = nI (if u = s then F.vq st s else st.2.2.2.1 u)
    by_cases e : u = s
    · rw [if_pos e, e]
      exact s3
    · rw [if_neg e, s2 _ _ (by omega), fab _ _ (by omega)]
      unfold addB at hP
      rw [if_neg e] at hP
      exact h6 u hu hP
theorem jruleA (hW : WF F) (hA : AF M F) (hI : ID M 54) (hk : k ≤ 2) (hN : 100 ≤ N) : ∃ M1, f_X7_rule N M (nI k) = some (M1, nI (F.rN k F.ns).2.2.2.2) ∧ RA M1 F (F.rN k F.ns) F.ns ∧ ∀ a j, ¬ ((35 ≤ a ∧ a ≤ 43) ∨ (a = 54 ∧ (j = 4 ∨ j = 6)) ∨ a = 55 ∨ (59 ≤ a ∧ a ≤ 63)) → M1 a j = M a j := by
  have hns := hW.2.2.1.1
  have hnm := hW.1.1
  obtain ⟨M2, u2, f2, v2⟩ := jfillX M 43 8 0
  obtain ⟨Ma, ua, fa, va⟩ := jupX M2 54 6 0
  obtain ⟨Mb, ub, fb, vb⟩ := jupX Ma 54 4 0
  obtain ⟨Mc, uc, fc, vc⟩ := jfillX Mb (54 + 6) 32 (-1)
  obtain ⟨Md, ud, fd, vd⟩ := jfillX Mc (54 + 7) 12 0
  obtain ⟨Me, ue, fe, ve⟩ := jfillX Md (54 + 8) 8 0
  have hR0 : RA Me F (F.rN k 0) 0 := by
    refine ⟨?_, ?_, fun p hp => ?_, fun m hm => ⟨ve m hm, ?_⟩, fun m i hm hi => absurd hi (Nat.not_lt_zero i), fun s hs hP => ?_⟩
    · rw [fe _ _ (by omega), fd _ _ (by omega), fc _ _ (by omega), fb _ _ (by omega)]
      exact va
    · rw [fe _ _ (by omega), fd _ _ (by omega), fc _ _ (by omega)]
      exact vb
    · rw [fe _ _ (by omega)]
      exact vd p hp
    · rw [fe _ _ (by omega), fd _ _ (by omega), fc _ _ (by omega), fb _ _ (by omega), fa _ _ (by omega)]
      exact v2 m hm
    · unfold FT.pP at hP
      simp [FT.rN] at hP
  have f0 : ∀ a j, ¬ ((35 ≤ a ∧ a ≤ 43) ∨ (a = 54 ∧ (j = 4 ∨ j = 6)) ∨ a = 55 ∨ (59 ≤ a ∧ a ≤ 63)) → Me a j = M a j := fun a j z => by
    rw [fe _ _ (by omega), fd _ _ (by omega), fc _ _ (by omega), fb _ _ (by omega), fa _ _ (by omega), f2 _ _ (by omega)]
  have hl : ∃ x, jLp (σ := Int32 × JMem) (ρ := JMem) N (fun ((z10, M11) : Int32 × JMem) => (if (M11 1 2) ≤ z10 then some (Sum.inr M11) else (f_X7_pickBy N M11 (nI k)).bind fun (M13, v14) => (((if v14 = ((-1)) then some (M13) else (f_X1_earliest N M13 54 33 v14).bind fun (M20, v21) => (jrd M20 20 32 v14).bind fun v22 => (f_X3_append M20 33 v22 v14).bind fun M23 => (f_X1_set M23 54 33 v14 v21).bind fun M24 => some (M24)) : Option (JMem)).bind fun M26 => some (Sum.inl (z10 + 1, M26))))) (0, Me) = some x ∧ (RA x F (F.rN k F.ns) F.ns ∧ ∀ a j, ¬ ((35 ≤ a ∧ a ≤ 43) ∨ (a = 54 ∧ (j = 4 ∨ j = 6)) ∨ a = 55 ∨ (59 ≤ a ∧ a ≤ 63)) → x a j = M a j) := by
    refine jLp_tot (fun c z => ∃ n, c + n = F.ns ∧ z.1 = nI n ∧ RA z.2 F (F.rN k n) n ∧ ∀ a j, ¬ ((35 ≤ a ∧ a ≤ 43) ∨ (a = 54 ∧ (j = 4 ∨ j = 6)) ∨ a = 55 ∨ (59 ≤ a ∧ a ≤ 63)) → z.2 a j = M a j) _ ?_ N F.ns (0, Me) (by omega) ⟨0, by omega, rfl, hR0, f0⟩
    rintro c ⟨z10, M11⟩ ⟨n, hc, hz, hR, hf⟩
    dsimp only at hz hR hf ⊢
    subst hz
    have hA1 : AF M11 F := hA.fr hnm (fun a i _ _ => hf a i (by omega))
    have hI1 : ID M11 54 := hI.fr (fun a i _ => hf a i (by omega))
    have hRI := rN_ok (k := k) hW n (by omega)
    rw [hA1.2.2.1]
    rcases Nat.eq_zero_or_pos c with en | en
    · rw [if_pos (jleT (by omega) (by omega))]
      have e : n = F.ns := by omega
      rw [e] at hR
      exact ⟨_, rfl, Or.inr ⟨_, rfl, hR, hf⟩⟩
    · obtain ⟨s, v, r, e1, e2, e3, e4⟩ := hRI.some (k := k) hW (by omega)
      obtain ⟨M13, g1, g2⟩ := jpickA (N := N) hW hA1 hI1 hRI hR (by omega) hk hN
      rw [e1] at g1
      have hA3 : AF M13 F := hA1.fr hnm (fun a i _ _ => g2 a i (by omega))
      have hI3 : ID M13 54 := hI1.fr (fun a i _ => g2 a i (by omega))
      obtain ⟨M20, i1, i2⟩ := jearR (N := N) hW hA3 hI3 hRI (hR.fr g2) (by omega) e2 e3 hN
      have hA4 : AF M20 F := hA3.fr hnm (fun a i _ _ => i2 a i (by omega))
      obtain ⟨M23, M24, k1, k2, k3, k4⟩ := jputR hW hA4 hRI ((hR.fr g2).fr i2) (by omega) e2 e3
      rw [if_neg (jleF (by omega) (by omega)), g1, Option.bind_some]
      dsimp only
      rw [if_neg (jnm1 (by omega)), i1, Option.bind_some]
      dsimp only
      rw [jrd_nI (show s < 32 by omega) (by decide), Option.bind_some, (hA4.2.2.2.2.2.2.2.1 s e2).2.1, k1, Option.bind_some, k2, Option.bind_some, Option.bind_some]
      refine ⟨_, rfl, Or.inl ⟨_, c - 1, rfl, by omega, n + 1, by omega, nI_1 n, ?_, fun a j z => ?_⟩⟩
      · have : F.rN k (n + 1) = F.put (F.rN k n) s (F.vq (F.rN k n) s) := by
          show F.r1 k (F.rN k n) = _
          unfold FT.r1
          rw [e1, e4]
        rw [this]
        exact k3
      · show M24 a j = _
        rw [k4 a j (by omega), i2 a j (by omega), g2 a j (by omega), hf a j z]
  obtain ⟨x, e1, e2, e3⟩ := hl
  refine ⟨x, ?_, e2, e3⟩
  unfold f_X7_rule f_X3_clear f_X1_clear
  rw [jisOut, if_pos ⟨jle0 (by omega), by rw [jleL (by omega) (by decide)]; exact hk⟩, Option.bind_some, if_pos rfl, show (33 + 10 : Nat) = 43 from rfl, u2, Option.bind_some, Option.bind_some, ua, Option.bind_some, ub, Option.bind_some, uc, Option.bind_some, ud, Option.bind_some, ue, Option.bind_some, Option.bind_some, e1, Option.bind_some, e2.2.1]
end RM
