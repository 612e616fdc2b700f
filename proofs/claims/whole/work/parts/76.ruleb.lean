/-! rule: the model -/
def RB (M : JMem) (F : FT) (st : RT) : Prop := M 221 21 = nI st.2.2.2.2 ∧ (∀ m, m < 8 → M 232 m = nI (st.2.1 m)) ∧ (∀ m i, m < 8 → i < st.2.1 m → M 231 (32 * m + i) = nI (st.2.2.1 m i)) ∧ ∀ s, s < F.ns → M 238 s = (if F.pP st.1 s = true then 1 else 0) ∧ (F.pP st.1 s = true → M 237 s = nI (st.2.2.2.1 s))
theorem RB.fr {M M' : JMem} {F : FT} {st : RT} (h : RB M F st) (e : ∀ a i, a ≠ 239 → M' a i = M a i) : RB M' F st := by
  obtain ⟨h1, h2, h3, h4⟩ := h
  exact ⟨(e _ _ (by omega)).trans h1, fun m hm => (e _ _ (by omega)).trans (h2 m hm), fun m i hm hi => (e _ _ (by omega)).trans (h3 m i hm hi), fun s hs => ⟨(e _ _ (by omega)).trans (h4 s hs).1, fun z => (e _ _ (by omega)).trans ((h4 s hs).2 z)⟩⟩
section RN
variable {M : JMem} {N k n : Nat} {F : FT} {st : RT}
theorem jfirstB (hW : WF F) (hB : BF M F) (hR : RI F st n) (h : RB M F st) {p : Nat} (hp : p < F.np) (hN : 100 ≤ N) : f_X8_first N M (nI p) = some (if st.1 p < F.lc p then nI (F.ln p (st.1 p)) else -1) := by
  have hns := hW.2.2.1.1
  have hp12 : p < 12 := Nat.lt_of_lt_of_le hp hW.2.1.1
  have hlc := hW.2.1.2.2.1 p
  have hlp := hR.1 p
  have hl : ∃ x, jLp (σ := Int32) (ρ := (Int32) ⊕ (Unit)) N (fun (z7 : Int32) => (jrd M 225 12 (nI p)).bind fun v8 => (if v8 ≤ z7 then some (Sum.inr (Sum.inr ())) else (jrd M 226 96 ((8 * nI p) + z7)).bind fun v9 => (jrd M 238 32 v9).bind fun v10 => (if v10 = 0 then (jrd M 226 96 ((8 * nI p) + z7)).bind fun v11 => some (Sum.inr (Sum.inl v11)) else some (Sum.inl (z7 + 1))))) 0 = some x ∧ ((st.1 p < F.lc p ∧ x = Sum.inl (nI (F.ln p (st.1 p)))) ∨ (¬ st.1 p < F.lc p ∧ x = Sum.inr ())) := by
    refine jLp_tot (fun c z => ∃ i, c + i = st.1 p ∧ z = nI i) _ ?_ N (st.1 p) 0 (by omega) ⟨0, by omega, rfl⟩
    rintro c z ⟨i, hc, rfl⟩
    rw [jrd_nI hp12 (by decide), Option.bind_some, hB.2.2.2.2.2.1 p hp]
    by_cases e1 : i < F.lc p
    · obtain ⟨a1, a2, a3⟩ := hW.2.1.2.2.2 p i e1
      rw [if_neg (jleF e1 (by omega)), jmul8, nI_add, jrd_nI (show 8 * p + i < 96 by omega) (by decide), Option.bind_some, hB.2.2.2.2.2.2.1 p i hp12 e1, jrd_nI (show F.ln p i < 32 by omega) (by decide), Option.bind_some, (h.2.2.2 _ a1).1, Option.bind_some]
      have hP : F.pP st.1 (F.ln p i) = decide (i < st.1 p) := by
        unfold FT.pP
        rw [a2, a3]
      rw [hP]
      rcases Nat.eq_zero_or_pos c with en | en
      · have ei : i = st.1 p := by omega
        rw [if_neg (show ¬ (decide (i < st.1 p) = true) by simp; omega), if_pos rfl]
        exact ⟨_, rfl, Or.inr ⟨_, rfl, Or.inl ⟨by omega, by rw [ei]⟩⟩⟩
      · rw [if_pos (show decide (i < st.1 p) = true by simp; omega), if_neg (show ¬ (1 : Int32) = 0 by decide)]
        exact ⟨_, rfl, Or.inl ⟨_, c - 1, rfl, by omega, i + 1, by omega, nI_1 i⟩⟩
    · rw [if_pos (jleT (by omega) (by omega))]
      exact ⟨_, rfl, Or.inr ⟨_, rfl, Or.inr ⟨by omega, rfl⟩⟩⟩
  obtain ⟨x, e1, e2⟩ := hl
  unfold f_X8_first
  rw [e1]
  rcases e2 with ⟨e2, rfl⟩ | ⟨e2, rfl⟩
  · rw [if_pos e2]
    rfl
  · rw [if_neg e2]
    rfl
theorem jearlyB (hW : WF F) (hB : BF M F) (hR : RI F st n) (h : RB M F st) (hn : n ≤ 32) {s : Nat} (hs : s < F.ns) (hr : F.rk s = st.1 (F.pc s)) (hN : 100 ≤ N) : ∃ M', f_X8_early N M (nI s) = some (M', nI (F.vq st s)) ∧ ∀ a j, a ≠ 239 → M' a j = M a j := by
  have hns := hW.2.2.1.1
  have hm8 : F.mc s < 8 := Nat.lt_of_lt_of_le (hW.2.2.1.2 s hs).2.1 hW.1.1
  have hcn := hR.cn (F.mc s)
  have hvl := hR.vq_le hW hs hr
  have hah : F.rk s ≠ 0 → F.ln (F.pc s) (F.rk s - 1) < F.ns ∧ M 237 (F.ln (F.pc s) (F.rk s - 1)) = nI (st.2.2.2.1 (F.ln (F.pc s) (F.rk s - 1))) := by
    intro z
    have g1 := jahead hW hs z
    have g2 := hW.2.1.2.2.2 (F.pc s) (F.rk s - 1) (by have := (hW.2.2.1.2 s hs).2.2.2.2.1; omega)
    refine ⟨g1, (h.2.2.2 _ g1).2 ?_⟩
    unfold FT.pP
    rw [g2.2.1, g2.2.2]
    simp
    omega
  obtain ⟨M', f1, f2⟩ := jfromB (M := M) (s := s) (i := st.2.1 (F.mc s)) (N := N) (F := F) (b := st.2.2.2.1) (row := st.2.2.1 (F.mc s)) hW hB hs (by omega) (fun _ j hj => by
    obtain ⟨c1, c2, c3⟩ := hR.2.2.1 _ j hj
    have g4 := (hR.2.2.2.2.1 _ c1 c3).2
    exact ⟨c1, h.2.2.1 _ j hm8 hj, (h.2.2.2 _ c1).2 c3, by omega⟩) hN
  have hu : ((if 0 ≤ (if F.rk s = 0 then -1 else nI (F.ln (F.pc s) (F.rk s - 1))) then (jrd M 237 32 (if F.rk s = 0 then -1 else nI (F.ln (F.pc s) (F.rk s - 1)))).bind fun v50 => (jrd M 229 32 (if F.rk s = 0 then -1 else nI (F.ln (F.pc s) (F.rk s - 1)))).bind fun v51 => some ((v50 + v51)) else some (0)) : Option (Int32)) = some (nI (F.ea st.2.2.2.1 s)) := by
    unfold FT.ea
    by_cases z : F.rk s = 0
    · rw [if_pos z, if_neg (by decide), if_pos z]
      rfl
    · obtain ⟨h6, h7⟩ := hah z
      rw [if_neg z, if_pos (jle0 (by omega)), jrd_nI (by omega) (by decide), Option.bind_some, jrd_nI (by omega) (by decide), Option.bind_some, h7, (hB.2.2.2.2.2.2.2 _ h6).2.2.1, nI_add, if_neg z]
  refine ⟨M', ?_, f2⟩
  unfold f_X8_early FT.vq
  rw [jaheadB hW hB hs, Option.bind_some, hu, Option.bind_some, jrd_nI (show s < 32 by omega) (by decide), Option.bind_some, Option.bind_some, (hB.2.2.2.2.2.2.2 s hs).2.1, jrd_nI hm8 (by decide), Option.bind_some, h.2.1 _ hm8, f1, Option.bind_some]
  dsimp only
  by_cases z : F.ea st.2.2.2.1 s ≤ F.fo st.2.2.2.1 (st.2.2.1 (F.mc s)) (st.2.1 (F.mc s)) s
  · rw [if_pos (jleT z (by omega)), Nat.max_eq_right z]
  · rw [if_neg (jleF (by omega) (by omega)), Nat.max_eq_left (by omega)]
theorem jpickB (hW : WF F) (hB : BF M F) (hR : RI F st n) (h : RB M F st) (hn : n ≤ 32) (hk : k ≤ 2) (hN : 100 ≤ N) : ∃ x, jLp (σ := Int32 × Int32 × Int32 × Int32 × JMem) (ρ := Int32 × Int32 × JMem) N (fun ((z39, z40, z41, z42, M43) : Int32 × Int32 × Int32 × Int32 × JMem) => (if (M43 221 6) ≤ z42 then some (Sum.inr (z39, z40, M43)) else (f_X8_first N M43 z42).bind fun v47 => (((if 0 ≤ v47 then (f_X8_early N M43 v47).bind fun (M53, v54) => (((if nI k = 0 then (jrd M53 229 32 v47).bind fun v62 => some (v62) else (if nI k = 1 then (f_X8_rest N M53 v47).bind fun v60 => some ((-v60)) else some (0))) : Option (Int32)).bind fun u64 => (jcase (α := Int32 × Int32 × Int32 × JMem) (β := Unit) (if z39 < 0 then some (Sum.inr ()) else (if v54 < z40 then some (Sum.inr ()) else (if v54 = z40 then (if z41 ≤ u64 then some (Sum.inl ((z39, z40, z41, M53))) else some (Sum.inr ())) else some (Sum.inl ((z39, z40, z41, M53)))))) fun _ => some ((v47, v54, u64, M53)))) else some ((z39, z40, z41, M43))) : Option (Int32 × Int32 × Int32 × JMem)).bind fun (u75, u76, u77, M78) => some (Sum.inl (u75, u76, u77, z42 + 1, M78))))) ((-1), 0, 0, 0, M) = some x ∧ ((∃ r, jenc3 (F.pk k st F.np) x.1 x.2.1 r) ∧ ∀ a j, a ≠ 239 → x.2.2 a j = M a j) := by
  have hns := hW.2.2.1.1
  have hnp := hW.2.1.1
  refine jLp_tot (fun n z => ∃ p, n + p = F.np ∧ z.2.2.2.1 = nI p ∧ jenc3 (F.pk k st p) z.1 z.2.1 z.2.2.1 ∧ ∀ a j, a ≠ 239 → z.2.2.2.2 a j = M a j) _ ?_ N F.np ((-1), 0, 0, 0, M) (by omega) ⟨0, by omega, rfl, rfl, fun _ _ _ => rfl⟩
  rintro c ⟨z39, z40, z41, z42, M43⟩ ⟨p, hc, hz, he, hf⟩
  dsimp only at hz he hf ⊢
  subst hz
  have hB1 : BF M43 F := hB.fr ⟨hf _ _ (by omega), hf _ _ (by omega), hf _ _ (by omega)⟩ (fun a i _ _ => hf a i (by omega))
  have hR1 : RB M43 F st := h.fr hf
  rw [hB1.2.1]
  rcases Nat.eq_zero_or_pos c with en | en
  · rw [if_pos (jleT (by omega) (by omega))]
    have ep : p = F.np := by omega
    rw [ep] at he
    exact ⟨_, rfl, Or.inr ⟨_, rfl, ⟨z41, he⟩, hf⟩⟩
  · have hpk : F.pk k st (p + 1) = if st.1 p < F.lc p then pkS (F.pk k st p) (F.ln p (st.1 p)) (F.vq st (F.ln p (st.1 p))) (F.rq k (F.ln p (st.1 p))) else F.pk k st p := rfl
    rw [if_neg (jleF (by omega) (by omega)), jfirstB hW hB1 hR hR1 (by omega) hN, Option.bind_some]
    by_cases e : st.1 p < F.lc p
    · obtain ⟨b1, b2, b3, b4⟩ := hR.nxt hW e
      have c2 : F.rk (F.ln p (st.1 p)) = st.1 (F.pc (F.ln p (st.1 p))) := by rw [b2, b3]
      have hv := vq_small hW hR hn b1 c2
      obtain ⟨M53, g1, g2⟩ := jearlyB (N := N) hW hB1 hR hR1 hn b1 c2 hN
      have hB2 : BF M53 F := hB1.fr ⟨g2 _ _ (by omega), g2 _ _ (by omega), g2 _ _ (by omega)⟩ (fun a i _ _ => g2 a i (by omega))
      have hf2 : ∀ a j, a ≠ 239 → M53 a j = M a j := fun a j z => (g2 a j z).trans (hf a j z)
      have hrk : ((if nI k = 0 then (jrd M53 229 32 (nI (F.ln p (st.1 p)))).bind fun v62 => some (v62) else (if nI k = 1 then (f_X8_rest N M53 (nI (F.ln p (st.1 p)))).bind fun v60 => some ((-v60)) else some (0))) : Option (Int32)) = some (F.rq k (F.ln p (st.1 p))) := by
        unfold FT.rq
        rw [jrd_nI (by omega) (by decide), Option.bind_some, (hB2.2.2.2.2.2.2.2 _ b1).2.2.1, jrestB hW hB2 b1 hN, Option.bind_some]
        by_cases q : k = 0
        · rw [if_pos (by rw [q]; rfl), if_pos q]
        · rw [if_neg (by rw [jeqL (by omega) (by decide)]; exact q), if_neg q]
          by_cases q2 : k = 1
          · rw [if_pos (by rw [q2]; rfl), if_pos q2]
          · rw [if_neg (by rw [jeqL (by omega) (by decide)]; exact q2), if_neg q2]
      rw [if_pos e] at hpk
      rw [if_pos e, if_pos (jle0 (by omega)), g1, Option.bind_some]
      dsimp only
      rw [hrk, Option.bind_some]
      cases ho : F.pk k st p with
      | none =>
        rw [ho] at he hpk
        have he2 : z39 = -1 := he
        rw [if_pos (show z39 < 0 by rw [he2]; decide), jcR, Option.bind_some]
        refine ⟨_, rfl, Or.inl ⟨_, c - 1, rfl, by omega, p + 1, by omega, nI_1 p, ?_, hf2⟩⟩
        rw [hpk]
        exact ⟨rfl, rfl, rfl⟩
      | some y =>
        obtain ⟨s0, v0, r0⟩ := y
        obtain ⟨d1, d2, d3, d4⟩ := pk_small hW hR hn ho
        rw [ho] at he hpk
        obtain ⟨rfl, rfl, rfl⟩ := he
        have hpk2 : F.pk k st (p + 1) = if F.vq st (F.ln p (st.1 p)) < v0 ∨ (F.vq st (F.ln p (st.1 p)) = v0 ∧ F.rq k (F.ln p (st.1 p)) < z41) then some (F.ln p (st.1 p), F.vq st (F.ln p (st.1 p)), F.rq k (F.ln p (st.1 p))) else some (s0, v0, z41) := hpk
        rw [if_neg (jnlt0 (by omega))]
        by_cases q1 : F.vq st (F.ln p (st.1 p)) < v0
        · rw [if_pos (jltT q1 (by omega)), jcR, Option.bind_some]
          refine ⟨_, rfl, Or.inl ⟨_, c - 1, rfl, by omega, p + 1, by omega, nI_1 p, ?_, hf2⟩⟩
          rw [hpk2, if_pos (Or.inl q1)]
          exact ⟨rfl, rfl, rfl⟩
        · rw [if_neg (jltF (by omega) (by omega))]
          by_cases q2 : F.vq st (F.ln p (st.1 p)) = v0
          · rw [if_pos (by rw [q2])]
            by_cases q3 : z41 ≤ F.rq k (F.ln p (st.1 p))
            · rw [if_pos q3, jcL, Option.bind_some]
              refine ⟨_, rfl, Or.inl ⟨_, c - 1, rfl, by omega, p + 1, by omega, nI_1 p, ?_, hf2⟩⟩
              rw [hpk2, if_neg (fun z => by
                rcases z with z | z
                · exact q1 z
                · exact (jcmp_gt _ _).mpr q3 z.2)]
              exact ⟨rfl, rfl, rfl⟩
            · rw [if_neg q3, jcR, Option.bind_some]
              refine ⟨_, rfl, Or.inl ⟨_, c - 1, rfl, by omega, p + 1, by omega, nI_1 p, ?_, hf2⟩⟩
              rw [hpk2, if_pos (Or.inr ⟨q2, (jcmp_le _ _).mp q3⟩)]
              exact ⟨rfl, rfl, rfl⟩
          · rw [if_neg (jeqF q2 (by omega) (by omega)), jcL, Option.bind_some]
            refine ⟨_, rfl, Or.inl ⟨_, c - 1, rfl, by omega, p + 1, by omega, nI_1 p, ?_, hf2⟩⟩
            rw [hpk2, if_neg (fun z => by
              rcases z with z | z
              · exact q1 z
              · exact q2 z.1)]
            exact ⟨rfl, rfl, rfl⟩
    · rw [if_neg e] at hpk
      rw [if_neg e, if_neg (by decide), Option.bind_some]
      exact ⟨_, rfl, Or.inl ⟨_, c - 1, rfl, by omega, p + 1, by omega, nI_1 p, by rw [hpk]; exact he, hf⟩⟩
theorem jputB' (hW : WF F) (hB : BF M F) (hR : RI F st n) (h : RB M F st) (hn : n < 32) {s : Nat} (hs : s < F.ns) (hr : F.rk s = st.1 (F.pc s)) : ∃ M96, ((jrd M 228 32 (nI s)).bind fun v80 => (jrd M 232 8 v80).bind fun v81 => (jwr M 231 256 ((32 * v80) + v81) (nI s)).bind fun M82 => (jrd M82 232 8 v80).bind fun v83 => (jwr M82 232 8 v80 (v83 + 1)).bind fun M84 => (jwr M84 237 32 (nI s) (nI (F.vq st s))).bind fun M85 => (jwr M85 238 32 (nI s) 1).bind fun M86 => (jrd M86 229 32 (nI s)).bind fun v87 => (((if (nI (F.vq st s) + v87) ≤ (M86 221 21) then some ((M86 221 21)) else (jrd M86 229 32 (nI s)).bind fun v93 => some ((nI (F.vq st s) + v93))) : Option (Int32)).bind fun u95 => (some (jup M86 221 21 u95)).bind fun M96 => some (Sum.inl (nI n + 1, M96) : (Int32 × JMem) ⊕ JMem))) = some (Sum.inl (nI (n + 1), M96)) ∧ RB M96 F (F.put st s (F.vq st s)) ∧ ∀ a j, ¬ (a = 231 ∨ a = 232 ∨ a = 237 ∨ a = 238 ∨ (a = 221 ∧ j = 21)) → M96 a j = M a j := by
  obtain ⟨h1, h2, h3, h4⟩ := id h
  have hns := hW.2.2.1.1
  obtain ⟨p1, p2, p3, p4, p5, p6⟩ := hW.2.2.1.2 s hs
  have hm8 : F.mc s < 8 := Nat.lt_of_lt_of_le p2 hW.1.1
  have hv := vq_small hW hR (by omega) hs hr
  have hE := hR.2.2.2.2.2
  have s32 : s < 32 := by omega
  have hP0 : F.pP st.1 s = false := by
    unfold FT.pP
    rw [hr]
    simp
  have hcn := hR.cn (F.mc s)
  have hcn2 : st.2.1 (F.mc s) < F.ns := by
    rcases Nat.lt_or_ge (st.2.1 (F.mc s)) F.ns with z | z
    · exact z
    · exfalso
      have ec : st.2.1 (F.mc s) = F.ns := by omega
      obtain ⟨i, hi, e⟩ := fb_onto (n := F.ns) (f := st.2.2.1 (F.mc s)) (fun i hi => (hR.2.2.1 _ i (by omega)).1) (fun i j hij hj e => by
        have := hR.2.2.2.1 _ i j (by omega) (by omega) e
        omega) hs
      have := (hR.2.2.1 (F.mc s) i (by omega)).2.2
      rw [e, hP0] at this
      cases this
  obtain ⟨Ma, ua, fa, va⟩ := jupX M 231 (32 * F.mc s + st.2.1 (F.mc s)) (nI s)
  obtain ⟨Mb, ub, fb, vb⟩ := jupX Ma 232 (F.mc s) (nI (st.2.1 (F.mc s) + 1))
  obtain ⟨Mc, uc, fc, vc⟩ := jupX Mb 237 s (nI (F.vq st s))
  obtain ⟨Md, ud, fd, vd⟩ := jupX Mc 238 s 1
  obtain ⟨Me, ue, fe, ve⟩ := jupX Md 221 21 (nI (max st.2.2.2.2 (F.vq st s + F.sp s)))
  have r1 : Ma 232 (F.mc s) = nI (st.2.1 (F.mc s)) := by rw [fa _ _ (by omega)]; exact h2 _ hm8
  have r2 : Md 229 s = nI (F.sp s) := by rw [fd _ _ (by omega), fc _ _ (by omega), fb _ _ (by omega), fa _ _ (by omega)]; exact (hB.2.2.2.2.2.2.2 s hs).2.2.1
  have r3 : Md 221 21 = nI st.2.2.2.2 := by rw [fd _ _ (by omega), fc _ _ (by omega), fb _ _ (by omega), fa _ _ (by omega)]; exact h1
  have hu : ((if nI (F.vq st s + F.sp s) ≤ nI st.2.2.2.2 then some (nI st.2.2.2.2) else some (nI (F.vq st s + F.sp s))) : Option Int32) = some (nI (max st.2.2.2.2 (F.vq st s + F.sp s))) := by
    by_cases z : F.vq st s + F.sp s ≤ st.2.2.2.2
    · rw [if_pos (jleT z (by omega)), Nat.max_eq_left z]
    · rw [if_neg (jleF (by omega) (by omega)), Nat.max_eq_right (by omega)]
  have fr : ∀ a j, ¬ ((a = 231 ∧ j = 32 * F.mc s + st.2.1 (F.mc s)) ∨ (a = 232 ∧ j = F.mc s) ∨ (a = 237 ∧ j = s) ∨ (a = 238 ∧ j = s) ∨ (a = 221 ∧ j = 21)) → Me a j = M a j := fun a j z => by
    rw [fe a j (by omega), fd a j (by omega), fc a j (by omega), fb a j (by omega), fa a j (by omega)]
  refine ⟨Me, ?_, ⟨ve, fun m hm => ?_, fun m i hm hi => ?_, fun u hu => ?_⟩, fun a j z => fr a j (by omega)⟩
  · rw [jrd_nI s32 (by decide), Option.bind_some, (hB.2.2.2.2.2.2.2 s hs).2.1, jrd_nI hm8 (by decide), Option.bind_some, h2 _ hm8, jmul32, nI_add, jwr_nI (show 32 * F.mc s + st.2.1 (F.mc s) < 256 by omega) (by decide), ua, Option.bind_some, jrd_nI hm8 (by decide), Option.bind_some, r1, nI_1, jwr_nI hm8 (by decide), ub, Option.bind_some, jwr_nI s32 (by decide), uc, Option.bind_some, jwr_nI s32 (by decide), ud, Option.bind_some, jrd_nI s32 (by decide), Option.bind_some, Option.bind_some, r2, r3, nI_add, hu, Option.bind_some, ue, Option.bind_some, nI_1]
  · show Me 232 m = nI (if m = F.mc s then st.2.1 (F.mc s) + 1 else st.2.1 m)
    by_cases e : m = F.mc s
    · rw [if_pos e, e, fe _ _ (by omega), fd _ _ (by omega), fc _ _ (by omega)]
      exact vb
    · rw [if_neg e, fr _ _ (by omega)]
      exact h2 m hm
  · have hi2 : i < (if m = F.mc s then st.2.1 (F.mc s) + 1 else st.2.1 m) := hi
    show Me 231 (32 * m + i) = nI (if m = F.mc s ∧ i = st.2.1 (F.mc s) then s else st.2.2.1 m i)
    by_cases e : m = F.mc s ∧ i = st.2.1 (F.mc s)
    · rw [if_pos e, e.1, e.2, fe _ _ (by omega), fd _ _ (by omega), fc _ _ (by omega), fb _ _ (by omega)]
      exact va
    · have hi3 : i < st.2.1 m := by
        by_cases e2 : m = F.mc s
        · rw [if_pos e2] at hi2
          rw [e2]
          omega
        · rw [if_neg e2] at hi2
          exact hi2
      have hcm := hR.cn m
      rw [if_neg e, fr _ _ (by omega)]
      exact h3 m i hm hi3
  · rw [pP_put hW hs hr u hu]
    show Me 238 u = (if (if u = s then true else F.pP st.1 u) = true then 1 else 0) ∧ ((if u = s then true else F.pP st.1 u) = true → Me 237 u = nI (if u = s then F.vq st s else st.2.2.2.1 u))
    by_cases e : u = s
    · rw [if_pos e, if_pos e, if_pos rfl, e, fe _ _ (by omega), fe _ _ (by omega), fd _ _ (show ¬ ((237 : Nat) = 238 ∧ s = s) by omega)]
      exact ⟨vd, fun _ => vc⟩
    · rw [if_neg e, if_neg e, fr _ _ (by omega), fr _ _ (by omega)]
      exact h4 u hu
theorem jruleB (hW : WF F) (hB : BF M F) (hk : k ≤ 2) (hN : 100 ≤ N) : ∃ M1, f_X8_rule N M (nI k) = some (M1, nI (F.rN k F.ns).2.2.2.2) ∧ RB M1 F (F.rN k F.ns) ∧ ∀ a j, ¬ (a = 231 ∨ a = 232 ∨ (237 ≤ a ∧ a ≤ 239) ∨ (a = 221 ∧ j = 21)) → M1 a j = M a j := by
  have hns := hW.2.2.1.1
  have hnm := hW.1.1
  have n10 : ¬ (1 : Int32) = 0 := by decide
  have l1 : ∃ x, jLp (σ := Int32 × JMem) (ρ := JMem) N (fun ((z7, M8) : Int32 × JMem) => (if 8 ≤ z7 then some (Sum.inr M8) else (jwr M8 232 8 z7 0).bind fun M10 => some (Sum.inl (z7 + 1, M10)))) (0, M) = some x ∧ ((∀ m, m < 8 → x 232 m = 0) ∧ ∀ a i, a ≠ 232 → x a i = M a i) := by
    refine jLp_tot (fun c z => ∃ m, c + m = 8 ∧ z.1 = nI m ∧ (∀ m', m' < m → z.2 232 m' = 0) ∧ ∀ a i, a ≠ 232 → z.2 a i = M a i) _ ?_ N 8 (0, M) (by omega) ⟨0, by omega, rfl, fun m hm => absurd hm (Nat.not_lt_zero m), fun _ _ _ => rfl⟩
    rintro c ⟨z7, M8⟩ ⟨m, hc, hz, hp, hf⟩
    dsimp only at hz hp hf ⊢
    subst hz
    rcases Nat.eq_zero_or_pos c with en | en
    · rw [if_pos (by rw [jLle (by omega) (by decide)]; omega)]
      exact ⟨_, rfl, Or.inr ⟨_, rfl, fun m' hm' => hp m' (by omega), hf⟩⟩
    · rw [if_neg (by rw [jLle (by omega) (by decide)]; omega), jwr_nI (show m < 8 by omega) (by decide), Option.bind_some]
      refine ⟨_, rfl, Or.inl ⟨_, c - 1, rfl, by omega, m + 1, by omega, nI_1 m, fun m' hm' => ?_, fun a i z => ?_⟩⟩
      · show jup M8 232 m 0 232 m' = 0
        rw [jup_at]
        by_cases e : m' = m
        · rw [if_pos ⟨rfl, e⟩]
        · rw [if_neg (fun z => e z.2)]
          exact hp m' (by omega)
      · show jup M8 232 m 0 a i = _
        rw [jup_ne z]
        exact hf a i z
  obtain ⟨t9, a1, a2, a3⟩ := l1
  have hB9 : BF t9 F := hB.fr ⟨a3 _ _ (by omega), a3 _ _ (by omega), a3 _ _ (by omega)⟩ (fun a i _ _ => a3 a i (by omega))
  obtain ⟨t20, b1, b2, b3⟩ := jzeroB (n := 0) (N := N) hns hB9.2.2.1 hN
  obtain ⟨M23, c1, c2, c3⟩ := jupX t20 221 21 0
  have f0 : ∀ a j, ¬ (a = 231 ∨ a = 232 ∨ (237 ≤ a ∧ a ≤ 239) ∨ (a = 221 ∧ j = 21)) → M23 a j = M a j := fun a j z => by rw [c2 a j (by omega), b3 a j (by omega), a3 a j (by omega)]
  have hR0 : RB M23 F (F.rN k 0) := by
    refine ⟨c3, fun m hm => ?_, fun m i hm hi => absurd hi (Nat.not_lt_zero i), fun s hs => ⟨?_, fun hP => ?_⟩⟩
    · rw [c2 _ _ (by omega), b3 _ _ (by omega)]
      exact a2 m hm
    · rw [c2 _ _ (by omega), b2 s hs]
      unfold FT.pP
      simp [FT.rN]
    · unfold FT.pP at hP
      simp [FT.rN] at hP
  have hl : ∃ x, jLp (σ := Int32 × JMem) (ρ := JMem) N (fun ((z30, M31) : Int32 × JMem) => (if (M31 221 11) ≤ z30 then some (Sum.inr M31) else ((jLp (σ := Int32 × Int32 × Int32 × Int32 × JMem) (ρ := Int32 × Int32 × JMem) N (fun ((z39, z40, z41, z42, M43) : Int32 × Int32 × Int32 × Int32 × JMem) => (if (M43 221 6) ≤ z42 then some (Sum.inr (z39, z40, M43)) else (f_X8_first N M43 z42).bind fun v47 => (((if 0 ≤ v47 then (f_X8_early N M43 v47).bind fun (M53, v54) => (((if nI k = 0 then (jrd M53 229 32 v47).bind fun v62 => some (v62) else (if nI k = 1 then (f_X8_rest N M53 v47).bind fun v60 => some ((-v60)) else some (0))) : Option (Int32)).bind fun u64 => (jcase (α := Int32 × Int32 × Int32 × JMem) (β := Unit) (if z39 < 0 then some (Sum.inr ()) else (if v54 < z40 then some (Sum.inr ()) else (if v54 = z40 then (if z41 ≤ u64 then some (Sum.inl ((z39, z40, z41, M53))) else some (Sum.inr ())) else some (Sum.inl ((z39, z40, z41, M53)))))) fun _ => some ((v47, v54, u64, M53)))) else some ((z39, z40, z41, M43))) : Option (Int32 × Int32 × Int32 × JMem)).bind fun (u75, u76, u77, M78) => some (Sum.inl (u75, u76, u77, z42 + 1, M78))))) ((-1), 0, 0, 0, M31)).bind fun (t44, t45, t46) => (jrd t46 228 32 t44).bind fun v80 => (jrd t46 232 8 v80).bind fun v81 => (jwr t46 231 256 ((32 * v80) + v81) t44).bind fun M82 => (jrd M82 232 8 v80).bind fun v83 => (jwr M82 232 8 v80 (v83 + 1)).bind fun M84 => (jwr M84 237 32 t44 t45).bind fun M85 => (jwr M85 238 32 t44 1).bind fun M86 => (jrd M86 229 32 t44).bind fun v87 => (((if (t45 + v87) ≤ (M86 221 21) then some ((M86 221 21)) else (jrd M86 229 32 t44).bind fun v93 => some ((t45 + v93))) : Option (Int32)).bind fun u95 => (some (jup M86 221 21 u95)).bind fun M96 => some (Sum.inl (z30 + 1, M96)))))) (0, M23) = some x ∧ (RB x F (F.rN k F.ns) ∧ ∀ a j, ¬ (a = 231 ∨ a = 232 ∨ (237 ≤ a ∧ a ≤ 239) ∨ (a = 221 ∧ j = 21)) → x a j = M a j) := by
    refine jLp_tot (fun c z => ∃ n, c + n = F.ns ∧ z.1 = nI n ∧ RB z.2 F (F.rN k n) ∧ ∀ a j, ¬ (a = 231 ∨ a = 232 ∨ (237 ≤ a ∧ a ≤ 239) ∨ (a = 221 ∧ j = 21)) → z.2 a j = M a j) _ ?_ N F.ns (0, M23) (by omega) ⟨0, by omega, rfl, hR0, f0⟩
    rintro c ⟨z30, M31⟩ ⟨n, hc, hz, hR, hf⟩
    dsimp only at hz hR hf ⊢
    subst hz
    have hB1 : BF M31 F := hB.fr ⟨hf _ _ (by omega), hf _ _ (by omega), hf _ _ (by omega)⟩ (fun a i _ _ => hf a i (by omega))
    have hRI := rN_ok (k := k) hW n (by omega)
    rw [hB1.2.2.1]
    rcases Nat.eq_zero_or_pos c with en | en
    · rw [if_pos (jleT (by omega) (by omega))]
      have e : n = F.ns := by omega
      rw [e] at hR
      exact ⟨_, rfl, Or.inr ⟨_, rfl, hR, hf⟩⟩
    · obtain ⟨s, v, r, e1, e2, e3, e4⟩ := hRI.some (k := k) hW (by omega)
      obtain ⟨⟨t44, t45, t46⟩, g1, ⟨r', g2⟩, g3⟩ := jpickB (N := N) (k := k) hW hB1 hRI hR (by omega) hk hN
      dsimp only at g2 g3
      rw [e1] at g2
      obtain ⟨rfl, rfl, -⟩ := g2
      have hB2 : BF t46 F := hB1.fr ⟨g3 _ _ (by omega), g3 _ _ (by omega), g3 _ _ (by omega)⟩ (fun a i _ _ => g3 a i (by omega))
      obtain ⟨M96, k1, k2, k3⟩ := jputB' hW hB2 hRI (hR.fr g3) (by omega) e2 e3
      rw [if_neg (jleF (by omega) (by omega)), g1, Option.bind_some]
      dsimp only
      rw [e4, k1]
      refine ⟨_, rfl, Or.inl ⟨_, c - 1, rfl, by omega, n + 1, by omega, rfl, ?_, fun a j z => ?_⟩⟩
      · have : F.rN k (n + 1) = F.put (F.rN k n) s (F.vq (F.rN k n) s) := by
          show F.r1 k (F.rN k n) = _
          unfold FT.r1
          rw [e1, e4]
        rw [this]
        exact k2
      · show M96 a j = _
        rw [k3 a j (by omega), g3 a j (by omega), hf a j z]
  obtain ⟨x, e1, e2, e3⟩ := hl
  refine ⟨x, ?_, e2, e3⟩
  unfold f_X8_rule
  rw [jin_0_2, if_pos (show 0 ≤ nI k ∧ nI k ≤ 2 from ⟨jle0 (by omega), by rw [jleL (by omega) (by decide)]; exact hk⟩), if_neg n10, a1, Option.bind_some, b1, Option.bind_some, c1, Option.bind_some, e1, Option.bind_some, e2.1]
end RN
theorem jst_rule_ok : jst_rule jInv := by
  rintro M x1 ⟨F, od, S, k, q, hX⟩
  have hI : jInv M := ⟨F, od, S, k, q, hX⟩
  obtain ⟨hW, hO, hA, hAO, hB, hBO, -⟩ := id hX
  rcases jem (0 ≤ x1 ∧ x1 ≤ 2) with h1 | h1
  · exact ⟨0, M, M, -100002, by simp [f_X7_rule, jisOut, h1], by simp [f_X8_rule, jin_0_2, h1], hI⟩
  obtain ⟨x, -, hx, rfl⟩ := jnat (lo := 0) (hi := 2) h1.1 h1.2 (by decide) (by decide)
  obtain ⟨M1, a1, a2, a3⟩ := jruleA (N := 100) (k := x) hW hA hX.2.2.2.2.2.2.2.2.2.2.1 hx (by omega)
  have hB1 : BF M1 F := hB.fr ⟨a3 _ _ (by omega), a3 _ _ (by omega), a3 _ _ (by omega)⟩ (fun a i _ _ => a3 a i (by omega))
  obtain ⟨M2, b1, b2, b3⟩ := jruleB (N := 100) (k := x) hW hB1 hx (by omega)
  have hRI := rN_ok (k := x) hW F.ns (Nat.le_refl _)
  obtain ⟨w1, w2⟩ := hRI.wo hW
  refine ⟨100, M1, M2, nI (F.rN x F.ns).2.2.2.2, a1, b1, F, (F.rN x F.ns).2.2.1, S, k, q, hX.ord w1 ⟨fun m hm => ?_, fun m i hm hi => ?_⟩ ⟨fun m hm => ?_, fun m i hm hi => ?_⟩ (fun a i z y => ?_)⟩
  · rw [← w2 m, b3 _ _ (by omega)]
    exact (a2.2.2.2.1 m hm).2
  · rw [b3 _ _ (by omega), show 33 + 1 + 1 + m = 35 + m by omega]
    exact a2.2.2.2.2.1 m i hm (by rw [w2 m]; exact hi)
  · rw [← w2 m]
    exact b2.2.1 m hm
  · exact b2.2.2.1 m i hm (by rw [w2 m]; exact hi)
  · unfold jcore at z
    rw [b3 a i (by omega), a3 a i (by omega)]
