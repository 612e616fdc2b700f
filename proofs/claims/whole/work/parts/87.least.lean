/-! the least day: the model's cases; the call -/
section MD
variable {M : JMem} {N n : Nat} {F : FT} {ah : Nat → Int32} {st : LT}
theorem jclr {x : Int32} {g : Nat} (hg : g < 32) (h : bt x g = false) : (x ||| jshl 1 (nI g)) &&& ((jshl 1 (nI g)) ^^^ (-1)) = x := by
  apply b_ext
  intro i hi
  rw [b_and, b_or, b_xor, b_bit hg, b_m1 i hi]
  by_cases e : i = g
  · rw [e, h]
    simp
  · rw [decide_eq_false e]
    simp
def PPB (M : JMem) (F : FT) (ah : Nat → Int32) (wt f g : Nat) (x : JMem) : Prop := x 221 44 = nI (wt + 2) ∧ (∀ s, s < 32 → x 255 (32 * wt + s) = FT.bit ah g f s ∧ x 255 (32 * (wt + 1) + s) = FT.bit ah f g s) ∧ ∀ a i, ¬ (a = 244 ∨ (a = 255 ∧ 32 * wt ≤ i) ∨ (a = 221 ∧ i = 44)) → x a i = M a i
theorem jtwoB {wt f g : Nat} (hw : M 221 44 = nI wt) (hwt : wt ≤ 120) (hf : f < 32) (hg : g < 32) (hfg : f ≠ g) (h : ∀ s, s < 32 → M 244 s = ah s) (hb : bt (ah g) f = false) (hN : 100 ≤ N) : ∃ M43, ((jrd M 244 32 (nI g)).bind fun v36 => (jwr M 244 32 (nI g) (v36 ||| (jshl 1 (nI f)))).bind fun M37 => (f_X8_pushCase N M37).bind fun M38 => (jrd M38 244 32 (nI g)).bind fun v39 => (jwr M38 244 32 (nI g) (v39 &&& ((jshl 1 (nI f)) ^^^ ((-1))))).bind fun M40 => (jrd M40 244 32 (nI f)).bind fun v41 => (jwr M40 244 32 (nI f) (v41 ||| (jshl 1 (nI g)))).bind fun M42 => (f_X8_pushCase N M42).bind fun M43 => some (Sum.inr (Sum.inl (Sum.inr (Sum.inl (M43, (1 : Int32))))) : Int32 ⊕ ((Int32 ⊕ ((JMem × Int32) ⊕ Unit)) ⊕ Unit))) = some (Sum.inr (Sum.inl (Sum.inr (Sum.inl (M43, 1))))) ∧ PPB M F ah wt f g M43 := by
  obtain ⟨M37, u1, f1, v1⟩ := jupX M 244 g (ah g ||| jshl 1 (nI f))
  obtain ⟨M38, a1, a2, a3, a4⟩ := jpushB (M := M37) (N := N) (wt := wt) (by rw [f1 _ _ (by omega)]; exact hw) (by omega) hN
  obtain ⟨M40, u2, f2, v2⟩ := jupX M38 244 g (ah g)
  obtain ⟨M42, u3, f3, v3⟩ := jupX M40 244 f (ah f ||| jshl 1 (nI g))
  obtain ⟨M43, b1, b2, b3, b4⟩ := jpushB (M := M42) (N := N) (wt := wt + 1) (by rw [f3 _ _ (by omega), f2 _ _ (by omega)]; exact a2) (by omega) hN
  refine ⟨M43, ?_, b2, fun s hs => ⟨?_, ?_⟩, fun a i z => ?_⟩
  · rw [jrd_nI hg (by decide), Option.bind_some, h g hg, jwr_nI hg (by decide), u1, Option.bind_some, a1, Option.bind_some, jrd_nI hg (by decide), Option.bind_some, a4 _ _ (by omega), v1, jclr hf hb, jwr_nI hg (by decide), u2, Option.bind_some, jrd_nI hf (by decide), Option.bind_some, show M40 244 f = ah f by rw [f2 _ _ (by omega), a4 _ _ (by omega), f1 _ _ (by omega)]; exact h f hf, jwr_nI hf (by decide), u3, Option.bind_some, b1, Option.bind_some]
  · rw [b4 _ _ (by omega), f3 _ _ (by omega), f2 _ _ (by omega), a3 s hs]
    unfold FT.bit
    by_cases e : s = g
    · rw [e, v1, upd_s]
    · rw [f1 _ _ (by omega), upd_n e]
      exact h s hs
  · rw [b3 s hs]
    unfold FT.bit
    by_cases e : s = f
    · rw [e, v3, upd_s]
    · rw [f3 _ _ (by omega), upd_n e]
      by_cases e2 : s = g
      · rw [e2]
        exact v2
      · rw [f2 _ _ (by omega), a4 _ _ (by omega), f1 _ _ (by omega)]
        exact h s hs
  · rw [b4 _ _ (by omega), f3 _ _ (by omega), f2 _ _ (by omega), a4 _ _ (by omega), f1 _ _ (by omega)]
theorem jsplitB (hW : WF F) (hB : BF M F) (h : ∀ s, s < 32 → M 244 s = ah s) {wt : Nat} (hw : M 221 44 = nI wt) (hwt : wt ≤ 120) (hN : 100 ≤ N) : ∃ x, f_X8_parts N M = some x ∧ ((x = (M, 0) ∧ F.fp ah = none) ∨ ∃ f g, F.fp ah = some (f, g) ∧ f < F.ns ∧ g < F.ns ∧ F.op ah f g = true ∧ x.2 = 1 ∧ PPB M F ah wt f g x.1) := by
  have hns := hW.2.2.1.1
  have hnm := hW.1.1
  have n10 : ¬ (1 : Int32) = 0 := by decide
  unfold f_X8_parts
  refine jCB (P := fun (x : (JMem × Int32) ⊕ Unit) => (x = Sum.inr () ∧ FPR F ah none) ∨ ∃ f g M', x = Sum.inl (M', 1) ∧ f < F.ns ∧ g < F.ns ∧ F.op ah f g = true ∧ FPR F ah (some (f, g)) ∧ PPB M F ah wt f g M') ?_ (fun x hx => ?_) (fun x hx => ?_)
  · refine jLp_tot (fun c (z : Int32) => ∃ f, c + f = F.ns ∧ z = nI f ∧ ∀ f' g', f' < f → f' < g' → g' < F.ns → F.op ah f' g' = false) _ ?_ N F.ns 0 (by omega) ⟨0, by omega, rfl, fun f' g' hf => absurd hf (Nat.not_lt_zero f')⟩
    rintro c z ⟨f, hc, rfl, hp⟩
    rcases Nat.eq_zero_or_pos c with en | en
    · rw [if_pos (show M 221 11 ≤ nI f by rw [hB.2.2.1]; exact jleT (by omega) (by omega))]
      exact ⟨_, rfl, Or.inr ⟨_, rfl, Or.inl ⟨rfl, Or.inl ⟨rfl, fun f' g' h1 h2 => hp f' g' (by omega) h1 h2⟩⟩⟩⟩
    · have hf : f < F.ns := by omega
      have hmf := (hW.2.2.1.2 f hf).2.1
      rw [if_neg (show ¬ M 221 11 ≤ nI f by rw [hB.2.2.1]; exact jleF (by omega) (by omega)), nI_1]
      refine jCB (P := fun (y : (Int32 ⊕ ((JMem × Int32) ⊕ Unit)) ⊕ Unit) => (y = Sum.inr () ∧ ∀ g', f < g' → g' < F.ns → F.op ah f g' = false) ∨ ∃ g M', y = Sum.inl (Sum.inr (Sum.inl (M', 1))) ∧ f < g ∧ g < F.ns ∧ F.op ah f g = true ∧ (∀ g', f < g' → g' < g → F.op ah f g' = false) ∧ PPB M F ah wt f g M') ?_ (fun y hy => ?_) (fun y hy => ?_)
      · refine jLp_tot (fun c (z : Int32) => ∃ g, c + g = F.ns ∧ f < g ∧ z = nI g ∧ ∀ g', f < g' → g' < g → F.op ah f g' = false) _ ?_ N (F.ns - (f + 1)) (nI (f + 1)) (by omega) ⟨f + 1, by omega, by omega, rfl, fun g' h1 h2 => absurd h1 (by omega)⟩
        rintro c2 z ⟨g, hc2, hfg, rfl, hp2⟩
        rcases Nat.eq_zero_or_pos c2 with en2 | en2
        · rw [if_pos (show M 221 11 ≤ nI g by rw [hB.2.2.1]; exact jleT (by omega) (by omega))]
          exact ⟨_, rfl, Or.inr ⟨_, rfl, Or.inl ⟨rfl, fun g' h1 h2 => hp2 g' h1 (by omega)⟩⟩⟩
        · have hg : g < F.ns := by omega
          have hmg := (hW.2.2.1.2 g hg).2.1
          have hk := (hW.1.2 _ hmf).1
          have nxt : F.op ah f g = false → ∃ x : Int32 ⊕ ((Int32 ⊕ ((JMem × Int32) ⊕ Unit)) ⊕ Unit), some (Sum.inl (nI g + 1)) = some x ∧ ((∃ s' m, x = Sum.inl s' ∧ m < c2 ∧ ∃ g, m + g = F.ns ∧ f < g ∧ s' = nI g ∧ ∀ g', f < g' → g' < g → F.op ah f g' = false) ∨ ∃ r, x = Sum.inr r ∧ ((r = Sum.inr () ∧ ∀ g', f < g' → g' < F.ns → F.op ah f g' = false) ∨ ∃ g M', r = Sum.inl (Sum.inr (Sum.inl (M', 1))) ∧ f < g ∧ g < F.ns ∧ F.op ah f g = true ∧ (∀ g', f < g' → g' < g → F.op ah f g' = false) ∧ PPB M F ah wt f g M')) := by
            intro hop
            refine ⟨_, rfl, Or.inl ⟨_, c2 - 1, rfl, by omega, g + 1, by omega, by omega, nI_1 g, fun g' h1 h2 => ?_⟩⟩
            rcases Nat.lt_succ_iff_lt_or_eq.mp h2 with z | z
            · exact hp2 g' h1 z
            · rw [z]
              exact hop
          rw [if_neg (show ¬ M 221 11 ≤ nI g by rw [hB.2.2.1]; exact jleF (by omega) (by omega)), jrd_nI (show f < 32 by omega) (by decide), Option.bind_some, jrd_nI (show g < 32 by omega) (by decide), Option.bind_some, Option.bind_some, (hB.2.2.2.2.2.2.2 f hf).2.1, (hB.2.2.2.2.2.2.2 g hg).2.1, jrd_nI (show F.mc f < 8 by omega) (by decide), Option.bind_some, (hB.2.2.2.1 _ hmf).1, jah8 h (show f < 32 by omega) (show g < 32 by omega), Option.bind_some, jah8 h (show g < 32 by omega) (show f < 32 by omega), Option.bind_some]
          by_cases q1 : F.mc f = F.mc g
          · rw [if_pos (show nI (F.mc f) = nI (F.mc g) by rw [q1])]
            by_cases q2 : F.kd (F.mc f) = 0
            · rw [if_pos (show nI (F.kd (F.mc f)) = 0 by rw [q2]; rfl)]
              by_cases q3 : bt (ah f) g = true
              · rw [if_pos q3, if_neg n10, jcR, Option.bind_some, if_pos rfl]
                exact nxt (by simp [FT.op, q3])
              · rw [if_neg q3, if_pos rfl]
                by_cases q4 : bt (ah g) f = true
                · rw [if_pos q4, if_neg n10, jcR, Option.bind_some, if_pos rfl]
                  exact nxt (by simp [FT.op, q4])
                · have q3' : bt (ah f) g = false := by cases e : bt (ah f) g with | true => exact absurd e q3 | false => rfl
                  have q4' : bt (ah g) f = false := by cases e : bt (ah g) f with | true => exact absurd e q4 | false => rfl
                  obtain ⟨M43, t1, t3⟩ := jtwoB (F := F) (N := N) (f := f) (g := g) hw hwt (by omega) (by omega) (by omega) h q4' hN
                  rw [if_neg q4, if_pos rfl, jcL, Option.bind_some, if_neg n10, t1]
                  refine ⟨_, rfl, Or.inr ⟨_, rfl, Or.inr ⟨g, M43, rfl, hfg, hg, ?_, hp2, t3⟩⟩⟩
                  unfold FT.op
                  rw [q3', q4']
                  simp [q1]
                  rw [← q1]
                  exact q2
            · rw [if_neg (show ¬ nI (F.kd (F.mc f)) = 0 by rw [jeqL (by omega) (by decide)]; exact q2), jcR, Option.bind_some, if_pos rfl]
              exact nxt (by simp [FT.op, q2])
          · rw [if_neg (jeqF q1 (by omega) (by omega)), jcR, Option.bind_some, if_pos rfl]
            exact nxt (by simp [FT.op, q1])
      · rcases hy with ⟨hy, -⟩ | ⟨g, M', hy, h1, h2, h3, h4, h5⟩
        · cases hy
        · cases hy
          refine Or.inr ⟨_, rfl, Or.inr ⟨f, g, M', rfl, hf, h2, h3, Or.inr ⟨f, g, rfl, h1, h2, h3, fun f' g' z1 z2 z3 => ?_⟩, h5⟩⟩
          rcases z3 with z | ⟨z, z'⟩
          · exact hp f' g' z z1 z2
          · rw [z] at z1 ⊢
            exact h4 g' z1 z'
      · rcases hy with ⟨-, hy⟩ | ⟨g, M', hy, -⟩
        · refine ⟨_, rfl, Or.inl ⟨_, c - 1, rfl, by omega, f + 1, by omega, rfl, fun f' g' z1 z2 z3 => ?_⟩⟩
          rcases Nat.lt_succ_iff_lt_or_eq.mp z1 with z | z
          · exact hp f' g' z z2 z3
          · rw [z] at z2 ⊢
            exact hy g' z2 z3
        · cases hy
  · rcases hx with ⟨hx, -⟩ | ⟨f, g, M', hx, h1, h2, h3, h4, h5⟩
    · cases hx
    · cases hx
      exact Or.inr ⟨f, g, fp_eq h4, h1, h2, h3, rfl, h5⟩
  · rcases hx with ⟨-, hx⟩ | ⟨f, g, M', hx, -⟩
    · exact ⟨_, rfl, Or.inl ⟨rfl, fp_eq hx⟩⟩
    · cases hx
def LFB (M M' : JMem) : Prop := ∀ a i, ¬ (a = 231 ∨ (a = 221 ∧ (i = 21 ∨ i = 28 ∨ i = 29 ∨ (44 ≤ i ∧ i ≤ 47))) ∨ (237 ≤ a ∧ a ≤ 239) ∨ (242 ≤ a ∧ a ≤ 244) ∨ a = 255 ∨ a = 256) → M' a i = M a i
theorem jcaseB (hW : WF F) (hB : BF M F) (hL : LB M F st) (hI : LI F n st) (hn : n ≤ 100) (hw : 0 < st.2.2.2.1) (hc : st.2.1 < n) (hN : 300 ≤ N) : ∃ x, ((some (jup M 221 46 ((M 221 46) + 1))).bind fun M36 => (f_X8_popCase N M36).bind fun M37 => (f_X8_asks N M37 ((M37 221 45) - 1)).bind fun (M38, v39) => (if v39 = 0 then some (Sum.inl M38) else (f_X8_parts N M38).bind fun (M40, v41) => (if v41 = 0 then (f_X8_complete N M40).bind fun M42 => some (Sum.inl M42) else some (Sum.inl M40)))) = some x ∧ ∃ M', x = (Sum.inl M' : JMem ⊕ ((JMem × Int32) ⊕ JMem)) ∧ LB M' F (F.lS st) ∧ LFB M M' := by
  obtain ⟨i1, i2, i3, i4, i5, i6⟩ := id hI
  obtain ⟨l1, l2, l3, l4, l5, l6⟩ := id hL
  have hns := hW.2.2.1.1
  obtain ⟨M36, ua, fa, va⟩ := jupX M 221 46 (nI (st.2.1 + 1))
  obtain ⟨M37, p1, p2, p3, p4⟩ := jpopB (M := M36) (N := N) (wt := st.2.2.2.1) (by rw [fa _ _ (by omega)]; exact l4) (by omega) hw (by omega)
  rw [l2, nI_1, ua, Option.bind_some, p1, Option.bind_some]
  have f0 : ∀ a i, ¬ ((a = 221 ∧ (i = 44 ∨ i = 46)) ∨ a = 244) → M37 a i = M a i := fun a i z => by rw [p4 a i (by omega), fa a i (by omega)]
  have hB37 : BF M37 F := hB.fr ⟨f0 _ _ (by omega), f0 _ _ (by omega), f0 _ _ (by omega)⟩ (fun a i _ _ => f0 a i (by omega))
  have h45 : M37 221 45 = nI st.1 := by rw [f0 _ _ (by omega)]; exact l1
  have hst37 : ∀ s, s < 32 → M37 244 s = st.2.2.2.2.1 (st.2.2.2.1 - 1) s := fun s hs => by
    rw [p3 s hs, fa _ _ (by omega)]
    exact l5 _ s (by omega) hs
  obtain ⟨M38, v39, a1, a2, a3, a4, a6⟩ := wb_asks (N := N) (M := M37) (F := F) (ah := st.2.2.2.2.1 (st.2.2.2.1 - 1)) hW hB37 (nI st.1 - 1) hst37 (by omega)
  rw [h45, a1, Option.bind_some]
  dsimp only
  have hlS : F.lS st = F.lW (F.win (nI st.1 - 1) (st.2.2.2.2.1 (st.2.2.2.1 - 1))) (st.1, st.2.1 + 1, st.2.2.1, st.2.2.2.1 - 1, st.2.2.2.2.1, st.2.2.2.2.2) := rfl
  rw [hlS]
  generalize F.win (nI st.1 - 1) (st.2.2.2.2.1 (st.2.2.2.1 - 1)) = w at *
  have f18 : ∀ a i, ¬ ((a = 221 ∧ (i = 28 ∨ i = 29 ∨ i = 44 ∨ i = 46)) ∨ (242 ≤ a ∧ a ≤ 244)) → M38 a i = M a i := fun a i z => by rw [a6 a i (by omega), f0 a i (by omega)]
  have hL18 : LB M38 F (st.1, st.2.1 + 1, st.2.2.1, st.2.2.2.1 - 1, st.2.2.2.2.1, st.2.2.2.2.2) := by
    refine ⟨by rw [f18 _ _ (by omega)]; exact l1, ?_, by rw [f18 _ _ (by omega)]; exact l3, ?_, fun i s hi hs => ?_, l6.fr (fun a i _ _ => f18 a i (by omega))⟩
    · rw [a6 _ _ (by omega), p4 _ _ (by omega)]
      exact va
    · rw [a6 _ _ (by omega)]
      exact p2
    · have hi2 : i < st.2.2.2.1 - 1 := hi
      rw [f18 _ _ (by omega)]
      exact l5 i s (by omega) hs
  have hB18 : BF M38 F := hB.fr ⟨f18 _ _ (by omega), f18 _ _ (by omega), f18 _ _ (by omega)⟩ (fun a i _ _ => f18 a i (by omega))
  unfold FT.lW
  cases hb : w.2.2.2.2 with
  | true =>
    rw [if_pos rfl, if_pos (show v39 = 0 by rw [a2, hb]; rfl)]
    exact ⟨_, rfl, M38, rfl, hL18, fun a i z => f18 a i (by omega)⟩
  | false =>
    rw [if_neg (show ¬ v39 = 0 by rw [a2, hb]; decide), if_neg (show ¬ (false = true) by decide)]
    refine jB (jsplitB (N := N) (wt := st.2.2.2.1 - 1) hW hB18 a4 hL18.2.2.2.1 (by omega) (by omega)) (fun x hx => ?_)
    rcases hx with ⟨rfl, hfp⟩ | ⟨f, g, hfp, q1, q2, q3, q4, q5⟩
    · rw [hfp]
      dsimp only
      rw [if_pos rfl]
      refine jB (jtryB (N := N) (ah := w.2.2.1) hW hB18 hL18 i6 i1 (show st.2.2.1 ≤ 1000 by omega) a4 hN) (fun M22 h22 => ⟨_, rfl, M22, rfl, h22.1, fun a i z => ?_⟩)
      rw [h22.2 a i (by omega), f18 a i (by omega)]
    · obtain ⟨x1, x2⟩ := x
      dsimp only at q4 q5
      subst q4
      rw [hfp]
      dsimp only
      rw [if_neg (by decide)]
      obtain ⟨b1, b2, b3⟩ := q5
      refine ⟨_, rfl, x1, rfl, ⟨?_, ?_, ?_, b1, fun i s hi hs => ?_, ?_⟩, fun a i z => ?_⟩
      · rw [b3 _ _ (by omega)]
        exact hL18.1
      · rw [b3 _ _ (by omega)]
        exact hL18.2.1
      · rw [b3 _ _ (by omega)]
        exact hL18.2.2.1
      · have hi2 : i < st.2.2.2.1 - 1 + 2 := hi
        show x1 255 (32 * i + s) = (if i = st.2.2.2.1 - 1 + 1 then FT.bit w.2.2.1 f g else if i = st.2.2.2.1 - 1 then FT.bit w.2.2.1 g f else st.2.2.2.2.1 i) s
        by_cases e1 : i = st.2.2.2.1 - 1 + 1
        · rw [if_pos e1, e1]
          exact (b2 s hs).2
        · rw [if_neg e1]
          by_cases e2 : i = st.2.2.2.1 - 1
          · rw [if_pos e2, e2]
            exact (b2 s hs).1
          · rw [if_neg e2, b3 _ _ (by omega)]
            exact hL18.2.2.2.2.1 i s (show i < st.2.2.2.1 - 1 by omega) hs
      · exact hL18.2.2.2.2.2.fr (fun a i _ _ => b3 a i (by omega))
      · rw [b3 _ _ (by omega), f18 a i (by omega)]
theorem jsum_le {f : Nat → Nat} {B : Nat} : ∀ n, (∀ k, k < n → f k ≤ B) → jsum f n ≤ B * n
  | 0, _ => Nat.zero_le _
  | n + 1, h => by
    have h1 := jsum_le n (fun k hk => h k (by omega))
    have h2 := h n (by omega)
    show jsum f n + f n ≤ B * (n + 1)
    rw [Nat.mul_succ]
    omega
theorem IX.lst {M M2 : JMem} {F : FT} {od od' : Nat → Nat → Nat} {S : ST} {k q : Nat} (h : IX M F od S k q) (hO : WO F od') (hAO : AO M2 33 F od') (hBO : BO M2 F od') (hQ : IQ M2) (e : ∀ a i, jcore a i → ¬ ((34 ≤ a ∧ a ≤ 43) ∨ a = 231 ∨ a = 232 ∨ (a = 83 ∧ i ≤ 2) ∨ (a = 221 ∧ (i = 45 ∨ i = 46 ∨ i = 47))) → M2 a i = M a i) : IX M2 F od' S k q := by
  obtain ⟨h1, h2, h3, h4, h5, h6, h7, h8, h9, h10, h11, h12, h13⟩ := h
  refine ⟨h1, hO, h3.fr h1.1.1 (fun a i _ _ => e a i ?_ ?_), hAO, h5.fr ⟨e _ _ ?_ ?_, e _ _ ?_ ?_, e _ _ ?_ ?_⟩ (fun a i _ _ => e a i ?_ ?_), hBO, h7.fr ⟨e _ _ ?_ ?_, e _ _ ?_ ?_⟩ (fun a i _ => e a i ?_ ?_), h8.fr ⟨e _ _ ?_ ?_, e _ _ ?_ ?_, e _ _ ?_ ?_⟩ (fun a i _ => e a i ?_ ?_), hQ, h10.fr ⟨e _ _ ?_ ?_, e _ _ ?_ ?_, e _ _ ?_ ?_⟩ (fun a i _ => e a i ?_ ?_), h11.fr (fun a i _ => e a i ?_ ?_), h12.fr (fun a i _ => e a i ?_ ?_), h13.fr (fun a i _ => e a i ?_ ?_)⟩
  all_goals (first | omega | (unfold jcore; omega))
end MD
theorem jst_least_ok : jst_least jInv := by
  rintro M x1 ⟨F, od, S, k, q, hX⟩
  have hI : jInv M := ⟨F, od, S, k, q, hX⟩
  obtain ⟨hW, hO, hA, hAO, hB, hBO, -⟩ := id hX
  have hns := hW.2.2.1.1
  have n10 : ¬ (1 : Int32) = 0 := by decide
  have jt : ∀ x : Int32, jin3 x.toInt64 0 100 = if 0 ≤ x ∧ x ≤ 100 then 1 else 0 := fun x => jin3_i x 0 100
  rcases jem (0 ≤ x1 ∧ x1 ≤ 100) with h1 | h1
  · exact ⟨0, M, M, -100002, by unfold f_X7_least; rw [jisOut, if_neg h1, Option.bind_some, if_neg n10], by unfold f_X8_least; rw [jt, if_neg h1, if_pos rfl], hI⟩
  rcases jsimpA (N := 300) hW hA (by omega) with ⟨hs, e⟩ | ⟨hs, e⟩
  rotate_left
  · have e2 : f_X8_isSimple 300 M = some 0 := by
      rcases jsimpB (N := 300) hW hB (by omega) with ⟨z, -⟩ | ⟨-, z⟩
      · exact absurd z hs
      · exact z
    exact ⟨300, M, M, -100003, by unfold f_X7_least; rw [jisOut, if_pos h1, Option.bind_some, if_pos rfl, e, Option.bind_some, if_pos rfl], by unfold f_X8_least; rw [jt, if_pos h1, if_neg n10, e2, Option.bind_some, if_pos rfl], hI⟩
  have simpB : ∀ M', BF M' F → f_X8_isSimple 300 M' = some 1 := fun M' hB' => by
    rcases jsimpB (N := 300) hW hB' (by omega) with ⟨-, z⟩ | ⟨z, -⟩
    · exact z
    · exact absurd hs z
  by_cases z0 : F.ns = 0
  · exact ⟨300, M, M, -100003, by unfold f_X7_least; rw [jisOut, if_pos h1, Option.bind_some, if_pos rfl, e, Option.bind_some, if_neg n10, hA.2.2.1, if_pos (by rw [z0]; rfl)], by unfold f_X8_least; rw [jt, if_pos h1, if_neg n10, simpB M hB, Option.bind_some, if_neg n10, hB.2.2.1, if_pos (by rw [z0]; rfl)], hI⟩
  obtain ⟨n, -, hn, rfl⟩ := jnat (lo := 0) (hi := 100) h1.1 h1.2 (by decide) (by decide)
  obtain ⟨M3, qq, P, lp, lm, b, E, e1, e2, e3, hX3, hf3⟩ := jboth (N := 300) hX (by omega)
  have hsum := jsum_le (f := F.sp) (B := 1000) F.ns (fun s hs => (hW.2.2.1.2 s hs).2.2.2.1)
  have hEle : E ≤ 40000 := by
    rcases e2.2.1.2 with z | ⟨s, hs, z1, z2⟩
    · omega
    · have q1 := (e2.1 s hs z1).2.2.1
      have q2 := fb_ct_le P F.ns
      omega
  obtain ⟨best, hbest⟩ : ∃ best, best = if fb_ct P F.ns = F.ns then E else jsum F.sp F.ns + 1 := ⟨_, rfl⟩
  have hble : best ≤ 40000 := by
    rw [hbest]
    split <;> omega
  have hA3 := hX3.2.2.1
  obtain ⟨M13, u13, f13, v13⟩ := jupX M3 83 0 (nI best)
  have hG : LG M13 F := ⟨hW, hA3.fr hW.1.1 (fun a i _ _ => f13 a i (by omega)), hX3.2.2.2.2.2.2.2.2.2.2.2.2.fr (fun a i z => f13 a i (by omega))⟩
  obtain ⟨⟨M14, v15⟩, g1, g2, g3, g4, g5⟩ := jseekA (N := 300) (n := n) (F := F) (M := M13) hG hO (hX3.2.2.2.1.fr (fun a i _ _ => f13 a i (by omega))) v13 hble hn (by omega)
  dsimp only at g2 g3 g5
  generalize hstf : F.lR n (n + 1) (best, 0, 0, 1, fun _ _ => 0, od) = stf at *
  have hu : ((if (if fb_ct P F.ns = F.ns then (1 : Int32) else 0) = 0 then (f_X2_allSpans 300 M3).bind fun v10 => some ((v10 + 1)) else some ((M3 54 4))) : Option (Int32)) = some (nI best) := by
    rw [hbest]
    by_cases z : fb_ct P F.ns = F.ns
    · rw [if_pos z, if_neg n10, if_pos z, e2.2.2.2.1]
    · rw [if_neg z, if_pos rfl, if_neg z]
      unfold f_X2_allSpans
      rw [jsumsL (f := F.sp) (n := F.ns) hA3.2.2.1 hns (fun s hs => (hA3.2.2.2.2.2.2.2.1 s hs).2.2.1) (by omega), Option.bind_some, Option.bind_some, nI_1]
  have rA : f_X7_least 300 M (nI n) = some (M14, v15) := by
    unfold f_X7_least
    rw [jisOut, if_pos h1, Option.bind_some, if_pos rfl, e, Option.bind_some, if_neg n10, hA.2.2.1, if_neg (by rw [jeqL (by omega) (by decide)]; exact z0), e1, Option.bind_some]
    dsimp only
    rw [hu, Option.bind_some, u13, Option.bind_some, g1, Option.bind_some]
    dsimp only
    rw [g2]
    by_cases z : stf.2.2.2.1 = 0
    · rw [if_pos z, if_neg n10]
    · rw [if_neg z, if_pos rfl]
  have fA : ∀ a i, ¬ ((35 ≤ a ∧ a ≤ 43) ∨ a = 83 ∨ (85 ≤ a ∧ a ≤ 185) ∨ (187 ≤ a ∧ a ≤ 189) ∨ (a = 186 ∧ (i = 3 ∨ i = 4 ∨ i = 5)) ∨ (192 ≤ a ∧ a ≤ 200) ∨ (a = 201 ∧ (i = 4 ∨ i = 6)) ∨ a = 202 ∨ (206 ≤ a ∧ a ≤ 210) ∨ (a = 54 ∧ (i = 4 ∨ i = 6)) ∨ a = 55 ∨ (59 ≤ a ∧ a ≤ 63)) → M14 a i = M a i := fun a i z => by
    rw [g5 a i (by omega), f13 a i (by omega), hf3 a i (by omega)]
  -- the model
  have hB14 : BF M14 F := hB.fr ⟨fA _ _ (by omega), fA _ _ (by omega), fA _ _ (by omega)⟩ (fun a i _ _ => fA a i (by omega))
  have hBO14 : BO M14 F od := hBO.fr (fun a i _ _ => fA a i (by omega))
  obtain ⟨N2, PB, bB, EB', y1, y2, y3, y4⟩ := jworkB (N := 300) (M := M14) (F := F) (od := od) ⟨hW, hO, hB14, hBO14⟩ (by omega)
  obtain ⟨j1, j2, j3⟩ := jagree hW hO e2.1 y2.1 e3 y3 e2.2.1 y2.2.1
  have hB2 : BF N2 F := hB14.fr ⟨y4 _ _ (by omega), y4 _ _ (by omega), y4 _ _ (by omega)⟩ (fun a i _ _ => y4 a i (by omega))
  have huB : ((if (if fb_ct PB F.ns = F.ns then (1 : Int32) else 0) = 0 then (f_X8_sumOfSpans 300 N2).bind fun v9 => some ((v9 + 1)) else some ((N2 221 21))) : Option (Int32)) = some (nI best) := by
    rw [hbest, ← j1]
    by_cases z : fb_ct P F.ns = F.ns
    · rw [if_pos z, if_neg n10, if_pos z, y2.2.2.2.2, j2]
    · rw [if_neg z, if_pos rfl, if_neg z]
      unfold f_X8_sumOfSpans
      rw [jsumsL (f := F.sp) (n := F.ns) hB2.2.2.1 hns (fun s hs => (hB2.2.2.2.2.2.2.2 s hs).2.2.1) (by omega), Option.bind_some, Option.bind_some, nI_1]
  obtain ⟨N12, u12, f12, v12⟩ := jupX N2 221 45 (nI best)
  obtain ⟨N13, un13, fn13, vn13⟩ := jupX N12 221 46 0
  obtain ⟨N14, u14, f14, v14⟩ := jupX N13 221 47 0
  obtain ⟨N15, u15, f15, v15'⟩ := jupX N14 221 44 0
  obtain ⟨t24, z1, z2, z3⟩ := jzero32 (M := N15) (N := 300) (a := 244) (by omega)
  obtain ⟨M27, w1, w2, w3, w4⟩ := jpushB (M := t24) (N := 300) (wt := 0) (by rw [z3 _ _ (by omega)]; exact v15') (by omega) (by omega)
  have f27 : LFB M14 M27 := fun a i z => by rw [w4 a i (by omega), z3 a i (by omega), f15 a i (by omega), f14 a i (by omega), fn13 a i (by omega), f12 a i (by omega), y4 a i (by omega)]
  have hL27 : LB M27 F (best, 0, 0, 1, fun _ _ => 0, od) := by
    refine ⟨?_, ?_, ?_, w2, fun i s hi hs => ?_, hBO14.fr (fun a i a1 a2 => ?_)⟩
    · rw [w4 _ _ (by omega), z3 _ _ (by omega), f15 _ _ (by omega), f14 _ _ (by omega), fn13 _ _ (by omega)]
      exact v12
    · rw [w4 _ _ (by omega), z3 _ _ (by omega), f15 _ _ (by omega), f14 _ _ (by omega)]
      exact vn13
    · rw [w4 _ _ (by omega), z3 _ _ (by omega), f15 _ _ (by omega)]
      exact v14
    · have hi2 : i < 1 := hi
      have ei : i = 0 := by omega
      subst ei
      rw [w3 s hs]
      exact z2 s hs
    · rw [w4 a i (by omega), z3 a i (by omega), f15 a i (by omega), f14 a i (by omega), fn13 a i (by omega), f12 a i (by omega), y4 a i (by omega)]
  have hI0 : LI F n (best, 0, 0, 1, fun _ _ => 0, od) := ⟨hble, Nat.zero_le _, Nat.le_refl _, Nat.le_refl _, fun i _ s g _ hb => (by rw [b_0] at hb; cases hb), hO⟩
  have key : ∃ x, f_X8_least 300 M14 (nI n) = some x ∧ (x.2 = v15 ∧ LB x.1 F stf ∧ LFB M14 x.1) := by
    unfold f_X8_least
    rw [jt, if_pos h1, if_neg n10, simpB M14 hB14, Option.bind_some, if_neg n10, hB14.2.2.1, if_neg (by rw [jeqL (by omega) (by decide)]; exact z0), y1, Option.bind_some]
    dsimp only
    rw [huB, Option.bind_some, u12, Option.bind_some, un13, Option.bind_some, u14, Option.bind_some, u15, Option.bind_some, z1, Option.bind_some, w1, Option.bind_some]
    refine jCB (P := fun (x : (JMem × Int32) ⊕ JMem) => (∃ M', x = Sum.inl (M', 0) ∧ ¬ stf.2.2.2.1 = 0 ∧ LB M' F stf ∧ LFB M14 M') ∨ ∃ M', x = Sum.inr M' ∧ stf.2.2.2.1 = 0 ∧ LB M' F stf ∧ LFB M14 M') ?_ (fun x hx => ?_) (fun x hx => ?_)
    · refine jLp_tot (fun c (M34 : JMem) => ∃ st, c + st.2.1 = n ∧ LB M34 F st ∧ LI F n st ∧ F.lR n (c + 1) st = stf ∧ LFB M14 M34) _ ?_ 300 n M27 (by omega) ⟨_, Nat.add_zero n, hL27, hI0, hstf, f27⟩
      rintro c M34 ⟨st, hc, hL, hI, hR, hf⟩
      have hB34 : BF M34 F := hB14.fr ⟨hf _ _ (by omega), hf _ _ (by omega), hf _ _ (by omega)⟩ (fun a i _ _ => hf a i (by omega))
      have hw100 := hI.2.2.2.1
      have hcn := hI.2.1
      by_cases c1 : st.2.2.2.1 = 0
      · rw [if_pos (show M34 221 44 ≤ 0 by rw [hL.2.2.2.1, c1]; decide)]
        rw [lR_stop0 c1] at hR
        subst hR
        exact ⟨_, rfl, Or.inr ⟨_, rfl, Or.inr ⟨M34, rfl, c1, hL, hf⟩⟩⟩
      · rw [if_neg (show ¬ M34 221 44 ≤ 0 by rw [hL.2.2.2.1, jleL (by omega) (by decide)]; omega)]
        by_cases c2 : n ≤ st.2.1
        · rw [if_pos (show M34 221 46 = nI n by rw [hL.2.1, show st.2.1 = n by omega])]
          rw [lR_stopn c2] at hR
          subst hR
          exact ⟨_, rfl, Or.inr ⟨_, rfl, Or.inl ⟨M34, rfl, c1, hL, hf⟩⟩⟩
        · rw [if_neg (show ¬ M34 221 46 = nI n by rw [hL.2.1]; exact jeqF (by omega) (by omega) (by omega))]
          obtain ⟨x, g1, M', rfl, g2, g3⟩ := jcaseB (N := 300) hW hB34 hL hI hn (by omega) (by omega) (by omega)
          rw [g1]
          obtain ⟨k1, k2⟩ := li_S hW hI (by omega) (by omega)
          rw [lR_go c1 c2] at hR
          exact ⟨_, rfl, Or.inl ⟨M', c - 1, rfl, by omega, F.lS st, by rw [k2]; omega, g2, k1, by rw [show c - 1 + 1 = c by omega]; exact hR, fun a i z => (g3 a i z).trans (hf a i z)⟩⟩
    · rcases hx with ⟨M', hx, h2, h3, h4⟩ | ⟨M', hx, -⟩
      · cases hx
        exact ⟨by rw [g2, if_neg h2], h3, h4⟩
      · cases hx
    · rcases hx with ⟨M', hx, -⟩ | ⟨M', hx, h2, h3, h4⟩
      · cases hx
      · cases hx
        exact ⟨_, rfl, by rw [g2, if_pos h2], h3, h4⟩
  obtain ⟨⟨M2, r⟩, k1, k2, k3, k4⟩ := key
  dsimp only at k2 k3 k4
  subst k2
  refine ⟨300, M14, M2, r, rA, k1, F, stf.2.2.2.2.2, S, k, q, hX.lst g4.2.2.2.2.2 (g3.2.2.2.2.2.fr (fun a i _ _ => k4 a i (by omega))) k3.2.2.2.2.2 ⟨?_, ?_, ?_⟩ (fun a i z y => ?_)⟩
  · rw [k4 _ _ (by omega), g3.1, k3.1]
  · rw [k4 _ _ (by omega), g3.2.1, k3.2.1]
  · rw [k4 _ _ (by omega), g3.2.2.1, k3.2.2.1]
  · unfold jcore at z
    rw [k4 a i (by omega), fA a i (by omega)]
