/-! the least day: the class's cases -/
section LP
variable {M : JMem} {N n : Nat} {F : FT} {ah : Nat → Int32} {st : LT}
theorem jaddC {wt f g : Nat} (hw : M 83 3 = nI wt) (hwt : wt < 101) (hf : f < 32) (h : ∀ s, s < 32 → M 189 s = ah s) : ∃ M', f_X4_addCase M (nI f) (nI g) = some M' ∧ (M' 83 3 = nI (wt + 1) ∧ (∀ s, s < 32 → M' (85 + wt) s = FT.bit ah f g s) ∧ ∀ a i, ¬ (a = 85 + wt ∨ (a = 83 ∧ i = 3)) → M' a i = M a i) := by
  obtain ⟨M2, e1, e2, e3⟩ := jcpyX M 189 (85 + wt)
  obtain ⟨M5, u5, f5, v5⟩ := jupX M2 (85 + wt) f (ah f ||| jshl 1 (nI g))
  obtain ⟨M6, u6, f6, v6⟩ := jupX M5 83 3 (nI (wt + 1))
  have hw2 : M2 83 3 = nI wt := by rw [e2 _ _ (by omega)]; exact hw
  refine ⟨M6, ?_, v6, fun s hs => ?_, fun a i z => ?_⟩
  · unfold f_X4_addCase
    rw [hw, if_neg (by rw [jLle (by omega) (by decide)]; omega), jrw_nI hwt (by decide), Option.bind_some, show 84 + 1 + wt = 85 + wt by omega, e1, Option.bind_some, hw2, jrw_nI hwt (by decide), Option.bind_some, show 84 + 1 + wt = 85 + wt by omega, jrd_nI hf (by decide), Option.bind_some, e3 f hf, h f hf, jwr_nI hf (by decide), u5, Option.bind_some, show M5 83 3 = nI wt by rw [f5 _ _ (by omega)]; exact hw2, nI_1, u6, Option.bind_some]
  · rw [f6 _ _ (by omega)]
    unfold FT.bit
    by_cases e : s = f
    · rw [e, v5, upd_s]
    · rw [f5 _ _ (by omega), upd_n e, e3 s hs]
      exact h s hs
  · rw [f6 _ _ (by omega), f5 _ _ (by omega), e2 _ _ (by omega)]
def PPA (M : JMem) (F : FT) (ah : Nat → Int32) (wt f g : Nat) (x : JMem) : Prop := x 83 3 = nI (wt + 2) ∧ (∀ s, s < 32 → x (85 + wt) s = FT.bit ah g f s ∧ x (86 + wt) s = FT.bit ah f g s) ∧ ∀ a i, ¬ (a = 85 + wt ∨ a = 86 + wt ∨ (a = 83 ∧ i = 3)) → x a i = M a i
theorem jtwoA {wt f g : Nat} (hw : M 83 3 = nI wt) (hwt : wt + 1 < 101) (hf : f < 32) (hg : g < 32) (h : ∀ s, s < 32 → M 189 s = ah s) : ∃ M37 M38, f_X4_addCase M (nI g) (nI f) = some M37 ∧ f_X4_addCase M37 (nI f) (nI g) = some M38 ∧ PPA M F ah wt f g M38 := by
  obtain ⟨M37, a1, a2, a3, a4⟩ := jaddC (f := g) (g := f) hw (by omega) hg h
  obtain ⟨M38, b1, b2, b3, b4⟩ := jaddC (M := M37) (ah := ah) (f := f) (g := g) a2 hwt hf (fun s hs => by rw [a4 _ _ (by omega)]; exact h s hs)
  refine ⟨M37, M38, a1, b1, b2, fun s hs => ⟨?_, ?_⟩, fun a i z => ?_⟩
  · rw [b4 _ _ (by omega)]
    exact a3 s hs
  · rw [show 86 + wt = 85 + (wt + 1) by omega]
    exact b3 s hs
  · rw [b4 _ _ (by omega), a4 _ _ (by omega)]
theorem op_t {f g : Nat} (h : F.op ah f g = true) : F.mc f = F.mc g ∧ F.kd (F.mc f) = 0 ∧ bt (ah f) g = false ∧ bt (ah g) f = false := by
  unfold FT.op at h
  simp only [Bool.and_eq_true, decide_eq_true_eq, Bool.not_eq_true'] at h
  exact ⟨h.1, h.2.1, h.2.2.1, h.2.2.2⟩
theorem jsplitA (hG : LG M F) (h : ∀ s, s < 32 → M 189 s = ah s) {wt : Nat} (hw : M 83 3 = nI wt) (hwt : wt + 1 < 101) (hN : 100 ≤ N) : ∃ x, f_X4_splitCase N M = some x ∧ ((x = (M, 0) ∧ F.fp ah = none) ∨ ∃ f g, F.fp ah = some (f, g) ∧ f < F.ns ∧ g < F.ns ∧ F.op ah f g = true ∧ x.2 = 1 ∧ PPA M F ah wt f g x.1) := by
  obtain ⟨hW, hA, hID⟩ := id hG
  have hns := hW.2.2.1.1
  have hnm := hW.1.1
  have n10 : ¬ (1 : Int32) = 0 := by decide
  unfold f_X4_splitCase
  refine jCB (P := fun (x : (JMem × Int32) ⊕ Unit) => (x = Sum.inr () ∧ FPR F ah none) ∨ ∃ f g M', x = Sum.inl (M', 1) ∧ f < F.ns ∧ g < F.ns ∧ F.op ah f g = true ∧ FPR F ah (some (f, g)) ∧ PPA M F ah wt f g M') ?_ (fun x hx => ?_) (fun x hx => ?_)
  · refine jLp_tot (fun c (z : Int32) => ∃ f, c + f = F.ns ∧ z = nI f ∧ ∀ f' g', f' < f → f' < g' → g' < F.ns → F.op ah f' g' = false) _ ?_ N F.ns 0 (by omega) ⟨0, by omega, rfl, fun f' g' hf => absurd hf (Nat.not_lt_zero f')⟩
    rintro c z ⟨f, hc, rfl, hp⟩
    rcases Nat.eq_zero_or_pos c with en | en
    · rw [if_pos (show M 1 2 ≤ nI f by rw [hA.2.2.1]; exact jleT (by omega) (by omega))]
      exact ⟨_, rfl, Or.inr ⟨_, rfl, Or.inl ⟨rfl, Or.inl ⟨rfl, fun f' g' h1 h2 => hp f' g' (by omega) h1 h2⟩⟩⟩⟩
    · have hf : f < F.ns := by omega
      have hmf := (hW.2.2.1.2 f hf).2.1
      rw [if_neg (show ¬ M 1 2 ≤ nI f by rw [hA.2.2.1]; exact jleF (by omega) (by omega)), nI_1]
      refine jCB (P := fun (y : (Int32 ⊕ ((JMem × Int32) ⊕ Unit)) ⊕ Unit) => (y = Sum.inr () ∧ ∀ g', f < g' → g' < F.ns → F.op ah f g' = false) ∨ ∃ g M', y = Sum.inl (Sum.inr (Sum.inl (M', 1))) ∧ f < g ∧ g < F.ns ∧ F.op ah f g = true ∧ (∀ g', f < g' → g' < g → F.op ah f g' = false) ∧ PPA M F ah wt f g M') ?_ (fun y hy => ?_) (fun y hy => ?_)
      · refine jLp_tot (fun c (z : Int32) => ∃ g, c + g = F.ns ∧ f < g ∧ z = nI g ∧ ∀ g', f < g' → g' < g → F.op ah f g' = false) _ ?_ N (F.ns - (f + 1)) (nI (f + 1)) (by omega) ⟨f + 1, by omega, by omega, rfl, fun g' h1 h2 => absurd h1 (by omega)⟩
        rintro c2 z ⟨g, hc2, hfg, rfl, hp2⟩
        rcases Nat.eq_zero_or_pos c2 with en2 | en2
        · rw [if_pos (show M 1 2 ≤ nI g by rw [hA.2.2.1]; exact jleT (by omega) (by omega))]
          exact ⟨_, rfl, Or.inr ⟨_, rfl, Or.inl ⟨rfl, fun g' h1 h2 => hp2 g' h1 (by omega)⟩⟩⟩
        · have hg : g < F.ns := by omega
          have hmg := (hW.2.2.1.2 g hg).2.1
          have hk := (hW.1.2 _ hmf).1
          have nxt : F.op ah f g = false → ∃ x : Int32 ⊕ ((Int32 ⊕ ((JMem × Int32) ⊕ Unit)) ⊕ Unit), some (Sum.inl (nI g + 1)) = some x ∧ ((∃ s' m, x = Sum.inl s' ∧ m < c2 ∧ ∃ g, m + g = F.ns ∧ f < g ∧ s' = nI g ∧ ∀ g', f < g' → g' < g → F.op ah f g' = false) ∨ ∃ r, x = Sum.inr r ∧ ((r = Sum.inr () ∧ ∀ g', f < g' → g' < F.ns → F.op ah f g' = false) ∨ ∃ g M', r = Sum.inl (Sum.inr (Sum.inl (M', 1))) ∧ f < g ∧ g < F.ns ∧ F.op ah f g = true ∧ (∀ g', f < g' → g' < g → F.op ah f g' = false) ∧ PPA M F ah wt f g M')) := by
            intro hop
            refine ⟨_, rfl, Or.inl ⟨_, c2 - 1, rfl, by omega, g + 1, by omega, by omega, nI_1 g, fun g' h1 h2 => ?_⟩⟩
            rcases Nat.lt_succ_iff_lt_or_eq.mp h2 with z | z
            · exact hp2 g' h1 z
            · rw [z]
              exact hop
          rw [if_neg (show ¬ M 1 2 ≤ nI g by rw [hA.2.2.1]; exact jleF (by omega) (by omega)), jrd_nI (show f < 32 by omega) (by decide), Option.bind_some, jrd_nI (show g < 32 by omega) (by decide), Option.bind_some, (hA.2.2.2.2.2.2.2.1 f hf).2.1, (hA.2.2.2.2.2.2.2.1 g hg).2.1, jrd_nI (show F.mc f < 8 by omega) (by decide), Option.bind_some, (hA.2.2.2.1 _ hmf).1]
          by_cases q1 : F.mc f = F.mc g
          · rw [if_pos (by rw [q1])]
            by_cases q2 : F.kd (F.mc f) = 0
            · rw [if_pos (show nI (F.kd (F.mc f)) = 0 by rw [q2]; rfl), jcL, Option.bind_some, if_neg n10]
              unfold f_X6_isOpen
              rw [jah6 (o := 186) h (by omega) (by omega), Option.bind_some, jah6 (o := 186) h (by omega) (by omega), Option.bind_some]
              by_cases q3 : bt (ah f) g = true
              · rw [if_pos q3, if_neg n10, Option.bind_some, if_pos rfl, jcR]
                exact nxt (by simp [FT.op, q3])
              · rw [if_neg q3, if_pos rfl]
                by_cases q4 : bt (ah g) f = true
                · rw [if_pos q4, if_neg n10, Option.bind_some, if_pos rfl, jcR]
                  exact nxt (by simp [FT.op, q4])
                · obtain ⟨M37, M38, t1, t2, t3⟩ := jtwoA (F := F) (f := f) (g := g) hw hwt (by omega) (by omega) h
                  rw [if_neg q4, if_pos rfl, Option.bind_some, if_neg n10, t1, Option.bind_some, t2, Option.bind_some, jcL]
                  refine ⟨_, rfl, Or.inr ⟨_, rfl, Or.inr ⟨g, M38, rfl, hfg, hg, ?_, hp2, t3⟩⟩⟩
                  have q3' : bt (ah f) g = false := by cases e : bt (ah f) g with | true => exact absurd e q3 | false => rfl
                  have q4' : bt (ah g) f = false := by cases e : bt (ah g) f with | true => exact absurd e q4 | false => rfl
                  unfold FT.op
                  rw [q3', q4']
                  simp [q1]
                  rw [← q1]
                  exact q2
            · rw [if_neg (show ¬ nI (F.kd (F.mc f)) = 0 by rw [jeqL (by omega) (by decide)]; exact q2), jcR, Option.bind_some, if_pos rfl, jcR]
              exact nxt (by simp [FT.op, q2])
          · rw [if_neg (jeqF (fun y => q1 y.symm) (by omega) (by omega)), jcR, Option.bind_some, if_pos rfl, jcR]
            exact nxt (by simp [FT.op, q1])
      · rcases hy with ⟨hy, -⟩ | ⟨g, M', hy, h1, h2, h3, h4, h5⟩
        · cases hy
        · cases hy
          refine Or.inr ⟨_, rfl, Or.inr ⟨f, g, M', rfl, hf, h2, h3, Or.inr ⟨f, g, rfl, h1, h2, h3, fun f' g' z1 z2 z3 => ?_⟩, h5⟩⟩
          rcases z3 with z | ⟨z, z'⟩
          · exact hp f' g' z z1 z2
          · rw [z] at z1 ⊢
            exact h4 g' z1 z'
      · rcases hy with ⟨-, hy⟩ | ⟨g, M', hy, -⟩
        · refine ⟨_, rfl, Or.inl ⟨_, c - 1, rfl, by omega, f + 1, by omega, rfl, fun f' g' z1 z2 z3 => ?_⟩⟩
          rcases Nat.lt_succ_iff_lt_or_eq.mp z1 with z | z
          · exact hp f' g' z z2 z3
          · rw [z] at z2 ⊢
            exact hy g' z2 z3
        · cases hy
  · rcases hx with ⟨hx, -⟩ | ⟨f, g, M', hx, h1, h2, h3, h4, h5⟩
    · cases hx
    · cases hx
      exact Or.inr ⟨f, g, fp_eq h4, h1, h2, h3, rfl, h5⟩
  · rcases hx with ⟨-, hx⟩ | ⟨f, g, M', hx, -⟩
    · exact ⟨_, rfl, Or.inl ⟨rfl, fp_eq hx⟩⟩
    · cases hx
theorem lT_f : (F.lT ah st).2.1 = st.2.1 ∧ (F.lT ah st).2.2.1 ≤ st.2.2.1 + 1 ∧ (F.lT ah st).2.2.2.1 = st.2.2.2.1 ∧ (F.lT ah st).2.2.2.2.1 = st.2.2.2.2.1 := by
  unfold FT.lT
  cases F.en (F.arr ah st.2.2.2.2.2) with
  | none => exact ⟨rfl, Nat.le_succ _, rfl, rfl⟩
  | some e =>
    dsimp only
    split
    · exact ⟨rfl, Nat.le_refl _, rfl, rfl⟩
    · exact ⟨rfl, Nat.le_succ _, rfl, rfl⟩
theorem ahi_bit {f g : Nat} (h : AHI F ah) (hns : F.ns ≤ 32) (hf : f < F.ns) (hg : g < F.ns) (hm : F.mc f = F.mc g) (hk : F.kd (F.mc f) = 0) : AHI F (FT.bit ah f g) :=
  ahi_tell (w := (ah, ah, ah, true, true)) h hf hg (by omega) hm hk
/-- one case keeps what must hold -/
theorem li_lS (hW : WF F) (h : LI F n st) (hw : 0 < st.2.2.2.1) (hc : st.2.1 < n) (hT : ∀ w st1, (F.lT w st1).1 ≤ 40000 ∨ ¬ st1.1 ≤ 40000 ∨ ¬ WO F st1.2.2.2.2.2) (hT2 : ∀ w st1, WO F st1.2.2.2.2.2 → WO F (F.lT w st1).2.2.2.2.2) : LI F n (F.lS st) ∧ (F.lS st).2.1 = st.2.1 + 1 := by
  obtain ⟨h1, h2, h3, h4, h5, h6⟩ := h
  have hns := hW.2.2.1.1
  unfold FT.lS
  generalize hwd : F.win (nI st.1 - 1) (st.2.2.2.2.1 (st.2.2.2.1 - 1)) = w
  have hah : AHI F w.2.2.1 := by
    rw [← hwd]
    exact ahi_win hns (h5 _ (by omega))
  unfold FT.lW
  by_cases e : w.2.2.2.2 = true
  · rw [if_pos e]
    exact ⟨⟨h1, by show st.2.1 + 1 ≤ n; omega, by show st.2.2.1 ≤ st.2.1 + 1; omega, by show st.2.2.2.1 - 1 ≤ st.2.1 + 1 + 1; omega, fun i hi => h5 i (by have hi2 : i < st.2.2.2.1 - 1 := hi; omega), h6⟩, rfl⟩
  · rw [if_neg e]
    cases hfp : F.fp w.2.2.1 with
    | none =>
      dsimp only
      obtain ⟨t1, t2, t3, t4⟩ := lT_f (F := F) (ah := w.2.2.1) (st := (st.1, st.2.1 + 1, st.2.2.1, st.2.2.2.1 - 1, st.2.2.2.2.1, st.2.2.2.2.2))
      dsimp only at t1 t2 t3 t4
      refine ⟨⟨?_, by rw [t1]; omega, by rw [t1]; omega, by rw [t1, t3]; omega, fun i hi => ?_, hT2 _ _ h6⟩, t1⟩
      · rcases hT w.2.2.1 (st.1, st.2.1 + 1, st.2.2.1, st.2.2.2.1 - 1, st.2.2.2.2.1, st.2.2.2.2.2) with z | z | z
        · exact z
        · exact absurd h1 z
        · exact absurd h6 z
      · rw [t3] at hi
        rw [t4]
        exact h5 i (by omega)
    | some y =>
      obtain ⟨f, g⟩ := y
      dsimp only
      refine ⟨⟨h1, by show st.2.1 + 1 ≤ n; omega, by show st.2.2.1 ≤ st.2.1 + 1; omega, by show st.2.2.2.1 - 1 + 2 ≤ st.2.1 + 1 + 1; omega, fun i hi => ?_, h6⟩, rfl⟩
      have hi2 : i < st.2.2.2.1 - 1 + 2 := hi
      show AHI F ((if i = st.2.2.2.1 - 1 + 1 then FT.bit w.2.2.1 f g else if i = st.2.2.2.1 - 1 then FT.bit w.2.2.1 g f else st.2.2.2.2.1 i))
      have hfp2 : FPR F w.2.2.1 (some (f, g)) := by
        unfold FT.fp at hfp
        by_cases z : ∃ r, FPR F w.2.2.1 r
        · rw [dif_pos z] at hfp
          have := Classical.choose_spec z
          rw [hfp] at this
          exact this
        · rw [dif_neg z] at hfp
          cases hfp
      rcases hfp2 with ⟨z, -⟩ | ⟨f', g', z, z1, z2, z3, -⟩
      · cases z
      · cases z
        obtain ⟨q1, q2, q3, q4⟩ := op_t z3
        by_cases e1 : i = st.2.2.2.1 - 1 + 1
        · rw [if_pos e1]
          exact ahi_bit hah hns (by omega) z2 q1 q2
        · rw [if_neg e1]
          by_cases e2 : i = st.2.2.2.1 - 1
          · rw [if_pos e2]
            exact ahi_bit hah hns z2 (by omega) q1.symm (by rw [← q1]; exact q2)
          · rw [if_neg e2]
            exact h5 i (by omega)
theorem lT_wo (hW : WF F) (h : WO F st.2.2.2.2.2) : WO F (F.lT ah st).2.2.2.2.2 := by
  unfold FT.lT
  cases F.en (F.arr ah st.2.2.2.2.2) with
  | none => exact h
  | some e =>
    dsimp only
    split
    · exact arr_wo hW ah h
    · exact h
theorem lT_le (h : st.1 ≤ 40000) : (F.lT ah st).1 ≤ 40000 := by
  unfold FT.lT
  cases F.en (F.arr ah st.2.2.2.2.2) with
  | none => exact h
  | some e =>
    dsimp only
    split
    · show e ≤ 40000
      omega
    · exact h
theorem li_S (hW : WF F) (h : LI F n st) (hw : 0 < st.2.2.2.1) (hc : st.2.1 < n) : LI F n (F.lS st) ∧ (F.lS st).2.1 = st.2.1 + 1 :=
  li_lS hW h hw hc (fun w st1 => by
    rcases Nat.lt_or_ge 40000 st1.1 with z | z
    · exact Or.inr (Or.inl (by omega))
    · exact Or.inl (lT_le z)) (fun w st1 h => lT_wo hW h)
theorem lR_stop0 {k : Nat} (h : st.2.2.2.1 = 0) : F.lR n (k + 1) st = st := if_pos h
theorem lR_stopn {k : Nat} (h : n ≤ st.2.1) : F.lR n (k + 1) st = st := by
  show (if st.2.2.2.1 = 0 then st else if n ≤ st.2.1 then st else F.lR n k (F.lS st)) = st
  rw [if_pos h]
  split <;> rfl
theorem lR_go {k : Nat} (h1 : ¬ st.2.2.2.1 = 0) (h2 : ¬ n ≤ st.2.1) : F.lR n (k + 1) st = F.lR n k (F.lS st) := by
  show (if st.2.2.2.1 = 0 then st else if n ≤ st.2.1 then st else F.lR n k (F.lS st)) = _
  rw [if_neg h1, if_neg h2]
def LFA (M M' : JMem) : Prop := ∀ a i, ¬ ((35 ≤ a ∧ a ≤ 43) ∨ a = 83 ∨ (85 ≤ a ∧ a ≤ 185) ∨ (187 ≤ a ∧ a ≤ 189) ∨ (a = 186 ∧ (i = 3 ∨ i = 4 ∨ i = 5)) ∨ (192 ≤ a ∧ a ≤ 200) ∨ (a = 201 ∧ (i = 4 ∨ i = 6)) ∨ a = 202 ∨ (206 ≤ a ∧ a ≤ 210)) → M' a i = M a i
theorem LG.fr {M' : JMem} (h : LG M F) (e : LFA M M') : LG M' F := ⟨h.1, h.2.1.fr h.1.1.1 (fun a i _ _ => e a i (by omega)), h.2.2.fr (fun a i z => e a i (by omega))⟩
theorem jcaseA (hG : LG M F) (hL : LA M F st) (hI : LI F n st) (hn : n ≤ 100) (hw : 0 < st.2.2.2.1) (hc : st.2.1 < n) (hN : 100 ≤ N) : ∃ x, ((some (jup M 83 1 ((M 83 1) + 1))).bind fun M14 => (some (jup M14 83 3 ((M14 83 3) - 1))).bind fun M15 => (jrw 84 101 (M15 83 3)).bind fun w16 => (jcpy M15 w16 32 0 189 32 0 32).bind fun M17 => (f_X6_narrow N M17 186 ((M17 83 0) - 1)).bind fun (M18, v19) => (if v19 = 0 then some (Sum.inl M18) else (f_X4_splitCase N M18).bind fun (M20, v21) => (if v21 = 0 then (f_X4_tryOrders N M20 33).bind fun M22 => some (Sum.inl M22) else some (Sum.inl M20)))) = some x ∧ ∃ M', x = (Sum.inl M' : JMem ⊕ JMem) ∧ LA M' F (F.lS st) ∧ LFA M M' := by
  obtain ⟨hW, hA, hID⟩ := id hG
  obtain ⟨i1, i2, i3, i4, i5, i6⟩ := id hI
  obtain ⟨l1, l2, l3, l4, l5, l6⟩ := id hL
  have hns := hW.2.2.1.1
  obtain ⟨Ma, ua, fa, va⟩ := jupX M 83 1 (nI (st.2.1 + 1))
  obtain ⟨Mb, ub, fb, vb⟩ := jupX Ma 83 3 (nI (st.2.2.2.1 - 1))
  obtain ⟨M17, u17, f17, v17⟩ := jcpyX Mb (84 + 1 + (st.2.2.2.1 - 1)) 189
  rw [l2, nI_1, ua, Option.bind_some, show Ma 83 3 = nI st.2.2.2.1 by rw [fa _ _ (by omega)]; exact l4, jsub1 hw, ub, Option.bind_some, vb, jrw_nI (show st.2.2.2.1 - 1 < 101 by omega) (by decide), Option.bind_some, u17, Option.bind_some]
  have f0 : ∀ a i, ¬ ((a = 83 ∧ (i = 1 ∨ i = 3)) ∨ a = 189) → M17 a i = M a i := fun a i z => by rw [f17 a i (by omega), fb a i (by omega), fa a i (by omega)]
  have hA17 : AF M17 F := hA.fr hW.1.1 (fun a i _ _ => f0 a i (by omega))
  have h83 : M17 83 0 = nI st.1 := by rw [f0 _ _ (by omega)]; exact l1
  have hst17 : ∀ s, s < 32 → M17 189 s = st.2.2.2.2.1 (st.2.2.2.1 - 1) s := fun s hs => by
    rw [v17 s hs, fb _ _ (by omega), fa _ _ (by omega), show 84 + 1 + (st.2.2.2.1 - 1) = 85 + (st.2.2.2.1 - 1) by omega]
    exact l5 _ s (by omega) hs
  obtain ⟨M18, v19, a1, a2, a3, a4, a5, a6⟩ := wa_narrow (N := N) (M := M17) (o := 186) (F := F) (ah := st.2.2.2.2.1 (st.2.2.2.1 - 1)) hW hA17 (by omega) (nI st.1 - 1) hst17 hN
  rw [h83, a1, Option.bind_some]
  dsimp only
  have hlS : F.lS st = F.lW (F.win (nI st.1 - 1) (st.2.2.2.2.1 (st.2.2.2.1 - 1))) (st.1, st.2.1 + 1, st.2.2.1, st.2.2.2.1 - 1, st.2.2.2.2.1, st.2.2.2.2.2) := rfl
  rw [hlS]
  have hah0 := ahi_win hns (t := nI st.1 - 1) (i5 (st.2.2.2.1 - 1) (by omega))
  generalize F.win (nI st.1 - 1) (st.2.2.2.2.1 (st.2.2.2.1 - 1)) = w at *
  have f18 : ∀ a i, ¬ ((a = 83 ∧ (i = 1 ∨ i = 3)) ∨ (187 ≤ a ∧ a ≤ 189) ∨ (a = 186 ∧ (i = 3 ∨ i = 4 ∨ i = 5))) → M18 a i = M a i := fun a i z => by rw [a6 a i (by omega), f0 a i (by omega)]
  have hL18 : LA M18 F (st.1, st.2.1 + 1, st.2.2.1, st.2.2.2.1 - 1, st.2.2.2.2.1, st.2.2.2.2.2) := by
    refine ⟨by rw [f18 _ _ (by omega)]; exact l1, ?_, by rw [f18 _ _ (by omega)]; exact l3, ?_, fun i s hi hs => ?_, l6.fr (fun a i _ _ => f18 a i (by omega))⟩
    · rw [a6 _ _ (by omega), f17 _ _ (by omega), fb _ _ (by omega)]
      exact va
    · rw [a6 _ _ (by omega), f17 _ _ (by omega)]
      exact vb
    · have hi2 : i < st.2.2.2.1 - 1 := hi
      rw [f18 _ _ (by omega)]
      exact l5 i s (by omega) hs
  have hG18 : LG M18 F := hG.fr (fun a i z => f18 a i (by omega))
  unfold FT.lW
  cases hb : w.2.2.2.2 with
  | true =>
    rw [if_pos rfl, if_pos (show v19 = 0 by rw [a2, hb]; rfl)]
    exact ⟨_, rfl, M18, rfl, hL18, fun a i z => f18 a i (by omega)⟩
  | false =>
    rw [if_neg (show ¬ v19 = 0 by rw [a2, hb]; decide), if_neg (show ¬ (false = true) by decide)]
    refine jB (jsplitA (N := N) (wt := st.2.2.2.1 - 1) hG18 a4 hL18.2.2.2.1 (by omega) hN) (fun x hx => ?_)
    rcases hx with ⟨rfl, hfp⟩ | ⟨f, g, hfp, q1, q2, q3, q4, q5⟩
    · rw [hfp]
      dsimp only
      rw [if_pos rfl]
      refine jB (jtryA (N := N) (ah := w.2.2.1) hG18 hL18 i6 i1 (show st.2.2.1 ≤ 1000 by omega) (show st.2.2.2.1 - 1 ≤ 101 by omega) a4 hah0 hN) (fun M22 h22 => ⟨_, rfl, M22, rfl, h22.1, fun a i z => ?_⟩)
      rw [h22.2.2.2 a i (by omega), f18 a i (by omega)]
    · obtain ⟨x1, x2⟩ := x
      dsimp only at q4 q5
      subst q4
      rw [hfp]
      dsimp only
      rw [if_neg (by decide)]
      obtain ⟨p1, p2, p3⟩ := q5
      refine ⟨_, rfl, x1, rfl, ⟨?_, ?_, ?_, p1, fun i s hi hs => ?_, ?_⟩, fun a i z => ?_⟩
      · rw [p3 _ _ (by omega)]
        exact hL18.1
      · rw [p3 _ _ (by omega)]
        exact hL18.2.1
      · rw [p3 _ _ (by omega)]
        exact hL18.2.2.1
      · have hi2 : i < st.2.2.2.1 - 1 + 2 := hi
        show x1 (85 + i) s = (if i = st.2.2.2.1 - 1 + 1 then FT.bit w.2.2.1 f g else if i = st.2.2.2.1 - 1 then FT.bit w.2.2.1 g f else st.2.2.2.2.1 i) s
        by_cases e1 : i = st.2.2.2.1 - 1 + 1
        · rw [if_pos e1, show 85 + i = 86 + (st.2.2.2.1 - 1) by omega]
          exact (p2 s hs).2
        · rw [if_neg e1]
          by_cases e2 : i = st.2.2.2.1 - 1
          · rw [if_pos e2, e2]
            exact (p2 s hs).1
          · rw [if_neg e2, p3 _ _ (by omega)]
            exact hL18.2.2.2.2.1 i s (show i < st.2.2.2.1 - 1 by omega) hs
      · exact hL18.2.2.2.2.2.fr (fun a i _ _ => p3 a i (by omega))
      · rw [p3 _ _ (by omega), f18 a i (by omega)]
theorem jseekA {od : Nat → Nat → Nat} {best : Nat} (hG : LG M F) (hO : WO F od) (hAO : AO M 33 F od) (hb : M 83 0 = nI best) (hbe : best ≤ 40000) (hn : n ≤ 100) (hN : 300 ≤ N) : ∃ x, f_X4_seek N M 33 (nI n) = some x ∧ (x.2 = (if (F.lR n (n + 1) (best, 0, 0, 1, fun _ _ => 0, od)).2.2.2.1 = 0 then 1 else 0) ∧ LA x.1 F (F.lR n (n + 1) (best, 0, 0, 1, fun _ _ => 0, od)) ∧ LI F n (F.lR n (n + 1) (best, 0, 0, 1, fun _ _ => 0, od)) ∧ LFA M x.1) := by
  obtain ⟨stf, hstf⟩ : ∃ stf, stf = F.lR n (n + 1) (best, 0, 0, 1, fun _ _ => 0, od) := ⟨_, rfl⟩
  rw [← hstf]
  obtain ⟨Ma, ua, fa, va⟩ := jupX M 83 1 0
  obtain ⟨Mb, ub, fb, vb⟩ := jupX Ma 83 2 0
  obtain ⟨Mc, uc, fc, vc⟩ := jfillX Mb (84 + 1 + 0) 32 0
  obtain ⟨Md, ud, fd, vd⟩ := jupX Mc 83 3 1
  have f0 : LFA M Md := fun a i z => by rw [fd a i (by omega), fc a i (by omega), fb a i (by omega), fa a i (by omega)]
  have hL0 : LA Md F (best, 0, 0, 1, fun _ _ => 0, od) := by
    refine ⟨?_, ?_, ?_, vd, fun i s hi hs => ?_, hAO.fr (fun a i z1 z2 => ?_)⟩
    · rw [fd _ _ (by omega), fc _ _ (by omega), fb _ _ (by omega), fa _ _ (by omega)]
      exact hb
    · rw [fd _ _ (by omega), fc _ _ (by omega), fb _ _ (by omega)]
      exact va
    · rw [fd _ _ (by omega), fc _ _ (by omega)]
      exact vb
    · have hi2 : i < 1 := hi
      have ei : i = 0 := by omega
      subst ei
      rw [fd _ _ (by omega)]
      exact vc s hs
    · rw [fd a i (by omega), fc a i (by omega), fb a i (by omega), fa a i (by omega)]
  have hI0 : LI F n (best, 0, 0, 1, fun _ _ => 0, od) := ⟨hbe, Nat.zero_le _, Nat.le_refl _, Nat.le_refl _, fun i _ s g _ hb => (by rw [b_0] at hb; cases hb), hO⟩
  unfold f_X4_seek
  rw [ua, Option.bind_some, ub, Option.bind_some, show (0 : Int32) = nI 0 from rfl] at *
  rw [show jrw 84 101 (nI 0) = some (84 + 1 + 0) from jrw_nI (by decide) (by decide), Option.bind_some, show (nI 0 : Int32) = 0 from rfl] at *
  rw [uc, Option.bind_some, ud, Option.bind_some]
  refine jB (jLp_tot (fun c (M12 : JMem) => ∃ st, c + st.2.1 = n ∧ LA M12 F st ∧ LI F n st ∧ F.lR n (c + 1) st = stf ∧ LFA M M12) (fun x => LA x F stf ∧ LI F n stf ∧ LFA M x) ?_ N n Md (by omega) ⟨_, Nat.add_zero n, hL0, hI0, hstf.symm, f0⟩) ?_
  · rintro c M12 ⟨st, hc, hL, hI, hR, hf⟩
    have hG12 : LG M12 F := hG.fr hf
    have hw100 := hI.2.2.2.1
    have hcn := hI.2.1
    by_cases e1 : st.2.2.2.1 = 0
    · rw [if_pos (show M12 83 3 ≤ 0 by rw [hL.2.2.2.1, e1]; decide)]
      rw [lR_stop0 e1] at hR
      subst hR
      exact ⟨_, rfl, Or.inr ⟨_, rfl, hL, hI, hf⟩⟩
    · rw [if_neg (show ¬ M12 83 3 ≤ 0 by rw [hL.2.2.2.1, jleL (by omega) (by decide)]; omega)]
      by_cases e2 : n ≤ st.2.1
      · rw [if_pos (show nI n ≤ M12 83 1 by rw [hL.2.1]; exact jleT e2 (by omega))]
        rw [lR_stopn e2] at hR
        subst hR
        exact ⟨_, rfl, Or.inr ⟨_, rfl, hL, hI, hf⟩⟩
      · rw [if_neg (show ¬ nI n ≤ M12 83 1 by rw [hL.2.1]; exact jleF (by omega) (by omega))]
        obtain ⟨x, g1, M', rfl, g2, g3⟩ := jcaseA (N := N) hG12 hL hI hn (by omega) (by omega) (by omega)
        rw [g1]
        obtain ⟨k1, k2⟩ := li_S hG.1 hI (by omega) (by omega)
        rw [lR_go e1 e2] at hR
        refine ⟨_, rfl, Or.inl ⟨M', c - 1, rfl, by omega, F.lS st, by rw [k2]; omega, g2, k1, by rw [show c - 1 + 1 = c by omega]; exact hR, fun a i z => (g3 a i z).trans (hf a i z)⟩⟩
  · rintro t13 ⟨p1, p2, p3⟩
    have hw100 := p2.2.2.2.1
    have hcn := p2.2.1
    by_cases e : stf.2.2.2.1 = 0
    · rw [if_pos (show t13 83 3 = 0 by rw [p1.2.2.2.1, e]; rfl)]
      exact ⟨_, rfl, (if_pos e).symm, p1, p2, p3⟩
    · rw [if_neg (show ¬ t13 83 3 = 0 by rw [p1.2.2.2.1, jeqL (by omega) (by decide)]; exact e)]
      exact ⟨_, rfl, (if_neg e).symm, p1, p2, p3⟩
end LP
