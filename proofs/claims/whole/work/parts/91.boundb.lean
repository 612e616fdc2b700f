/-! bounds: the model gathers and cuts -/
theorem jdec1 {n : Nat} (h : 0 < n) : nI n + (-1) = nI (n - 1) := by
  rw [← jsub1 h, Int32.sub_eq_add_neg]
def JM (M : JMem) (n : Nat) (on fi la sp : Nat → Nat) : Prop := M 221 36 = nI n ∧ (∀ k, k < n → on k < 32 ∧ M 248 k = nI (on k) ∧ M 249 (on k) = nI (fi k) ∧ M 250 (on k) = nI (la k) ∧ M 229 (on k) = nI (sp k)) ∧ ∀ i j, i < n → j < n → on i = on j → i = j
theorem jgatB {M : JMem} {N : Nat} {F : FT} (hW : WF F) (hB : BF M F) {m : Nat} (hm : m < F.nm) (hN : 100 ≤ N) : ∃ M', f_X8_gather N M (nI m) = some M' ∧ (JM M' (F.oc m) (F.on m) (fun k => F.sa (F.on m k)) (fun k => F.sb (F.on m k)) (fun k => F.sp (F.on m k)) ∧ (∀ k, k < F.oc m → M' 251 (F.on m k) = nI (F.sp (F.on m k))) ∧ ∀ a i, ¬ ((a = 221 ∧ i = 36) ∨ (248 ≤ a ∧ a ≤ 251)) → M' a i = M a i) := by
  have hns := hW.2.2.1.1
  have hnp := hW.2.1.1
  have hm8 : m < 8 := Nat.lt_of_lt_of_le hm hW.1.1
  have hoc := oc_le hW m
  have n10 : ¬ (1 : Int32) = 0 := by decide
  obtain ⟨o1, o2, o3, o4, o5⟩ := id hW.2.2.2
  obtain ⟨M1, u1, f1, v1⟩ := jupX M 221 36 0
  unfold f_X8_gather
  rw [u1, Option.bind_some]
  refine jB (jLp_tot (fun c (z : Int32 × JMem) => ∃ s i, c + s = F.ns ∧ i ≤ F.oc m ∧ z.1 = nI s ∧ z.2 221 36 = nI i ∧ (∀ j, j < i → F.on m j < s ∧ z.2 248 j = nI (F.on m j)) ∧ (∀ j, i ≤ j → j < F.oc m → s ≤ F.on m j) ∧ (∀ t, t < s → z.2 249 t = nI (F.sa t) ∧ z.2 250 t = nI (F.sb t) ∧ z.2 251 t = nI (F.sp t)) ∧ ∀ a i, ¬ ((a = 221 ∧ i = 36) ∨ (248 ≤ a ∧ a ≤ 251)) → z.2 a i = M a i) (fun x => x 221 36 = nI (F.oc m) ∧ (∀ j, j < F.oc m → x 248 j = nI (F.on m j)) ∧ (∀ t, t < F.ns → x 249 t = nI (F.sa t) ∧ x 250 t = nI (F.sb t) ∧ x 251 t = nI (F.sp t)) ∧ ∀ a i, ¬ ((a = 221 ∧ i = 36) ∨ (248 ≤ a ∧ a ≤ 251)) → x a i = M a i) ?_ N F.ns (0, M1) (by omega) ⟨0, 0, by omega, Nat.zero_le _, rfl, v1, fun j hj => absurd hj (Nat.not_lt_zero j), fun j _ _ => Nat.zero_le _, fun j hj => absurd hj (Nat.not_lt_zero j), fun a i z => f1 a i (by omega)⟩) (fun x hx => ⟨x, rfl, ⟨hx.1, fun k hk => ?_, fun i j hi hj e => ?_⟩, fun k hk => (hx.2.2.1 _ (o3 m k hk).1).2.2, hx.2.2.2⟩)
  · rintro c ⟨z8, M9⟩ ⟨s, i, hc, hi, hz, h36, hlo, hhi, hv, hf⟩
    dsimp only at hz h36 hlo hhi hv hf ⊢
    subst hz
    have hB9 : BF M9 F := hB.fr ⟨hf _ _ (by omega), hf _ _ (by omega), hf _ _ (by omega)⟩ (fun a i _ _ => hf a i (by omega))
    rcases Nat.eq_zero_or_pos c with en | en
    · rw [if_pos (show M9 221 11 ≤ nI s by rw [hB9.2.2.1]; exact jleT (by omega) (by omega))]
      have ei : i = F.oc m := by
        rcases Nat.lt_or_ge i (F.oc m) with z | z
        · have z1 := hhi i (Nat.le_refl _) z
          have z2 := (o3 m i z).1
          omega
        · omega
      rw [ei] at h36 hlo
      exact ⟨_, rfl, Or.inr ⟨_, rfl, h36, fun j hj => (hlo j hj).2, fun t ht => hv t (by omega), hf⟩⟩
    · have hs : s < F.ns := by omega
      have s32 : s < 32 := by omega
      obtain ⟨p1, p2, p3, p4, p5, p6⟩ := hW.2.2.1.2 s hs
      have hlc := hW.2.1.2.2.1 (F.pc s)
      obtain ⟨M11, u2, f2, v2⟩ := jupX M9 249 s 0
      rw [if_neg (show ¬ M9 221 11 ≤ nI s by rw [hB9.2.2.1]; exact jleF (by omega) (by omega)), jwr_nI s32 (by decide), u2, Option.bind_some]
      refine jB (jLp_tot (fun c (z : Int32 × JMem) => ∃ k, c + k = F.rk s ∧ z.1 = nI k ∧ z.2 249 s = nI (sR (fun j => F.sp (F.ln (F.pc s) j)) 0 k) ∧ ∀ a i, ¬ (a = 249 ∧ i = s) → z.2 a i = M9 a i) (fun x => x 249 s = nI (F.sa s) ∧ ∀ a i, ¬ (a = 249 ∧ i = s) → x a i = M9 a i) ?_ N (F.rk s) (0, M11) (by omega) ⟨0, by omega, rfl, v2, f2⟩) (fun t20 ht => ?_)
      · rintro c2 ⟨z18, M19⟩ ⟨k, hk, hz, h49, hf9⟩
        dsimp only at hz h49 hf9 ⊢
        subst hz
        have hB19 : BF M19 F := hB9.fr ⟨hf9 _ _ (by omega), hf9 _ _ (by omega), hf9 _ _ (by omega)⟩ (fun a i _ _ => hf9 a i (by omega))
        obtain ⟨a1, a2, a3, a4⟩ := hB19.2.2.2.2.2.2.2 s hs
        rw [jrd_nI s32 (by decide), Option.bind_some, a4]
        rcases Nat.eq_zero_or_pos c2 with en2 | en2
        · rw [if_pos (jleT (by omega) (by omega))]
          refine ⟨_, rfl, Or.inr ⟨_, rfl, ?_, hf9⟩⟩
          rw [h49, show k = F.rk s by omega]
          rfl
        · obtain ⟨b1, b2⟩ := sp_ln hW (show k < F.lc (F.pc s) by omega)
          obtain ⟨M26, u3, f3, v3⟩ := jupX M19 249 s (nI (sR (fun j => F.sp (F.ln (F.pc s) j)) 0 (k + 1)))
          have e1 : sR (fun j => F.sp (F.ln (F.pc s) j)) 0 (k + 1) = sR (fun j => F.sp (F.ln (F.pc s) j)) 0 k + F.sp (F.ln (F.pc s) (0 + k)) := rfl
          rw [Nat.zero_add] at e1
          rw [if_neg (jleF (by omega) (by omega)), jrd_nI s32 (by decide), Option.bind_some, h49, jrd_nI s32 (by decide), Option.bind_some, a1, jmul8, nI_add, jrd_nI (show 8 * F.pc s + k < 96 by omega) (by decide), Option.bind_some, hB19.2.2.2.2.2.2.1 _ k (by omega) (by omega), jrd_nI (show F.ln (F.pc s) k < 32 by omega) (by decide), Option.bind_some, (hB19.2.2.2.2.2.2.2 _ b1).2.2.1, nI_add, ← e1, jwr_nI s32 (by decide), u3, Option.bind_some]
          exact ⟨_, rfl, Or.inl ⟨_, c2 - 1, rfl, by omega, k + 1, by omega, nI_1 k, v3, fun a i z => by
            show M26 a i = _
            rw [f3 a i z]
            exact hf9 a i z⟩⟩
      · obtain ⟨t1, t2⟩ := ht
        have hB20 : BF t20 F := hB9.fr ⟨t2 _ _ (by omega), t2 _ _ (by omega), t2 _ _ (by omega)⟩ (fun a i _ _ => t2 a i (by omega))
        obtain ⟨a1, a2, a3, a4⟩ := hB20.2.2.2.2.2.2.2 s hs
        obtain ⟨M30, u4, f4, v4⟩ := jupX t20 250 s (nI (F.sb s))
        obtain ⟨M32, u5, f5, v5⟩ := jupX M30 251 s (nI (F.sp s))
        have fr : ∀ a i, ¬ (249 ≤ a ∧ a ≤ 251 ∧ i = s) → M32 a i = M9 a i := fun a i z => by rw [f5 a i (by omega), f4 a i (by omega), t2 a i (by omega)]
        have hB32 : BF M32 F := hB9.fr ⟨fr _ _ (by omega), fr _ _ (by omega), fr _ _ (by omega)⟩ (fun a i _ _ => fr a i (by omega))
        have val : ∀ t, t < s + 1 → M32 249 t = nI (F.sa t) ∧ M32 250 t = nI (F.sb t) ∧ M32 251 t = nI (F.sp t) := by
          intro t htt
          by_cases e : t = s
          · subst e
            refine ⟨?_, ?_, v5⟩
            · rw [f5 _ _ (by omega), f4 _ _ (by omega)]
              exact t1
            · rw [f5 _ _ (by omega)]
              exact v4
          · rw [fr _ _ (by omega), fr _ _ (by omega), fr _ _ (by omega)]
            exact hv t (by omega)
        rw [jrestB hW hB20 hs hN, Option.bind_some, jrd_nI s32 (by decide), Option.bind_some, a3, jsubN (Nat.le_add_right _ _), Nat.add_sub_cancel_left, jwr_nI s32 (by decide), u4, Option.bind_some, jrd_nI s32 (by decide), Option.bind_some, show M30 229 s = nI (F.sp s) by rw [f4 _ _ (by omega)]; exact a3, jwr_nI s32 (by decide), u5, Option.bind_some, jisOn hW hB32 hs hm8, Option.bind_some]
        have h36' : M32 221 36 = nI i := by rw [fr _ _ (by omega)]; exact h36
        by_cases q : F.mc s = m
        · obtain ⟨j, hj, ej⟩ := o5 s hs
          rw [q] at hj ej
          have hij : i = j := by
            rcases Nat.lt_trichotomy i j with z | z | z
            · have z1 := hhi i (Nat.le_refl _) (by omega)
              have z2 := o4 m i j z hj
              omega
            · exact z
            · have z1 := (hlo j z).1
              omega
          subst hij
          obtain ⟨M39, u6, f6, v6⟩ := jupX M32 248 i (nI s)
          obtain ⟨M40, u7, f7, v7⟩ := jupX M39 221 36 (nI (i + 1))
          rw [if_pos q, if_neg n10, h36', jwr_nI (show i < 32 by omega) (by decide), u6, Option.bind_some, show M39 221 36 = nI i by rw [f6 _ _ (by omega)]; exact h36', nI_1, u7, Option.bind_some, Option.bind_some]
          refine ⟨_, rfl, Or.inl ⟨_, c - 1, rfl, by omega, s + 1, i + 1, by omega, by omega, nI_1 s, v7, fun j hj2 => ?_, fun j hj1 hj2 => ?_, fun t ht => ?_, fun a k z => ?_⟩⟩
          · show _ ∧ M40 248 j = _
            rw [f7 _ _ (by omega)]
            by_cases e : j = i
            · rw [e, ej]
              exact ⟨by omega, v6⟩
            · rw [f6 _ _ (by omega), fr _ _ (by omega)]
              have := hlo j (by omega)
              exact ⟨by omega, this.2⟩
          · have := o4 m i j (by omega) hj2
            omega
          · show M40 249 t = _ ∧ M40 250 t = _ ∧ M40 251 t = _
            rw [f7 _ _ (by omega), f7 _ _ (by omega), f7 _ _ (by omega), f6 _ _ (by omega), f6 _ _ (by omega), f6 _ _ (by omega)]
            exact val t ht
          · show M40 a k = _
            rw [f7 _ _ (by omega), f6 _ _ (by omega), fr _ _ (by omega)]
            exact hf a k z
        · rw [if_neg q, if_pos rfl, Option.bind_some]
          refine ⟨_, rfl, Or.inl ⟨_, c - 1, rfl, by omega, s + 1, i, by omega, hi, nI_1 s, h36', fun j hj2 => ?_, fun j hj1 hj2 => ?_, val, fun a k z => ?_⟩⟩
          · show _ ∧ M32 248 j = _
            rw [fr _ _ (by omega)]
            have := hlo j hj2
            exact ⟨by omega, this.2⟩
          · have z1 := hhi j hj1 hj2
            have z2 := (o3 m j hj2).2
            have z3 : F.on m j ≠ s := fun e => q (by rw [← e]; exact z2)
            omega
          · show M32 a k = _
            rw [fr _ _ (by omega)]
            exact hf a k z
  · obtain ⟨x1, x2, x3, x4⟩ := hx
    have hk1 := (o3 m k hk).1
    refine ⟨by omega, x2 k hk, (x3 _ hk1).1, (x3 _ hk1).2.1, ?_⟩
    rw [x4 _ _ (by omega)]
    exact (hB.2.2.2.2.2.2.2 _ hk1).2.2.1
  · rcases Nat.lt_trichotomy i j with z | z | z
    · have := o4 m i j z hj
      omega
    · exact z
    · have := o4 m j i z hi
      omega
section KC
variable {M : JMem} {N n : Nat} {on fi la sp left : Nat → Nat}
def cNv (fi : Nat → Nat) (t k : Nat) : Nat := match cNx fi t k with
  | none => 1000000
  | some v => v
theorem cNv_s {t k : Nat} (h : fi k ≤ 8000) : cNv fi t (k + 1) = if t < fi k then (if fi k < cNv fi t k then fi k else cNv fi t k) else cNv fi t k := by
  have e0 : cNx fi t (k + 1) = if t < fi k then (match cNx fi t k with | none => some (fi k) | some v => if fi k < v then some (fi k) else some v) else cNx fi t k := rfl
  unfold cNv
  rw [e0]
  by_cases q : t < fi k
  · rw [if_pos q, if_pos q]
    cases cNx fi t k with
    | none =>
      dsimp only
      rw [if_pos (by omega)]
    | some v =>
      dsimp only
      by_cases q2 : fi k < v
      · rw [if_pos q2, if_pos q2]
      · rw [if_neg q2, if_neg q2]
  · rw [if_neg q, if_neg q]
theorem cNv_b (hJ : JJ n fi la sp) (t : Nat) : ∀ k, k ≤ n → cNv fi t k ≤ 1000000 := by
  intro k hk
  unfold cNv
  cases h : cNx fi t k with
  | none => exact Nat.le_refl _
  | some v =>
    obtain ⟨-, ⟨i, a2, a3⟩, -⟩ := cNx_s k v h
    have := (hJ.2 i (by omega)).1
    dsimp only
    omega
theorem jcutB {M : JMem} (hJ : JJ n fi la sp) (h : JM M n on fi la sp) (h1 : ∀ k, k < n → M 251 (on k) = nI (sp k)) (hN : 100 ≤ N) : ∃ x, f_X8_cutBound N M = some x ∧ (x.2 = nI (jcutv n fi la sp).2.1 ∧ ∀ a i, a ≠ 251 → x.1 a i = M a i) := by
  have hn := hJ.1
  unfold f_X8_cutBound
  generalize hstf : jcutv n fi la sp = stf
  rw [h.1]
  have h0 : fb_ct (fun k => decide (0 < sp k)) n = n := fb_ct_all.mpr (fun k hk => by
    have := (hJ.2 k hk).2.2.1
    exact decide_eq_true (by omega))
  refine jB (jLp_tot (fun c (z : Int32 × Int32 × Int32 × JMem) => ∃ j st, c + j = 2 * n ∧ z.1 = nI st.1 ∧ z.2.1 = nI st.2.1 ∧ z.2.2.1 = nI (fb_ct (fun k => decide (0 < st.2.2 k)) n) ∧ (∀ k, k < n → z.2.2.2 251 (on k) = nI (st.2.2 k)) ∧ CI n fi la sp j st ∧ cR n fi la c st = stf ∧ ∀ a i, a ≠ 251 → z.2.2.2 a i = M a i) (fun x => x.1 = nI stf.2.1 ∧ ∀ a i, a ≠ 251 → x.2 a i = M a i) ?_ N (2 * n) (0, 0, nI n, M) (by omega) ⟨0, (0, 0, sp), by omega, rfl, rfl, by rw [h0], h1, ci_0 hJ, hstf, fun _ _ _ => rfl⟩) (fun x hx => ⟨_, rfl, hx.1, hx.2⟩)
  rintro c ⟨z7, z8, z9, M10⟩ ⟨j, ⟨t, worst, left⟩, hc, hz1, hz2, hz3, hl, hI, hR, hf⟩
  dsimp only at hz1 hz2 hz3 hl hf ⊢
  subst hz1 hz2 hz3
  have hb1 := hI.2.1
  have hb2 := hI.2.2.1
  have hcF := hI.2.2.2.1
  have hi1 := hI.1
  unfold cF at hcF
  dsimp only at hb1 hb2 hcF hi1
  have hop := fb_ct_le (fun k => decide (0 < left k)) n
  have hlb : ∀ k, k < n → left k ≤ 1000 := fun k hk => by
    have := (hi1 k hk).1
    have := (hJ.2 k hk).2.2.2
    omega
  have h36 : M10 221 36 = nI n := by rw [hf _ _ (by omega)]; exact h.1
  have hM : ∀ k, k < n → on k < 32 ∧ M10 248 k = nI (on k) ∧ M10 249 (on k) = nI (fi k) ∧ M10 250 (on k) = nI (la k) ∧ M10 251 (on k) = nI (left k) := fun k hk => by
    obtain ⟨g1, g2, g3, g4, g5⟩ := h.2.1 k hk
    rw [hf _ _ (by omega), hf _ _ (by omega), hf _ _ (by omega)]
    exact ⟨g1, g2, g3, g4, hl k hk⟩
  by_cases en : fb_ct (fun k => decide (0 < left k)) n = 0
  · rw [if_pos (show nI (fb_ct (fun k => decide (0 < left k)) n) ≤ 0 by rw [en]; decide)]
    have hz : ∀ k, k < n → left k = 0 := fun k hk => by
      have := fb_ct_zero.mp en k hk
      have := of_decide_eq_false this
      omega
    have hs := cSt_done hJ hI hz
    have e : (t, worst, left) = stf := by
      rw [← hR]
      cases c with
      | zero => rfl
      | succ c =>
        show _ = (match cSt n fi la (t, worst, left) with | none => (t, worst, left) | some st' => cR n fi la c st')
        rw [hs]
    rw [← e]
    exact ⟨_, rfl, Or.inr ⟨_, rfl, rfl, hf⟩⟩
  · rw [if_neg (show ¬ nI (fb_ct (fun k => decide (0 < left k)) n) ≤ 0 by rw [jleL (by omega) (by decide)]; omega)]
    refine jB (P := fun x => x = (jopt ((cPr fi la left t n).map on), nI (cNv fi t n))) ?_ (fun x hx => ?_)
    · refine ⟨_, ?_, rfl⟩
      rw [show ((-1 : Int32), (1000000 : Int32), (0 : Int32)) = (fun k => (jopt ((cPr fi la left t k).map on), nI (cNv fi t k), nI k)) 0 from rfl]
      refine jLp_for (fun k => (jopt ((cPr fi la left t k).map on), nI (cNv fi t k), nI k)) n 0 N (by omega) (fun k a1 a2 => ?_) ?_
      · have hk : k < n := by omega
        obtain ⟨g1, g2, g3, g4, g5⟩ := hM k hk
        obtain ⟨b1, b2, b3, b4⟩ := hJ.2 k hk
        have hlk := hlb k hk
        have hcb := cNv_b hJ t k (by omega)
        have e0 : cPr fi la left t (k + 1) = if 0 < left k ∧ fi k ≤ t then (match cPr fi la left t k with | none => some k | some j => if la j < la k then some k else some j) else cPr fi la left t k := rfl
        dsimp only
        rw [if_neg (show ¬ M10 221 36 ≤ nI k by rw [h36]; exact jleF (by omega) (by omega)), jrd_nI (show k < 32 by omega) (by decide), Option.bind_some, g2, jrd_nI g1 (by decide), Option.bind_some, g5, jrd_nI g1 (by decide), Option.bind_some, Option.bind_some, g3, nI_1, e0, cNv_s b1]
        by_cases q1 : 0 < left k
        · rw [if_neg (show ¬ nI (left k) ≤ 0 by rw [jleL (by omega) (by decide)]; omega)]
          by_cases q2 : fi k ≤ t
          · rw [if_neg (show ¬ nI t < nI (fi k) from jltF q2 (by omega)), if_pos (show 0 < left k ∧ fi k ≤ t from ⟨q1, q2⟩), if_neg (show ¬ t < fi k by omega)]
            cases ho : cPr fi la left t k with
            | none =>
              rw [show jopt (Option.map on none) = -1 from rfl, if_pos (show (-1 : Int32) < 0 by decide), jcR, Option.bind_some, jcL, Option.bind_some]
              rfl
            | some y =>
              obtain ⟨a1, -⟩ := cPr_s k y ho
              obtain ⟨y1, y2, y3, y4, y5⟩ := hM y (by omega)
              have hy := hJ.2 y (by omega)
              rw [show jopt (Option.map on (some y)) = nI (on y) from rfl, if_neg (show ¬ nI (on y) < 0 by rw [jltL (by omega) (by decide)]; omega), jrd_nI g1 (by decide), Option.bind_some, jrd_nI y1 (by decide), Option.bind_some, g4, y4]
              dsimp only
              by_cases q3 : la y < la k
              · rw [if_neg (show ¬ nI (la k) ≤ nI (la y) from jleF q3 (by omega)), jcR, Option.bind_some, jcL, Option.bind_some, if_pos q3]
                rfl
              · rw [if_pos (show nI (la k) ≤ nI (la y) from jleT (by omega) (by omega)), jcL, Option.bind_some, jcL, Option.bind_some, if_neg q3]
                rfl
          · rw [if_pos (show nI t < nI (fi k) from jltT (by omega) (by omega)), jcR, if_neg (show ¬ nI (left k) ≤ 0 by rw [jleL (by omega) (by decide)]; omega), if_neg (show ¬ (0 < left k ∧ fi k ≤ t) from fun z => q2 z.2), if_pos (show t < fi k by omega), Option.bind_some, Option.bind_some]
            by_cases q3 : fi k < cNv fi t k
            · rw [if_neg (show ¬ nI (cNv fi t k) ≤ nI (fi k) from jleF q3 (by omega)), if_pos q3, Option.bind_some, Option.bind_some]
            · rw [if_pos (show nI (cNv fi t k) ≤ nI (fi k) from jleT (by omega) (by omega)), if_neg q3, Option.bind_some, Option.bind_some]
        · have q4 : ¬ t < fi k := fun z => by
            have := (hi1 k hk).2 z
            omega
          rw [if_pos (show nI (left k) ≤ 0 by rw [show left k = 0 by omega]; decide), jcR, if_pos (show nI (left k) ≤ 0 by rw [show left k = 0 by omega]; decide), Option.bind_some, if_neg (show ¬ (0 < left k ∧ fi k ≤ t) from fun z => q1 z.1), if_neg q4]
      · dsimp only
        rw [Nat.zero_add, if_pos (show M10 221 36 ≤ nI n by rw [h36]; exact jleT (Nat.le_refl _) (by omega))]
    · subst hx
      dsimp only
      have hcpos : 0 < c := by omega
      have hRc : (match cSt n fi la (t, worst, left) with | none => (t, worst, left) | some st' => cR n fi la (c - 1) st') = stf := by
        rw [← hR]
        conv => rhs; rw [show c = c - 1 + 1 by omega]
        rfl
      cases hp : cPr fi la left t n with
      | none =>
        rw [show jopt (Option.map on none) = -1 from rfl, if_neg (show ¬ (0 : Int32) ≤ -1 by decide)]
        cases hx : cNx fi t n with
        | none =>
          have hs : cSt n fi la (t, worst, left) = none := by
            unfold cSt
            dsimp only
            rw [hp, hx]
            rfl
          exfalso
          apply en
          refine fb_ct_zero.mpr (fun k hk => decide_eq_false ?_)
          have : left k = 0 := cSt_none hs k hk
          omega
        | some v =>
          have hs : cSt n fi la (t, worst, left) = some (v, worst, left) := by
            unfold cSt
            dsimp only
            rw [hp, hx]
            rfl
          rw [hs] at hRc
          have e : cNv fi t n = v := by
            unfold cNv
            rw [hx]
          rw [e]
          exact ⟨_, rfl, Or.inl ⟨_, c - 1, rfl, by omega, j + 1, (v, worst, left), by omega, rfl, rfl, rfl, hl, ci_st hJ hI hs, hRc, hf⟩⟩
      | some jb =>
        obtain ⟨b1, b2, b3, b4⟩ := cPr_s n jb hp
        obtain ⟨un, hun⟩ : ∃ un, un = cUn n fi (t, worst, left) jb := ⟨_, rfl⟩
        have hub := cUn_b (n := n) (fi := fi) (st := (t, worst, left)) (jb := jb) b2
        rw [← hun] at hub
        dsimp only at hub
        have hs : cSt n fi la (t, worst, left) = some (un, if left jb - (un - t) = 0 then max worst (un + la jb) else worst, addN left jb (left jb - (un - t))) := by
          unfold cSt
          dsimp only
          rw [hp, hun]
        rw [hs] at hRc
        have hjb := hJ.2 jb b1
        have hlj := hlb jb b1
        obtain ⟨g1, g2, g3, g4, g5⟩ := hM jb b1
        have hcb := cNv_b hJ t n (Nat.le_refl _)
        have hun2 : un = if cNv fi t n ≤ t + left jb then cNv fi t n else t + left jb := by
          rw [hun]
          unfold cUn cNv
          dsimp only
          cases cNx fi t n with
          | none =>
            dsimp only
            rw [if_neg (by omega)]
          | some v =>
            dsimp only
            split <;> omega
        have hu76 : ((if nI (cNv fi t n) ≤ nI (t + left jb) then some (nI (cNv fi t n)) else some (nI (t + left jb))) : Option Int32) = some (nI un) := by
          rw [hun2]
          by_cases z : cNv fi t n ≤ t + left jb
          · rw [if_pos z, if_pos (jleT z (by omega))]
          · rw [if_neg z, if_neg (jleF (by omega) (by omega))]
        obtain ⟨M78, u78, f78, v78⟩ := jupX M10 251 (on jb) (nI (left jb - (un - t)))
        rw [show jopt (Option.map on (some jb)) = nI (on jb) from rfl, if_pos (show 0 ≤ nI (on jb) from jle0 (by omega)), jrd_nI g1 (by decide), Option.bind_some, Option.bind_some, g5, nI_add, hu76, Option.bind_some, Option.bind_some, jsubN (show t ≤ un by omega), jsubN (show un - t ≤ left jb by omega), jwr_nI g1 (by decide), u78, Option.bind_some, jrd_nI g1 (by decide), Option.bind_some, v78, jrd_nI g1 (by decide), Option.bind_some, Option.bind_some, show M78 250 (on jb) = nI (la jb) by rw [f78 _ _ (by omega)]; exact g4, nI_add]
        have fl : ∀ k, k < n → M78 251 (on k) = nI (addN left jb (left jb - (un - t)) k) := fun k hk => by
          unfold addN
          by_cases e : k = jb
          · rw [if_pos e, e]
            exact v78
          · rw [if_neg e, f78 _ _ (fun z => e (h.2.2 k jb hk b1 z.2))]
            exact hl k hk
        have ff : ∀ a i, a ≠ 251 → M78 a i = M a i := fun a i z => by
          rw [f78 _ _ (by omega)]
          exact hf a i z
        by_cases z : left jb - (un - t) = 0
        · have e9 : fb_ct (fun k => decide (0 < addN left jb (left jb - (un - t)) k)) n = fb_ct (fun k => decide (0 < left k)) n - 1 := by
            have e1 := addB_ct (P := fun k => decide (0 < addN left jb (left jb - (un - t)) k)) b1 (by
              unfold addN
              rw [if_pos rfl, z]
              rfl)
            have e2 : fb_ct (addB (fun k => decide (0 < addN left jb (left jb - (un - t)) k)) jb) n = fb_ct (fun k => decide (0 < left k)) n := fb_ct_cong (fun k hk => by
              unfold addB addN
              by_cases y : k = jb
              · rw [if_pos y, y, decide_eq_true b2]
              · rw [if_neg y]
                show decide (0 < if k = jb then _ else left k) = _
                rw [if_neg y])
            omega
          rw [if_pos z] at hRc hs
          rw [if_pos (show nI (left jb - (un - t)) = 0 by rw [z]; rfl)]
          have hw2 : ((if nI (un + la jb) ≤ nI worst then some (nI worst) else some (nI (un + la jb))) : Option Int32) = some (nI (max worst (un + la jb))) := by
            by_cases y : un + la jb ≤ worst
            · rw [if_pos (jleT y (by omega)), Nat.max_eq_left y]
            · rw [if_neg (jleF (by omega) (by omega)), Nat.max_eq_right (by omega)]
          rw [hw2, Option.bind_some, Option.bind_some, jdec1 (by omega)]
          exact ⟨_, rfl, Or.inl ⟨_, c - 1, rfl, by omega, j + 1, _, by omega, rfl, rfl, by rw [← e9], fl, ci_st hJ hI hs, hRc, ff⟩⟩
        · have e9 : fb_ct (fun k => decide (0 < addN left jb (left jb - (un - t)) k)) n = fb_ct (fun k => decide (0 < left k)) n := fb_ct_cong (fun k hk => by
              unfold addN
              by_cases y : k = jb
              · rw [if_pos y, y, decide_eq_true b2, decide_eq_true (by omega)]
              · rw [if_neg y])
          rw [if_neg z] at hRc hs
          rw [if_neg (show ¬ nI (left jb - (un - t)) = 0 by rw [jeqL (by omega) (by decide)]; exact z), Option.bind_some]
          exact ⟨_, rfl, Or.inl ⟨_, c - 1, rfl, by omega, j + 1, _, by omega, rfl, rfl, by rw [← e9], fl, ci_st hJ hI hs, hRc, ff⟩⟩
end KC
