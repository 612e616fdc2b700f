/-! bounds: the class -/
def JA (M : JMem) (n : Nat) (fi la sp : Nat → Nat) : Prop := M 78 4 = nI n ∧ ∀ k, k < n → M 79 k = nI (fi k) ∧ M 80 k = nI (la k) ∧ M 81 k = nI (sp k)
theorem jj_of {F : FT} (hW : WF F) (m : Nat) : JJ (F.oc m) (fun k => F.sa (F.on m k)) (fun k => F.sb (F.on m k)) (fun k => F.sp (F.on m k)) := by
  refine ⟨hW.2.2.2.2.1 m, fun k hk => ?_⟩
  have s1 := (hW.2.2.2.2.2.1 m k hk).1
  exact ⟨sa_le hW s1, sb_le hW s1, (hW.2.2.1.2 _ s1).2.2.1, (hW.2.2.1.2 _ s1).2.2.2.1⟩
theorem jtakeJ {M : JMem} {N : Nat} {F : FT} (hW : WF F) (hA : AF M F) {m : Nat} (hm : m < F.nm) (hN : 100 ≤ N) : ∃ M', f_X0_takeJobs N M (nI m) = some M' ∧ (JA M' (F.oc m) (fun k => F.sa (F.on m k)) (fun k => F.sb (F.on m k)) (fun k => F.sp (F.on m k)) ∧ ∀ a i, ¬ ((a = 78 ∧ i = 4) ∨ (79 ≤ a ∧ a ≤ 81)) → M' a i = M a i) := by
  have hns := hW.2.2.1.1
  have hm8 : m < 8 := Nat.lt_of_lt_of_le hm hW.1.1
  have hoc := oc_le hW m
  obtain ⟨M2, u2, f2, v2⟩ := jupX M 78 4 (nI (F.oc m))
  unfold f_X0_takeJobs
  rw [jrd_nI hm8 (by decide), Option.bind_some, hA.2.2.2.2.2.2.2.2.1 m hm8, u2, Option.bind_some]
  refine jB (jLp_tot (fun c (z : Int32 × JMem) => ∃ j, c + j = F.oc m ∧ z.1 = nI j ∧ (∀ k, k < j → z.2 79 k = nI (F.sa (F.on m k)) ∧ z.2 80 k = nI (F.sb (F.on m k)) ∧ z.2 81 k = nI (F.sp (F.on m k))) ∧ ∀ a i, ¬ (79 ≤ a ∧ a ≤ 81) → z.2 a i = M2 a i) (fun x => (∀ k, k < F.oc m → x 79 k = nI (F.sa (F.on m k)) ∧ x 80 k = nI (F.sb (F.on m k)) ∧ x 81 k = nI (F.sp (F.on m k))) ∧ ∀ a i, ¬ (79 ≤ a ∧ a ≤ 81) → x a i = M2 a i) ?_ N (F.oc m) (0, M2) (by omega) ⟨0, by omega, rfl, fun k hk => absurd hk (Nat.not_lt_zero k), fun _ _ _ => rfl⟩) (fun x hx => ⟨x, rfl, ⟨by rw [hx.2 _ _ (by omega)]; exact v2, hx.1⟩, fun a i z => by rw [hx.2 a i (by omega), f2 a i (by omega)]⟩)
  rintro c ⟨z9, M10⟩ ⟨j, hc, hz, hp, hf⟩
  dsimp only at hz hp hf ⊢
  subst hz
  have hA10 : AF M10 F := hA.fr hW.1.1 (fun a i _ _ => by rw [hf a i (by omega), f2 a i (by omega)])
  have e4 : M10 78 4 = nI (F.oc m) := by rw [hf _ _ (by omega)]; exact v2
  rcases Nat.eq_zero_or_pos c with en | en
  · rw [if_pos (show M10 78 4 ≤ nI j by rw [e4]; exact jleT (by omega) (by omega))]
    exact ⟨_, rfl, Or.inr ⟨_, rfl, fun k hk => hp k (by omega), hf⟩⟩
  · have s1 := (hW.2.2.2.2.2.1 m j (by omega)).1
    have j32 : j < 32 := by omega
    obtain ⟨Ma, ua, fa, va⟩ := jupX M10 79 j (nI (F.sa (F.on m j)))
    obtain ⟨Mb, ub, fb, vb⟩ := jupX Ma 80 j (nI (F.sb (F.on m j)))
    obtain ⟨Mc, uc, fc, vc⟩ := jupX Mb 81 j (nI (F.sp (F.on m j)))
    have hAa : AF Ma F := hA10.fr hW.1.1 (fun a i _ _ => fa a i (by omega))
    rw [if_neg (show ¬ M10 78 4 ≤ nI j by rw [e4]; exact jleF (by omega) (by omega)), jrw_nI hm8 (by decide), Option.bind_some, jrd_nI j32 (by decide), Option.bind_some, hA10.2.2.2.2.2.2.2.2.2 m j hm8 (by omega), jsaA hW hA10 s1 hN, Option.bind_some, jwr_nI j32 (by decide), ua, Option.bind_some, jsbA hW hAa s1 hN, Option.bind_some, jwr_nI j32 (by decide), ub, Option.bind_some, jrd_nI (show F.on m j < 32 by omega) (by decide), Option.bind_some, show Mb 21 (F.on m j) = nI (F.sp (F.on m j)) by rw [fb _ _ (by omega), fa _ _ (by omega)]; exact (hA10.2.2.2.2.2.2.2.1 _ s1).2.2.1, jwr_nI j32 (by decide), uc, Option.bind_some]
    refine ⟨_, rfl, Or.inl ⟨_, c - 1, rfl, by omega, j + 1, by omega, nI_1 j, fun k hk => ?_, fun a i z => ?_⟩⟩
    · show Mc 79 k = _ ∧ Mc 80 k = _ ∧ Mc 81 k = _
      by_cases e : k = j
      · rw [e, fc _ _ (by omega), fc _ _ (by omega), fb _ _ (by omega)]
        exact ⟨va, vb, vc⟩
      · rw [fc _ _ (by omega), fc _ _ (by omega), fc _ _ (by omega), fb _ _ (by omega), fb _ _ (by omega), fb _ _ (by omega), fa _ _ (by omega), fa _ _ (by omega), fa _ _ (by omega)]
        exact hp k (by omega)
    · show Mc a i = _
      rw [fc _ _ (by omega), fb _ _ (by omega), fa _ _ (by omega)]
      exact hf a i z
section KA
variable {M : JMem} {N n : Nat} {fi la sp left : Nat → Nat}
theorem jprA (hJ : JJ n fi la sp) (h : JA M n fi la sp) (hl : ∀ k, k < n → M 82 k = nI (left k) ∧ left k ≤ 1000) {t : Nat} (ht : t ≤ 100000) (hN : 100 ≤ N) : f_X0_mostPressing N M (nI t) = some (jopt (cPr fi la left t n)) := by
  have hn := hJ.1
  have n10 : ¬ (1 : Int32) = 0 := by decide
  unfold f_X0_mostPressing
  rw [show ((-1 : Int32), (0 : Int32)) = (fun j => (jopt (cPr fi la left t j), nI j)) 0 from rfl]
  rw [jLp_for (fun j => (jopt (cPr fi la left t j), nI j)) (r := jopt (cPr fi la left t n)) n 0 N (by omega) (fun k h1 h2 => ?_) ?_, Option.bind_some]
  · show (if M 78 4 ≤ nI (0 + n) then _ else _) = _
    rw [h.1, Nat.zero_add, if_pos (jleT (Nat.le_refl _) (by omega))]
  · have hk : k < n := by omega
    obtain ⟨g1, g2, g3⟩ := h.2 k hk
    obtain ⟨b1, b2, b3, b4⟩ := hJ.2 k hk
    have e0 : cPr fi la left t (k + 1) = if 0 < left k ∧ fi k ≤ t then (match cPr fi la left t k with | none => some k | some j => if la j < la k then some k else some j) else cPr fi la left t k := rfl
    dsimp only
    rw [if_neg (show ¬ M 78 4 ≤ nI k by rw [h.1]; exact jleF (by omega) (by omega)), jrd_nI (show k < 32 by omega) (by decide), Option.bind_some, (hl k hk).1, jrd_nI (show k < 32 by omega) (by decide), Option.bind_some, g1, nI_1, e0]
    have hlk := (hl k hk).2
    by_cases q1 : 0 < left k
    · rw [if_neg (show ¬ nI (left k) ≤ 0 by rw [jleL (by omega) (by decide)]; omega)]
      by_cases q2 : fi k ≤ t
      · rw [if_neg (show ¬ nI t < nI (fi k) from jltF q2 (by omega)), jcL, Option.bind_some, if_neg n10, if_pos (show 0 < left k ∧ fi k ≤ t from ⟨q1, q2⟩)]
        cases ho : cPr fi la left t k with
        | none =>
          rw [if_pos (show jopt none = -1 from rfl), jcR, Option.bind_some]
          rfl
        | some j =>
          obtain ⟨a1, -⟩ := cPr_s k j ho
          have hj := hJ.2 j (by omega)
          rw [show jopt (some j) = nI j from rfl, if_neg (show ¬ nI j = -1 from jnm1 (by omega)), jrd_nI (show k < 32 by omega) (by decide), Option.bind_some, jrd_nI (show j < 32 by omega) (by decide), Option.bind_some, g2, (h.2 j (by omega)).2.1]
          dsimp only
          by_cases q3 : la j < la k
          · rw [if_neg (show ¬ nI (la k) ≤ nI (la j) from jleF q3 (by omega)), jcR, Option.bind_some, if_pos q3]
            rfl
          · rw [if_pos (show nI (la k) ≤ nI (la j) from jleT (by omega) (by omega)), jcL, Option.bind_some, if_neg q3]
            rfl
      · rw [if_pos (show nI t < nI (fi k) from jltT (by omega) (by omega)), jcR, Option.bind_some, if_pos rfl, Option.bind_some, if_neg (show ¬ (0 < left k ∧ fi k ≤ t) from fun z => q2 z.2)]
    · rw [if_pos (show nI (left k) ≤ 0 by rw [show left k = 0 by omega]; decide), jcR, Option.bind_some, if_pos rfl, Option.bind_some, if_neg (show ¬ (0 < left k ∧ fi k ≤ t) from fun z => q1 z.1)]
theorem jnxA (hJ : JJ n fi la sp) (h : JA M n fi la sp) {t : Nat} (ht : t ≤ 100000) (hN : 100 ≤ N) : f_X0_nextFirst N M (nI t) = some (jopt (cNx fi t n)) := by
  have hn := hJ.1
  unfold f_X0_nextFirst
  rw [show ((-1 : Int32), (0 : Int32)) = (fun j => (jopt (cNx fi t j), nI j)) 0 from rfl]
  rw [jLp_for (fun j => (jopt (cNx fi t j), nI j)) (r := jopt (cNx fi t n)) n 0 N (by omega) (fun k h1 h2 => ?_) ?_, Option.bind_some]
  · show (if M 78 4 ≤ nI (0 + n) then _ else _) = _
    rw [h.1, Nat.zero_add, if_pos (jleT (Nat.le_refl _) (by omega))]
  · have hk : k < n := by omega
    obtain ⟨g1, g2, g3⟩ := h.2 k hk
    obtain ⟨b1, b2, b3, b4⟩ := hJ.2 k hk
    have e0 : cNx fi t (k + 1) = if t < fi k then (match cNx fi t k with | none => some (fi k) | some v => if fi k < v then some (fi k) else some v) else cNx fi t k := rfl
    dsimp only
    rw [if_neg (show ¬ M 78 4 ≤ nI k by rw [h.1]; exact jleF (by omega) (by omega)), jrd_nI (show k < 32 by omega) (by decide), Option.bind_some, Option.bind_some, Option.bind_some, g1, nI_1, e0]
    by_cases q1 : t < fi k
    · rw [if_neg (show ¬ nI (fi k) ≤ nI t from jleF q1 (by omega)), if_pos q1]
      cases ho : cNx fi t k with
      | none =>
        rw [if_pos (show jopt none = -1 from rfl), jcR, Option.bind_some]
        rfl
      | some v =>
        obtain ⟨a1, ⟨i, a2, a3⟩, -⟩ := cNx_s k v ho
        have hi := hJ.2 i (by omega)
        rw [show jopt (some v) = nI v from rfl, if_neg (show ¬ nI v = -1 from jnm1 (by omega))]
        dsimp only
        by_cases q3 : fi k < v
        · rw [if_neg (show ¬ nI v ≤ nI (fi k) from jleF q3 (by omega)), jcR, Option.bind_some, if_pos q3]
          rfl
        · rw [if_pos (show nI v ≤ nI (fi k) from jleT (by omega) (by omega)), jcL, Option.bind_some, if_neg q3]
          rfl
    · rw [if_pos (show nI (fi k) ≤ nI t from jleT (by omega) (by omega)), Option.bind_some, if_neg q1]
theorem cUn_b {st : CT} {jb : Nat} (h : 0 < st.2.2 jb) : st.1 < cUn n fi st jb ∧ cUn n fi st jb ≤ st.1 + st.2.2 jb := by
  unfold cUn
  cases hx : cNx fi st.1 n with
  | none => exact ⟨by dsimp only; omega, Nat.le_refl _⟩
  | some v =>
    obtain ⟨a1, -⟩ := cNx_s n v hx
    dsimp only
    omega
def jcutv (n : Nat) (fi la sp : Nat → Nat) : CT := cR n fi la (2 * n) (0, 0, sp)
end KA
theorem jcutA {M : JMem} {N n : Nat} {fi la sp : Nat → Nat} (hJ : JJ n fi la sp) (h : JA M n fi la sp) (hN : 100 ≤ N) : ∃ x, f_X0_cutBound N M = some x ∧ (x.2 = nI (jcutv n fi la sp).2.1 ∧ (∃ j, CI n fi la sp j (jcutv n fi la sp)) ∧ ∀ a i, a ≠ 82 → x.1 a i = M a i) := by
  have hn := hJ.1
  obtain ⟨M1, u1, f1, v1⟩ := jcpyX M 81 82
  unfold f_X0_cutBound
  rw [u1, Option.bind_some]
  generalize hstf : jcutv n fi la sp = stf
  refine jCB (P := fun (x : (JMem × Int32) ⊕ (Int32 × JMem)) => (∃ j, CI n fi la sp j stf) ∧ ((∃ M', x = Sum.inl (M', nI stf.2.1) ∧ ∀ a i, a ≠ 82 → M' a i = M a i) ∨ ∃ M', x = Sum.inr (nI stf.2.1, M') ∧ ∀ a i, a ≠ 82 → M' a i = M a i)) ?_ (fun x hx => ?_) (fun x hx => ?_)
  · refine jLp_tot (fun c (z : Int32 × Int32 × Int32 × JMem) => ∃ j st, c + j = 2 * n ∧ z.2.2.1 = nI j ∧ z.1 = nI st.1 ∧ z.2.1 = nI st.2.1 ∧ (∀ k, k < n → z.2.2.2 82 k = nI (st.2.2 k)) ∧ CI n fi la sp j st ∧ cR n fi la c st = stf ∧ ∀ a i, a ≠ 82 → z.2.2.2 a i = M a i) _ ?_ N (2 * n) (0, 0, 0, M1) (by omega) ⟨0, (0, 0, sp), by omega, rfl, rfl, rfl, fun k hk => (v1 k (by omega)).trans (h.2 k hk).2.2, ci_0 hJ, hstf, fun a i z => f1 a i (by omega)⟩
    rintro c ⟨z8, z9, z10, M11⟩ ⟨j, ⟨t, worst, left⟩, hc, hz1, hz2, hz3, hl, hI, hR, hf⟩
    dsimp only at hz1 hz2 hz3 hl hf ⊢
    subst hz1 hz2 hz3
    have h11 : JA M11 n fi la sp := ⟨by rw [hf _ _ (by omega)]; exact h.1, fun k hk => by rw [hf _ _ (by omega), hf _ _ (by omega), hf _ _ (by omega)]; exact h.2 k hk⟩
    have hb1 := hI.2.1
    have hb2 := hI.2.2.1
    dsimp only at hb1 hb2
    have hlb : ∀ k, k < n → M11 82 k = nI (left k) ∧ left k ≤ 1000 := fun k hk => ⟨hl k hk, by
      have := (hI.1 k hk).1
      have := (hJ.2 k hk).2.2.2
      dsimp only at *
      omega⟩
    rcases Nat.eq_zero_or_pos c with en | en
    · rw [if_pos (show (2 : Int32) * M11 78 4 ≤ nI j by rw [h11.1, jmul2]; exact jleT (by omega) (by omega))]
      subst en
      have e : (t, worst, left) = stf := hR
      rw [← e]
      exact ⟨_, rfl, Or.inr ⟨_, rfl, ⟨j, hI⟩, Or.inr ⟨M11, rfl, hf⟩⟩⟩
    · rw [if_neg (show ¬ (2 : Int32) * M11 78 4 ≤ nI j by rw [h11.1, jmul2]; exact jleF (by omega) (by omega)), jprA hJ h11 hlb (by omega) hN, Option.bind_some, jnxA hJ h11 (by omega) hN, Option.bind_some]
      have hRc : (match cSt n fi la (t, worst, left) with | none => (t, worst, left) | some st' => cR n fi la (c - 1) st') = stf := by
        rw [← hR]
        conv => rhs; rw [show c = c - 1 + 1 by omega]
        rfl
      cases hp : cPr fi la left t n with
      | none =>
        cases hx : cNx fi t n with
        | none =>
          have hs : cSt n fi la (t, worst, left) = none := by
            unfold cSt
            dsimp only
            rw [hp, hx]
            rfl
          rw [hs] at hRc
          have e : (t, worst, left) = stf := hRc
          rw [if_pos (show jopt none = -1 from rfl), Option.bind_some, if_pos (show jopt none = -1 from rfl), Option.bind_some, if_pos (show jopt none = -1 from rfl), ← e]
          exact ⟨_, rfl, Or.inr ⟨_, rfl, ⟨j, hI⟩, Or.inl ⟨M11, rfl, hf⟩⟩⟩
        | some v =>
          have hs : cSt n fi la (t, worst, left) = some (v, worst, left) := by
            unfold cSt
            dsimp only
            rw [hp, hx]
            rfl
          rw [hs] at hRc
          obtain ⟨a1, ⟨i, a2, a3⟩, -⟩ := cNx_s n v hx
          have hi := (hJ.2 i a2).1
          rw [if_pos (show jopt none = -1 from rfl), Option.bind_some, show jopt (some v) = nI v from rfl, if_neg (show ¬ nI v = -1 from jnm1 (by omega)), Option.bind_some, jminN (by omega) (by omega), Nat.min_self, if_neg (show ¬ nI v = -1 from jnm1 (by omega)), if_pos (show jopt none = -1 from rfl), Option.bind_some]
          exact ⟨_, rfl, Or.inl ⟨_, c - 1, rfl, by omega, j + 1, (v, worst, left), by omega, nI_1 j, rfl, rfl, hl, ci_st hJ hI hs, hRc, hf⟩⟩
      | some jb =>
        obtain ⟨b1, b2, b3, b4⟩ := cPr_s n jb hp
        obtain ⟨un, hun⟩ : ∃ un, un = cUn n fi (t, worst, left) jb := ⟨_, rfl⟩
        have hub := cUn_b (n := n) (fi := fi) (st := (t, worst, left)) (jb := jb) b2
        rw [← hun] at hub
        dsimp only at hub
        have hs : cSt n fi la (t, worst, left) = some (un, if left jb - (un - t) = 0 then max worst (un + la jb) else worst, addN left jb (left jb - (un - t))) := by
          unfold cSt
          dsimp only
          rw [hp, hun]
        rw [hs] at hRc
        have hjb := hJ.2 jb b1
        have hlj := (hlb jb b1).2
        have hu30 : ((if jopt (cNx fi t n) = (-1) then some (nI (t + left jb)) else some (jmin (nI (t + left jb)) (jopt (cNx fi t n)))) : Option Int32) = some (nI un) := by
          rw [hun]
          unfold cUn
          dsimp only
          cases hx : cNx fi t n with
          | none => rw [if_pos (show jopt none = -1 from rfl)]
          | some v =>
            obtain ⟨a1, ⟨i, a2, a3⟩, -⟩ := cNx_s n v hx
            have hi := (hJ.2 i a2).1
            rw [show jopt (some v) = nI v from rfl, if_neg (show ¬ nI v = -1 from jnm1 (by omega)), jminN (by omega) (by omega)]
        obtain ⟨M37, u37, f37, v37⟩ := jupX M11 82 jb (nI (left jb - (un - t)))
        rw [show jopt (some jb) = nI jb from rfl, if_neg (show ¬ nI jb = -1 from jnm1 (by omega)), jrd_nI (show jb < 32 by omega) (by decide), Option.bind_some, Option.bind_some, hl jb b1, nI_add, hu30, Option.bind_some, if_neg (show ¬ nI un = -1 from jnm1 (by omega)), if_neg (show ¬ nI jb = -1 from jnm1 (by omega)), Option.bind_some, jsubN (show t ≤ un by omega), jsubN (show un - t ≤ left jb by omega), jwr_nI (show jb < 32 by omega) (by decide), u37, Option.bind_some, jrd_nI (show jb < 32 by omega) (by decide), v37, Option.bind_some, jrd_nI (show jb < 32 by omega) (by decide), Option.bind_some, show M37 80 jb = nI (la jb) by rw [f37 _ _ (by omega)]; exact (h11.2 jb b1).2.1, nI_add, jmaxN (by omega) (by omega)]
        have hw2 : ((if nI (left jb - (un - t)) = 0 then some (nI (max worst (un + la jb))) else some (nI worst)) : Option Int32) = some (nI (if left jb - (un - t) = 0 then max worst (un + la jb) else worst)) := by
          by_cases z : left jb - (un - t) = 0
          · rw [if_pos (show nI (left jb - (un - t)) = 0 by rw [z]; rfl), if_pos z]
          · rw [if_neg (show ¬ nI (left jb - (un - t)) = 0 by rw [jeqL (by omega) (by decide)]; exact z), if_neg z]
        rw [hw2, Option.bind_some, Option.bind_some]
        refine ⟨_, rfl, Or.inl ⟨_, c - 1, rfl, by omega, j + 1, _, by omega, nI_1 j, rfl, rfl, fun k hk => ?_, ci_st hJ hI hs, hRc, fun a i z => ?_⟩⟩
        · show M37 82 k = nI (if k = jb then left jb - (un - t) else left k)
          by_cases e : k = jb
          · rw [if_pos e, e]
            exact v37
          · rw [if_neg e, f37 _ _ (by omega)]
            exact hl k hk
        · show M37 a i = _
          rw [f37 _ _ (by omega)]
          exact hf a i z
  · rcases hx with ⟨h1, ⟨M', hx, h2⟩ | ⟨M', hx, -⟩⟩
    · cases hx
      exact ⟨rfl, h1, h2⟩
    · cases hx
  · rcases hx with ⟨h1, ⟨M', hx, -⟩ | ⟨M', hx, h2⟩⟩
    · cases hx
    · cases hx
      exact ⟨_, rfl, rfl, h1, h2⟩
