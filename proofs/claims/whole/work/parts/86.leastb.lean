/-! the least day: the model -/
section MB
variable {M : JMem} {N n : Nat} {F : FT} {ah : Nat → Int32} {st : LT}
theorem jpushB {wt : Nat} (hw : M 221 44 = nI wt) (hwt : wt ≤ 150) (hN : 100 ≤ N) : ∃ M', f_X8_pushCase N M = some M' ∧ (M' 221 44 = nI (wt + 1) ∧ (∀ s, s < 32 → M' 255 (32 * wt + s) = M 244 s) ∧ ∀ a i, ¬ ((a = 255 ∧ 32 * wt ≤ i ∧ i < 32 * wt + 32) ∨ (a = 221 ∧ i = 44)) → M' a i = M a i) := by
  unfold f_X8_pushCase
  refine jB (jLp_tot (fun c (z : Int32 × JMem) => ∃ s, c + s = 32 ∧ z.1 = nI s ∧ (∀ u, u < s → z.2 255 (32 * wt + u) = M 244 u) ∧ ∀ a i, ¬ (a = 255 ∧ 32 * wt ≤ i ∧ i < 32 * wt + 32) → z.2 a i = M a i) (fun x => (∀ u, u < 32 → x 255 (32 * wt + u) = M 244 u) ∧ ∀ a i, ¬ (a = 255 ∧ 32 * wt ≤ i ∧ i < 32 * wt + 32) → x a i = M a i) ?_ N 32 (0, M) (by omega) ⟨0, by omega, rfl, fun u hu => absurd hu (Nat.not_lt_zero u), fun _ _ _ => rfl⟩) ?_
  · rintro c ⟨z7, M8⟩ ⟨s, hc, hz, hp, hf⟩
    dsimp only at hz hp hf ⊢
    subst hz
    rcases Nat.eq_zero_or_pos c with en | en
    · rw [if_pos (show (32 : Int32) ≤ nI s by rw [jLle (by omega) (by decide)]; omega)]
      exact ⟨_, rfl, Or.inr ⟨_, rfl, fun u hu => hp u (by omega), hf⟩⟩
    · rw [if_neg (show ¬ (32 : Int32) ≤ nI s by rw [jLle (by omega) (by decide)]; omega), jrd_nI (show s < 32 by omega) (by decide), Option.bind_some, hf 221 44 (by omega), hw, jmul32, nI_add, jwr_nI (show 32 * wt + s < 6720 by omega) (by decide), Option.bind_some, hf 244 s (by omega)]
      refine ⟨_, rfl, Or.inl ⟨_, c - 1, rfl, by omega, s + 1, by omega, nI_1 s, fun u hu => ?_, fun a i z => ?_⟩⟩
      · show jup M8 255 (32 * wt + s) (M 244 s) 255 (32 * wt + u) = _
        rw [jup_at]
        by_cases e : u = s
        · rw [if_pos ⟨rfl, by omega⟩, e]
        · rw [if_neg (by omega)]
          exact hp u (by omega)
      · show jup M8 255 (32 * wt + s) (M 244 s) a i = _
        rw [jup_at, if_neg (by omega)]
        exact hf a i z
  · rintro t9 ⟨p1, p2⟩
    obtain ⟨Ma, ua, fa, va⟩ := jupX t9 221 44 (nI (wt + 1))
    rw [p2 221 44 (by omega), hw, nI_1, ua, Option.bind_some]
    exact ⟨Ma, rfl, va, fun s hs => (fa _ _ (by omega)).trans (p1 s hs), fun a i z => (fa _ _ (by omega)).trans (p2 a i (by omega))⟩
theorem jpopB {wt : Nat} (hw : M 221 44 = nI wt) (hwt : wt ≤ 150) (h0 : 0 < wt) (hN : 100 ≤ N) : ∃ M', f_X8_popCase N M = some M' ∧ (M' 221 44 = nI (wt - 1) ∧ (∀ s, s < 32 → M' 244 s = M 255 (32 * (wt - 1) + s)) ∧ ∀ a i, ¬ (a = 244 ∨ (a = 221 ∧ i = 44)) → M' a i = M a i) := by
  obtain ⟨Ma, ua, fa, va⟩ := jupX M 221 44 (nI (wt - 1))
  unfold f_X8_popCase
  rw [hw, jsub1 h0, ua, Option.bind_some]
  refine jB (jLp_tot (fun c (z : Int32 × JMem) => ∃ s, c + s = 32 ∧ z.1 = nI s ∧ (∀ u, u < s → z.2 244 u = M 255 (32 * (wt - 1) + u)) ∧ ∀ a i, a ≠ 244 → z.2 a i = Ma a i) (fun x => (∀ u, u < 32 → x 244 u = M 255 (32 * (wt - 1) + u)) ∧ ∀ a i, a ≠ 244 → x a i = Ma a i) ?_ N 32 (0, Ma) (by omega) ⟨0, by omega, rfl, fun u hu => absurd hu (Nat.not_lt_zero u), fun _ _ _ => rfl⟩) (fun x hx => ⟨x, rfl, by rw [hx.2 _ _ (by omega)]; exact va, hx.1, fun a i z => by rw [hx.2 a i (by omega), fa a i (by omega)]⟩)
  rintro c ⟨z7, M8⟩ ⟨s, hc, hz, hp, hf⟩
  dsimp only at hz hp hf ⊢
  subst hz
  rcases Nat.eq_zero_or_pos c with en | en
  · rw [if_pos (show (32 : Int32) ≤ nI s by rw [jLle (by omega) (by decide)]; omega)]
    exact ⟨_, rfl, Or.inr ⟨_, rfl, fun u hu => hp u (by omega), hf⟩⟩
  · rw [if_neg (show ¬ (32 : Int32) ≤ nI s by rw [jLle (by omega) (by decide)]; omega), hf 221 44 (by omega), va, jmul32, nI_add, jrd_nI (show 32 * (wt - 1) + s < 6720 by omega) (by decide), Option.bind_some, jwr_nI (show s < 32 by omega) (by decide), Option.bind_some, hf 255 _ (by omega), fa _ _ (by omega)]
    refine ⟨_, rfl, Or.inl ⟨_, c - 1, rfl, by omega, s + 1, by omega, nI_1 s, fun u hu => ?_, fun a i z => ?_⟩⟩
    · show jup M8 244 s (M 255 (32 * (wt - 1) + s)) 244 u = _
      rw [jup_at]
      by_cases e : u = s
      · rw [if_pos ⟨rfl, e⟩, e]
      · rw [if_neg (by omega)]
        exact hp u (by omega)
    · show jup M8 244 s (M 255 (32 * (wt - 1) + s)) a i = _
      rw [jup_ne z]
      exact hf a i z
theorem jah8 {f g : Nat} (h : ∀ s, s < 32 → M 244 s = ah s) (hf : f < 32) (hg : g < 32) : f_X8_isAhead M (nI f) (nI g) = some (if bt (ah f) g = true then 1 else 0) := by
  unfold f_X8_isAhead
  rw [jrd_nI hf (by decide), Option.bind_some, h f hf, jb1 _ hg]
  by_cases e : bt (ah f) g = true
  · rw [if_pos e, if_pos rfl]
  · rw [if_neg e, if_neg (by decide)]
theorem jaoB (hW : WF F) (hB : BF M F) (h : ∀ s, s < 32 → M 244 s = ah s) {s : Nat} (hs : s < F.ns) (hN : 100 ≤ N) : f_X8_aheadOf N M (nI s) = some (nI (F.ao ah s)) := by
  have hns := hW.2.2.1.1
  have n10 : ¬ (1 : Int32) = 0 := by decide
  unfold f_X8_aheadOf
  rw [show ((0 : Int32), (0 : Int32)) = (fun j => (nI (fF (fun f (c : Nat) => if bt (ah f) s = true then c + 1 else c) 0 j 0), nI j)) 0 from rfl]
  rw [jLp_for (fun j => (nI (fF (fun f (c : Nat) => if bt (ah f) s = true then c + 1 else c) 0 j 0), nI j)) (r := nI (F.ao ah s)) F.ns 0 N (by omega) (fun a ha1 ha2 => ?_) ?_, Option.bind_some]
  · show (if M 221 11 ≤ nI (0 + F.ns) then _ else _) = _
    rw [hB.2.2.1, Nat.zero_add, if_pos (jleT (Nat.le_refl _) (by omega))]
    rfl
  · dsimp only
    rw [if_neg (show ¬ M 221 11 ≤ nI a by rw [hB.2.2.1]; exact jleF (by omega) (by omega)), jah8 h (by omega) (by omega), Option.bind_some, nI_1]
    show _ = some (Sum.inl (nI (if bt (ah (0 + a)) s = true then fF (fun f (c : Nat) => if bt (ah f) s = true then c + 1 else c) 0 a 0 + 1 else fF (fun f (c : Nat) => if bt (ah f) s = true then c + 1 else c) 0 a 0), nI (a + 1)))
    rw [Nat.zero_add]
    by_cases e : bt (ah a) s = true
    · rw [if_pos e, if_neg n10, Option.bind_some, if_pos e, nI_1]
    · rw [if_neg e, if_pos rfl, Option.bind_some, if_neg e, Int32.add_zero]
theorem jarrB (hW : WF F) (hB : BF M F) (h : ∀ s, s < 32 → M 244 s = ah s) {m : Nat} (hm : m < F.nm) (row : Nat → Nat) (hN : 100 ≤ N) : ∃ M', f_X8_arrange N M (nI m) = some M' ∧ ((∀ i, i < (F.srt ah m row).1 → M' 231 (32 * m + i) = nI ((F.srt ah m row).2 i)) ∧ ∀ a j, ¬ (a = 231 ∧ 32 * m ≤ j ∧ j < 32 * m + 32) → M' a j = M a j) := by
  have hns := hW.2.2.1.1
  have n10 : ¬ (1 : Int32) = 0 := by decide
  have hm8 : m < 8 := Nat.lt_of_lt_of_le hm hW.1.1
  unfold f_X8_arrange
  refine jB (jLp_tot (fun c (z : Int32 × Int32 × JMem) => ∃ s zz, c + s = F.ns ∧ z.2.1 = nI s ∧ zz = fF (fun s z => if F.mc s = m then ins1 (F.ao ah) s z else z) 0 s (0, row) ∧ z.1 = nI zz.1 ∧ zz.1 ≤ s ∧ (∀ i, i < zz.1 → zz.2 i < F.ns ∧ z.2.2 231 (32 * m + i) = nI (zz.2 i)) ∧ ∀ a j, ¬ (a = 231 ∧ 32 * m ≤ j ∧ j < 32 * m + 32) → z.2.2 a j = M a j) (fun x => (∀ i, i < (F.srt ah m row).1 → x 231 (32 * m + i) = nI ((F.srt ah m row).2 i)) ∧ ∀ a j, ¬ (a = 231 ∧ 32 * m ≤ j ∧ j < 32 * m + 32) → x a j = M a j) ?_ N F.ns (0, 0, M) (by omega) ⟨0, (0, row), by omega, rfl, rfl, rfl, Nat.le_refl _, fun i hi => absurd hi (Nat.not_lt_zero i), fun _ _ _ => rfl⟩) (fun x hx => ⟨x, rfl, hx⟩)
  rintro c ⟨z7, z8, M9⟩ ⟨s, ⟨cn, r⟩, hc, hz, hzz, hz7, hcs, hp, hf⟩
  dsimp only at hz hz7 hcs hp hf ⊢
  subst hz hz7
  have hB9 : BF M9 F := hB.fr ⟨hf _ _ (by omega), hf _ _ (by omega), hf _ _ (by omega)⟩ (fun b j _ _ => hf b j (by omega))
  rcases Nat.eq_zero_or_pos c with en | en
  · rw [if_pos (show M9 221 11 ≤ nI s by rw [hB9.2.2.1]; exact jleT (by omega) (by omega))]
    have es : s = F.ns := by omega
    subst es
    have e2 : F.srt ah m row = (cn, r) := hzz.symm
    rw [e2]
    exact ⟨_, rfl, Or.inr ⟨_, rfl, fun i hi => (hp i hi).2, hf⟩⟩
  · have hs : s < F.ns := by omega
    have ef : fF (fun s z => if F.mc s = m then ins1 (F.ao ah) s z else z) 0 (s + 1) (0, row) = if F.mc s = m then ins1 (F.ao ah) s (cn, r) else (cn, r) := by
      show (if F.mc (0 + s) = m then ins1 (F.ao ah) (0 + s) (fF (fun s z => if F.mc s = m then ins1 (F.ao ah) s z else z) 0 s (0, row)) else (fF (fun s z => if F.mc s = m then ins1 (F.ao ah) s z else z) 0 s (0, row))) = _
      rw [Nat.zero_add, ← hzz]
    rw [if_neg (show ¬ M9 221 11 ≤ nI s by rw [hB9.2.2.1]; exact jleF (by omega) (by omega)), jisOn hW hB9 hs hm8, Option.bind_some]
    by_cases e0 : F.mc s = m
    · rw [if_pos e0, if_neg n10]
      rw [if_pos e0] at ef
      obtain ⟨p, hpp⟩ : ∃ p, p = insP (F.ao ah) r s cn := ⟨_, rfl⟩
      have hple := insP_le (key := F.ao ah) (row := r) (s := s) cn
      rw [← hpp] at hple
      refine jB (P := fun (y : Int32 × JMem) => y.1 = nI (cn + 1) ∧ (∀ i, i < cn + 1 → y.2 231 (32 * m + i) = nI (insR r p cn s i)) ∧ ∀ a j, ¬ (a = 231 ∧ 32 * m ≤ j ∧ j < 32 * m + 32) → y.2 a j = M a j) ?_ ?_
      · refine jB (jLp_tot (fun k (z : Int32 × JMem) => k ≤ cn ∧ z.1 = nI k ∧ insP (F.ao ah) r s k = p ∧ (∀ i, i < k → z.2 231 (32 * m + i) = nI (r i)) ∧ (∀ i, k < i → i ≤ cn → z.2 231 (32 * m + i) = nI (r (i - 1))) ∧ ∀ a j, ¬ (a = 231 ∧ 32 * m ≤ j ∧ j < 32 * m + 32) → z.2 a j = M a j) (fun x => x.1 = nI p ∧ (∀ i, i < p → x.2 231 (32 * m + i) = nI (r i)) ∧ (∀ i, p < i → i ≤ cn → x.2 231 (32 * m + i) = nI (r (i - 1))) ∧ ∀ a j, ¬ (a = 231 ∧ 32 * m ≤ j ∧ j < 32 * m + 32) → x.2 a j = M a j) ?_ N cn (nI cn, M9) (by omega) ⟨Nat.le_refl _, rfl, hpp.symm, fun i hi => (hp i hi).2, fun i h1 h2 => absurd h1 (by omega), hf⟩) ?_
        · rintro k ⟨z23, M24⟩ ⟨hk, hz1, hpk, q1, q2, q3⟩
          dsimp only at hz1 q1 q2 q3 ⊢
          subst hz1
          have hB24 : BF M24 F := hB.fr ⟨q3 _ _ (by omega), q3 _ _ (by omega), q3 _ _ (by omega)⟩ (fun b j _ _ => q3 b j (by omega))
          have h24 : ∀ s, s < 32 → M24 244 s = ah s := fun s hs => by rw [q3 _ _ (by omega)]; exact h s hs
          rcases Nat.eq_zero_or_pos k with ek | ek
          · rw [if_pos (show nI k ≤ 0 by rw [ek]; decide)]
            rw [ek] at hpk
            have hp0 : p = 0 := hpk.symm
            exact ⟨_, rfl, Or.inr ⟨_, rfl, by rw [hp0, ek], fun i hi => by omega, fun i h1 h2 => q2 i (by omega) h2, q3⟩⟩
          · have hr := (hp (k - 1) (by omega)).1
            have e1 : k - 1 + 1 = k := by omega
            have hpk2 : (if F.ao ah s < F.ao ah (r (k - 1)) then insP (F.ao ah) r s (k - 1) else k - 1 + 1) = p := by
              rw [← hpk]
              conv => rhs; rw [← e1]
              rfl
            have l1 := ao_le (F := F) (ah := ah) (s := s)
            have l2 := ao_le (F := F) (ah := ah) (s := r (k - 1))
            rw [if_neg (show ¬ nI k ≤ 0 by rw [jleL (by omega) (by decide)]; omega), jmul32, nI_add, jsub1 (by omega), jrd_nI (show 32 * m + k - 1 < 256 by omega) (by decide), Option.bind_some, show 32 * m + k - 1 = 32 * m + (k - 1) by omega, q1 (k - 1) (by omega), jaoB hW hB24 h24 hr hN, Option.bind_some, jaoB hW hB24 h24 hs hN, Option.bind_some]
            by_cases e : F.ao ah s < F.ao ah (r (k - 1))
            · rw [if_pos e] at hpk2
              rw [if_neg (show ¬ nI (F.ao ah (r (k - 1))) ≤ nI (F.ao ah s) from jleF e (by omega)), Option.bind_some, jwr_nI (show 32 * m + k < 256 by omega) (by decide), Option.bind_some]
              refine ⟨_, rfl, Or.inl ⟨_, k - 1, rfl, by omega, by omega, ?_, hpk2, fun i hi => ?_, fun i h1 h2 => ?_, fun b j hb => ?_⟩⟩
              · show nI k + -1 = _
                rw [← Int32.sub_eq_add_neg, jsub1 ek]
              · show jup M24 231 (32 * m + k) (nI (r (k - 1))) 231 (32 * m + i) = _
                rw [jup_at, if_neg (by omega)]
                exact q1 i (by omega)
              · show jup M24 231 (32 * m + k) (nI (r (k - 1))) 231 (32 * m + i) = _
                rw [jup_at]
                by_cases e2 : i = k
                · rw [if_pos ⟨rfl, by omega⟩, e2]
                · rw [if_neg (by omega)]
                  exact q2 i (by omega) h2
              · show jup M24 231 (32 * m + k) (nI (r (k - 1))) b j = _
                rw [jup_at, if_neg (by omega)]
                exact q3 b j hb
            · rw [if_neg e] at hpk2
              rw [if_pos (show nI (F.ao ah (r (k - 1))) ≤ nI (F.ao ah s) from jleT (by omega) (by omega))]
              have hkp : k = p := by omega
              subst hkp
              exact ⟨_, rfl, Or.inr ⟨_, rfl, rfl, q1, q2, q3⟩⟩
        · rintro ⟨t25, t26⟩ ⟨g1, g2, g3, g4⟩
          dsimp only at g1 g2 g3 g4 ⊢
          subst g1
          rw [jmul32, nI_add, jwr_nI (show 32 * m + p < 256 by omega) (by decide), Option.bind_some, nI_1]
          refine ⟨_, rfl, rfl, fun i hi => ?_, fun b j hb => ?_⟩
          · show jup t26 231 (32 * m + p) (nI s) 231 (32 * m + i) = _
            rw [jup_at]
            unfold insR
            by_cases z1 : i < p
            · rw [if_neg (by omega), if_pos z1]
              exact g2 i z1
            · by_cases z2 : i = p
              · rw [if_pos ⟨rfl, by omega⟩, if_neg z1, if_pos z2]
              · rw [if_neg (by omega), if_neg z1, if_neg z2, if_pos (by omega)]
                exact g3 i (by omega) (by omega)
          · show jup t26 231 (32 * m + p) (nI s) b j = _
            rw [jup_at, if_neg (by omega)]
            exact g4 b j hb
      · rintro ⟨u36, M37⟩ ⟨g1, g2, g3⟩
        dsimp only at g1 g2 g3 ⊢
        subst g1
        refine ⟨_, rfl, Or.inl ⟨_, c - 1, rfl, by omega, s + 1, ins1 (F.ao ah) s (cn, r), by omega, nI_1 s, ef.symm, rfl, by show cn + 1 ≤ s + 1; omega, fun i hi => ⟨?_, ?_⟩, g3⟩⟩
        · have hi2 : i < cn + 1 := hi
          show insR r (insP (F.ao ah) r s cn) cn s i < F.ns
          unfold insR
          rw [← hpp]
          by_cases z1 : i < p
          · rw [if_pos z1]
            exact (hp i (by omega)).1
          · rw [if_neg z1]
            by_cases z2 : i = p
            · rw [if_pos z2]
              exact hs
            · rw [if_neg z2, if_pos (by omega)]
              exact (hp (i - 1) (by omega)).1
        · show M37 231 (32 * m + i) = nI (insR r (insP (F.ao ah) r s cn) cn s i)
          rw [← hpp]
          exact g2 i hi
    · rw [if_neg e0, if_pos rfl, Option.bind_some]
      rw [if_neg e0] at ef
      exact ⟨_, rfl, Or.inl ⟨_, c - 1, rfl, by omega, s + 1, (cn, r), by omega, nI_1 s, ef.symm, rfl, by show cn ≤ s + 1; omega, hp, hf⟩⟩
theorem srt_n (hW : WF F) (m : Nat) (row : Nat → Nat) : (F.srt ah m row).1 = F.oc m := by
  rw [← srt_on hW]
  exact (ins_ok (f := F.on m) (key := F.ao ah) (F.oc m) row (fun i j h1 h2 z => by have := hW.2.2.2.2.2.2.1 m i j h1 h2; omega)).1
end MB
def LB (M : JMem) (F : FT) (st : LT) : Prop := M 221 45 = nI st.1 ∧ M 221 46 = nI st.2.1 ∧ M 221 47 = nI st.2.2.1 ∧ M 221 44 = nI st.2.2.2.1 ∧ (∀ i s, i < st.2.2.2.1 → s < 32 → M 255 (32 * i + s) = st.2.2.2.2.1 i s) ∧ BO M F st.2.2.2.2.2
section MC
variable {M : JMem} {N n : Nat} {F : FT} {ah : Nat → Int32} {st : LT}
/-- 256 places copied -/
theorem jcopyK {a b : Nat} (hab : a ≠ b) (hN : 300 ≤ N) : ∃ x, jLp (σ := Int32 × JMem) (ρ := JMem) N (fun ((z7, M8) : Int32 × JMem) => (if 256 ≤ z7 then some (Sum.inr M8) else (jrd M8 a 256 z7).bind fun v10 => (jwr M8 b 256 z7 v10).bind fun M11 => some (Sum.inl (z7 + 1, M11)))) (0, M) = some x ∧ ((∀ k, k < 256 → x b k = M a k) ∧ ∀ c j, ¬ (c = b ∧ j < 256) → x c j = M c j) := by
  refine jLp_tot (fun c (z : Int32 × JMem) => ∃ s, c + s = 256 ∧ z.1 = nI s ∧ (∀ u, u < s → z.2 b u = M a u) ∧ ∀ c j, ¬ (c = b ∧ j < 256) → z.2 c j = M c j) _ ?_ N 256 (0, M) (by omega) ⟨0, by omega, rfl, fun u hu => absurd hu (Nat.not_lt_zero u), fun _ _ _ => rfl⟩
  rintro c ⟨z7, M8⟩ ⟨s, hc, hz, hp, hf⟩
  dsimp only at hz hp hf ⊢
  subst hz
  rcases Nat.eq_zero_or_pos c with en | en
  · rw [if_pos (show (256 : Int32) ≤ nI s by rw [jLle (by omega) (by decide)]; omega)]
    exact ⟨_, rfl, Or.inr ⟨_, rfl, fun u hu => hp u (by omega), hf⟩⟩
  · rw [if_neg (show ¬ (256 : Int32) ≤ nI s by rw [jLle (by omega) (by decide)]; omega), jrd_nI (show s < 256 by omega) (by decide), Option.bind_some, jwr_nI (show s < 256 by omega) (by decide), Option.bind_some, hf a s (fun z => hab z.1)]
    refine ⟨_, rfl, Or.inl ⟨_, c - 1, rfl, by omega, s + 1, by omega, nI_1 s, fun u hu => ?_, fun d i z => ?_⟩⟩
    · show jup M8 b s (M a s) b u = _
      rw [jup_at]
      by_cases e : u = s
      · rw [if_pos ⟨rfl, e⟩, e]
      · rw [if_neg (by omega)]
        exact hp u (by omega)
    · show jup M8 b s (M a s) d i = _
      rw [jup_at, if_neg (by omega)]
      exact hf d i z
theorem jtryB (hW : WF F) (hB : BF M F) (hL : LB M F st) (hO : WO F st.2.2.2.2.2) (hb : st.1 ≤ 40000) (hfi : st.2.2.1 ≤ 1000) (h : ∀ s, s < 32 → M 244 s = ah s) (hN : 300 ≤ N) : ∃ M', f_X8_complete N M = some M' ∧ (LB M' F (F.lT ah st) ∧ ∀ a i, ¬ (a = 231 ∨ (a = 221 ∧ (i = 21 ∨ i = 45 ∨ i = 47)) ∨ (237 ≤ a ∧ a ≤ 239) ∨ a = 256) → M' a i = M a i) := by
  obtain ⟨l1, l2, l3, l4, l5, l6⟩ := id hL
  have hns := hW.2.2.1.1
  have hnm := hW.1.1
  have n10 : ¬ (1 : Int32) = 0 := by decide
  unfold f_X8_complete
  refine jB (jcopyK (M := M) (a := 231) (b := 256) (by decide) hN) (fun t9 ⟨c1, c2⟩ => ?_)
  refine jB (jLp_tot (fun c (z : Int32 × JMem) => ∃ m, c + m = F.nm ∧ z.1 = nI m ∧ BO z.2 F (fun x => if x < m then F.arr ah st.2.2.2.2.2 x else st.2.2.2.2.2 x) ∧ ∀ a j, a ≠ 231 → z.2 a j = t9 a j) (fun x => BO x F (F.arr ah st.2.2.2.2.2) ∧ ∀ a j, a ≠ 231 → x a j = t9 a j) ?_ N F.nm (0, t9) (by omega) ⟨0, by omega, rfl, l6.fr (fun a i _ _ => c2 a i (by omega)), fun _ _ _ => rfl⟩) ?_
  · rintro c ⟨z8, M9⟩ ⟨m, hc, hz, hp, hf⟩
    dsimp only at hz hp hf ⊢
    subst hz
    have hB9 : BF M9 F := hB.fr ⟨by rw [hf _ _ (by omega), c2 _ _ (by omega)], by rw [hf _ _ (by omega), c2 _ _ (by omega)], by rw [hf _ _ (by omega), c2 _ _ (by omega)]⟩ (fun b j _ _ => by rw [hf _ _ (by omega), c2 _ _ (by omega)])
    rcases Nat.eq_zero_or_pos c with en | en
    · rw [if_pos (show M9 221 2 ≤ nI m by rw [hB9.1]; exact jleT (by omega) (by omega))]
      refine ⟨_, rfl, Or.inr ⟨_, rfl, ⟨hp.1, fun x i hx hi => ?_⟩, hf⟩⟩
      have := hp.2 x i hx hi
      dsimp only at this
      by_cases e : x < m
      · rw [if_pos e] at this
        exact this
      · rw [hW.2.2.2.1 x (by omega)] at hi
        exact absurd hi (Nat.not_lt_zero i)
    · have hm : m < F.nm := by omega
      have hk := (hW.1.2 m hm).1
      have go : ∀ M', (∀ i, i < F.oc m → M' 231 (32 * m + i) = nI (F.arr ah st.2.2.2.2.2 m i)) → (∀ a j, ¬ (a = 231 ∧ 32 * m ≤ j ∧ j < 32 * m + 32) → M' a j = M9 a j) → ∃ x : (Int32 × JMem) ⊕ JMem, some (Sum.inl (nI m + 1, M')) = some x ∧ ((∃ s' m_1, x = Sum.inl s' ∧ m_1 < c ∧ ∃ m, m_1 + m = F.nm ∧ s'.1 = nI m ∧ BO s'.2 F (fun x => if x < m then F.arr ah st.2.2.2.2.2 x else st.2.2.2.2.2 x) ∧ ∀ a j, a ≠ 231 → s'.2 a j = t9 a j) ∨ ∃ r, x = Sum.inr r ∧ BO r F (F.arr ah st.2.2.2.2.2) ∧ ∀ a j, a ≠ 231 → r a j = t9 a j) := by
        intro M' g1 g2
        refine ⟨_, rfl, Or.inl ⟨_, c - 1, rfl, by omega, m + 1, by omega, nI_1 m, ⟨fun x hx => ?_, fun x i hx hi => ?_⟩, fun a j z => ?_⟩⟩
        · show M' 232 x = _
          rw [g2 _ _ (by omega)]
          exact hp.1 x hx
        · show M' 231 (32 * x + i) = nI ((if x < m + 1 then F.arr ah st.2.2.2.2.2 x else st.2.2.2.2.2 x) i)
          have h32 := hW.2.2.2.2.1 x
          by_cases e : x = m
          · rw [if_pos (by omega), e]
            rw [e] at hi
            exact g1 i hi
          · have := hp.2 x i hx hi
            dsimp only at this
            rw [g2 _ _ (by omega), this]
            by_cases e2 : x < m
            · rw [if_pos e2, if_pos (by omega)]
            · rw [if_neg e2, if_neg (by omega)]
        · show M' a j = _
          rw [g2 _ _ (by omega)]
          exact hf a j z
      rw [if_neg (show ¬ M9 221 2 ≤ nI m by rw [hB9.1]; exact jleF (by omega) (by omega)), jrd_nI (show m < 8 by omega) (by decide), Option.bind_some, (hB9.2.2.2.1 m hm).1]
      by_cases e : F.kd m = 0
      · rw [if_pos (show nI (F.kd m) = 0 by rw [e]; rfl)]
        have hh : ∃ M', ((f_X8_arrange N M9 (nI m)).bind fun M28 => some M28) = some M' ∧ ((∀ i, i < (F.srt ah m (st.2.2.2.2.2 m)).1 → M' 231 (32 * m + i) = nI ((F.srt ah m (st.2.2.2.2.2 m)).2 i)) ∧ ∀ a j, ¬ (a = 231 ∧ 32 * m ≤ j ∧ j < 32 * m + 32) → M' a j = M9 a j) := jB (jarrB (ah := ah) hW hB9 (fun s hs => by rw [hf _ _ (by omega), c2 _ _ (by omega)]; exact h s hs) hm (st.2.2.2.2.2 m) (by omega)) (fun x hx => ⟨x, rfl, hx⟩)
        refine jB hh (fun M' ⟨g1, g2⟩ => go M' (fun i hi => ?_) g2)
        rw [g1 i (by rw [srt_n hW]; exact hi)]
        unfold FT.arr
        rw [if_pos ⟨hm, e⟩]
      · rw [if_neg (show ¬ nI (F.kd m) = 0 by rw [jeqL (by omega) (by decide)]; exact e), Option.bind_some]
        refine go M9 (fun i hi => ?_) (fun _ _ _ => rfl)
        have := hp.2 m i (by omega) hi
        dsimp only at this
        rw [this, if_neg (by omega)]
        unfold FT.arr
        rw [if_neg (fun z => e z.2)]
  · rintro t21 ⟨p1, p2⟩
    have hO' := arr_wo hW ah hO
    have fr0 : ∀ a i, ¬ (a = 231 ∨ a = 256) → t21 a i = M a i := fun a i z => by rw [p2 a i (by omega), c2 a i (by omega)]
    have hB21 : BF t21 F := hB.fr ⟨fr0 _ _ (by omega), fr0 _ _ (by omega), fr0 _ _ (by omega)⟩ (fun b j _ _ => fr0 b j (by omega))
    obtain ⟨M32, P, b, E, e1, e2, e3, hf⟩ := jworkB (N := N) (F := F) (od := F.arr ah st.2.2.2.2.2) (M := t21) ⟨hW, hO', hB21, p1⟩ (by omega)
    have hdi := day_iff hW hO' e2.1 e3
    have hfr : ∀ a i, ¬ (a = 231 ∨ (a = 221 ∧ i = 21) ∨ (237 ≤ a ∧ a ≤ 239) ∨ a = 256) → M32 a i = M a i := fun a i z => by rw [hf a i (by omega), fr0 a i (by omega)]
    -- back to what was
    have back : F.lT ah st = st → ∃ x, ((jLp (σ := Int32 × JMem) (ρ := JMem) N (fun ((z49, M50) : Int32 × JMem) => (if 256 ≤ z49 then some (Sum.inr M50) else (jrd M50 256 256 z49).bind fun v52 => (jwr M50 231 256 z49 v52).bind fun M53 => some (Sum.inl (z49 + 1, M53)))) (0, M32)).bind fun t51 => some t51) = some x ∧ (LB x F (F.lT ah st) ∧ ∀ a i, ¬ (a = 231 ∨ (a = 221 ∧ (i = 21 ∨ i = 45 ∨ i = 47)) ∨ (237 ≤ a ∧ a ≤ 239) ∨ a = 256) → x a i = M a i) := by
      intro hT
      refine jB (jcopyK (M := M32) (a := 256) (b := 231) (by decide) hN) (fun x ⟨g1, g2⟩ => ⟨x, rfl, ?_, fun a i z => ?_⟩)
      · rw [hT]
        have g3 : ∀ a i, ¬ (a = 231 ∨ (a = 221 ∧ i = 21) ∨ (237 ≤ a ∧ a ≤ 239) ∨ a = 256) → x a i = M a i := fun a i z => by rw [g2 a i (by omega), hfr a i (by omega)]
        refine ⟨(g3 _ _ (by omega)).trans l1, (g3 _ _ (by omega)).trans l2, (g3 _ _ (by omega)).trans l3, (g3 _ _ (by omega)).trans l4, fun i s hi hs => (g3 _ _ (by omega)).trans (l5 i s hi hs), fun m hm => (g3 _ _ (by omega)).trans (l6.1 m hm), fun m i hm hi => ?_⟩
        have h32 := hW.2.2.2.2.1 m
        rw [g1 _ (by omega), hf _ _ (by omega), p2 _ _ (by omega), c1 _ (by omega)]
        exact l6.2 m i hm hi
      · rw [g2 a i (by omega), hfr a i (by omega)]
    rw [e1, Option.bind_some]
    dsimp only
    by_cases ed : fb_ct P F.ns = F.ns
    · have hP := fb_ct_all.mp ed
      have hdy : F.dy (F.arr ah st.2.2.2.2.2) b E := ⟨snd_all e2.1 hP, mx_all e2.2.1 hP⟩
      obtain ⟨d1, d2, d3⟩ := cD_of hW hO' hdy
      have hle := (dy_le hdy hW).1
      have hen := en_some (hdi.mp ed)
      rw [← d2] at hen
      rw [if_pos ed, if_neg n10, hfr 221 45 (by omega), l1, e2.2.2.2.2]
      by_cases hl : E < st.1
      · have hT : F.lT ah st = (E, st.2.1, st.2.2.1 + 1, st.2.2.2.1, st.2.2.2.2.1, F.arr ah st.2.2.2.2.2) := by
          unfold FT.lT
          rw [hen]
          exact if_pos hl
        obtain ⟨Ma, ua, fa, va⟩ := jupX M32 221 45 (nI E)
        obtain ⟨Mb, ub, fb, vb⟩ := jupX Ma 221 47 (nI (st.2.2.1 + 1))
        rw [if_neg (jleF hl (by omega)), ua, Option.bind_some, show Ma 221 47 = nI st.2.2.1 by rw [fa _ _ (by omega), hfr _ _ (by omega)]; exact l3, nI_1, ub, Option.bind_some, jcL, hT]
        refine ⟨Mb, rfl, ⟨?_, ?_, vb, ?_, fun i s hi hs => ?_, p1.fr (fun a i _ _ => ?_)⟩, fun a i z => ?_⟩
        · rw [fb _ _ (by omega)]
          exact va
        · rw [fb _ _ (by omega), fa _ _ (by omega), hfr _ _ (by omega)]
          exact l2
        · rw [fb _ _ (by omega), fa _ _ (by omega), hfr _ _ (by omega)]
          exact l4
        · rw [fb _ _ (by omega), fa _ _ (by omega), hfr _ _ (by omega)]
          exact l5 i s hi hs
        · rw [fb _ _ (by omega), fa _ _ (by omega), hf _ _ (by omega)]
        · rw [fb _ _ (by omega), fa _ _ (by omega), hfr _ _ (by omega)]
      · have hT : F.lT ah st = st := by
          unfold FT.lT
          rw [hen]
          exact if_neg hl
        rw [if_pos (jleT (by omega) (by omega)), jcR]
        exact back hT
    · have hT : F.lT ah st = st := by
        unfold FT.lT
        rw [en_none (fun z => ed (hdi.mpr z))]
      rw [if_neg ed, if_pos rfl, jcR]
      exact back hT
end MC
