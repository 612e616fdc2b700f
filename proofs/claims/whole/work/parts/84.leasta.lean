/-! the least day: the class -/
theorem jCB {α β : Type} {X : Option (α ⊕ β)} {k : β → Option α} {P : α ⊕ β → Prop} {Q : α → Prop} (h : ∃ a, X = some a ∧ P a) (h1 : ∀ a, P (.inl a) → Q a) (h2 : ∀ b, P (.inr b) → ∃ r, k b = some r ∧ Q r) : ∃ r, jcase X k = some r ∧ Q r := by
  obtain ⟨a, e, p⟩ := h
  rw [e]
  cases a with
  | inl a => exact ⟨a, rfl, h1 a p⟩
  | inr b => exact h2 b p
theorem jcpyX (M : JMem) (a b : Nat) : ∃ M1, jcpy M a 32 0 b 32 0 32 = some M1 ∧ (∀ c j, ¬ (c = b ∧ j < 32) → M1 c j = M c j) ∧ ∀ j, j < 32 → M1 b j = M a j := by
  refine ⟨jrow M b (va_cpy (M a) (M b) 0 0 32), rfl, fun c j h => ?_, fun j hj => ?_⟩
  · unfold jrow va_cpy
    by_cases e : c = b
    · rw [if_pos e, if_neg (by omega), e]
    · rw [if_neg e]
  · unfold jrow va_cpy
    rw [if_pos rfl, if_pos (by omega), Nat.zero_add, Nat.sub_zero]
theorem jcpy8X (M : JMem) (a b : Nat) : ∃ M1, jcpy M a 8 0 b 8 0 8 = some M1 ∧ (∀ c j, ¬ (c = b ∧ j < 8) → M1 c j = M c j) ∧ ∀ j, j < 8 → M1 b j = M a j := by
  refine ⟨jrow M b (va_cpy (M a) (M b) 0 0 8), rfl, fun c j h => ?_, fun j hj => ?_⟩
  · unfold jrow va_cpy
    by_cases e : c = b
    · rw [if_pos e, if_neg (by omega), e]
    · rw [if_neg e]
  · unfold jrow va_cpy
    rw [if_pos rfl, if_pos (by omega), Nat.zero_add, Nat.sub_zero]
theorem jtake {M : JMem} {N o r : Nat} {F : FT} {od : Nat → Nat → Nat} (hW : WF F) (h : AO M r F od) (hd : r + 10 < o + 2 ∨ o + 10 < r + 2) (hN : 100 ≤ N) : ∃ M', f_X3_takeFrom N M o r = some M' ∧ (AO M' o F od ∧ ∀ a j, ¬ (o + 2 ≤ a ∧ a ≤ o + 10) → M' a j = M a j) := by
  unfold f_X3_takeFrom
  refine jB (jLp_tot (fun c (z : Int32 × JMem) => ∃ m, c + m = 8 ∧ z.1 = nI m ∧ (∀ m' j, m' < m → j < 32 → z.2 (o + 2 + m') j = M (r + 2 + m') j) ∧ ∀ a j, ¬ (o + 2 ≤ a ∧ a ≤ o + 9) → z.2 a j = M a j) (fun x => (∀ m' j, m' < 8 → j < 32 → x (o + 2 + m') j = M (r + 2 + m') j) ∧ ∀ a j, ¬ (o + 2 ≤ a ∧ a ≤ o + 9) → x a j = M a j) ?_ N 8 (0, M) (by omega) ⟨0, by omega, rfl, fun m' j hm => absurd hm (Nat.not_lt_zero m'), fun _ _ _ => rfl⟩) ?_
  · rintro c ⟨z7, M8⟩ ⟨m, hc, hz, hp, hf⟩
    dsimp only at hz hp hf ⊢
    subst hz
    rcases Nat.eq_zero_or_pos c with en | en
    · rw [if_pos (show (8 : Int32) ≤ nI m by rw [jLle (by omega) (by decide)]; omega)]
      exact ⟨_, rfl, Or.inr ⟨_, rfl, fun m' j hm => hp m' j (by omega), hf⟩⟩
    · obtain ⟨M12, e1, e2, e3⟩ := jcpyX M8 (r + 1 + 1 + m) (o + 1 + 1 + m)
      rw [if_neg (show ¬ (8 : Int32) ≤ nI m by rw [jLle (by omega) (by decide)]; omega), jrw_nI (show m < 8 by omega) (by decide), Option.bind_some, jrw_nI (show m < 8 by omega) (by decide), Option.bind_some, e1, Option.bind_some]
      refine ⟨_, rfl, Or.inl ⟨_, c - 1, rfl, by omega, m + 1, by omega, nI_1 m, fun m' j hm hj => ?_, fun a j z => ?_⟩⟩
      · show M12 (o + 2 + m') j = _
        by_cases e : m' = m
        · rw [e, show o + 2 + m = o + 1 + 1 + m by omega, e3 j hj, show r + 1 + 1 + m = r + 2 + m by omega]
          exact hf _ _ (by omega)
        · rw [e2 _ _ (by omega)]
          exact hp m' j (by omega) hj
      · show M12 a j = _
        rw [e2 _ _ (by omega)]
        exact hf a j z
  · rintro t9 ⟨p1, p2⟩
    obtain ⟨M14, e1, e2, e3⟩ := jcpy8X t9 (r + 10) (o + 10)
    rw [e1, Option.bind_some]
    refine ⟨M14, rfl, ⟨fun m hm => ?_, fun m i hm hi => ?_⟩, fun a j z => ?_⟩
    · rw [e3 m hm, p2 _ _ (by omega)]
      exact h.1 m hm
    · have h32 := hW.2.2.2.2.1 m
      rw [e2 _ _ (by omega), show o + 1 + 1 + m = o + 2 + m by omega, p1 m i hm (by omega), show r + 2 + m = r + 1 + 1 + m by omega]
      exact h.2 m i hm hi
    · rw [e2 _ _ (by omega), p2 _ _ (by omega)]
section LL
variable {M : JMem} {N : Nat} {F : FT} {ah : Nat → Int32}
theorem jah6 {o f g : Nat} (h : ∀ s, s < 32 → M (o + 3) s = ah s) (hf : f < 32) (hg : g < 32) : f_X6_isAhead M o (nI f) (nI g) = some (if bt (ah f) g = true then 1 else 0) := by
  unfold f_X6_isAhead
  rw [jrd_nI hf (by decide), Option.bind_some, h f hf, jb1 _ hg]
  by_cases e : bt (ah f) g = true
  · rw [if_pos e, if_neg (show ¬ (1 : Int32) = 0 by decide)]
  · rw [if_neg e, if_pos rfl]
theorem jaoA (hW : WF F) (hA : AF M F) (h : ∀ s, s < 32 → M 189 s = ah s) (hI : AHI F ah) {s : Nat} (hs : s < F.ns) (hN : 100 ≤ N) : f_X4_aheadOf N M (nI s) = some (nI (F.ao ah s)) := by
  have hns := hW.2.2.1.1
  have n10 : ¬ (1 : Int32) = 0 := by decide
  have hm := (hW.2.2.1.2 s hs).2.1
  have hm8 : F.mc s < 8 := Nat.lt_of_lt_of_le hm hW.1.1
  have hoc := oc_le hW (F.mc s)
  unfold f_X4_aheadOf
  rw [jrd_nI (by omega) (by decide), Option.bind_some, (hA.2.2.2.2.2.2.2.1 s hs).2.1]
  rw [← ao_on hW hI]
  rw [show ((0 : Int32), (0 : Int32)) = (fun j => (nI (fF (fun a (c : Nat) => if bt (ah (F.on (F.mc s) a)) s = true then c + 1 else c) 0 j 0), nI j)) 0 from rfl]
  rw [jLp_for (fun j => (nI (fF (fun a (c : Nat) => if bt (ah (F.on (F.mc s) a)) s = true then c + 1 else c) 0 j 0), nI j)) (r := nI (fF (fun a (c : Nat) => if bt (ah (F.on (F.mc s) a)) s = true then c + 1 else c) 0 (F.oc (F.mc s)) 0)) (F.oc (F.mc s)) 0 N (by omega) (fun a ha1 ha2 => ?_) ?_, Option.bind_some]
  · dsimp only
    rw [jrd_nI hm8 (by decide), Option.bind_some, hA.2.2.2.2.2.2.2.2.1 _ hm8, Nat.zero_add, if_pos (jleT (Nat.le_refl _) (by omega))]
  · have s1 := (hW.2.2.2.2.2.1 (F.mc s) a (by omega)).1
    dsimp only
    rw [jrd_nI hm8 (by decide), Option.bind_some, hA.2.2.2.2.2.2.2.2.1 _ hm8, if_neg (show ¬ nI (F.oc (F.mc s)) ≤ nI a from jleF (by omega) (by omega)), jrw_nI hm8 (by decide), Option.bind_some, jrd_nI (show a < 32 by omega) (by decide), Option.bind_some, hA.2.2.2.2.2.2.2.2.2 _ a hm8 (by omega), jah6 (o := 186) h (by omega) (by omega), Option.bind_some, nI_1]
    show _ = some (Sum.inl (nI (if bt (ah (F.on (F.mc s) (0 + a))) s = true then fF (fun a (c : Nat) => if bt (ah (F.on (F.mc s) a)) s = true then c + 1 else c) 0 a 0 + 1 else fF (fun a (c : Nat) => if bt (ah (F.on (F.mc s) a)) s = true then c + 1 else c) 0 a 0), nI (a + 1)))
    rw [Nat.zero_add]
    by_cases e : bt (ah (F.on (F.mc s) a)) s = true
    · rw [if_pos e, if_neg n10, Option.bind_some, if_pos e, nI_1]
    · rw [if_neg e, if_pos rfl, Option.bind_some, if_neg e, Int32.add_zero]
theorem jordA (hW : WF F) (hA : AF M F) (h : ∀ s, s < 32 → M 189 s = ah s) (hI : AHI F ah) {m : Nat} (hm : m < F.nm) (row : Nat → Nat) (hN : 100 ≤ N) : ∃ M', f_X4_orderMachine N M (nI m) = some M' ∧ ((∀ i, i < F.oc m → M' (192 + m) i = nI ((F.srt ah m row).2 i)) ∧ ∀ a j, a ≠ 192 + m → M' a j = M a j) := by
  have hns := hW.2.2.1.1
  have hm8 : m < 8 := Nat.lt_of_lt_of_le hm hW.1.1
  have hoc := oc_le hW m
  obtain ⟨o1, o2, o3, o4, o5⟩ := id hW.2.2.2
  unfold f_X4_orderMachine
  rw [jrw_nI hm8 (by decide), Option.bind_some, ← srt_on hW]
  refine jB (jLp_tot (fun c (z : Int32 × JMem) => ∃ a, c + a = F.oc m ∧ z.1 = nI a ∧ (∀ i, i < a → z.2 (192 + m) i = nI ((fF (fun a z => ins1 (F.ao ah) (F.on m a) z) 0 a (0, row)).2 i)) ∧ ∀ b j, b ≠ 192 + m → z.2 b j = M b j) (fun x => (∀ i, i < F.oc m → x (192 + m) i = nI ((fF (fun a z => ins1 (F.ao ah) (F.on m a) z) 0 (F.oc m) (0, row)).2 i)) ∧ ∀ b j, b ≠ 192 + m → x b j = M b j) ?_ N (F.oc m) (0, M) (by omega) ⟨0, by omega, rfl, fun i hi => absurd hi (Nat.not_lt_zero i), fun _ _ _ => rfl⟩) (fun x hx => ⟨x, rfl, hx⟩)
  rintro c ⟨z8, M9⟩ ⟨a, hc, hz, hp, hf⟩
  dsimp only at hz hp hf ⊢
  subst hz
  have hA9 : AF M9 F := hA.fr hW.1.1 (fun b j _ _ => hf b j (by omega))
  rw [jrd_nI hm8 (by decide), Option.bind_some, hA9.2.2.2.2.2.2.2.2.1 m hm8]
  rcases Nat.eq_zero_or_pos c with en | en
  · rw [if_pos (show nI (F.oc m) ≤ nI a from jleT (by omega) (by omega))]
    have ea : a = F.oc m := by omega
    rw [ea] at hp
    exact ⟨_, rfl, Or.inr ⟨_, rfl, hp, hf⟩⟩
  · have s1 := (o3 m a (by omega)).1
    obtain ⟨i1, i2, i3, i4⟩ := ins_ok (f := F.on m) (key := F.ao ah) a row (fun i j h1 h2 z => by have := o4 m i j h1 (by omega); omega)
    have ef : fF (fun a z => ins1 (F.ao ah) (F.on m a) z) 0 (a + 1) (0, row) = ins1 (F.ao ah) (F.on m a) (fF (fun a z => ins1 (F.ao ah) (F.on m a) z) 0 a (0, row)) := by
      show ins1 (F.ao ah) (F.on m (0 + a)) _ = _
      rw [Nat.zero_add]
    have lt : ∀ i, i < a → (fF (fun a z => ins1 (F.ao ah) (F.on m a) z) 0 a (0, row)).2 i < F.ns := fun i hi => by
      obtain ⟨j, hj, e⟩ := i2 i hi
      rw [e]
      exact (o3 m j (by omega)).1
    generalize fF (fun a z => ins1 (F.ao ah) (F.on m a) z) 0 a (0, row) = zz at *
    obtain ⟨cn, r⟩ := zz
    dsimp only at i1 lt hp
    subst i1
    obtain ⟨p, hpp⟩ : ∃ p, p = insP (F.ao ah) r (F.on m cn) cn := ⟨_, rfl⟩
    have hple := insP_le (key := F.ao ah) (row := r) (s := F.on m cn) cn
    rw [← hpp] at hple
    rw [if_neg (show ¬ nI (F.oc m) ≤ nI cn from jleF (by omega) (by omega)), jrw_nI hm8 (by decide), Option.bind_some, jrd_nI (show cn < 32 by omega) (by decide), Option.bind_some, hA9.2.2.2.2.2.2.2.2.2 m cn hm8 (by omega)]
    refine jB (jLp_tot (fun k (z : Int32 × Int32 × JMem) => k ≤ cn ∧ z.1 = nI k ∧ z.2.1 = nI k ∧ insP (F.ao ah) r (F.on m cn) k = p ∧ (∀ i, i < k → z.2.2 (192 + m) i = nI (r i)) ∧ (∀ i, k < i → i ≤ cn → z.2.2 (192 + m) i = nI (r (i - 1))) ∧ ∀ b j, b ≠ 192 + m → z.2.2 b j = M b j) (fun x => x.1 = nI p ∧ (∀ i, i < p → x.2 (192 + m) i = nI (r i)) ∧ (∀ i, p < i → i ≤ cn → x.2 (192 + m) i = nI (r (i - 1))) ∧ ∀ b j, b ≠ 192 + m → x.2 b j = M b j) ?_ N cn (nI cn, nI cn, M9) (by omega) ⟨Nat.le_refl _, rfl, rfl, hpp.symm, hp, fun i h1 h2 => absurd h1 (by omega), hf⟩) ?_
    · rintro k ⟨z20, z21, M22⟩ ⟨hk, hz1, hz2, hpk, q1, q2, q3⟩
      dsimp only at hz1 hz2 q1 q2 q3 ⊢
      subst hz1 hz2
      have hA22 : AF M22 F := hA.fr hW.1.1 (fun b j _ _ => q3 b j (by omega))
      have h22 : ∀ s, s < 32 → M22 189 s = ah s := fun s hs => by rw [q3 _ _ (by omega)]; exact h s hs
      rcases Nat.eq_zero_or_pos k with ek | ek
      · rw [if_pos (show nI k ≤ 0 by rw [ek]; decide)]
        rw [ek] at hpk
        have hp0 : p = 0 := hpk.symm
        refine ⟨_, rfl, Or.inr ⟨_, rfl, by rw [hp0, ek], fun i hi => by omega, fun i h1 h2 => q2 i (by omega) h2, q3⟩⟩
      · have hr := lt (k - 1) (by omega)
        have e1 : k - 1 + 1 = k := by omega
        have hpk2 : (if F.ao ah (F.on m cn) < F.ao ah (r (k - 1)) then insP (F.ao ah) r (F.on m cn) (k - 1) else k - 1 + 1) = p := by
          rw [← hpk]
          conv => rhs; rw [← e1]
          rfl
        have l1 := ao_le (F := F) (ah := ah) (s := F.on m cn)
        have l2 := ao_le (F := F) (ah := ah) (s := r (k - 1))
        rw [if_neg (show ¬ nI k ≤ 0 by rw [jleL (by omega) (by decide)]; omega), jsub1 ek, jrd_nI (show k - 1 < 32 by omega) (by decide), Option.bind_some, show 191 + 1 + m = 192 + m by omega, q1 (k - 1) (by omega), jaoA hW hA22 h22 hI hr hN, Option.bind_some, jaoA hW hA22 h22 hI s1 hN, Option.bind_some]
        by_cases e : F.ao ah (F.on m cn) < F.ao ah (r (k - 1))
        · rw [if_pos e] at hpk2
          rw [if_neg (show ¬ nI (F.ao ah (r (k - 1))) ≤ nI (F.ao ah (F.on m cn)) from jleF e (by omega)), Option.bind_some, jwr_nI (show k < 32 by omega) (by decide), Option.bind_some]
          refine ⟨_, rfl, Or.inl ⟨_, k - 1, rfl, by omega, by omega, rfl, ?_, hpk2, fun i hi => ?_, fun i h1 h2 => ?_, fun b j hb => ?_⟩⟩
          · show nI k + -1 = _
            rw [← Int32.sub_eq_add_neg, jsub1 ek]
          · show jup M22 (192 + m) k (nI (r (k - 1))) (192 + m) i = _
            rw [jup_at, if_neg (by omega)]
            exact q1 i (by omega)
          · show jup M22 (192 + m) k (nI (r (k - 1))) (192 + m) i = _
            rw [jup_at]
            by_cases e2 : i = k
            · rw [if_pos ⟨rfl, e2⟩, e2]
            · rw [if_neg (by omega)]
              exact q2 i (by omega) h2
          · show jup M22 (192 + m) k (nI (r (k - 1))) b j = _
            rw [jup_ne hb]
            exact q3 b j hb
        · rw [if_neg e] at hpk2
          rw [if_pos (show nI (F.ao ah (r (k - 1))) ≤ nI (F.ao ah (F.on m cn)) from jleT (by omega) (by omega))]
          have hkp : k = p := by omega
          subst hkp
          exact ⟨_, rfl, Or.inr ⟨_, rfl, rfl, q1, q2, q3⟩⟩
    · rintro ⟨t23, t24⟩ ⟨g1, g2, g3, g4⟩
      dsimp only at g1 g2 g3 g4 ⊢
      subst g1
      rw [jwr_nI (show p < 32 by omega) (by decide), Option.bind_some]
      refine ⟨_, rfl, Or.inl ⟨_, c - 1, rfl, by omega, cn + 1, by omega, nI_1 cn, fun i hi => ?_, fun b j hb => ?_⟩⟩
      · show jup t24 (191 + 1 + m) p (nI (F.on m cn)) (192 + m) i = _
        rw [ef]
        show _ = nI (insR r (insP (F.ao ah) r (F.on m cn) cn) cn (F.on m cn) i)
        rw [← hpp, jup_at]
        unfold insR
        by_cases z1 : i < p
        · rw [if_neg (by omega), if_pos z1]
          exact g2 i z1
        · by_cases z2 : i = p
          · rw [if_pos ⟨by omega, z2⟩, if_neg z1, if_pos z2]
          · rw [if_neg (by omega), if_neg z1, if_neg z2, if_pos (by omega)]
            exact g3 i (by omega) (by omega)
      · show jup t24 (191 + 1 + m) p (nI (F.on m cn)) b j = _
        rw [jup_ne (by omega)]
        exact g4 b j hb
end LL
def LA (M : JMem) (F : FT) (st : LT) : Prop := M 83 0 = nI st.1 ∧ M 83 1 = nI st.2.1 ∧ M 83 2 = nI st.2.2.1 ∧ M 83 3 = nI st.2.2.2.1 ∧ (∀ i s, i < st.2.2.2.1 → s < 32 → M (85 + i) s = st.2.2.2.2.1 i s) ∧ AO M 33 F st.2.2.2.2.2
def LG (M : JMem) (F : FT) : Prop := WF F ∧ AF M F ∧ ID M 201
section LM
variable {M : JMem} {N n : Nat} {F : FT} {ah : Nat → Int32} {st : LT}
theorem jtryA (hG : LG M F) (hL : LA M F st) (hO : WO F st.2.2.2.2.2) (hb : st.1 ≤ 40000) (hfi : st.2.2.1 ≤ 1000) (hw : st.2.2.2.1 ≤ 101) (h : ∀ s, s < 32 → M 189 s = ah s) (hI : AHI F ah) (hN : 100 ≤ N) : ∃ M', f_X4_tryOrders N M 33 = some M' ∧ (LA M' F (F.lT ah st) ∧ (F.lT ah st).1 ≤ 40000 ∧ WO F (F.lT ah st).2.2.2.2.2 ∧ ∀ a i, ¬ ((35 ≤ a ∧ a ≤ 43) ∨ (a = 83 ∧ (i = 0 ∨ i = 2)) ∨ (192 ≤ a ∧ a ≤ 200) ∨ (a = 201 ∧ (i = 4 ∨ i = 6)) ∨ a = 202 ∨ (206 ≤ a ∧ a ≤ 210)) → M' a i = M a i) := by
  obtain ⟨hW, hA, hID⟩ := id hG
  obtain ⟨l1, l2, l3, l4, l5, l6⟩ := id hL
  have hns := hW.2.2.1.1
  have hnm := hW.1.1
  have n10 : ¬ (1 : Int32) = 0 := by decide
  unfold f_X4_tryOrders
  refine jB (jtake (o := 190) hW l6 (by omega) hN) (fun M1 ⟨a1, a2⟩ => ?_)
  refine jB (jLp_tot (fun c (z : Int32 × JMem) => ∃ m, c + m = F.nm ∧ z.1 = nI m ∧ AO z.2 190 F (fun x => if x < m then F.arr ah st.2.2.2.2.2 x else st.2.2.2.2.2 x) ∧ ∀ a j, ¬ (192 ≤ a ∧ a ≤ 200) → z.2 a j = M a j) (fun x => AO x 190 F (F.arr ah st.2.2.2.2.2) ∧ ∀ a j, ¬ (192 ≤ a ∧ a ≤ 200) → x a j = M a j) ?_ N F.nm (0, M1) (by omega) ⟨0, by omega, rfl, a1, fun a j z => a2 a j (by omega)⟩) ?_
  · rintro c ⟨z8, M9⟩ ⟨m, hc, hz, hp, hf⟩
    dsimp only at hz hp hf ⊢
    subst hz
    have hA9 : AF M9 F := hA.fr hnm (fun b j _ _ => hf b j (by omega))
    rcases Nat.eq_zero_or_pos c with en | en
    · rw [if_pos (show M9 1 0 ≤ nI m by rw [hA9.1]; exact jleT (by omega) (by omega))]
      refine ⟨_, rfl, Or.inr ⟨_, rfl, ⟨hp.1, fun x i hx hi => ?_⟩, hf⟩⟩
      have := hp.2 x i hx hi
      dsimp only at this
      by_cases e : x < m
      · rw [if_pos e] at this
        exact this
      · rw [hW.2.2.2.1 x (by omega)] at hi
        exact absurd hi (Nat.not_lt_zero i)
    · have hm : m < F.nm := by omega
      have hk := (hW.1.2 m hm).1
      have go : ∀ M', (∀ i, i < F.oc m → M' (192 + m) i = nI (F.arr ah st.2.2.2.2.2 m i)) → (∀ a j, a ≠ 192 + m → M' a j = M9 a j) → ∃ x : (Int32 × JMem) ⊕ JMem, some (Sum.inl (nI m + 1, M')) = some x ∧ ((∃ s' m_1, x = Sum.inl s' ∧ m_1 < c ∧ ∃ m, m_1 + m = F.nm ∧ s'.1 = nI m ∧ AO s'.2 190 F (fun x => if x < m then F.arr ah st.2.2.2.2.2 x else st.2.2.2.2.2 x) ∧ ∀ a j, ¬ (192 ≤ a ∧ a ≤ 200) → s'.2 a j = M a j) ∨ ∃ r, x = Sum.inr r ∧ AO r 190 F (F.arr ah st.2.2.2.2.2) ∧ ∀ a j, ¬ (192 ≤ a ∧ a ≤ 200) → r a j = M a j) := by
        intro M' g1 g2
        refine ⟨_, rfl, Or.inl ⟨_, c - 1, rfl, by omega, m + 1, by omega, nI_1 m, ⟨fun x hx => ?_, fun x i hx hi => ?_⟩, fun a j z => ?_⟩⟩
        · show M' (190 + 10) x = _
          rw [g2 _ _ (by omega)]
          exact hp.1 x hx
        · show M' (190 + 1 + 1 + x) i = nI ((if x < m + 1 then F.arr ah st.2.2.2.2.2 x else st.2.2.2.2.2 x) i)
          by_cases e : x = m
          · rw [if_pos (by omega), e, show 190 + 1 + 1 + m = 192 + m by omega]
            rw [e] at hi
            exact g1 i hi
          · have := hp.2 x i hx hi
            dsimp only at this
            rw [g2 _ _ (by omega), this]
            by_cases e2 : x < m
            · rw [if_pos e2, if_pos (by omega)]
            · rw [if_neg e2, if_neg (by omega)]
        · show M' a j = _
          rw [g2 _ _ (by omega)]
          exact hf a j z
      rw [if_neg (show ¬ M9 1 0 ≤ nI m by rw [hA9.1]; exact jleF (by omega) (by omega)), jrd_nI (show m < 8 by omega) (by decide), Option.bind_some, (hA9.2.2.2.1 m hm).1]
      by_cases e : F.kd m = 0
      · rw [if_pos (show nI (F.kd m) = 0 by rw [e]; rfl)]
        have hh : ∃ M', ((f_X4_orderMachine N M9 (nI m)).bind fun M17 => some M17) = some M' ∧ ((∀ i, i < F.oc m → M' (192 + m) i = nI ((F.srt ah m (st.2.2.2.2.2 m)).2 i)) ∧ ∀ a j, a ≠ 192 + m → M' a j = M9 a j) := jB (jordA (ah := ah) hW hA9 (fun s hs => by rw [hf _ _ (by omega)]; exact h s hs) hI hm (st.2.2.2.2.2 m) hN) (fun x hx => ⟨x, rfl, hx⟩)
        refine jB hh (fun M' ⟨g1, g2⟩ => go M' (fun i hi => ?_) g2)
        rw [g1 i hi]
        unfold FT.arr
        rw [if_pos ⟨hm, e⟩]
      · rw [if_neg (show ¬ nI (F.kd m) = 0 by rw [jeqL (by omega) (by decide)]; exact e), Option.bind_some]
        refine go M9 (fun i hi => ?_) (fun _ _ _ => rfl)
        have := hp.2 m i (by omega) hi
        dsimp only at this
        rw [show 192 + m = 190 + 1 + 1 + m by omega, this, if_neg (by omega)]
        unfold FT.arr
        rw [if_neg (fun z => e z.2)]
  · rintro t10 ⟨p1, p2⟩
    have hO' := arr_wo hW ah hO
    have hA10 : AF t10 F := hA.fr hnm (fun b j _ _ => p2 b j (by omega))
    obtain ⟨M21, qq, P, lp, lm, b, E, e1, e2, e3, hf⟩ := jworkA (N := N) (EA.of (M := t10) (o := 201) (r := 190) hW hO' hA10 p1 (hID.fr (fun a j _ => p2 a j (by omega))) (by decide) (by decide)) hN
    have hdi := day_iff hW hO' e2.1 e3
    have hfr : ∀ a i, ¬ ((192 ≤ a ∧ a ≤ 200) ∨ (a = 201 ∧ (i = 4 ∨ i = 6)) ∨ a = 202 ∨ (206 ≤ a ∧ a ≤ 210)) → M21 a i = M a i := fun a i z => by rw [hf a i (by omega), p2 a i (by omega)]
    have same : LA M21 F st := ⟨(hfr _ _ (by omega)).trans l1, (hfr _ _ (by omega)).trans l2, (hfr _ _ (by omega)).trans l3, (hfr _ _ (by omega)).trans l4, fun i s hi hs => (hfr _ _ (by omega)).trans (l5 i s hi hs), l6.fr (fun a i _ _ => hfr a i (by omega))⟩
    rw [e1, Option.bind_some]
    dsimp only
    by_cases ed : fb_ct P F.ns = F.ns
    · have hP := fb_ct_all.mp ed
      have hdy : F.dy (F.arr ah st.2.2.2.2.2) b E := ⟨snd_all e2.1 hP, mx_all e2.2.1 hP⟩
      obtain ⟨c1, c2, c3⟩ := cD_of hW hO' hdy
      have hle := (dy_le hdy hW).1
      have hen := en_some (hdi.mp ed)
      rw [← c2] at hen
      rw [if_pos ed, if_neg n10, same.1, e2.2.2.2.1]
      by_cases hl : E < st.1
      · have hT : F.lT ah st = (E, st.2.1, st.2.2.1 + 1, st.2.2.2.1, st.2.2.2.2.1, F.arr ah st.2.2.2.2.2) := by
          unfold FT.lT
          rw [hen]
          exact if_pos hl
        obtain ⟨Ma, ua, fa, va⟩ := jupX M21 83 0 (nI E)
        obtain ⟨Mb, ub, fb, vb⟩ := jupX Ma 83 2 (nI (st.2.2.1 + 1))
        rw [if_neg (jleF hl (by omega)), ua, Option.bind_some, show Ma 83 2 = nI st.2.2.1 by rw [fa _ _ (by omega)]; exact same.2.2.1, nI_1, ub, Option.bind_some]
        have hAb : AO Mb 190 F (F.arr ah st.2.2.2.2.2) := p1.fr (fun a i _ _ => by rw [fb a i (by omega), fa a i (by omega), hf a i (by omega)])
        refine jB (jtake (o := 33) hW hAb (by omega) hN) (fun M25 ⟨g1, g2⟩ => ⟨M25, rfl, ?_, ?_, ?_, fun a i z => ?_⟩)
        · rw [hT]
          exact ⟨by rw [g2 _ _ (by omega), fb _ _ (by omega)]; exact va, by rw [g2 _ _ (by omega), fb _ _ (by omega), fa _ _ (by omega)]; exact same.2.1, by rw [g2 _ _ (by omega)]; exact vb, by rw [g2 _ _ (by omega), fb _ _ (by omega), fa _ _ (by omega)]; exact same.2.2.2.1, fun i s hi hs => by
            have hi2 : i < st.2.2.2.1 := hi
            rw [g2 _ _ (by omega), fb _ _ (by omega), fa _ _ (by omega)]; exact same.2.2.2.2.1 i s hi hs, g1⟩
        · rw [hT]
          show E ≤ 40000
          omega
        · rw [hT]
          exact hO'
        · rw [g2 _ _ (by omega), fb _ _ (by omega), fa _ _ (by omega)]
          exact hfr a i (by omega)
      · have hT : F.lT ah st = st := by
          unfold FT.lT
          rw [hen]
          exact if_neg hl
        rw [if_pos (jleT (by omega) (by omega)), hT]
        exact ⟨M21, rfl, same, hb, hO, fun a i z => hfr a i (by omega)⟩
    · have hT : F.lT ah st = st := by
        unfold FT.lT
        rw [en_none (fun z => ed (hdi.mpr z))]
      rw [if_neg ed, if_pos rfl, hT]
      exact ⟨M21, rfl, same, hb, hO, fun a i z => hfr a i (by omega)⟩
end LM
