/-! windows: the class, pairs and sets -/
section WY
variable {M0 M : JMem} {N o : Nat} {F : FT} {w : WT}
theorem b2i_t {b : Bool} (h : b = true) : ¬ b2i b = 0 := by rw [h]; decide
theorem b2i_f {b : Bool} (h : b = false) : b2i b = 0 := by rw [h]; rfl
theorem wT1_b {f g : Nat} (h : w.2.2.2.2 = true) : F.wT1 f g w = w := by
  unfold FT.wT1
  rw [if_pos h]
theorem wS1_b {m f g : Nat} (h : w.2.2.2.2 = true) : F.wS1 m f g w = w := by
  unfold FT.wS1
  rw [if_pos h]
theorem wTm_on (hW : WF F) (m : Nat) (w : WT) : fF (fun a w => fF (fun b w => F.wT1 (F.on m a) (F.on m b) w) (a + 1) (F.oc m - (a + 1)) w) 0 (F.oc m) w = F.wTm m w := by
  obtain ⟨o1, o2, o3, o4, o5⟩ := id hW.2.2.2
  unfold FT.wTm
  rw [← fF_on hW m (fun f w => fF (fun g w => if F.mc g = m then F.wT1 f g w else w) (f + 1) (F.ns - (f + 1)) w) F.ns 0 0 w (by omega) (by omega) (fun j hj => absurd hj (Nat.not_lt_zero j)) (fun j _ _ => Nat.zero_le _)]
  refine fF_cong _ _ (fun a w h1 h2 => ?_)
  have h3 := (o3 m a (by omega)).1
  exact fF_on hW m (fun g w => F.wT1 (F.on m a) g w) (F.ns - (F.on m a + 1)) (F.on m a + 1) (a + 1) w (by omega) (by omega) (fun j hj => by
    rcases Nat.lt_succ_iff_lt_or_eq.mp hj with z | z
    · have := o4 m j a z (by omega)
      omega
    · rw [z]
      omega) (fun j hj1 hj2 => by
    have := o4 m a j (by omega) hj2
    omega)
theorem wSm_on (hW : WF F) (m : Nat) (w : WT) : fF (fun a w => fF (fun b w => F.wS1 m (F.on m a) (F.on m b) w) 0 (F.oc m) w) 0 (F.oc m) w = F.wSm m w := by
  unfold FT.wSm
  rw [← fF_on hW m (fun f w => fF (fun g w => if F.mc g = m then F.wS1 m f g w else w) 0 F.ns w) F.ns 0 0 w (by omega) (by omega) (fun j hj => absurd hj (Nat.not_lt_zero j)) (fun j _ _ => Nat.zero_le _)]
  refine fF_cong _ _ (fun a w h1 h2 => ?_)
  exact fF_on hW m (fun g w => F.wS1 m (F.on m a) g w) F.ns 0 0 w (by omega) (by omega) (fun j hj => absurd hj (Nat.not_lt_zero j)) (fun j _ _ => Nat.zero_le _)
theorem wa_pairs (hE : WE M0 o F) (h : WA M0 M o F w) (hN : 100 ≤ N) : ∃ M', f_X6_tellPairs N M o = some M' ∧ WA M0 M' o F (F.wT w) := by
  have hW := hE.1
  have hns := hW.2.2.1.1
  have hnm := hW.1.1
  unfold f_X6_tellPairs
  refine jlpG (fun w M => WA M0 M o F w) (fun m w => if F.kd m = 0 then F.wTm m w else w) F.nm 0 rfl (by omega) h ?_ ?_ (fun M' h => ⟨M', rfl, h⟩)
  · intro w M h
    show (if M 1 0 ≤ nI (0 + F.nm) then _ else _) = _
    rw [(h.af hE).1, Nat.zero_add, if_pos (jleT (Nat.le_refl _) (by omega))]
  · intro m w M hm1 hm2 h
    have hm : m < F.nm := by omega
    have hm8 : m < 8 := by omega
    have hoc := oc_le hW m
    have hk := (hW.1.2 m hm).1
    have hA := h.af hE
    dsimp only
    rw [if_neg (show ¬ M 1 0 ≤ nI m by rw [hA.1]; exact jleF (by omega) (by omega)), jrd_nI hm8 (by decide), Option.bind_some, (hA.2.2.2.1 m hm).1]
    by_cases e : F.kd m = 0
    · rw [if_pos (show nI (F.kd m) = 0 by rw [e]; rfl), jrd_nI hm8 (by decide), Option.bind_some, Option.bind_some, hA.2.2.2.2.2.2.2.2.1 m hm8]
      refine jlpG (fun w M => WA M0 M o F w) (fun a w => fF (fun b w => F.wT1 (F.on m a) (F.on m b) w) (a + 1) (F.oc m - (a + 1)) w) (F.oc m) 0 rfl (by omega) h ?_ ?_ (fun M' h' => ⟨_, rfl, Or.inl ⟨M', by rw [nI_1], ?_⟩⟩)
      · intro w M h
        show (if nI (F.oc m) ≤ nI (0 + F.oc m) then _ else _) = _
        rw [Nat.zero_add, if_pos (jleT (Nat.le_refl _) (by omega))]
      · intro a w M ha1 ha2 h
        dsimp only
        rw [if_neg (show ¬ nI (F.oc m) ≤ nI a from jleF (by omega) (by omega))]
        refine jlpG (fun w M => WA M0 M o F w) (fun b w => F.wT1 (F.on m a) (F.on m b) w) (F.oc m - (a + 1)) (a + 1) (nI_1 a) (by omega) h ?_ ?_ (fun M' h' => ⟨_, rfl, Or.inl ⟨M', by rw [nI_1], h'⟩⟩)
        · intro w M h
          show (if nI (F.oc m) ≤ nI (a + 1 + (F.oc m - (a + 1))) then _ else _) = _
          rw [if_pos (jleT (by omega) (by omega))]
        · intro b w M hb1 hb2 h
          have hA := h.af hE
          dsimp only
          rw [if_neg (show ¬ nI (F.oc m) ≤ nI b from jleF (by omega) (by omega))]
          cases hb : w.2.2.2.2 with
          | true =>
            rw [if_neg (show ¬ M o 5 = 0 by rw [h.2.2.2.1]; exact b2i_t hb)]
            exact ⟨_, rfl, Or.inr ⟨rfl, fun j _ _ => wT1_b hb⟩⟩
          | false =>
            have s1 := (hW.2.2.2.2.2.1 m a (by omega)).1
            have s2 := (hW.2.2.2.2.2.1 m b (by omega)).1
            rw [if_pos (show M o 5 = 0 by rw [h.2.2.2.1]; exact b2i_f hb), jrw_nI hm8 (by decide), Option.bind_some, jrd_nI (show a < 32 by omega) (by decide), Option.bind_some, Option.bind_some, jrd_nI (show b < 32 by omega) (by decide), Option.bind_some, hA.2.2.2.2.2.2.2.2.2 m a hm8 (by omega), hA.2.2.2.2.2.2.2.2.2 m b hm8 (by omega)]
            exact jB (wa_pair hE h s1 s2 hb) (fun M' h' => ⟨_, rfl, Or.inl ⟨M', by rw [nI_1], h'⟩⟩)
      · show WA M0 M' o F (if F.kd m = 0 then F.wTm m w else w)
        rw [if_pos e, ← wTm_on hW]
        exact h'
    · rw [if_neg (show ¬ nI (F.kd m) = 0 by rw [jeqL (by omega) (by decide)]; exact e), Option.bind_some]
      refine jB (P := fun M' => WA M0 M' o F w) ⟨M, jLp_rr (by omega) rfl, h⟩ (fun M' h' => ⟨_, rfl, Or.inl ⟨M', by rw [nI_1], ?_⟩⟩)
      show WA M0 M' o F (if F.kd m = 0 then F.wTm m w else w)
      rw [if_neg e]
      exact h'
theorem wa_keep (hE : WE M0 o F) (h : WA M0 M o F w) {k : Nat} (hk : k < F.ns) (x y z : Int32) : ∃ M', f_X6_keepOff M o (nI k) (nI (F.sp k)) x y z = some M' ∧ WA M0 M' o F (F.wO x y z k w) := by
  have hns := hE.1.2.2.1.1
  unfold f_X6_keepOff
  rw [jrd_nI (by omega) (by decide), Option.bind_some, (h.1 k hk).1]
  refine jB (P := fun M' => WA M0 M' o F (F.wO1 x y z k w)) ?_ (fun M1 h1 => ?_)
  · unfold FT.wO1
    by_cases e : (jmin (w.1 k) x + z) + nI (F.sp k) ≤ y
    · rw [if_pos e, if_pos e]
      exact ⟨M, rfl, h⟩
    · rw [if_neg e, if_neg e]
      exact jB (wa_raise hE h hk _) (fun M' h' => ⟨M', rfl, h'⟩)
  · rw [jrd_nI (by omega) (by decide), Option.bind_some, (h1.1 k hk).2]
    unfold FT.wO
    by_cases e : (x + z) + nI (F.sp k) ≤ jmax y ((F.wO1 x y z k w).2.1 k)
    · rw [if_pos e, if_pos e]
      exact ⟨M1, rfl, h1⟩
    · rw [if_neg e, if_neg e]
      exact jB (wa_lower hE h1 hk _) (fun M' h' => ⟨M', rfl, h'⟩)
theorem wa_set (hE : WE M0 o F) (h : WA M0 M o F w) {m : Nat} (hm : m < F.nm) (x y : Int32) (hN : 100 ≤ N) : ∃ M', f_X6_closeSet N M o (nI m) x y = some M' ∧ WA M0 M' o F (F.wS2 m x y w) := by
  have hW := hE.1
  have hns := hW.2.2.1.1
  have hnm := hW.1.1
  have hm8 : m < 8 := by omega
  have hoc := oc_le hW m
  have hA := h.af hE
  have n10 : ¬ (1 : Int32) = 0 := by decide
  have hK : F.wK m x y w.1 w.2.1 = fF (fun a z => F.wK1 x y w.1 w.2.1 (F.on m a) z) 0 (F.oc m) (0, 0) := (fF_on hW m (fun s z => F.wK1 x y w.1 w.2.1 s z) F.ns 0 0 (0, 0) (by omega) (by omega) (fun j hj => absurd hj (Nat.not_lt_zero j)) (fun j _ _ => Nat.zero_le _)).symm
  unfold f_X6_closeSet
  refine jB (P := fun t => t = F.wK m x y w.1 w.2.1) ⟨_, jLp_for (fun j => ((fF (fun a z => F.wK1 x y w.1 w.2.1 (F.on m a) z) 0 j (0, 0)).1, (fF (fun a z => F.wK1 x y w.1 w.2.1 (F.on m a) z) 0 j (0, 0)).2, nI j)) (r := ((fF (fun a z => F.wK1 x y w.1 w.2.1 (F.on m a) z) 0 (F.oc m) (0, 0)).1, (fF (fun a z => F.wK1 x y w.1 w.2.1 (F.on m a) z) 0 (F.oc m) (0, 0)).2)) (F.oc m) 0 N (by omega) ?_ ?_, ?_⟩ ?_
  · intro a ha1 ha2
    have s1 := (hW.2.2.2.2.2.1 m a (by omega)).1
    dsimp only
    rw [jrd_nI hm8 (by decide), Option.bind_some, hA.2.2.2.2.2.2.2.2.1 m hm8, if_neg (show ¬ nI (F.oc m) ≤ nI a from jleF (by omega) (by omega)), jrw_nI hm8 (by decide), Option.bind_some, jrd_nI (show a < 32 by omega) (by decide), Option.bind_some, hA.2.2.2.2.2.2.2.2.2 m a hm8 (by omega), jrd_nI (show F.on m a < 32 by omega) (by decide), Option.bind_some, jrd_nI (show F.on m a < 32 by omega) (by decide), Option.bind_some, jrd_nI (show F.on m a < 32 by omega) (by decide), Option.bind_some, (h.1 _ s1).1, (h.1 _ s1).2, (hA.2.2.2.2.2.2.2.1 _ s1).2.2.1, nI_1]
    show _ = some (Sum.inl ((F.wK1 x y w.1 w.2.1 (F.on m (0 + a)) (fF (fun a z => F.wK1 x y w.1 w.2.1 (F.on m a) z) 0 a (0, 0))).1, (F.wK1 x y w.1 w.2.1 (F.on m (0 + a)) (fF (fun a z => F.wK1 x y w.1 w.2.1 (F.on m a) z) 0 a (0, 0))).2, nI (a + 1)))
    rw [Nat.zero_add]
    unfold FT.wK1
    by_cases e1 : w.1 (F.on m a) < x
    · rw [if_pos e1, if_pos e1]
      rfl
    · rw [if_neg e1, if_neg e1]
      by_cases e2 : y < w.2.1 (F.on m a)
      · rw [if_pos e2, if_pos e2]
        rfl
      · rw [if_neg e2, if_neg e2]
        rfl
  · dsimp only
    rw [jrd_nI hm8 (by decide), Option.bind_some, hA.2.2.2.2.2.2.2.2.1 m hm8, Nat.zero_add, if_pos (jleT (Nat.le_refl _) (by omega))]
  · rw [hK]
  · rintro ⟨t10, t11⟩ ht
    dsimp only
    unfold FT.wS2
    rw [← ht]
    dsimp only
    by_cases e1 : t10 = 0
    · rw [if_pos e1, if_pos e1]
      exact ⟨M, rfl, h⟩
    · rw [if_neg e1, if_neg e1]
      by_cases e2 : t11 ≤ y - x
      · rw [if_pos e2, if_pos e2]
        rw [← fF_on hW m (fun k v => if bt t10 k = true then v else F.wO x y t11 k v) F.ns 0 0 w (by omega) (by omega) (fun j hj => absurd hj (Nat.not_lt_zero j)) (fun j _ _ => Nat.zero_le _)]
        refine jlpG (fun w M => WA M0 M o F w) (fun a v => if bt t10 (F.on m a) = true then v else F.wO x y t11 (F.on m a) v) (F.oc m) 0 rfl (by omega) h ?_ ?_ (fun M' h' => ⟨M', rfl, h'⟩)
        · intro w M h
          dsimp only
          rw [jrd_nI hm8 (by decide), Option.bind_some, (h.af hE).2.2.2.2.2.2.2.2.1 m hm8, Nat.zero_add, if_pos (jleT (Nat.le_refl _) (by omega))]
        · intro a w M ha1 ha2 h
          have hA := h.af hE
          have s1 := (hW.2.2.2.2.2.1 m a (by omega)).1
          dsimp only
          rw [jrd_nI hm8 (by decide), Option.bind_some, hA.2.2.2.2.2.2.2.2.1 m hm8, if_neg (show ¬ nI (F.oc m) ≤ nI a from jleF (by omega) (by omega)), jrw_nI hm8 (by decide), Option.bind_some, jrd_nI (show a < 32 by omega) (by decide), Option.bind_some, hA.2.2.2.2.2.2.2.2.2 m a hm8 (by omega), jb1 _ (show F.on m a < 32 by omega)]
          refine jB (P := fun M' => WA M0 M' o F (if bt t10 (F.on m a) = true then w else F.wO x y t11 (F.on m a) w)) ?_ (fun M' h' => ⟨_, rfl, Or.inl ⟨M', by rw [nI_1], h'⟩⟩)
          by_cases e : bt t10 (F.on m a) = true
          · rw [if_pos e, if_neg n10, if_pos e]
            exact ⟨M, rfl, h⟩
          · rw [if_neg e, if_pos rfl, if_neg e, jrd_nI (show F.on m a < 32 by omega) (by decide), Option.bind_some, (hA.2.2.2.2.2.2.2.1 _ s1).2.2.1]
            exact jB (wa_keep hE h s1 _ _ _) (fun M' h' => ⟨M', rfl, h'⟩)
      · rw [if_neg e2, if_neg e2]
        exact ⟨_, rfl, wa_burst h⟩
theorem wa_sets (hE : WE M0 o F) (h : WA M0 M o F w) (hN : 100 ≤ N) : ∃ M', f_X6_closeSets N M o = some M' ∧ WA M0 M' o F (F.wS w) := by
  have hW := hE.1
  have hns := hW.2.2.1.1
  have hnm := hW.1.1
  unfold f_X6_closeSets
  refine jlpG (fun w M => WA M0 M o F w) (fun m w => if F.kd m = 0 then F.wSm m w else w) F.nm 0 rfl (by omega) h ?_ ?_ (fun M' h => ⟨M', rfl, h⟩)
  · intro w M h
    show (if M 1 0 ≤ nI (0 + F.nm) then _ else _) = _
    rw [(h.af hE).1, Nat.zero_add, if_pos (jleT (Nat.le_refl _) (by omega))]
  · intro m w M hm1 hm2 h
    have hm : m < F.nm := by omega
    have hm8 : m < 8 := by omega
    have hoc := oc_le hW m
    have hk := (hW.1.2 m hm).1
    have hA := h.af hE
    dsimp only
    rw [if_neg (show ¬ M 1 0 ≤ nI m by rw [hA.1]; exact jleF (by omega) (by omega)), jrd_nI hm8 (by decide), Option.bind_some, (hA.2.2.2.1 m hm).1]
    by_cases e : F.kd m = 0
    · rw [if_pos (show nI (F.kd m) = 0 by rw [e]; rfl), jrd_nI hm8 (by decide), Option.bind_some, Option.bind_some, hA.2.2.2.2.2.2.2.2.1 m hm8]
      refine jlpG (fun w M => WA M0 M o F w) (fun a w => fF (fun b w => F.wS1 m (F.on m a) (F.on m b) w) 0 (F.oc m) w) (F.oc m) 0 rfl (by omega) h ?_ ?_ (fun M' h' => ⟨_, rfl, Or.inl ⟨M', by rw [nI_1], ?_⟩⟩)
      · intro w M h
        show (if nI (F.oc m) ≤ nI (0 + F.oc m) then _ else _) = _
        rw [Nat.zero_add, if_pos (jleT (Nat.le_refl _) (by omega))]
      · intro a w M ha1 ha2 h
        dsimp only
        rw [if_neg (show ¬ nI (F.oc m) ≤ nI a from jleF (by omega) (by omega))]
        refine jlpG (fun w M => WA M0 M o F w) (fun b w => F.wS1 m (F.on m a) (F.on m b) w) (F.oc m) 0 rfl (by omega) h ?_ ?_ (fun M' h' => ⟨_, rfl, Or.inl ⟨M', by rw [nI_1], h'⟩⟩)
        · intro w M h
          show (if nI (F.oc m) ≤ nI (0 + F.oc m) then _ else _) = _
          rw [Nat.zero_add, if_pos (jleT (Nat.le_refl _) (by omega))]
        · intro b w M hb1 hb2 h
          have hA := h.af hE
          dsimp only
          rw [if_neg (show ¬ nI (F.oc m) ≤ nI b from jleF (by omega) (by omega))]
          cases hb : w.2.2.2.2 with
          | true =>
            rw [if_neg (show ¬ M o 5 = 0 by rw [h.2.2.2.1]; exact b2i_t hb)]
            exact ⟨_, rfl, Or.inr ⟨rfl, fun j _ _ => wS1_b hb⟩⟩
          | false =>
            have s1 := (hW.2.2.2.2.2.1 m a (by omega)).1
            have s2 := (hW.2.2.2.2.2.1 m b (by omega)).1
            rw [if_pos (show M o 5 = 0 by rw [h.2.2.2.1]; exact b2i_f hb), jrw_nI hm8 (by decide), Option.bind_some, jrd_nI (show a < 32 by omega) (by decide), Option.bind_some, hA.2.2.2.2.2.2.2.2.2 m a hm8 (by omega), jrd_nI (show F.on m a < 32 by omega) (by decide), Option.bind_some, Option.bind_some, jrd_nI (show b < 32 by omega) (by decide), Option.bind_some, hA.2.2.2.2.2.2.2.2.2 m b hm8 (by omega), jrd_nI (show F.on m b < 32 by omega) (by decide), Option.bind_some, (h.1 _ s1).1, (h.1 _ s2).2]
            refine jB (wa_set hE h hm _ _ hN) (fun M' h' => ⟨_, rfl, Or.inl ⟨M', by rw [nI_1], ?_⟩⟩)
            show WA M0 M' o F (F.wS1 m (F.on m a) (F.on m b) w)
            unfold FT.wS1
            rw [if_neg (by rw [hb]; decide)]
            exact h'
      · show WA M0 M' o F (if F.kd m = 0 then F.wSm m w else w)
        rw [if_pos e, ← wSm_on hW]
        exact h'
    · rw [if_neg (show ¬ nI (F.kd m) = 0 by rw [jeqL (by omega) (by decide)]; exact e), Option.bind_some]
      refine jB (P := fun M' => WA M0 M' o F w) ⟨M, jLp_rr (by omega) rfl, h⟩ (fun M' h' => ⟨_, rfl, Or.inl ⟨M', by rw [nI_1], ?_⟩⟩)
      show WA M0 M' o F (if F.kd m = 0 then F.wSm m w else w)
      rw [if_neg e]
      exact h'
def FT.wG (F : FT) (w : WT) : WT := if w.2.2.2.1 = false then w else if w.2.2.2.2 = true then w else F.wR w
theorem wN_fF (F : FT) : ∀ n a w, F.wN n w = fF (fun _ w => F.wG w) a n w
  | 0, _, _ => rfl
  | n + 1, a, w => by
    show (if w.2.2.2.1 = false then w else if w.2.2.2.2 = true then w else F.wN n (F.wR w)) = _
    by_cases e1 : w.2.2.2.1 = false
    · rw [if_pos e1, fF_id (n + 1) (fun i _ _ => by unfold FT.wG; rw [if_pos e1])]
    · rw [if_neg e1]
      by_cases e2 : w.2.2.2.2 = true
      · rw [if_pos e2, fF_id (n + 1) (fun i _ _ => by unfold FT.wG; rw [if_neg e1, if_pos e2])]
      · rw [if_neg e2, fF_hd, wN_fF F n (a + 1)]
        congr 1
        unfold FT.wG
        rw [if_neg e1, if_neg e2]
theorem wa_narrow (hW : WF F) (hA : AF M F) (ho : 43 < o) (t : Int32) {ah : Nat → Int32} (hah : ∀ s, s < 32 → M (o + 3) s = ah s) (hN : 100 ≤ N) : ∃ M' v, f_X6_narrow N M o t = some (M', v) ∧ v = b2i (!(F.win t ah).2.2.2.2) ∧ (∀ s, s < F.ns → M' (o + 1) s = (F.win t ah).1 s ∧ M' (o + 2) s = (F.win t ah).2.1 s) ∧ (∀ s, s < 32 → M' (o + 3) s = (F.win t ah).2.2.1 s) ∧ M' o 3 = nI F.ns ∧ ∀ a i, ¬ ((o + 1 ≤ a ∧ a ≤ o + 3) ∨ (a = o ∧ (i = 3 ∨ i = 4 ∨ i = 5))) → M' a i = M a i := by
  have hns := hW.2.2.1.1
  obtain ⟨M1, u1, f1, v1⟩ := jupX M o 3 (nI F.ns)
  obtain ⟨M2, u2, f2, v2⟩ := jfillX M1 (o + 1) 32 0
  obtain ⟨M3, u3, f3, v3⟩ := jfillX M2 (o + 2) 32 t
  obtain ⟨M4, u4, f4, v4⟩ := jupX M3 o 5 0
  obtain ⟨M5, u5, f5, v5⟩ := jupX M4 o 4 1
  have hE : WE M1 o F := ⟨hW, hA.fr hW.1.1 (fun a i _ _ => f1 a i (by omega)), ho, v1⟩
  have h5 : WA M1 M5 o F (fun _ => 0, fun _ => t, ah, true, false) := by
    refine ⟨fun s hs => ⟨?_, ?_⟩, fun s hs => ?_, v5, ?_, fun a i z => ?_⟩
    · rw [f5 _ _ (by omega), f4 _ _ (by omega), f3 _ _ (by omega)]
      exact v2 s (by omega)
    · rw [f5 _ _ (by omega), f4 _ _ (by omega)]
      exact v3 s (by omega)
    · rw [f5 _ _ (by omega), f4 _ _ (by omega), f3 _ _ (by omega), f2 _ _ (by omega), f1 _ _ (by omega)]
      exact hah s hs
    · rw [f5 _ _ (by omega)]
      exact v4
    · rw [f5 _ _ (by omega), f4 _ _ (by omega), f3 _ _ (by omega), f2 _ _ (by omega)]
  have key : ∃ x, f_X6_narrow N M o t = some x ∧ (x.2 = b2i (!(F.win t ah).2.2.2.2) ∧ WA M1 x.1 o F (F.win t ah)) := by
    unfold f_X6_narrow
    rw [hA.2.2.1, u1, Option.bind_some, u2, Option.bind_some, u3, Option.bind_some, u4, Option.bind_some, u5, Option.bind_some]
    refine jlpG (fun w M => WA M1 M o F w) (fun _ w => F.wG w) 20 0 rfl (by omega) h5 ?_ ?_ ?_
    · intro w M h
      rfl
    · intro i w M hi1 hi2 h
      dsimp only
      rw [if_neg (show ¬ (20 : Int32) ≤ nI i by rw [jLle (by omega) (by decide)]; omega)]
      cases hc : w.2.2.2.1 with
      | false =>
        rw [if_pos (show M o 4 = 0 by rw [h.2.2.1]; exact b2i_f hc)]
        exact ⟨_, rfl, Or.inr ⟨rfl, fun j _ _ => by unfold FT.wG; rw [if_pos hc]⟩⟩
      | true =>
        rw [if_neg (show ¬ M o 4 = 0 by rw [h.2.2.1]; exact b2i_t hc)]
        cases hb : w.2.2.2.2 with
        | true =>
          rw [if_neg (show ¬ M o 5 = 0 by rw [h.2.2.2.1]; exact b2i_t hb)]
          exact ⟨_, rfl, Or.inr ⟨rfl, fun j _ _ => by unfold FT.wG; rw [if_neg (by rw [hc]; decide), if_pos hb]⟩⟩
        | false =>
          rw [if_pos (show M o 5 = 0 by rw [h.2.2.2.1]; exact b2i_f hb), Option.bind_some]
          have hG : F.wG w = F.wR w := by
            unfold FT.wG
            rw [if_neg (by rw [hc]; decide), if_neg (by rw [hb]; decide)]
          have h0 : WA M1 (jup M o 4 0) o F (w.1, w.2.1, w.2.2.1, false, w.2.2.2.2) := by
            obtain ⟨Ma, ua, fa, va⟩ := jupX M o 4 0
            rw [ua]
            obtain ⟨g1, g2, g3, g4, g5⟩ := h
            exact ⟨fun s hs => ⟨(fa _ _ (by omega)).trans (g1 s hs).1, (fa _ _ (by omega)).trans (g1 s hs).2⟩, fun s hs => (fa _ _ (by omega)).trans (g2 s hs), va, (fa _ _ (by omega)).trans g4, fun a i z => (fa _ _ (by omega)).trans (g5 a i z)⟩
          refine jB (wa_pieces hE h0 hN) (fun Ma ha => ?_)
          refine jB (wa_look hE ha hN) (fun Mb hb => ?_)
          refine jB (P := fun M' => WA M1 M' o F (F.wR2 (F.wR1 w))) ?_ (fun Mc hc => ?_)
          · unfold FT.wR2
            cases q : (F.wR1 w).2.2.2.2 with
            | true =>
              rw [if_neg (show ¬ Mb o 5 = 0 by rw [hb.2.2.2.1]; exact b2i_t q), if_pos rfl]
              exact ⟨Mb, rfl, hb⟩
            | false =>
              rw [if_pos (show Mb o 5 = 0 by rw [hb.2.2.2.1]; exact b2i_f q), if_neg (by decide)]
              exact jB (wa_along hE hb hN) (fun Mx hx => jB (wa_look hE hx hN) (fun M' h' => ⟨M', rfl, h'⟩))
          refine jB (P := fun M' => WA M1 M' o F (F.wR3 (F.wR2 (F.wR1 w)))) ?_ (fun Md hd => ?_)
          · unfold FT.wR3
            cases q : (F.wR2 (F.wR1 w)).2.2.2.2 with
            | true =>
              rw [if_neg (show ¬ Mc o 5 = 0 by rw [hc.2.2.2.1]; exact b2i_t q), if_pos rfl]
              exact ⟨Mc, rfl, hc⟩
            | false =>
              rw [if_pos (show Mc o 5 = 0 by rw [hc.2.2.2.1]; exact b2i_f q), if_neg (by decide)]
              exact jB (wa_pairs hE hc hN) (fun M' h' => ⟨M', rfl, h'⟩)
          refine jB (P := fun M' => WA M1 M' o F (F.wR4 (F.wR3 (F.wR2 (F.wR1 w))))) ?_ (fun Me he => ⟨_, rfl, Or.inl ⟨Me, by rw [nI_1], ?_⟩⟩)
          · unfold FT.wR4
            cases q : (F.wR3 (F.wR2 (F.wR1 w))).2.2.2.2 with
            | true =>
              rw [if_neg (show ¬ Md o 5 = 0 by rw [hd.2.2.2.1]; exact b2i_t q), if_pos rfl]
              exact ⟨Md, rfl, hd⟩
            | false =>
              rw [if_pos (show Md o 5 = 0 by rw [hd.2.2.2.1]; exact b2i_f q), if_neg (by decide)]
              exact jB (wa_sets hE hd hN) (fun Mx hx => jB (wa_look hE hx hN) (fun M' h' => ⟨M', rfl, h'⟩))
          show WA M1 Me o F (F.wG w)
          rw [hG]
          exact he
    · intro t14 h14
      have h14' : WA M1 t14 o F (F.win t ah) := by
        unfold FT.win
        rw [wN_fF F 20 0]
        exact h14
      cases q : (F.win t ah).2.2.2.2 with
      | true =>
        rw [if_neg (show ¬ t14 o 5 = 0 by rw [h14'.2.2.2.1]; exact b2i_t q)]
        exact ⟨_, rfl, rfl, h14'⟩
      | false =>
        rw [if_pos (show t14 o 5 = 0 by rw [h14'.2.2.2.1]; exact b2i_f q)]
        exact ⟨_, rfl, rfl, h14'⟩
  obtain ⟨⟨M', v⟩, k1, k2, k3⟩ := key
  exact ⟨M', v, k1, k2, k3.1, k3.2.1, k3.o3 hE, fun a i z => (k3.2.2.2.2 a i (by omega)).trans (f1 a i (by omega))⟩
end WY
