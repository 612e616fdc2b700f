/-! windows: the class -/
def WA (M0 M : JMem) (o : Nat) (F : FT) (w : WT) : Prop := (∀ s, s < F.ns → M (o + 1) s = w.1 s ∧ M (o + 2) s = w.2.1 s) ∧ (∀ s, s < 32 → M (o + 3) s = w.2.2.1 s) ∧ M o 4 = b2i w.2.2.2.1 ∧ M o 5 = b2i w.2.2.2.2 ∧ ∀ a i, ¬ ((o + 1 ≤ a ∧ a ≤ o + 3) ∨ (a = o ∧ (i = 4 ∨ i = 5))) → M a i = M0 a i
/-- what the windows are asked over -/
def WE (M0 : JMem) (o : Nat) (F : FT) : Prop := WF F ∧ AF M0 F ∧ 43 < o ∧ M0 o 3 = nI F.ns
/-! a run of binds that comes to its end -/
theorem jB {α β : Type} {X : Option α} {K : α → Option β} {P : α → Prop} {Q : β → Prop} (h : ∃ a, X = some a ∧ P a) (k : ∀ a, P a → ∃ r, K a = some r ∧ Q r) : ∃ r, X.bind K = some r ∧ Q r := by
  obtain ⟨a, e, p⟩ := h
  rw [e]
  exact k a p
theorem jlpG {σ ρ : Type} {body : Int32 × JMem → Option ((Int32 × JMem) ⊕ JMem)} {K : JMem → Option ρ} {Q : ρ → Prop} (R : σ → JMem → Prop) (f : Nat → σ → σ) (n a : Nat) {N : Nat} {w : σ} {M : JMem} {z0 : Int32} (hz : z0 = nI a) (hN : n < N) (hR : R w M) (he : ∀ w M, R w M → body (nI (a + n), M) = some (.inr M)) (hs : ∀ i w M, a ≤ i → i < a + n → R w M → ∃ x, body (nI i, M) = some x ∧ ((∃ M', x = .inl (nI (i + 1), M') ∧ R (f i w) M') ∨ (x = .inr M ∧ ∀ j, i ≤ j → j < a + n → f j w = w))) (k : ∀ M', R (fF f a n w) M' → ∃ r, K M' = some r ∧ Q r) : ∃ r, (jLp N body (z0, M)).bind K = some r ∧ Q r := by
  subst hz
  refine jB (jlpF R f n a N w M hN hR he (fun i w M h1 h2 hR => ?_)) k
  obtain ⟨x, e, z⟩ := hs i w M h1 h2 hR
  rcases z with ⟨M', rfl, z⟩ | ⟨rfl, z⟩
  · exact Or.inl ⟨M', e, z⟩
  · exact Or.inr ⟨e, z⟩
theorem jlpDG {σ ρ : Type} {body : Int32 × JMem → Option ((Int32 × JMem) ⊕ JMem)} {K : JMem → Option ρ} {Q : ρ → Prop} (R : σ → JMem → Prop) (f : Nat → σ → σ) (cn : Nat → Int32) (n : Nat) {N : Nat} {w : σ} {M : JMem} {z0 : Int32} (hz : z0 = cn n) (hN : n < N) (hR : R w M) (he : ∀ w M, R w M → body (cn 0, M) = some (.inr M)) (hs : ∀ i w M, i < n → R w M → ∃ x, body (cn (i + 1), M) = some x ∧ ∃ M', x = .inl (cn i, M') ∧ R (f i w) M') (k : ∀ M', R (fD f n w) M' → ∃ r, K M' = some r ∧ Q r) : ∃ r, (jLp N body (z0, M)).bind K = some r ∧ Q r := by
  subst hz
  refine jB (jlpD R f cn n N w M hN hR he (fun i w M h1 hR => ?_)) k
  obtain ⟨x, e, M', rfl, z⟩ := hs i w M h1 hR
  exact ⟨M', e, z⟩
/-- a step more of a loop -/
theorem jstep {f : Nat → WT → WT} {R : WT → JMem → Prop} {i n : Nat} {w : WT} {M M' : JMem} (h : R (f i w) M') : ∃ x : (Int32 × JMem) ⊕ JMem, some (Sum.inl (nI i + 1, M')) = some x ∧ ((∃ M', x = .inl (nI (i + 1), M') ∧ R (f i w) M') ∨ (x = .inr M ∧ ∀ j, i ≤ j → j < n → f j w = w)) := ⟨_, rfl, Or.inl ⟨M', by rw [nI_1], h⟩⟩
section WX
variable {M0 M : JMem} {N o : Nat} {F : FT} {w : WT}
theorem WA.af (hE : WE M0 o F) (h : WA M0 M o F w) : AF M F := hE.2.1.fr hE.1.1.1 (fun a i _ _ => h.2.2.2.2 a i (by have := hE.2.2.1; omega))
theorem WA.o3 (hE : WE M0 o F) (h : WA M0 M o F w) : M o 3 = nI F.ns := by rw [h.2.2.2.2 o 3 (by omega)]; exact hE.2.2.2
theorem upd_s {f : Nat → Int32} {k : Nat} {x : Int32} : upd f k x k = x := if_pos rfl
theorem upd_n {f : Nat → Int32} {k j : Nat} {x : Int32} (h : j ≠ k) : upd f k x j = f j := if_neg h
theorem wa_raise (hE : WE M0 o F) (h : WA M0 M o F w) {s : Nat} (hs : s < F.ns) (v : Int32) : ∃ M', f_X6_raise M o (nI s) v = some M' ∧ WA M0 M' o F (wRaise w s v) := by
  have hns := hE.1.2.2.1.1
  obtain ⟨h1, h2, h3, h4, h5⟩ := id h
  unfold f_X6_raise wRaise
  rw [jrd_nI (by omega) (by decide), Option.bind_some, (h1 s hs).1]
  by_cases e : v ≤ w.1 s
  · rw [if_pos e, if_pos e]
    exact ⟨M, rfl, h⟩
  · obtain ⟨Ma, ua, fa, va⟩ := jupX M (o + 1) s v
    obtain ⟨Mb, ub, fb, vb⟩ := jupX Ma o 4 1
    rw [if_neg e, if_neg e, jwr_nI (by omega) (by decide), ua, Option.bind_some, ub, Option.bind_some]
    refine ⟨Mb, rfl, fun u hu => ⟨?_, ?_⟩, fun u hu => ?_, vb, ?_, fun a i z => ?_⟩
    · rw [fb _ _ (by omega)]
      by_cases e2 : u = s
      · rw [e2]
        exact va.trans upd_s.symm
      · rw [fa _ _ (by omega)]
        exact (h1 u hu).1.trans (upd_n e2).symm
    · rw [fb _ _ (by omega), fa _ _ (by omega)]
      exact (h1 u hu).2
    · rw [fb _ _ (by omega), fa _ _ (by omega)]
      exact h2 u hu
    · rw [fb _ _ (by omega), fa _ _ (by omega)]
      exact h4
    · rw [fb _ _ (by omega), fa _ _ (by omega)]
      exact h5 a i z
theorem wa_lower (hE : WE M0 o F) (h : WA M0 M o F w) {s : Nat} (hs : s < F.ns) (v : Int32) : ∃ M', f_X6_lower M o (nI s) v = some M' ∧ WA M0 M' o F (wLower w s v) := by
  have hns := hE.1.2.2.1.1
  obtain ⟨h1, h2, h3, h4, h5⟩ := id h
  unfold f_X6_lower wLower
  rw [jrd_nI (by omega) (by decide), Option.bind_some, (h1 s hs).2]
  by_cases e : w.2.1 s ≤ v
  · rw [if_pos e, if_pos e]
    exact ⟨M, rfl, h⟩
  · obtain ⟨Ma, ua, fa, va⟩ := jupX M (o + 2) s v
    obtain ⟨Mb, ub, fb, vb⟩ := jupX Ma o 4 1
    rw [if_neg e, if_neg e, jwr_nI (by omega) (by decide), ua, Option.bind_some, ub, Option.bind_some]
    refine ⟨Mb, rfl, fun u hu => ⟨?_, ?_⟩, fun u hu => ?_, vb, ?_, fun a i z => ?_⟩
    · rw [fb _ _ (by omega), fa _ _ (by omega)]
      exact (h1 u hu).1
    · rw [fb _ _ (by omega)]
      by_cases e2 : u = s
      · rw [e2]
        exact va.trans upd_s.symm
      · rw [fa _ _ (by omega)]
        exact (h1 u hu).2.trans (upd_n e2).symm
    · rw [fb _ _ (by omega), fa _ _ (by omega)]
      exact h2 u hu
    · rw [fb _ _ (by omega), fa _ _ (by omega)]
      exact h4
    · rw [fb _ _ (by omega), fa _ _ (by omega)]
      exact h5 a i z
theorem wa_tell (hE : WE M0 o F) (h : WA M0 M o F w) {f g : Nat} (hf : f < 32) : ∃ M', f_X6_tellAhead M o (nI f) (nI g) = some M' ∧ WA M0 M' o F (wTell w f g) := by
  obtain ⟨h1, h2, h3, h4, h5⟩ := id h
  unfold f_X6_tellAhead wTell
  obtain ⟨Ma, ua, fa, va⟩ := jupX M (o + 3) f (w.2.2.1 f ||| jshl 1 (nI g))
  obtain ⟨Mb, ub, fb, vb⟩ := jupX Ma o 4 1
  rw [jrd_nI hf (by decide), Option.bind_some, h2 f hf, jwr_nI hf (by decide), ua, Option.bind_some, ub, Option.bind_some]
  refine ⟨Mb, rfl, fun u hu => ⟨?_, ?_⟩, fun u hu => ?_, vb, ?_, fun a i z => ?_⟩
  · rw [fb _ _ (by omega), fa _ _ (by omega)]
    exact (h1 u hu).1
  · rw [fb _ _ (by omega), fa _ _ (by omega)]
    exact (h1 u hu).2
  · rw [fb _ _ (by omega)]
    by_cases e2 : u = f
    · rw [e2]
      exact va.trans upd_s.symm
    · rw [fa _ _ (by omega)]
      exact (h2 u hu).trans (upd_n e2).symm
  · rw [fb _ _ (by omega), fa _ _ (by omega)]
    exact h4
  · rw [fb _ _ (by omega), fa _ _ (by omega)]
    exact h5 a i z
theorem wa_burst (h : WA M0 M o F w) : WA M0 (jup M o 5 1) o F (wBurst w) := by
  obtain ⟨h1, h2, h3, h4, h5⟩ := id h
  obtain ⟨Ma, ua, fa, va⟩ := jupX M o 5 1
  rw [ua]
  exact ⟨fun u hu => ⟨(fa _ _ (by omega)).trans (h1 u hu).1, (fa _ _ (by omega)).trans (h1 u hu).2⟩, fun u hu => (fa _ _ (by omega)).trans (h2 u hu), (fa _ _ (by omega)).trans h3, va, fun a i z => (fa _ _ (by omega)).trans (h5 a i z)⟩
theorem wa_isAhead (h : WA M0 M o F w) {f g : Nat} (hf : f < 32) (hg : g < 32) : f_X6_isAhead M o (nI f) (nI g) = some (if bt (w.2.2.1 f) g = true then 1 else 0) := by
  unfold f_X6_isAhead
  rw [jrd_nI hf (by decide), Option.bind_some, h.2.1 f hf, jb1 _ hg]
  by_cases e : bt (w.2.2.1 f) g = true
  · rw [if_pos e, if_neg (show ¬ (1 : Int32) = 0 by decide)]
  · rw [if_neg e, if_pos rfl]
theorem wa_pieces (hE : WE M0 o F) (h : WA M0 M o F w) (hN : 100 ≤ N) : ∃ M', f_X6_alongPieces N M o = some M' ∧ WA M0 M' o F (F.wPs w) := by
  have hW := hE.1
  have hns := hW.2.2.1.1
  have hnp := hW.2.1.1
  unfold f_X6_alongPieces
  refine jlpG (fun w M => WA M0 M o F w) F.wP F.np 0 rfl (by omega) h ?_ ?_ (fun M' h => ⟨M', rfl, h⟩)
  · intro w M h
    show (if M 1 1 ≤ nI (0 + F.np) then _ else _) = _
    rw [(h.af hE).2.1, Nat.zero_add, if_pos (jleT (Nat.le_refl _) (by omega))]
  · intro p w M hp1 hp2 h
    have hA := h.af hE
    have hp12 : p < 12 := by omega
    have hlc := hW.2.1.2.2.1 p
    dsimp only
    rw [hA.2.1, if_neg (jleF (by omega) (by omega)), jrw_nI hp12 (by decide), Option.bind_some, jrd_nI hp12 (by decide), Option.bind_some, hA.2.2.2.2.2.1 p hp12]
    refine jlpG (fun w M => WA M0 M o F w) (fun k w => wRaise w (F.ln p k) (w.1 (F.ln p (k - 1)) + nI (F.sp (F.ln p (k - 1))))) (F.lc p - 1) 1 rfl (by omega) h ?_ ?_ ?_
    · intro w M h
      dsimp only
      rw [if_pos (jleT (by omega) (by omega))]
    · intro k w M hk1 hk2 h
      have hA := h.af hE
      obtain ⟨b1, -⟩ := sp_ln hW (show k < F.lc p by omega)
      obtain ⟨b2, -⟩ := sp_ln hW (show k - 1 < F.lc p by omega)
      dsimp only
      rw [if_neg (jleF (by omega) (by omega)), jrd_nI (show k < 8 by omega) (by decide), Option.bind_some, jsub1 (by omega), jrd_nI (show k - 1 < 8 by omega) (by decide), Option.bind_some, hA.2.2.2.2.2.2.1 p k hp12 (by omega), hA.2.2.2.2.2.2.1 p (k - 1) hp12 (by omega), jrd_nI (show F.ln p (k - 1) < 32 by omega) (by decide), Option.bind_some, Option.bind_some, jrd_nI (show F.ln p (k - 1) < 32 by omega) (by decide), Option.bind_some, (h.1 _ b2).1, (hA.2.2.2.2.2.2.2.1 _ b2).2.2.1]
      exact jB (wa_raise hE h b1 _) (fun M' h' => ⟨_, rfl, Or.inl ⟨M', by rw [nI_1], h'⟩⟩)
    · intro t20 h20
      have fin : ∀ t36, WA M0 t36 o F (F.wP p w) → ∃ x : (Int32 × JMem) ⊕ JMem, some (Sum.inl (nI p + 1, t36)) = some x ∧ ((∃ M', x = .inl (nI (p + 1), M') ∧ WA M0 M' o F (F.wP p w)) ∨ (x = .inr M ∧ ∀ j, p ≤ j → j < 0 + F.np → F.wP j w = w)) := fun t36 h36 => ⟨_, rfl, Or.inl ⟨t36, by rw [nI_1], h36⟩⟩
      by_cases z : F.lc p = 0
      · refine jB (P := fun t36 => WA M0 t36 o F (F.wP p w)) ⟨t20, jLp_rr (by omega) (by dsimp only; rw [z, if_pos (by decide)]), ?_⟩ fin
        unfold FT.wP
        rw [show F.lc p - 1 = 0 by omega] at h20 ⊢
        exact h20
      · refine jlpDG (fun w M => WA M0 M o F w) (fun i w => wLower w (F.ln p i) (w.2.1 (F.ln p (i + 1)) - nI (F.sp (F.ln p (i + 1))))) nI (F.lc p - 1) (jsub1 (by omega)) (by omega) h20 ?_ ?_ fin
        · intro w M h
          dsimp only
          rw [if_pos (by decide)]
        · intro i w M hi h
          have hA := h.af hE
          obtain ⟨b1, -⟩ := sp_ln hW (show i < F.lc p by omega)
          obtain ⟨b2, -⟩ := sp_ln hW (show i + 1 < F.lc p by omega)
          dsimp only
          rw [if_neg (by rw [jleL (by omega) (by decide)]; omega), jsub1 (by omega), Nat.add_sub_cancel, jrd_nI (show i < 8 by omega) (by decide), Option.bind_some, jrd_nI (show i + 1 < 8 by omega) (by decide), Option.bind_some, hA.2.2.2.2.2.2.1 p i hp12 (by omega), hA.2.2.2.2.2.2.1 p (i + 1) hp12 (by omega), jrd_nI (show F.ln p (i + 1) < 32 by omega) (by decide), Option.bind_some, Option.bind_some, jrd_nI (show F.ln p (i + 1) < 32 by omega) (by decide), Option.bind_some, (h.1 _ b2).2, (hA.2.2.2.2.2.2.2.1 _ b2).2.2.1]
          exact jB (wa_lower hE h b1 _) (fun M' h' => ⟨_, rfl, M', by rw [pk_m1], h'⟩)
theorem wa_look (hE : WE M0 o F) (h : WA M0 M o F w) (hN : 100 ≤ N) : ∃ M', f_X6_lookForBurst N M o = some M' ∧ WA M0 M' o F (F.wL w) := by
  have hW := hE.1
  have hns := hW.2.2.1.1
  unfold f_X6_lookForBurst
  refine jlpG (fun w M => WA M0 M o F w) F.wL1 F.ns 0 rfl (by omega) h ?_ ?_ (fun M' h => ⟨M', rfl, h⟩)
  · intro w M h
    show (if M o 3 ≤ nI (0 + F.ns) then _ else _) = _
    rw [h.o3 hE, Nat.zero_add, if_pos (jleT (Nat.le_refl _) (by omega))]
  · intro s w M hs1 hs2 h
    have hA := h.af hE
    have hs : s < F.ns := by omega
    dsimp only
    rw [h.o3 hE, if_neg (jleF (by omega) (by omega)), jrd_nI (by omega) (by decide), Option.bind_some, jrd_nI (by omega) (by decide), Option.bind_some, jrd_nI (by omega) (by decide), Option.bind_some, (h.1 s hs).1, (h.1 s hs).2, (hA.2.2.2.2.2.2.2.1 s hs).2.2.1]
    refine jB (P := fun M' => WA M0 M' o F (F.wL1 s w)) ?_ (fun M' h' => ⟨_, rfl, Or.inl ⟨M', by rw [nI_1], h'⟩⟩)
    unfold FT.wL1
    by_cases e : nI (F.sp s) ≤ w.2.1 s - w.1 s
    · rw [if_pos e, if_pos e]
      exact ⟨M, rfl, h⟩
    · rw [if_neg e, if_neg e]
      exact ⟨_, rfl, wa_burst h⟩
theorem wa_along (hE : WE M0 o F) (h : WA M0 M o F w) (hN : 100 ≤ N) : ∃ M', f_X6_alongPairs N M o = some M' ∧ WA M0 M' o F (F.wA w) := by
  have hW := hE.1
  have hns := hW.2.2.1.1
  have n10 : ¬ (1 : Int32) = 0 := by decide
  unfold f_X6_alongPairs
  refine jlpG (fun w M => WA M0 M o F w) (fun f w => fF (fun g w => F.wA2 f g w) 0 F.ns w) F.ns 0 rfl (by omega) h ?_ ?_ (fun M' h => ⟨M', rfl, h⟩)
  · intro w M h
    show (if M o 3 ≤ nI (0 + F.ns) then _ else _) = _
    rw [h.o3 hE, Nat.zero_add, if_pos (jleT (Nat.le_refl _) (by omega))]
  · intro f w M hf1 hf2 h
    dsimp only
    rw [if_neg (show ¬ M o 3 ≤ nI f by rw [h.o3 hE]; exact jleF (by omega) (by omega))]
    refine jlpG (fun w M => WA M0 M o F w) (fun g w => F.wA2 f g w) F.ns 0 rfl (by omega) h ?_ ?_ (fun M' h' => ⟨_, rfl, Or.inl ⟨M', by rw [nI_1], h'⟩⟩)
    · intro w M h
      show (if M o 3 ≤ nI (0 + F.ns) then _ else _) = _
      rw [h.o3 hE, Nat.zero_add, if_pos (jleT (Nat.le_refl _) (by omega))]
    · intro g w M hg1 hg2 h
      have hA := h.af hE
      have hf : f < F.ns := by omega
      have hg : g < F.ns := by omega
      dsimp only
      rw [if_neg (show ¬ M o 3 ≤ nI g by rw [h.o3 hE]; exact jleF (by omega) (by omega)), wa_isAhead h (by omega) (by omega), Option.bind_some]
      refine jB (P := fun M' => WA M0 M' o F (F.wA2 f g w)) ?_ (fun M' h' => ⟨_, rfl, Or.inl ⟨M', by rw [nI_1], h'⟩⟩)
      unfold FT.wA2
      by_cases e : bt (w.2.2.1 f) g = true
      · rw [if_pos e, if_neg n10, if_pos e, jrd_nI (by omega) (by decide), Option.bind_some, jrd_nI (by omega) (by decide), Option.bind_some, (h.1 f hf).1, (hA.2.2.2.2.2.2.2.1 f hf).2.2.1]
        refine jB (wa_raise hE h hg _) (fun M' h' => ?_)
        rw [jrd_nI (by omega) (by decide), Option.bind_some, jrd_nI (by omega) (by decide), Option.bind_some, (h'.1 g hg).2, ((h'.af hE).2.2.2.2.2.2.2.1 g hg).2.2.1]
        exact jB (wa_lower hE h' hf _) (fun M' h' => ⟨M', rfl, h'⟩)
      · rw [if_neg e, if_pos rfl, if_neg e]
        exact ⟨M, rfl, h⟩
theorem wa_pair (hE : WE M0 o F) (h : WA M0 M o F w) {f g : Nat} (hf : f < F.ns) (hg : g < F.ns) (hb : w.2.2.2.2 = false) : ∃ M', f_X6_tellPair M o (nI f) (nI g) = some M' ∧ WA M0 M' o F (F.wT1 f g w) := by
  have hns := hE.1.2.2.1.1
  have n10 : ¬ (1 : Int32) = 0 := by decide
  have hA := h.af hE
  unfold f_X6_tellPair f_X6_isOpen FT.wT1
  rw [wa_isAhead h (by omega) (by omega), Option.bind_some, wa_isAhead h (by omega) (by omega), Option.bind_some, if_neg (show ¬ w.2.2.2.2 = true by rw [hb]; decide)]
  by_cases e1 : bt (w.2.2.1 f) g = true
  · rw [if_pos e1, if_neg n10, Option.bind_some, if_pos rfl, if_pos e1]
    exact ⟨M, rfl, h⟩
  · rw [if_neg e1, if_pos rfl, if_neg e1]
    by_cases e2 : bt (w.2.2.1 g) f = true
    · rw [if_pos e2, if_neg n10, Option.bind_some, if_pos rfl, if_pos e2]
      exact ⟨M, rfl, h⟩
    · rw [if_neg e2, if_pos rfl, Option.bind_some, if_neg n10, if_neg e2, jrd_nI (by omega) (by decide), Option.bind_some, jrd_nI (by omega) (by decide), Option.bind_some, jrd_nI (by omega) (by decide), Option.bind_some, jrd_nI (by omega) (by decide), Option.bind_some, (hA.2.2.2.2.2.2.2.1 f hf).2.2.1, (hA.2.2.2.2.2.2.2.1 g hg).2.2.1, (h.1 f hf).1, (h.1 g hg).2, jrd_nI (show g < 32 by omega) (by decide), jrd_nI (show f < 32 by omega) (by decide), (h.1 g hg).1, (h.1 f hf).2]
      by_cases q1 : w.1 f + (nI (F.sp f) + nI (F.sp g)) ≤ w.2.1 g
      · rw [if_pos q1, if_pos q1, Option.bind_some, Option.bind_some, Option.bind_some]
        by_cases q2 : w.1 g + (nI (F.sp f) + nI (F.sp g)) ≤ w.2.1 f
        · rw [if_pos q2, if_pos q2, Option.bind_some, if_pos rfl, jcR, if_pos rfl, if_pos rfl]
          exact ⟨M, rfl, h⟩
        · rw [if_neg q2, if_neg q2, Option.bind_some, if_pos rfl, jcR, if_pos rfl, if_neg n10]
          exact jB (wa_tell hE h (by omega)) (fun M' h' => ⟨M', rfl, h'⟩)
      · rw [if_neg q1, if_neg q1, Option.bind_some, Option.bind_some, Option.bind_some]
        by_cases q2 : w.1 g + (nI (F.sp f) + nI (F.sp g)) ≤ w.2.1 f
        · rw [if_pos q2, if_pos q2, Option.bind_some, if_neg n10, if_pos rfl, jcR, if_neg n10]
          exact jB (wa_tell hE h (by omega)) (fun M' h' => ⟨M', rfl, h'⟩)
        · rw [if_neg q2, if_neg q2, Option.bind_some, if_neg n10, if_neg n10, Option.bind_some, jcL]
          exact ⟨_, rfl, wa_burst h⟩
end WX
