/-! windows: the model -/
def WB (M0 M : JMem) (F : FT) (w : WT) : Prop := (∀ s, s < F.ns → M 242 s = w.1 s ∧ M 243 s = w.2.1 s) ∧ (∀ s, s < 32 → M 244 s = w.2.2.1 s) ∧ M 221 28 = b2i w.2.2.2.1 ∧ M 221 29 = b2i w.2.2.2.2 ∧ ∀ a i, ¬ ((242 ≤ a ∧ a ≤ 244) ∨ (a = 221 ∧ (i = 28 ∨ i = 29))) → M a i = M0 a i
def WD (M0 : JMem) (F : FT) : Prop := WF F ∧ BF M0 F
section WZ
variable {M0 M : JMem} {N : Nat} {F : FT} {w : WT}
theorem WB.bf (hE : WD M0 F) (h : WB M0 M F w) : BF M F := hE.2.fr ⟨h.2.2.2.2 _ _ (by omega), h.2.2.2.2 _ _ (by omega), h.2.2.2.2 _ _ (by omega)⟩ (fun a i _ _ => h.2.2.2.2 a i (by omega))
theorem wb_raise (hE : WD M0 F) (h : WB M0 M F w) {s : Nat} (hs : s < F.ns) (v : Int32) : ∃ M', f_X8_head M (nI s) v = some M' ∧ WB M0 M' F (wRaise w s v) := by
  have hns := hE.1.2.2.1.1
  obtain ⟨h1, h2, h3, h4, h5⟩ := id h
  unfold f_X8_head wRaise
  rw [jrd_nI (by omega) (by decide), Option.bind_some, (h1 s hs).1]
  by_cases e : v ≤ w.1 s
  · rw [if_pos e, if_pos e]
    exact ⟨M, rfl, h⟩
  · obtain ⟨Ma, ua, fa, va⟩ := jupX M 242 s v
    obtain ⟨Mb, ub, fb, vb⟩ := jupX Ma 221 28 1
    rw [if_neg e, if_neg e, jwr_nI (by omega) (by decide), ua, Option.bind_some, ub, Option.bind_some]
    refine ⟨Mb, rfl, fun u hu => ⟨?_, ?_⟩, fun u hu => ?_, vb, ?_, fun a i z => ?_⟩
    · rw [fb _ _ (by omega)]
      by_cases e2 : u = s
      · rw [e2]
        exact va.trans upd_s.symm
      · rw [fa _ _ (by omega)]
        exact (h1 u hu).1.trans (upd_n e2).symm
    · rw [fb _ _ (by omega), fa _ _ (by omega)]
      exact (h1 u hu).2
    · rw [fb _ _ (by omega), fa _ _ (by omega)]
      exact h2 u hu
    · rw [fb _ _ (by omega), fa _ _ (by omega)]
      exact h4
    · rw [fb _ _ (by omega), fa _ _ (by omega)]
      exact h5 a i z
theorem wb_lower (hE : WD M0 F) (h : WB M0 M F w) {s : Nat} (hs : s < F.ns) (v : Int32) : ∃ M', f_X8_dead M (nI s) v = some M' ∧ WB M0 M' F (wLower w s v) := by
  have hns := hE.1.2.2.1.1
  obtain ⟨h1, h2, h3, h4, h5⟩ := id h
  unfold f_X8_dead wLower
  rw [jrd_nI (by omega) (by decide), Option.bind_some, (h1 s hs).2]
  by_cases e : w.2.1 s ≤ v
  · rw [if_pos e, if_pos e]
    exact ⟨M, rfl, h⟩
  · obtain ⟨Ma, ua, fa, va⟩ := jupX M 243 s v
    obtain ⟨Mb, ub, fb, vb⟩ := jupX Ma 221 28 1
    rw [if_neg e, if_neg e, jwr_nI (by omega) (by decide), ua, Option.bind_some, ub, Option.bind_some]
    refine ⟨Mb, rfl, fun u hu => ⟨?_, ?_⟩, fun u hu => ?_, vb, ?_, fun a i z => ?_⟩
    · rw [fb _ _ (by omega), fa _ _ (by omega)]
      exact (h1 u hu).1
    · rw [fb _ _ (by omega)]
      by_cases e2 : u = s
      · rw [e2]
        exact va.trans upd_s.symm
      · rw [fa _ _ (by omega)]
        exact (h1 u hu).2.trans (upd_n e2).symm
    · rw [fb _ _ (by omega), fa _ _ (by omega)]
      exact h2 u hu
    · rw [fb _ _ (by omega), fa _ _ (by omega)]
      exact h4
    · rw [fb _ _ (by omega), fa _ _ (by omega)]
      exact h5 a i z
theorem wb_tell (h : WB M0 M F w) {f g : Nat} (hf : f < 32) : ∃ M', f_X8_tell M (nI f) (nI g) = some M' ∧ WB M0 M' F (wTell w f g) := by
  obtain ⟨h1, h2, h3, h4, h5⟩ := id h
  unfold f_X8_tell wTell
  obtain ⟨Ma, ua, fa, va⟩ := jupX M 244 f (w.2.2.1 f ||| jshl 1 (nI g))
  obtain ⟨Mb, ub, fb, vb⟩ := jupX Ma 221 28 1
  rw [jrd_nI hf (by decide), Option.bind_some, h2 f hf, jwr_nI hf (by decide), ua, Option.bind_some, ub, Option.bind_some]
  refine ⟨Mb, rfl, fun u hu => ⟨?_, ?_⟩, fun u hu => ?_, vb, ?_, fun a i z => ?_⟩
  · rw [fb _ _ (by omega), fa _ _ (by omega)]
    exact (h1 u hu).1
  · rw [fb _ _ (by omega), fa _ _ (by omega)]
    exact (h1 u hu).2
  · rw [fb _ _ (by omega)]
    by_cases e2 : u = f
    · rw [e2]
      exact va.trans upd_s.symm
    · rw [fa _ _ (by omega)]
      exact (h2 u hu).trans (upd_n e2).symm
  · rw [fb _ _ (by omega), fa _ _ (by omega)]
    exact h4
  · rw [fb _ _ (by omega), fa _ _ (by omega)]
    exact h5 a i z
theorem wb_set29 (h : WB M0 M F w) (b : Bool) {v : Int32} (hv : v = b2i b) : WB M0 (jup M 221 29 v) F (w.1, w.2.1, w.2.2.1, w.2.2.2.1, b) := by
  obtain ⟨h1, h2, h3, h4, h5⟩ := id h
  obtain ⟨Ma, ua, fa, va⟩ := jupX M 221 29 v
  rw [ua]
  exact ⟨fun u hu => ⟨(fa _ _ (by omega)).trans (h1 u hu).1, (fa _ _ (by omega)).trans (h1 u hu).2⟩, fun u hu => (fa _ _ (by omega)).trans (h2 u hu), (fa _ _ (by omega)).trans h3, va.trans hv, fun a i z => (fa _ _ (by omega)).trans (h5 a i z)⟩
theorem wb_isAhead (h : WB M0 M F w) {f g : Nat} (hf : f < 32) (hg : g < 32) : f_X8_isAhead M (nI f) (nI g) = some (if bt (w.2.2.1 f) g = true then 1 else 0) := by
  unfold f_X8_isAhead
  rw [jrd_nI hf (by decide), Option.bind_some, h.2.1 f hf, jb1 _ hg]
  by_cases e : bt (w.2.2.1 f) g = true
  · rw [if_pos e, if_pos rfl]
  · rw [if_neg e, if_neg (by decide)]
theorem wBurst_b (h : w.2.2.2.2 = true) : wBurst w = w := by
  obtain ⟨a, b, c, d, e⟩ := w
  have h2 : e = true := h
  rw [h2]
  rfl
theorem wb_pieces (hE : WD M0 F) (h : WB M0 M F w) (hN : 100 ≤ N) : ∃ M', f_X8_byPieces N M = some M' ∧ WB M0 M' F (F.wPs w) := by
  have hW := hE.1
  have hns := hW.2.2.1.1
  have hnp := hW.2.1.1
  unfold f_X8_byPieces
  refine jlpG (fun w M => WB M0 M F w) F.wP F.np 0 rfl (by omega) h ?_ ?_ (fun M' h => ⟨M', rfl, h⟩)
  · intro w M h
    show (if M 221 6 ≤ nI (0 + F.np) then _ else _) = _
    rw [(h.bf hE).2.1, Nat.zero_add, if_pos (jleT (Nat.le_refl _) (by omega))]
  · intro p w M hp1 hp2 h
    have hB := h.bf hE
    have hp12 : p < 12 := by omega
    have hlc := hW.2.1.2.2.1 p
    dsimp only
    rw [if_neg (show ¬ M 221 6 ≤ nI p by rw [hB.2.1]; exact jleF (by omega) (by omega))]
    refine jlpG (fun w M => WB M0 M F w) (fun k w => wRaise w (F.ln p k) (w.1 (F.ln p (k - 1)) + nI (F.sp (F.ln p (k - 1))))) (F.lc p - 1) 1 rfl (by omega) h ?_ ?_ ?_
    · intro w M h
      dsimp only
      rw [jrd_nI hp12 (by decide), Option.bind_some, (h.bf hE).2.2.2.2.2.1 p (by omega), if_pos (jleT (by omega) (by omega))]
    · intro k w M hk1 hk2 h
      have hB := h.bf hE
      obtain ⟨b1, -⟩ := sp_ln hW (show k < F.lc p by omega)
      obtain ⟨b2, -⟩ := sp_ln hW (show k - 1 < F.lc p by omega)
      dsimp only
      rw [jrd_nI hp12 (by decide), Option.bind_some, hB.2.2.2.2.2.1 p (by omega), if_neg (jleF (by omega) (by omega)), jmul8, nI_add, jsub1 (by omega), jrd_nI (show 8 * p + k - 1 < 96 by omega) (by decide), Option.bind_some, jrd_nI (show 8 * p + k < 96 by omega) (by decide), Option.bind_some, show 8 * p + k - 1 = 8 * p + (k - 1) by omega, hB.2.2.2.2.2.2.1 p k hp12 (by omega), hB.2.2.2.2.2.2.1 p (k - 1) hp12 (by omega), jrd_nI (show F.ln p (k - 1) < 32 by omega) (by decide), Option.bind_some, jrd_nI (show F.ln p (k - 1) < 32 by omega) (by decide), Option.bind_some, (h.1 _ b2).1, (hB.2.2.2.2.2.2.2 _ b2).2.2.1]
      exact jB (wb_raise hE h b1 _) (fun M' h' => ⟨_, rfl, Or.inl ⟨M', by rw [nI_1], h'⟩⟩)
    · intro t20 h20
      have fin : ∀ t36, WB M0 t36 F (F.wP p w) → ∃ x : (Int32 × JMem) ⊕ JMem, some (Sum.inl (nI p + 1, t36)) = some x ∧ ((∃ M', x = .inl (nI (p + 1), M') ∧ WB M0 M' F (F.wP p w)) ∨ (x = .inr M ∧ ∀ j, p ≤ j → j < 0 + F.np → F.wP j w = w)) := fun t36 h36 => ⟨_, rfl, Or.inl ⟨t36, by rw [nI_1], h36⟩⟩
      rw [jrd_nI hp12 (by decide), Option.bind_some, (h20.bf hE).2.2.2.2.2.1 p (by omega)]
      by_cases z : F.lc p = 0
      · refine jB (P := fun t36 => WB M0 t36 F (F.wP p w)) ⟨t20, jLp_rr (by omega) (by dsimp only; rw [z, if_pos (by decide)]), ?_⟩ fin
        unfold FT.wP
        rw [show F.lc p - 1 = 0 by omega] at h20 ⊢
        exact h20
      · refine jlpDG (fun w M => WB M0 M F w) (fun i w => wLower w (F.ln p i) (w.2.1 (F.ln p (i + 1)) - nI (F.sp (F.ln p (i + 1))))) (fun n => nI n - 1) (F.lc p - 1) ?_ (by omega) h20 ?_ ?_ fin
        · rw [← jsub1 (show 1 ≤ F.lc p by omega), Int32.sub_eq_add_neg, Int32.sub_eq_add_neg, Int32.sub_eq_add_neg, Int32.add_assoc]
          rfl
        · intro w M h
          dsimp only
          rw [if_pos (by decide)]
        · intro i w M hi h
          have hB := h.bf hE
          obtain ⟨b1, -⟩ := sp_ln hW (show i < F.lc p by omega)
          obtain ⟨b2, -⟩ := sp_ln hW (show i + 1 < F.lc p by omega)
          have ei : nI (i + 1) - 1 = nI i := by rw [jsub1 (by omega)]; rfl
          dsimp only
          rw [ei, if_neg (jnlt0 (by omega)), jmul8, nI_add, nI_1, jrd_nI (show 8 * p + i + 1 < 96 by omega) (by decide), Option.bind_some, jrd_nI (show 8 * p + i < 96 by omega) (by decide), Option.bind_some, show 8 * p + i + 1 = 8 * p + (i + 1) by omega, hB.2.2.2.2.2.2.1 p i hp12 (by omega), hB.2.2.2.2.2.2.1 p (i + 1) hp12 (by omega), jrd_nI (show F.ln p (i + 1) < 32 by omega) (by decide), Option.bind_some, jrd_nI (show F.ln p (i + 1) < 32 by omega) (by decide), Option.bind_some, (h.1 _ b2).2, (hB.2.2.2.2.2.2.2 _ b2).2.2.1]
          exact jB (wb_lower hE h b1 _) (fun M' h' => ⟨_, rfl, M', by rw [Int32.sub_eq_add_neg], h'⟩)
theorem wb_look (hE : WD M0 F) (h : WB M0 M F w) (hN : 100 ≤ N) : ∃ M', f_X8_ask N M = some M' ∧ WB M0 M' F (F.wL w) := by
  have hW := hE.1
  have hns := hW.2.2.1.1
  unfold f_X8_ask
  refine jlpG (fun w M => WB M0 M F w) F.wL1 F.ns 0 rfl (by omega) h ?_ ?_ (fun M' h => ⟨M', rfl, h⟩)
  · intro w M h
    show (if M 221 11 ≤ nI (0 + F.ns) then _ else _) = _
    rw [(h.bf hE).2.2.1, Nat.zero_add, if_pos (jleT (Nat.le_refl _) (by omega))]
  · intro s w M hs1 hs2 h
    have hB := h.bf hE
    have hs : s < F.ns := by omega
    dsimp only
    rw [if_neg (show ¬ M 221 11 ≤ nI s by rw [hB.2.2.1]; exact jleF (by omega) (by omega))]
    have fin : ∀ b v, v = b2i b → F.wL1 s w = (w.1, w.2.1, w.2.2.1, w.2.2.2.1, b) → ∃ x : (Int32 × JMem) ⊕ JMem, ((some (jup M 221 29 v)).bind fun M26 => some (Sum.inl (nI s + 1, M26))) = some x ∧ ((∃ M', x = .inl (nI (s + 1), M') ∧ WB M0 M' F (F.wL1 s w)) ∨ (x = .inr M ∧ ∀ j, s ≤ j → j < 0 + F.ns → F.wL1 j w = w)) := fun b v hv e => ⟨_, rfl, Or.inl ⟨_, by rw [nI_1], by rw [e]; exact wb_set29 h b hv⟩⟩
    cases hb : w.2.2.2.2 with
    | true =>
      rw [if_neg (show ¬ M 221 29 = 0 by rw [h.2.2.2.1]; exact b2i_t hb), jcR, Option.bind_some]
      refine fin true 1 rfl ?_
      unfold FT.wL1
      rw [wBurst_b hb]
      split
      all_goals (rw [← hb])
    | false =>
      rw [if_pos (show M 221 29 = 0 by rw [h.2.2.2.1]; exact b2i_f hb), jrd_nI (by omega) (by decide), Option.bind_some, jrd_nI (by omega) (by decide), Option.bind_some, jrd_nI (by omega) (by decide), Option.bind_some, (h.1 s hs).1, (h.1 s hs).2, (hB.2.2.2.2.2.2.2 s hs).2.2.1]
      by_cases e : nI (F.sp s) ≤ w.2.1 s - w.1 s
      · rw [if_pos e, jcL, Option.bind_some]
        refine fin false 0 rfl ?_
        unfold FT.wL1
        rw [if_pos e, ← hb]
      · rw [if_neg e, jcR, Option.bind_some]
        refine fin true 1 rfl ?_
        unfold FT.wL1
        rw [if_neg e]
        rfl
theorem wb_along (hE : WD M0 F) (h : WB M0 M F w) (hN : 100 ≤ N) : ∃ M', f_X8_byAhead N M = some M' ∧ WB M0 M' F (F.wA w) := by
  have hW := hE.1
  have hns := hW.2.2.1.1
  have n10 : ¬ (1 : Int32) = 0 := by decide
  unfold f_X8_byAhead
  refine jlpG (fun w M => WB M0 M F w) (fun f w => fF (fun g w => F.wA2 f g w) 0 F.ns w) F.ns 0 rfl (by omega) h ?_ ?_ (fun M' h => ⟨M', rfl, h⟩)
  · intro w M h
    show (if M 221 11 ≤ nI (0 + F.ns) then _ else _) = _
    rw [(h.bf hE).2.2.1, Nat.zero_add, if_pos (jleT (Nat.le_refl _) (by omega))]
  · intro f w M hf1 hf2 h
    dsimp only
    rw [if_neg (show ¬ M 221 11 ≤ nI f by rw [(h.bf hE).2.2.1]; exact jleF (by omega) (by omega))]
    refine jlpG (fun w M => WB M0 M F w) (fun g w => F.wA2 f g w) F.ns 0 rfl (by omega) h ?_ ?_ (fun M' h' => ⟨_, rfl, Or.inl ⟨M', by rw [nI_1], h'⟩⟩)
    · intro w M h
      show (if M 221 11 ≤ nI (0 + F.ns) then _ else _) = _
      rw [(h.bf hE).2.2.1, Nat.zero_add, if_pos (jleT (Nat.le_refl _) (by omega))]
    · intro g w M hg1 hg2 h
      have hB := h.bf hE
      have hf : f < F.ns := by omega
      have hg : g < F.ns := by omega
      dsimp only
      rw [if_neg (show ¬ M 221 11 ≤ nI g by rw [hB.2.2.1]; exact jleF (by omega) (by omega)), wb_isAhead h (by omega) (by omega), Option.bind_some]
      refine jB (P := fun M' => WB M0 M' F (F.wA2 f g w)) ?_ (fun M' h' => ⟨_, rfl, Or.inl ⟨M', by rw [nI_1], h'⟩⟩)
      unfold FT.wA2
      by_cases e : bt (w.2.2.1 f) g = true
      · rw [if_pos e, if_neg n10, if_pos e, jrd_nI (by omega) (by decide), Option.bind_some, jrd_nI (by omega) (by decide), Option.bind_some, (h.1 f hf).1, (hB.2.2.2.2.2.2.2 f hf).2.2.1]
        refine jB (wb_raise hE h hg _) (fun M' h' => ?_)
        rw [jrd_nI (by omega) (by decide), Option.bind_some, jrd_nI (by omega) (by decide), Option.bind_some, (h'.1 g hg).2, ((h'.bf hE).2.2.2.2.2.2.2 g hg).2.2.1]
        exact jB (wb_lower hE h' hf _) (fun M' h' => ⟨M', rfl, h'⟩)
      · rw [if_neg e, if_pos rfl, if_neg e]
        exact ⟨M, rfl, h⟩
theorem wb_pairs (hE : WD M0 F) (h : WB M0 M F w) {m : Nat} (hm : m < F.nm) (hN : 100 ≤ N) : ∃ M', f_X8_byPairs N M (nI m) = some M' ∧ WB M0 M' F (F.wTm m w) := by
  have hW := hE.1
  have hns := hW.2.2.1.1
  have hnm := hW.1.1
  have hm8 : m < 8 := by omega
  have n10 : ¬ (1 : Int32) = 0 := by decide
  unfold f_X8_byPairs
  refine jlpG (fun w M => WB M0 M F w) (fun f w => if F.mc f = m then fF (fun g w => if F.mc g = m then F.wT1 f g w else w) (f + 1) (F.ns - (f + 1)) w else w) F.ns 0 rfl (by omega) h ?_ ?_ (fun M' h => ⟨M', rfl, h⟩)
  · intro w M h
    show (if M 221 11 ≤ nI (0 + F.ns) then _ else _) = _
    rw [(h.bf hE).2.2.1, Nat.zero_add, if_pos (jleT (Nat.le_refl _) (by omega))]
  · intro f w M hf1 hf2 h
    have hf : f < F.ns := by omega
    dsimp only
    rw [if_neg (show ¬ M 221 11 ≤ nI f by rw [(h.bf hE).2.2.1]; exact jleF (by omega) (by omega))]
    cases hb : w.2.2.2.2 with
    | true =>
      rw [if_neg (show ¬ M 221 29 = 0 by rw [h.2.2.2.1]; exact b2i_t hb)]
      refine ⟨_, rfl, Or.inr ⟨rfl, fun j _ _ => ?_⟩⟩
      show (if F.mc j = m then _ else w) = w
      rw [fF_id _ (fun i _ _ => by rw [wT1_b hb]; split <;> rfl)]
      split <;> rfl
    | false =>
      rw [if_pos (show M 221 29 = 0 by rw [h.2.2.2.1]; exact b2i_f hb)]
      refine jlpG (fun w M => WB M0 M F w) (fun g w => if F.mc f = m then (if F.mc g = m then F.wT1 f g w else w) else w) (F.ns - (f + 1)) (f + 1) (nI_1 f) (by omega) h ?_ ?_ (fun M' h' => ⟨_, rfl, Or.inl ⟨M', by rw [nI_1], ?_⟩⟩)
      · intro w M h
        show (if M 221 11 ≤ nI (f + 1 + (F.ns - (f + 1))) then _ else _) = _
        rw [(h.bf hE).2.2.1, if_pos (jleT (by omega) (by omega))]
      · intro g w M hg1 hg2 h
        have hB := h.bf hE
        have hg : g < F.ns := by omega
        dsimp only
        rw [if_neg (show ¬ M 221 11 ≤ nI g by rw [hB.2.2.1]; exact jleF (by omega) (by omega))]
        cases hb : w.2.2.2.2 with
        | true =>
          rw [if_neg (show ¬ M 221 29 = 0 by rw [h.2.2.2.1]; exact b2i_t hb)]
          refine ⟨_, rfl, Or.inr ⟨rfl, fun j _ _ => ?_⟩⟩
          rw [wT1_b hb]
          split
          · split <;> rfl
          · rfl
        | false =>
          rw [if_pos (show M 221 29 = 0 by rw [h.2.2.2.1]; exact b2i_f hb), jisOn hW hB hf hm8, Option.bind_some]
          refine jB (P := fun M' => WB M0 M' F (if F.mc f = m then (if F.mc g = m then F.wT1 f g w else w) else w)) ?_ (fun M' h' => ⟨_, rfl, Or.inl ⟨M', by rw [nI_1], h'⟩⟩)
          by_cases c1 : F.mc f = m
          · rw [if_pos c1, if_neg n10, if_pos c1, jisOn hW hB hg hm8, Option.bind_some]
            by_cases c2 : F.mc g = m
            · rw [if_pos c2, if_neg n10, if_pos c2, wb_isAhead h (by omega) (by omega), Option.bind_some, wb_isAhead h (by omega) (by omega), Option.bind_some]
              unfold FT.wT1
              rw [if_neg (show ¬ w.2.2.2.2 = true by rw [hb]; decide)]
              by_cases e1 : bt (w.2.2.1 f) g = true
              · rw [if_pos e1, if_neg n10, if_pos e1]
                exact ⟨M, rfl, h⟩
              · rw [if_neg e1, if_pos rfl, if_neg e1]
                by_cases e2 : bt (w.2.2.1 g) f = true
                · rw [if_pos e2, if_neg n10, if_pos e2]
                  exact ⟨M, rfl, h⟩
                · have a1 : w.1 f + nI (F.sp f) + nI (F.sp g) = w.1 f + (nI (F.sp f) + nI (F.sp g)) := Int32.add_assoc _ _ _
                  have a2 : w.1 g + nI (F.sp g) + nI (F.sp f) = w.1 g + (nI (F.sp f) + nI (F.sp g)) := by rw [Int32.add_assoc, Int32.add_comm (nI (F.sp g))]
                  rw [if_neg e2, if_pos rfl, if_neg e2, jrd_nI (show f < 32 by omega) (by decide), Option.bind_some, jrd_nI (show f < 32 by omega) (by decide), Option.bind_some, jrd_nI (show g < 32 by omega) (by decide), Option.bind_some, jrd_nI (show g < 32 by omega) (by decide), Option.bind_some, (hB.2.2.2.2.2.2.2 f hf).2.2.1, (hB.2.2.2.2.2.2.2 g hg).2.2.1, (h.1 f hf).1, (h.1 g hg).2, jrd_nI (show g < 32 by omega) (by decide), jrd_nI (show f < 32 by omega) (by decide), (h.1 g hg).1, (h.1 f hf).2]
                  rw [a1]
                  by_cases q1 : w.1 f + (nI (F.sp f) + nI (F.sp g)) ≤ w.2.1 g
                  · rw [if_pos q1, if_pos q1, Option.bind_some, Option.bind_some, Option.bind_some, Option.bind_some, Option.bind_some, a2]
                    by_cases q2 : w.1 g + (nI (F.sp f) + nI (F.sp g)) ≤ w.2.1 f
                    · rw [if_pos q2, if_pos q2, Option.bind_some, if_pos rfl, jcR, if_pos rfl, if_pos rfl]
                      exact ⟨M, rfl, h⟩
                    · rw [if_neg q2, if_neg q2, Option.bind_some, if_pos rfl, jcR, if_pos rfl, if_neg n10]
                      exact jB (wb_tell h (by omega)) (fun M' h' => ⟨M', rfl, h'⟩)
                  · rw [if_neg q1, if_neg q1, Option.bind_some, Option.bind_some, Option.bind_some, Option.bind_some, Option.bind_some, a2]
                    by_cases q2 : w.1 g + (nI (F.sp f) + nI (F.sp g)) ≤ w.2.1 f
                    · rw [if_pos q2, if_pos q2, Option.bind_some, if_neg n10, if_pos rfl, jcR, if_neg n10]
                      exact jB (wb_tell h (by omega)) (fun M' h' => ⟨M', rfl, h'⟩)
                    · rw [if_neg q2, if_neg q2, Option.bind_some, if_neg n10, if_neg n10, Option.bind_some, jcL]
                      exact ⟨_, rfl, wb_set29 h true rfl⟩
            · rw [if_neg c2, if_pos rfl, if_neg c2]
              exact ⟨M, rfl, h⟩
          · rw [if_neg c1, if_pos rfl, if_neg c1]
            exact ⟨M, rfl, h⟩
      · show WB M0 M' F (if F.mc f = m then _ else w)
        by_cases c1 : F.mc f = m
        · rw [if_pos c1]
          rw [fF_cong _ _ (fun i w _ _ => by rw [if_pos c1])] at h'
          exact h'
        · rw [if_neg c1]
          rw [fF_id _ (fun i _ _ => by rw [if_neg c1])] at h'
          exact h'
end WZ
