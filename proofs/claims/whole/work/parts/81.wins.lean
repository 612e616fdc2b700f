/-! windows: the model, sets and rounds -/
section VZ
variable {M0 M : JMem} {N : Nat} {F : FT} {w : WT}
theorem jmin_le (a b : Int32) : (if b ≤ a then b else a) = jmin a b := by
  unfold jmin
  by_cases e : b < a
  · rw [if_pos e, if_pos (by rw [Int32.le_iff_toInt_le]; rw [Int32.lt_iff_toInt_lt] at e; omega)]
  · rw [if_neg e]
    by_cases e2 : b ≤ a
    · rw [if_pos e2]
      rw [Int32.lt_iff_toInt_lt] at e
      rw [Int32.le_iff_toInt_le] at e2
      exact Int32.toInt_inj.mp (by omega)
    · rw [if_neg e2]
theorem jmax_le (a b : Int32) : (if a ≤ b then b else a) = jmax a b := by
  unfold jmax
  by_cases e : a < b
  · rw [if_pos e, if_pos (by rw [Int32.le_iff_toInt_le]; rw [Int32.lt_iff_toInt_lt] at e; omega)]
  · rw [if_neg e]
    by_cases e2 : a ≤ b
    · rw [if_pos e2]
      rw [Int32.lt_iff_toInt_lt] at e
      rw [Int32.le_iff_toInt_le] at e2
      exact Int32.toInt_inj.mp (by omega)
    · rw [if_neg e2]
theorem wb_set (hE : WD M0 F) (h : WB M0 M F w) {m f g : Nat} (hm : m < F.nm) (hf : f < F.ns) (hg : g < F.ns) (hN : 100 ≤ N) : ∃ M', f_X8_bySet N M (nI m) (nI f) (nI g) = some M' ∧ WB M0 M' F (F.wS2 m (w.1 f) (w.2.1 g) w) := by
  have hW := hE.1
  have hns := hW.2.2.1.1
  have hnm := hW.1.1
  have hm8 : m < 8 := by omega
  have hB := h.bf hE
  have n10 : ¬ (1 : Int32) = 0 := by decide
  obtain ⟨x, hx⟩ : ∃ x, x = w.1 f := ⟨_, rfl⟩
  obtain ⟨y, hy⟩ : ∃ y, y = w.2.1 g := ⟨_, rfl⟩
  unfold f_X8_bySet
  rw [jrd_nI (show f < 32 by omega) (by decide), Option.bind_some, jrd_nI (show g < 32 by omega) (by decide), Option.bind_some, (h.1 f hf).1, (h.1 g hg).2, ← hx, ← hy]
  refine jB (P := fun t => t = F.wK m x y w.1 w.2.1) ⟨_, jLp_for (fun j => ((fF (fun s z => if F.mc s = m then F.wK1 x y w.1 w.2.1 s z else z) 0 j (0, 0)).1, (fF (fun s z => if F.mc s = m then F.wK1 x y w.1 w.2.1 s z else z) 0 j (0, 0)).2, nI j)) (r := ((F.wK m x y w.1 w.2.1).1, (F.wK m x y w.1 w.2.1).2)) F.ns 0 N (by omega) ?_ ?_, rfl⟩ ?_
  · intro s hs1 hs2
    have hs : s < F.ns := by omega
    dsimp only
    rw [if_neg (show ¬ M 221 11 ≤ nI s by rw [hB.2.2.1]; exact jleF (by omega) (by omega)), jisOn hW hB hs hm8, Option.bind_some, jrd_nI (show s < 32 by omega) (by decide), Option.bind_some, jrd_nI (show s < 32 by omega) (by decide), Option.bind_some, jrd_nI (show s < 32 by omega) (by decide), Option.bind_some, (h.1 s hs).1, (h.1 s hs).2, (hB.2.2.2.2.2.2.2 s hs).2.2.1, nI_1]
    show _ = some (Sum.inl ((if F.mc (0 + s) = m then F.wK1 x y w.1 w.2.1 (0 + s) (fF (fun s z => if F.mc s = m then F.wK1 x y w.1 w.2.1 s z else z) 0 s (0, 0)) else (fF (fun s z => if F.mc s = m then F.wK1 x y w.1 w.2.1 s z else z) 0 s (0, 0))).1, (if F.mc (0 + s) = m then F.wK1 x y w.1 w.2.1 (0 + s) (fF (fun s z => if F.mc s = m then F.wK1 x y w.1 w.2.1 s z else z) 0 s (0, 0)) else (fF (fun s z => if F.mc s = m then F.wK1 x y w.1 w.2.1 s z else z) 0 s (0, 0))).2, nI (s + 1)))
    rw [Nat.zero_add]
    by_cases e0 : F.mc s = m
    · rw [if_pos e0, if_neg n10, if_pos e0]
      unfold FT.wK1
      by_cases e1 : w.1 s < x
      · rw [if_pos e1, if_pos e1]
        rfl
      · rw [if_neg e1, if_neg e1]
        by_cases e2 : y < w.2.1 s
        · rw [if_pos e2, if_pos e2]
          rfl
        · rw [if_neg e2, if_neg e2]
          rfl
    · rw [if_neg e0, if_pos rfl, if_neg e0]
      rfl
  · show (if M 221 11 ≤ nI (0 + F.ns) then _ else _) = _
    rw [hB.2.2.1, Nat.zero_add, if_pos (jleT (Nat.le_refl _) (by omega))]
    rfl
  · rintro ⟨t12, t13⟩ ht
    dsimp only
    unfold FT.wS2
    rw [← ht]
    dsimp only
    by_cases e1 : t12 = 0
    · rw [if_pos e1, if_pos e1]
      exact ⟨M, rfl, h⟩
    · rw [if_neg e1, if_neg e1]
      by_cases e2 : t13 ≤ y - x
      · rw [if_pos e2, if_pos e2]
        refine jlpG (fun w M => WB M0 M F w) (fun k v => if F.mc k = m then (if bt t12 k = true then v else F.wO x y t13 k v) else v) F.ns 0 rfl (by omega) h ?_ ?_ (fun M' h' => ⟨M', rfl, h'⟩)
        · intro w M h
          show (if M 221 11 ≤ nI (0 + F.ns) then _ else _) = _
          rw [(h.bf hE).2.2.1, Nat.zero_add, if_pos (jleT (Nat.le_refl _) (by omega))]
        · intro k w M hk1 hk2 h
          have hB := h.bf hE
          have hk : k < F.ns := by omega
          dsimp only
          rw [if_neg (show ¬ M 221 11 ≤ nI k by rw [hB.2.2.1]; exact jleF (by omega) (by omega)), jisOn hW hB hk hm8, Option.bind_some, jb1 _ (show k < 32 by omega)]
          refine jB (P := fun M' => WB M0 M' F (if F.mc k = m then (if bt t12 k = true then w else F.wO x y t13 k w) else w)) ?_ (fun M' h' => ⟨_, rfl, Or.inl ⟨M', by rw [nI_1], h'⟩⟩)
          by_cases e0 : F.mc k = m
          · rw [if_pos e0, if_neg n10, if_pos e0]
            by_cases e : bt t12 k = true
            · rw [if_pos e, if_pos rfl, if_pos e]
              exact ⟨M, rfl, h⟩
            · rw [if_neg e, if_neg (show ¬ (0 : Int32) = 1 by decide), if_neg e, jrd_nI (show k < 32 by omega) (by decide), Option.bind_some, Option.bind_some, (h.1 k hk).1]
              have hmin : ((if x ≤ w.1 k then some x else some (w.1 k)) : Option Int32) = some (jmin (w.1 k) x) := by
                rw [← jmin_le]
                split <;> rfl
              rw [hmin, Option.bind_some, jrd_nI (show k < 32 by omega) (by decide), Option.bind_some, (hB.2.2.2.2.2.2.2 k hk).2.2.1]
              refine jB (P := fun M' => WB M0 M' F (F.wO1 x y t13 k w)) ?_ (fun M1 h1 => ?_)
              · unfold FT.wO1
                by_cases q : (jmin (w.1 k) x + t13) + nI (F.sp k) ≤ y
                · rw [if_pos q, if_pos q]
                  exact ⟨M, rfl, h⟩
                · rw [if_neg q, if_neg q]
                  exact jB (wb_raise hE h hk _) (fun M' h' => ⟨M', rfl, h'⟩)
              · rw [jrd_nI (show k < 32 by omega) (by decide), Option.bind_some, Option.bind_some, (h1.1 k hk).2]
                have hmax : ((if y ≤ (F.wO1 x y t13 k w).2.1 k then some ((F.wO1 x y t13 k w).2.1 k) else some y) : Option Int32) = some (jmax y ((F.wO1 x y t13 k w).2.1 k)) := by
                  rw [← jmax_le]
                  split <;> rfl
                rw [hmax, Option.bind_some, jrd_nI (show k < 32 by omega) (by decide), Option.bind_some, ((h1.bf hE).2.2.2.2.2.2.2 k hk).2.2.1]
                unfold FT.wO
                by_cases q : (x + t13) + nI (F.sp k) ≤ jmax y ((F.wO1 x y t13 k w).2.1 k)
                · rw [if_pos q, if_pos q]
                  exact ⟨M1, rfl, h1⟩
                · rw [if_neg q, if_neg q]
                  exact jB (wb_lower hE h1 hk _) (fun M' h' => ⟨M', rfl, h'⟩)
          · rw [if_neg e0, if_pos rfl, if_neg e0]
            exact ⟨M, rfl, h⟩
      · rw [if_neg e2, if_neg e2]
        exact ⟨_, rfl, wb_set29 h true rfl⟩
theorem wb_sets (hE : WD M0 F) (h : WB M0 M F w) {m : Nat} (hm : m < F.nm) (hN : 100 ≤ N) : ∃ M', f_X8_bySets N M (nI m) = some M' ∧ WB M0 M' F (F.wSm m w) := by
  have hW := hE.1
  have hns := hW.2.2.1.1
  have hnm := hW.1.1
  have hm8 : m < 8 := by omega
  have n10 : ¬ (1 : Int32) = 0 := by decide
  unfold f_X8_bySets
  refine jlpG (fun w M => WB M0 M F w) (fun f w => if F.mc f = m then fF (fun g w => if F.mc g = m then F.wS1 m f g w else w) 0 F.ns w else w) F.ns 0 rfl (by omega) h ?_ ?_ (fun M' h => ⟨M', rfl, h⟩)
  · intro w M h
    show (if M 221 11 ≤ nI (0 + F.ns) then _ else _) = _
    rw [(h.bf hE).2.2.1, Nat.zero_add, if_pos (jleT (Nat.le_refl _) (by omega))]
  · intro f w M hf1 hf2 h
    have hf : f < F.ns := by omega
    dsimp only
    rw [if_neg (show ¬ M 221 11 ≤ nI f by rw [(h.bf hE).2.2.1]; exact jleF (by omega) (by omega))]
    cases hb : w.2.2.2.2 with
    | true =>
      rw [if_neg (show ¬ M 221 29 = 0 by rw [h.2.2.2.1]; exact b2i_t hb)]
      refine ⟨_, rfl, Or.inr ⟨rfl, fun j _ _ => ?_⟩⟩
      show (if F.mc j = m then _ else w) = w
      rw [fF_id _ (fun i _ _ => by rw [wS1_b hb]; split <;> rfl)]
      split <;> rfl
    | false =>
      rw [if_pos (show M 221 29 = 0 by rw [h.2.2.2.1]; exact b2i_f hb)]
      refine jlpG (fun w M => WB M0 M F w) (fun g w => if F.mc f = m then (if F.mc g = m then F.wS1 m f g w else w) else w) F.ns 0 rfl (by omega) h ?_ ?_ (fun M' h' => ⟨_, rfl, Or.inl ⟨M', by rw [nI_1], ?_⟩⟩)
      · intro w M h
        show (if M 221 11 ≤ nI (0 + F.ns) then _ else _) = _
        rw [(h.bf hE).2.2.1, Nat.zero_add, if_pos (jleT (Nat.le_refl _) (by omega))]
      · intro g w M hg1 hg2 h
        have hB := h.bf hE
        have hg : g < F.ns := by omega
        dsimp only
        rw [if_neg (show ¬ M 221 11 ≤ nI g by rw [hB.2.2.1]; exact jleF (by omega) (by omega))]
        cases hb : w.2.2.2.2 with
        | true =>
          rw [if_neg (show ¬ M 221 29 = 0 by rw [h.2.2.2.1]; exact b2i_t hb)]
          refine ⟨_, rfl, Or.inr ⟨rfl, fun j _ _ => ?_⟩⟩
          rw [wS1_b hb]
          split
          · split <;> rfl
          · rfl
        | false =>
          rw [if_pos (show M 221 29 = 0 by rw [h.2.2.2.1]; exact b2i_f hb), jisOn hW hB hf hm8, Option.bind_some]
          refine jB (P := fun M' => WB M0 M' F (if F.mc f = m then (if F.mc g = m then F.wS1 m f g w else w) else w)) ?_ (fun M' h' => ⟨_, rfl, Or.inl ⟨M', by rw [nI_1], h'⟩⟩)
          by_cases c1 : F.mc f = m
          · rw [if_pos c1, if_neg n10, if_pos c1, jisOn hW hB hg hm8, Option.bind_some]
            by_cases c2 : F.mc g = m
            · rw [if_pos c2, if_neg n10, if_pos c2]
              unfold FT.wS1
              rw [if_neg (show ¬ w.2.2.2.2 = true by rw [hb]; decide)]
              exact jB (wb_set hE h hm hf hg hN) (fun M' h' => ⟨M', rfl, h'⟩)
            · rw [if_neg c2, if_pos rfl, if_neg c2]
              exact ⟨M, rfl, h⟩
          · rw [if_neg c1, if_pos rfl, if_neg c1]
            exact ⟨M, rfl, h⟩
      · show WB M0 M' F (if F.mc f = m then _ else w)
        by_cases c1 : F.mc f = m
        · rw [if_pos c1]
          rw [fF_cong _ _ (fun i w _ _ => by rw [if_pos c1])] at h'
          exact h'
        · rw [if_neg c1]
          rw [fF_id _ (fun i _ _ => by rw [if_neg c1])] at h'
          exact h'
/-! once it has burst nothing moves; looking again finds no more -/
theorem wTm_b {m : Nat} (hb : w.2.2.2.2 = true) : F.wTm m w = w := by
  unfold FT.wTm
  refine fF_id _ (fun f _ _ => ?_)
  rw [fF_id _ (fun i _ _ => by rw [wT1_b hb]; split <;> rfl)]
  split <;> rfl
theorem wSm_b {m : Nat} (hb : w.2.2.2.2 = true) : F.wSm m w = w := by
  unfold FT.wSm
  refine fF_id _ (fun f _ _ => ?_)
  rw [fF_id _ (fun i _ _ => by rw [wS1_b hb]; split <;> rfl)]
  split <;> rfl
theorem wT_b (hb : w.2.2.2.2 = true) : F.wT w = w := fF_id _ (fun m _ _ => by
  show (if F.kd m = 0 then F.wTm m w else w) = w
  rw [wTm_b hb]
  split <;> rfl)
theorem wS_b (hb : w.2.2.2.2 = true) : F.wS w = w := fF_id _ (fun m _ _ => by
  show (if F.kd m = 0 then F.wSm m w else w) = w
  rw [wSm_b hb]
  split <;> rfl)
theorem wL_b (hb : w.2.2.2.2 = true) : F.wL w = w := fF_id _ (fun s _ _ => by
  unfold FT.wL1
  rw [wBurst_b hb]
  split <;> rfl)
def FT.wok (F : FT) (w : WT) : Prop := ∀ s, s < F.ns → nI (F.sp s) ≤ w.2.1 s - w.1 s
theorem wL_ok (h : F.wok w) : F.wL w = w := fF_id _ (fun s h1 h2 => by
  unfold FT.wL1
  rw [if_pos (h s (by omega))])
theorem wL_no (hb : (F.wL w).2.2.2.2 = false) : F.wok w := by
  have key : ∀ n, n ≤ F.ns → (fF F.wL1 0 n w).2.2.2.2 = false → fF F.wL1 0 n w = w ∧ ∀ s, s < n → nI (F.sp s) ≤ w.2.1 s - w.1 s := by
    intro n
    induction n with
    | zero => intro _ _; exact ⟨rfl, fun s hs => absurd hs (Nat.not_lt_zero s)⟩
    | succ n ih =>
      intro hn hb
      have hb2 : (F.wL1 (0 + n) (fF F.wL1 0 n w)).2.2.2.2 = false := hb
      rw [Nat.zero_add] at hb2
      have h0 : (fF F.wL1 0 n w).2.2.2.2 = false := by
        unfold FT.wL1 at hb2
        split at hb2
        · exact hb2
        · cases hb2
      obtain ⟨i1, i2⟩ := ih (by omega) h0
      rw [i1] at hb2
      have ok : nI (F.sp n) ≤ w.2.1 n - w.1 n := by
        unfold FT.wL1 at hb2
        split at hb2
        · assumption
        · cases hb2
      refine ⟨?_, fun s hs => ?_⟩
      · show F.wL1 (0 + n) (fF F.wL1 0 n w) = w
        rw [i1, Nat.zero_add]
        unfold FT.wL1
        rw [if_pos ok]
      · rcases Nat.lt_succ_iff_lt_or_eq.mp hs with z | z
        · exact i2 s z
        · rw [z]
          exact ok
  exact (key F.ns (Nat.le_refl _) hb).2
theorem wT_hd (w : WT) : (F.wT w).1 = w.1 ∧ (F.wT w).2.1 = w.2.1 := by
  have h1 : ∀ f g v, v.1 = w.1 ∧ v.2.1 = w.2.1 → (F.wT1 f g v).1 = w.1 ∧ (F.wT1 f g v).2.1 = w.2.1 := by
    intro f g v hv
    unfold FT.wT1 wTell wBurst
    repeat' split
    all_goals exact hv
  refine fF_inv (fun (v : WT) => v.1 = w.1 ∧ v.2.1 = w.2.1) _ _ (fun m v _ _ hv => ?_) ⟨rfl, rfl⟩
  show (if F.kd m = 0 then F.wTm m v else v).1 = w.1 ∧ (if F.kd m = 0 then F.wTm m v else v).2.1 = w.2.1
  split
  · refine fF_inv (fun (v : WT) => v.1 = w.1 ∧ v.2.1 = w.2.1) _ _ (fun f v _ _ hv => ?_) hv
    show (if F.mc f = m then _ else v).1 = w.1 ∧ (if F.mc f = m then _ else v).2.1 = w.2.1
    split
    · refine fF_inv (fun (v : WT) => v.1 = w.1 ∧ v.2.1 = w.2.1) _ _ (fun g v _ _ hv => ?_) hv
      show (if F.mc g = m then F.wT1 f g v else v).1 = w.1 ∧ (if F.mc g = m then F.wT1 f g v else v).2.1 = w.2.1
      split
      · exact h1 f g v hv
      · exact hv
    · exact hv
  · exact hv
/-- the model's round is the class's -/
theorem wR_B (w : WT) : F.wL (F.wS (if (F.wT (F.wR2 (F.wR1 w))).2.2.2.2 = true then F.wT (F.wR2 (F.wR1 w)) else F.wL (F.wT (F.wR2 (F.wR1 w))))) = F.wR w := by
  have e3 : F.wR3 (F.wR2 (F.wR1 w)) = F.wT (F.wR2 (F.wR1 w)) := by
    unfold FT.wR3
    by_cases z : (F.wR2 (F.wR1 w)).2.2.2.2 = true
    · rw [if_pos z, wT_b z]
    · rw [if_neg z]
  have e4 : (if (F.wT (F.wR2 (F.wR1 w))).2.2.2.2 = true then F.wT (F.wR2 (F.wR1 w)) else F.wL (F.wT (F.wR2 (F.wR1 w)))) = F.wT (F.wR2 (F.wR1 w)) := by
    by_cases z : (F.wT (F.wR2 (F.wR1 w))).2.2.2.2 = true
    · rw [if_pos z]
    · rw [if_neg z]
      have z2 : ¬ (F.wR2 (F.wR1 w)).2.2.2.2 = true := fun y => by rw [wT_b y] at z; exact z y
      have z3 : ¬ (F.wR1 w).2.2.2.2 = true := fun y => by
        apply z2
        unfold FT.wR2
        rw [if_pos y]
        exact y
      have z4 : F.wR2 (F.wR1 w) = F.wL (F.wA (F.wR1 w)) := by
        unfold FT.wR2
        rw [if_neg z3]
      have z5 : F.wok (F.wA (F.wR1 w)) := wL_no (by
        rw [← z4]
        cases q : (F.wR2 (F.wR1 w)).2.2.2.2 with
        | true => exact absurd q z2
        | false => rfl)
      rw [wL_ok z5] at z4
      apply wL_ok
      intro s hs
      rw [(wT_hd _).1, (wT_hd _).2, z4]
      exact z5 s hs
  unfold FT.wR
  rw [e4, e3]
  unfold FT.wR4
  by_cases z : (F.wT (F.wR2 (F.wR1 w))).2.2.2.2 = true
  · rw [if_pos z, wS_b z, wL_b z]
  · rw [if_neg z]
theorem wb_asks (hW : WF F) (hB : BF M F) (t : Int32) {ah : Nat → Int32} (hah : ∀ s, s < 32 → M 244 s = ah s) (hN : 100 ≤ N) : ∃ M' v, f_X8_asks N M t = some (M', v) ∧ v = b2i (!(F.win t ah).2.2.2.2) ∧ (∀ s, s < F.ns → M' 242 s = (F.win t ah).1 s ∧ M' 243 s = (F.win t ah).2.1 s) ∧ (∀ s, s < 32 → M' 244 s = (F.win t ah).2.2.1 s) ∧ ∀ a i, ¬ ((242 ≤ a ∧ a ≤ 244) ∨ (a = 221 ∧ (i = 28 ∨ i = 29))) → M' a i = M a i := by
  have hns := hW.2.2.1.1
  have hnm := hW.1.1
  have hE : WD M F := ⟨hW, hB⟩
  have n10 : ¬ (1 : Int32) = 0 := by decide
  have key : ∃ x, f_X8_asks N M t = some x ∧ (x.2 = b2i (!(F.win t ah).2.2.2.2) ∧ WB M x.1 F (F.win t ah)) := by
    unfold f_X8_asks
    refine jB (P := fun M' => (∀ s, s < F.ns → M' 242 s = 0 ∧ M' 243 s = t) ∧ ∀ a i, ¬ (a = 242 ∨ a = 243) → M' a i = M a i) ?_ (fun t9 h9 => ?_)
    · refine jLp_tot (fun c z => ∃ s, c + s = F.ns ∧ z.1 = nI s ∧ (∀ u, u < s → z.2 242 u = 0 ∧ z.2 243 u = t) ∧ ∀ a i, ¬ (a = 242 ∨ a = 243) → z.2 a i = M a i) _ ?_ N F.ns (0, M) (by omega) ⟨0, by omega, rfl, fun u hu => absurd hu (Nat.not_lt_zero u), fun _ _ _ => rfl⟩
      rintro c ⟨z7, M8⟩ ⟨s, hc, hz, hp, hf⟩
      dsimp only at hz hp hf ⊢
      subst hz
      have e11 : M8 221 11 = nI F.ns := by rw [hf _ _ (by omega)]; exact hB.2.2.1
      rcases Nat.eq_zero_or_pos c with en | en
      · rw [if_pos (show M8 221 11 ≤ nI s by rw [e11]; exact jleT (by omega) (by omega))]
        exact ⟨_, rfl, Or.inr ⟨_, rfl, fun u hu => hp u (by omega), hf⟩⟩
      · obtain ⟨Ma, ua, fa, va⟩ := jupX M8 242 s 0
        obtain ⟨Mb, ub, fb, vb⟩ := jupX Ma 243 s t
        rw [if_neg (show ¬ M8 221 11 ≤ nI s by rw [e11]; exact jleF (by omega) (by omega)), jwr_nI (show s < 32 by omega) (by decide), ua, Option.bind_some, jwr_nI (show s < 32 by omega) (by decide), ub, Option.bind_some]
        refine ⟨_, rfl, Or.inl ⟨_, c - 1, rfl, by omega, s + 1, by omega, nI_1 s, fun u hu => ?_, fun a i z => ?_⟩⟩
        · show Mb 242 u = 0 ∧ Mb 243 u = t
          by_cases e : u = s
          · rw [e, fb _ _ (show ¬ ((242 : Nat) = 243 ∧ s = s) by omega)]
            exact ⟨va, vb⟩
          · rw [fb _ _ (by omega), fb _ _ (by omega), fa _ _ (by omega), fa _ _ (by omega)]
            exact hp u (by omega)
        · show Mb a i = M a i
          rw [fb _ _ (by omega), fa _ _ (by omega)]
          exact hf a i z
    obtain ⟨Mc, uc, fc, vc⟩ := jupX t9 221 29 0
    obtain ⟨Md, ud, fd, vd⟩ := jupX Mc 221 28 1
    rw [uc, Option.bind_some, ud, Option.bind_some]
    have h5 : WB M Md F (fun _ => 0, fun _ => t, ah, true, false) := by
      refine ⟨fun s hs => ⟨?_, ?_⟩, fun s hs => ?_, vd, ?_, fun a i z => ?_⟩
      · rw [fd _ _ (by omega), fc _ _ (by omega)]
        exact (h9.1 s hs).1
      · rw [fd _ _ (by omega), fc _ _ (by omega)]
        exact (h9.1 s hs).2
      · rw [fd _ _ (by omega), fc _ _ (by omega), h9.2 _ _ (by omega)]
        exact hah s hs
      · rw [fd _ _ (by omega)]
        exact vc
      · rw [fd _ _ (by omega), fc _ _ (by omega)]
        exact h9.2 _ _ (by omega)
    refine jlpG (fun w M' => WB M M' F w) (fun _ w => F.wG w) 20 0 rfl (by omega) h5 ?_ ?_ ?_
    · intro w M h
      rfl
    · intro i w M2 hi1 hi2 h
      dsimp only
      rw [if_neg (show ¬ (20 : Int32) ≤ nI i by rw [jLle (by omega) (by decide)]; omega)]
      cases hc : w.2.2.2.1 with
      | false =>
        rw [if_pos (show M2 221 28 = 0 by rw [h.2.2.1]; exact b2i_f hc)]
        exact ⟨_, rfl, Or.inr ⟨rfl, fun j _ _ => by unfold FT.wG; rw [if_pos hc]⟩⟩
      | true =>
        rw [if_neg (show ¬ M2 221 28 = 0 by rw [h.2.2.1]; exact b2i_t hc)]
        cases hb : w.2.2.2.2 with
        | true =>
          rw [if_neg (show ¬ M2 221 29 = 0 by rw [h.2.2.2.1]; exact b2i_t hb)]
          exact ⟨_, rfl, Or.inr ⟨rfl, fun j _ _ => by unfold FT.wG; rw [if_neg (by rw [hc]; decide), if_pos hb]⟩⟩
        | false =>
          rw [if_pos (show M2 221 29 = 0 by rw [h.2.2.2.1]; exact b2i_f hb), Option.bind_some]
          have hG : F.wG w = F.wR w := by
            unfold FT.wG
            rw [if_neg (by rw [hc]; decide), if_neg (by rw [hb]; decide)]
          have h0 : WB M (jup M2 221 28 0) F (w.1, w.2.1, w.2.2.1, false, w.2.2.2.2) := by
            obtain ⟨Ma, ua, fa, va⟩ := jupX M2 221 28 0
            rw [ua]
            obtain ⟨g1, g2, g3, g4, g5⟩ := h
            exact ⟨fun s hs => ⟨(fa _ _ (by omega)).trans (g1 s hs).1, (fa _ _ (by omega)).trans (g1 s hs).2⟩, fun s hs => (fa _ _ (by omega)).trans (g2 s hs), va, (fa _ _ (by omega)).trans g4, fun a i z => (fa _ _ (by omega)).trans (g5 a i z)⟩
          refine jB (wb_pieces hE h0 hN) (fun Ma ha => ?_)
          refine jB (wb_look hE ha hN) (fun Mb hb => ?_)
          refine jB (P := fun M' => WB M M' F (F.wR2 (F.wR1 w))) ?_ (fun Mc hc => ?_)
          · unfold FT.wR2
            cases q : (F.wR1 w).2.2.2.2 with
            | true =>
              rw [if_neg (show ¬ Mb 221 29 = 0 by rw [hb.2.2.2.1]; exact b2i_t q), if_pos rfl]
              exact ⟨Mb, rfl, hb⟩
            | false =>
              rw [if_pos (show Mb 221 29 = 0 by rw [hb.2.2.2.1]; exact b2i_f q), if_neg (by decide)]
              exact jB (wb_along hE hb hN) (fun Mx hx => jB (wb_look hE hx hN) (fun M' h' => ⟨M', rfl, h'⟩))
          refine jlpG (fun w M' => WB M M' F w) (fun m w => if F.kd m = 0 then F.wTm m w else w) F.nm 0 rfl (by omega) hc ?_ ?_ (fun Md hd => ?_)
          · intro w M3 h
            show (if M3 221 2 ≤ nI (0 + F.nm) then _ else _) = _
            rw [(h.bf hE).1, Nat.zero_add, if_pos (jleT (Nat.le_refl _) (by omega))]
          · intro m w M3 hm1 hm2 h
            have hm : m < F.nm := by omega
            have hk := (hW.1.2 m hm).1
            dsimp only
            rw [if_neg (show ¬ M3 221 2 ≤ nI m by rw [(h.bf hE).1]; exact jleF (by omega) (by omega))]
            cases q : w.2.2.2.2 with
            | true =>
              rw [if_neg (show ¬ M3 221 29 = 0 by rw [h.2.2.2.1]; exact b2i_t q)]
              refine ⟨_, rfl, Or.inr ⟨rfl, fun j _ _ => ?_⟩⟩
              rw [wTm_b q]
              split <;> rfl
            | false =>
              rw [if_pos (show M3 221 29 = 0 by rw [h.2.2.2.1]; exact b2i_f q), jrd_nI (show m < 8 by omega) (by decide), Option.bind_some, ((h.bf hE).2.2.2.1 m hm).1]
              refine jB (P := fun M' => WB M M' F (if F.kd m = 0 then F.wTm m w else w)) ?_ (fun M' h' => ⟨_, rfl, Or.inl ⟨M', by rw [nI_1], h'⟩⟩)
              by_cases e : F.kd m = 0
              · rw [if_pos (show nI (F.kd m) = 0 by rw [e]; rfl), if_pos e]
                exact jB (wb_pairs hE h hm hN) (fun M' h' => ⟨M', rfl, h'⟩)
              · rw [if_neg (show ¬ nI (F.kd m) = 0 by rw [jeqL (by omega) (by decide)]; exact e), if_neg e]
                exact ⟨M3, rfl, h⟩
          have hd' : WB M Md F (F.wT (F.wR2 (F.wR1 w))) := hd
          refine jB (P := fun M' => WB M M' F (if (F.wT (F.wR2 (F.wR1 w))).2.2.2.2 = true then F.wT (F.wR2 (F.wR1 w)) else F.wL (F.wT (F.wR2 (F.wR1 w))))) ?_ (fun Me he => ?_)
          · cases q : (F.wT (F.wR2 (F.wR1 w))).2.2.2.2 with
            | true =>
              rw [if_neg (show ¬ Md 221 29 = 0 by rw [hd'.2.2.2.1]; exact b2i_t q), if_pos rfl]
              exact ⟨Md, rfl, hd'⟩
            | false =>
              rw [if_pos (show Md 221 29 = 0 by rw [hd'.2.2.2.1]; exact b2i_f q), if_neg (by decide)]
              exact jB (wb_look hE hd' hN) (fun M' h' => ⟨M', rfl, h'⟩)
          refine jlpG (fun w M' => WB M M' F w) (fun m w => if F.kd m = 0 then F.wSm m w else w) F.nm 0 rfl (by omega) he ?_ ?_ (fun Mf hf => ?_)
          · intro w M3 h
            show (if M3 221 2 ≤ nI (0 + F.nm) then _ else _) = _
            rw [(h.bf hE).1, Nat.zero_add, if_pos (jleT (Nat.le_refl _) (by omega))]
          · intro m w M3 hm1 hm2 h
            have hm : m < F.nm := by omega
            have hk := (hW.1.2 m hm).1
            dsimp only
            rw [if_neg (show ¬ M3 221 2 ≤ nI m by rw [(h.bf hE).1]; exact jleF (by omega) (by omega))]
            cases q : w.2.2.2.2 with
            | true =>
              rw [if_neg (show ¬ M3 221 29 = 0 by rw [h.2.2.2.1]; exact b2i_t q)]
              refine ⟨_, rfl, Or.inr ⟨rfl, fun j _ _ => ?_⟩⟩
              rw [wSm_b q]
              split <;> rfl
            | false =>
              rw [if_pos (show M3 221 29 = 0 by rw [h.2.2.2.1]; exact b2i_f q), jrd_nI (show m < 8 by omega) (by decide), Option.bind_some, ((h.bf hE).2.2.2.1 m hm).1]
              refine jB (P := fun M' => WB M M' F (if F.kd m = 0 then F.wSm m w else w)) ?_ (fun M' h' => ⟨_, rfl, Or.inl ⟨M', by rw [nI_1], h'⟩⟩)
              by_cases e : F.kd m = 0
              · rw [if_pos (show nI (F.kd m) = 0 by rw [e]; rfl), if_pos e]
                exact jB (wb_sets hE h hm hN) (fun M' h' => ⟨M', rfl, h'⟩)
              · rw [if_neg (show ¬ nI (F.kd m) = 0 by rw [jeqL (by omega) (by decide)]; exact e), if_neg e]
                exact ⟨M3, rfl, h⟩
          refine jB (wb_look hE hf hN) (fun Mg hg => ⟨_, rfl, Or.inl ⟨Mg, by rw [nI_1], ?_⟩⟩)
          show WB M Mg F (F.wG w)
          rw [hG, ← wR_B]
          exact hg
    · intro t14 h14
      have h14' : WB M t14 F (F.win t ah) := by
        unfold FT.win
        rw [wN_fF F 20 0]
        exact h14
      cases q : (F.win t ah).2.2.2.2 with
      | true =>
        rw [if_neg (show ¬ t14 221 29 = 0 by rw [h14'.2.2.2.1]; exact b2i_t q)]
        exact ⟨_, rfl, rfl, h14'⟩
      | false =>
        rw [if_pos (show t14 221 29 = 0 by rw [h14'.2.2.2.1]; exact b2i_f q)]
        exact ⟨_, rfl, rfl, h14'⟩
  obtain ⟨⟨M', v⟩, k1, k2, k3⟩ := key
  exact ⟨M', v, k1, k2, k3.1, k3.2.1, k3.2.2.2.2⟩
end VZ
