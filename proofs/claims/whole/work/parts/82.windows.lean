/-! windows: what is told ahead; the call -/
def AHI (F : FT) (ah : Nat → Int32) : Prop := ∀ s g, s < 32 → bt (ah s) g = true → s < F.ns ∧ g < F.ns ∧ F.mc s = F.mc g ∧ F.kd (F.mc s) = 0
theorem b_bit {g : Nat} (hg : g < 32) (i : Nat) : bt (jshl 1 (nI g)) i = decide (i = g) := by
  rcases Nat.lt_or_ge i 32 with h | h
  · rw [show jshl 1 (nI g) = (1 : Int32) <<< (nI g &&& 31) from rfl, b_shl g hg 1 h, b_one]
    by_cases e : i = g
    · rw [e, Nat.sub_self]
      simp
    · rw [decide_eq_false e]
      by_cases e2 : g ≤ i
      · rw [decide_eq_false (show ¬ i - g = 0 by omega), Bool.and_false]
      · rw [decide_eq_false e2, Bool.false_and]
  · rw [b_big h, decide_eq_false (by omega)]
theorem ahi_tell {F : FT} {w : WT} {f g : Nat} (h : AHI F w.2.2.1) (hf : f < F.ns) (hg : g < F.ns) (hg32 : g < 32) (hm : F.mc f = F.mc g) (hk : F.kd (F.mc f) = 0) : AHI F (wTell w f g).2.2.1 := by
  intro s i hs hb
  have hb2 : bt (upd w.2.2.1 f (w.2.2.1 f ||| jshl 1 (nI g)) s) i = true := hb
  by_cases e : s = f
  · rw [e, upd_s, b_or, b_bit hg32, Bool.or_eq_true, decide_eq_true_eq] at hb2
    rcases hb2 with z | z
    · rw [e]
      exact h f i (by omega) z
    · rw [e, z]
      exact ⟨hf, hg, hm, hk⟩
  · rw [upd_n e] at hb2
    exact h s i hs hb2
section AH
variable {F : FT} {w : WT}
theorem ahi_raise {s : Nat} {v : Int32} (h : AHI F w.2.2.1) : AHI F (wRaise w s v).2.2.1 := by
  unfold wRaise
  split <;> exact h
theorem ahi_lower {s : Nat} {v : Int32} (h : AHI F w.2.2.1) : AHI F (wLower w s v).2.2.1 := by
  unfold wLower
  split <;> exact h
theorem ahi_P {p : Nat} (h : AHI F w.2.2.1) : AHI F (F.wP p w).2.2.1 :=
  fD_inv (fun (w : WT) => AHI F w.2.2.1) _ _ (fun i w _ h => ahi_lower h) (fF_inv (fun (w : WT) => AHI F w.2.2.1) _ _ (fun i w _ _ h => ahi_raise h) h)
theorem ahi_L (h : AHI F w.2.2.1) : AHI F (F.wL w).2.2.1 := fF_inv (fun (w : WT) => AHI F w.2.2.1) _ _ (fun i w _ _ h => by
  unfold FT.wL1
  split <;> exact h) h
theorem ahi_A (h : AHI F w.2.2.1) : AHI F (F.wA w).2.2.1 := fF_inv (fun (w : WT) => AHI F w.2.2.1) _ _ (fun f w _ _ h => fF_inv (fun (w : WT) => AHI F w.2.2.1) _ _ (fun g w _ _ h => by
  show AHI F (F.wA2 f g w).2.2.1
  unfold FT.wA2
  split
  · exact ahi_lower (ahi_raise h)
  · exact h) h) h
theorem ahi_T1 {f g : Nat} (h : AHI F w.2.2.1) (hns : F.ns ≤ 32) (hf : f < F.ns) (hg : g < F.ns) (hm : F.mc f = F.mc g) (hk : F.kd (F.mc f) = 0) : AHI F (F.wT1 f g w).2.2.1 := by
  unfold FT.wT1
  repeat' split
  all_goals first | exact h | exact ahi_tell h hf hg (by omega) hm hk | exact ahi_tell h hg hf (by omega) hm.symm (by rw [← hm]; exact hk)
theorem ahi_T (hns : F.ns ≤ 32) (h : AHI F w.2.2.1) : AHI F (F.wT w).2.2.1 := fF_inv (fun (w : WT) => AHI F w.2.2.1) _ _ (fun m w _ _ h => by
  show AHI F (if F.kd m = 0 then F.wTm m w else w).2.2.1
  split
  · rename_i hk
    refine fF_inv (fun (w : WT) => AHI F w.2.2.1) _ _ (fun f w hf1 hf2 h => ?_) h
    show AHI F (if F.mc f = m then _ else w).2.2.1
    split
    · rename_i hm
      refine fF_inv (fun (w : WT) => AHI F w.2.2.1) _ _ (fun g w hg1 hg2 h => ?_) h
      show AHI F (if F.mc g = m then F.wT1 f g w else w).2.2.1
      split
      · rename_i hm2
        exact ahi_T1 h hns (by omega) (by omega) (by rw [hm, hm2]) (by rw [hm]; exact hk)
      · exact h
    · exact h
  · exact h) h
theorem ahi_O1 {x y z : Int32} {k : Nat} (h : AHI F w.2.2.1) : AHI F (F.wO1 x y z k w).2.2.1 := by
  unfold FT.wO1
  split
  · exact h
  · exact ahi_raise h
theorem ahi_O {x y z : Int32} {k : Nat} (h : AHI F w.2.2.1) : AHI F (F.wO x y z k w).2.2.1 := by
  unfold FT.wO
  split
  · exact ahi_O1 h
  · exact ahi_lower (ahi_O1 h)
theorem ahi_S1 {m f g : Nat} (h : AHI F w.2.2.1) : AHI F (F.wS1 m f g w).2.2.1 := by
  unfold FT.wS1
  split
  · exact h
  · unfold FT.wS2
    generalize F.wK m (w.1 f) (w.2.1 g) w.1 w.2.1 = K
    split
    · exact h
    · split
      · refine fF_inv (fun (w : WT) => AHI F w.2.2.1) _ _ (fun k v _ _ h => ?_) h
        by_cases e1 : F.mc k = m
        · rw [if_pos e1]
          by_cases e2 : bt K.1 k = true
          · rw [if_pos e2]
            exact h
          · rw [if_neg e2]
            exact ahi_O h
        · rw [if_neg e1]
          exact h
      · exact h
theorem ahi_Sm {m : Nat} (h : AHI F w.2.2.1) : AHI F (F.wSm m w).2.2.1 := by
  refine fF_inv (fun (w : WT) => AHI F w.2.2.1) _ _ (fun f w _ _ h => ?_) h
  by_cases e1 : F.mc f = m
  · rw [if_pos e1]
    refine fF_inv (fun (w : WT) => AHI F w.2.2.1) _ _ (fun g w _ _ h => ?_) h
    by_cases e2 : F.mc g = m
    · rw [if_pos e2]
      exact ahi_S1 h
    · rw [if_neg e2]
      exact h
  · rw [if_neg e1]
    exact h
theorem ahi_S (h : AHI F w.2.2.1) : AHI F (F.wS w).2.2.1 := by
  refine fF_inv (fun (w : WT) => AHI F w.2.2.1) _ _ (fun m w _ _ h => ?_) h
  by_cases e1 : F.kd m = 0
  · rw [if_pos e1]
    exact ahi_Sm h
  · rw [if_neg e1]
    exact h
theorem ahi_Ps (h : AHI F w.2.2.1) : AHI F (F.wPs w).2.2.1 := fF_inv (fun (w : WT) => AHI F w.2.2.1) _ _ (fun p w _ _ h => ahi_P h) h
theorem ahi_R (hns : F.ns ≤ 32) (h : AHI F w.2.2.1) : AHI F (F.wR w).2.2.1 := by
  have h1 : AHI F (F.wR1 w).2.2.1 := by
    unfold FT.wR1
    exact ahi_L (ahi_Ps (w := (w.1, w.2.1, w.2.2.1, false, w.2.2.2.2)) h)
  have h2 : AHI F (F.wR2 (F.wR1 w)).2.2.1 := by
    unfold FT.wR2
    split
    · exact h1
    · exact ahi_L (ahi_A h1)
  have h3 : AHI F (F.wR3 (F.wR2 (F.wR1 w))).2.2.1 := by
    unfold FT.wR3
    split
    · exact h2
    · exact ahi_T hns h2
  unfold FT.wR FT.wR4
  split
  · exact h3
  · exact ahi_L (ahi_S h3)
theorem ahi_N (hns : F.ns ≤ 32) : ∀ n w, AHI F w.2.2.1 → AHI F (F.wN n w).2.2.1
  | 0, _, h => h
  | n + 1, w, h => by
    show AHI F (if w.2.2.2.1 = false then w else if w.2.2.2.2 = true then w else F.wN n (F.wR w)).2.2.1
    split
    · exact h
    · split
      · exact h
      · exact ahi_N hns n _ (ahi_R hns h)
theorem ahi_win (hns : F.ns ≤ 32) {t : Int32} {ah : Nat → Int32} (h : AHI F ah) : AHI F (F.win t ah).2.2.1 := ahi_N hns 20 _ h
end AH
/-- the asked windows anew -/
theorem IX.asked {M M2 : JMem} {F : FT} {od : Nat → Nat → Nat} {S : ST} {k k' q : Nat} (h : IX M F od S k q) (e : ∀ a i, jcore a i → ¬ ((74 ≤ a ∧ a ≤ 77) ∨ (a = 221 ∧ (i = 30 ∨ i = 31)) ∨ (245 ≤ a ∧ a ≤ 247)) → M2 a i = M a i) (hR : IA M2 F k') : IX M2 F od S k' q := by
  obtain ⟨h1, h2, h3, h4, h5, h6, h7, -, h9, h10, h11, h12, h13⟩ := h
  have q9 : IQ M2 := ⟨by rw [e 83 0 (by unfold jcore; omega) (by omega), e 221 45 (by unfold jcore; omega) (by omega)]; exact h9.1, by rw [e 83 1 (by unfold jcore; omega) (by omega), e 221 46 (by unfold jcore; omega) (by omega)]; exact h9.2.1, by rw [e 83 2 (by unfold jcore; omega) (by omega), e 221 47 (by unfold jcore; omega) (by omega)]; exact h9.2.2⟩
  refine ⟨h1, h2, h3.fr h1.1.1 (fun a i _ _ => e a i ?_ ?_), h4.fr (fun a i _ _ => e a i ?_ ?_), h5.fr ⟨e _ _ ?_ ?_, e _ _ ?_ ?_, e _ _ ?_ ?_⟩ (fun a i _ _ => e a i ?_ ?_), h6.fr (fun a i _ _ => e a i ?_ ?_), h7.fr ⟨e _ _ ?_ ?_, e _ _ ?_ ?_⟩ (fun a i _ => e a i ?_ ?_), hR, q9, h10.fr ⟨e _ _ ?_ ?_, e _ _ ?_ ?_, e _ _ ?_ ?_⟩ (fun a i _ => e a i ?_ ?_), h11.fr (fun a i _ => e a i ?_ ?_), h12.fr (fun a i _ => e a i ?_ ?_), h13.fr (fun a i _ => e a i ?_ ?_)⟩
  all_goals (first | omega | (unfold jcore; omega))
/-- 32 places set to 0 -/
theorem jzero32 {M : JMem} {N a : Nat} (hN : 100 ≤ N) : ∃ x, jLp (σ := Int32 × JMem) (ρ := JMem) N (fun ((z8, M9) : Int32 × JMem) => (if 32 ≤ z8 then some (Sum.inr M9) else (jwr M9 a 32 z8 0).bind fun M11 => some (Sum.inl (z8 + 1, M11)))) (0, M) = some x ∧ ((∀ s, s < 32 → x a s = 0) ∧ ∀ b i, b ≠ a → x b i = M b i) := by
  refine jLp_tot (fun c z => ∃ s, c + s = 32 ∧ z.1 = nI s ∧ (∀ u, u < s → z.2 a u = 0) ∧ ∀ b i, b ≠ a → z.2 b i = M b i) _ ?_ N 32 (0, M) (by omega) ⟨0, by omega, rfl, fun u hu => absurd hu (Nat.not_lt_zero u), fun _ _ _ => rfl⟩
  rintro c ⟨z8, M9⟩ ⟨s, hc, hz, hp, hf⟩
  dsimp only at hz hp hf ⊢
  subst hz
  rcases Nat.eq_zero_or_pos c with en | en
  · rw [if_pos (by rw [jLle (by omega) (by decide)]; omega)]
    exact ⟨_, rfl, Or.inr ⟨_, rfl, fun u hu => hp u (by omega), hf⟩⟩
  · rw [if_neg (by rw [jLle (by omega) (by decide)]; omega), jwr_nI (show s < 32 by omega) (by decide), Option.bind_some]
    refine ⟨_, rfl, Or.inl ⟨_, c - 1, rfl, by omega, s + 1, by omega, nI_1 s, fun u hu => ?_, fun b i z => ?_⟩⟩
    · show jup M9 a s 0 a u = 0
      rw [jup_at]
      by_cases e : u = s
      · rw [if_pos ⟨rfl, e⟩]
      · rw [if_neg (fun z => e z.2)]
        exact hp u (by omega)
    · show jup M9 a s 0 b i = _
      rw [jup_ne z]
      exact hf b i z
theorem jst_windows_ok : jst_windows jInv := by
  rintro M x1 ⟨F, od, S, k, q, hX⟩
  have hI : jInv M := ⟨F, od, S, k, q, hX⟩
  obtain ⟨hW, hO, hA, hAO, hB, hBO, -⟩ := id hX
  have hns := hW.2.2.1.1
  have n10 : ¬ (1 : Int32) = 0 := by decide
  have jt : ∀ x : Int32, jin3 x.toInt64 0 100000 = if 0 ≤ x ∧ x ≤ 100000 then 1 else 0 := fun x => jin3_i x 0 100000
  rcases jem (0 ≤ x1 ∧ x1 ≤ 100000) with h1 | h1
  · exact ⟨0, M, M, -100002, by unfold f_X7_windows; rw [jisOut, if_neg h1, Option.bind_some, if_neg n10], by unfold f_X8_windows; rw [jt, if_neg h1, if_pos rfl], hI⟩
  rcases jsimpA (N := 100) hW hA (by omega) with ⟨hs, e⟩ | ⟨hs, e⟩
  · obtain ⟨ah, hah⟩ : ∃ ah : Nat → Int32, ah = fun _ => 0 := ⟨_, rfl⟩
    obtain ⟨M3, u3, f3, v3⟩ := jfillX M 77 32 0
    obtain ⟨M4, v5, a1, a2, a3, a4, a5, a6⟩ := wa_narrow (N := 100) (M := M3) (o := 74) (F := F) (ah := ah) hW (hA.fr hW.1.1 (fun a i _ _ => f3 a i (by omega))) (by omega) x1 (fun s hs => by rw [hah]; exact v3 s hs) (by omega)
    have fA : ∀ a i, ¬ ((75 ≤ a ∧ a ≤ 77) ∨ (a = 74 ∧ (i = 3 ∨ i = 4 ∨ i = 5))) → M4 a i = M a i := fun a i z => by rw [a6 a i (by omega), f3 a i (by omega)]
    have hB4 : BF M4 F := hB.fr ⟨fA _ _ (by omega), fA _ _ (by omega), fA _ _ (by omega)⟩ (fun a i _ _ => fA a i (by omega))
    have e2 : f_X8_isSimple 100 M4 = some 1 := by
      rcases jsimpB (N := 100) hW hB4 (by omega) with ⟨-, z⟩ | ⟨z, -⟩
      · exact z
      · exact absurd hs z
    obtain ⟨t10, b1, b2, b3⟩ := jzero32 (M := M4) (N := 100) (a := 244) (by omega)
    have hB10 : BF t10 F := hB4.fr ⟨b3 _ _ (by omega), b3 _ _ (by omega), b3 _ _ (by omega)⟩ (fun a i _ _ => b3 a i (by omega))
    obtain ⟨M13, v14, c1, c2, c3, c4, c5⟩ := wb_asks (N := 100) (M := t10) (F := F) (ah := ah) hW hB10 x1 (fun s hs => by rw [hah]; exact b2 s hs) (by omega)
    obtain ⟨M15, u15, f15, v15⟩ := jupX M13 221 30 1
    obtain ⟨M16, u16, f16, v16⟩ := jupX M15 221 31 (nI F.ns)
    have e11 : M15 221 11 = nI F.ns := by rw [f15 _ _ (by omega), c5 _ _ (by omega)]; exact hB10.2.2.1
    have l : ∃ x, jLp (σ := Int32 × JMem) (ρ := JMem) 100 (fun ((z23, M24) : Int32 × JMem) => (if 32 ≤ z23 then some (Sum.inr M24) else (jrd M24 242 32 z23).bind fun v26 => (jwr M24 245 32 z23 v26).bind fun M27 => (jrd M27 243 32 z23).bind fun v28 => (jwr M27 246 32 z23 v28).bind fun M29 => (jrd M29 244 32 z23).bind fun v30 => (jwr M29 247 32 z23 v30).bind fun M31 => some (Sum.inl (z23 + 1, M31)))) (0, M16) = some x ∧ ((∀ s, s < 32 → x 245 s = M16 242 s ∧ x 246 s = M16 243 s ∧ x 247 s = M16 244 s) ∧ ∀ a i, ¬ (245 ≤ a ∧ a ≤ 247) → x a i = M16 a i) := by
      refine jLp_tot (fun c z => ∃ s, c + s = 32 ∧ z.1 = nI s ∧ (∀ u, u < s → z.2 245 u = M16 242 u ∧ z.2 246 u = M16 243 u ∧ z.2 247 u = M16 244 u) ∧ ∀ a i, ¬ (245 ≤ a ∧ a ≤ 247) → z.2 a i = M16 a i) _ ?_ 100 32 (0, M16) (by omega) ⟨0, by omega, rfl, fun u hu => absurd hu (Nat.not_lt_zero u), fun _ _ _ => rfl⟩
      rintro c ⟨z8, M9⟩ ⟨s, hc, hz, hp, hf⟩
      dsimp only at hz hp hf ⊢
      subst hz
      rcases Nat.eq_zero_or_pos c with en | en
      · rw [if_pos (by rw [jLle (by omega) (by decide)]; omega)]
        exact ⟨_, rfl, Or.inr ⟨_, rfl, fun u hu => hp u (by omega), hf⟩⟩
      · have s32 : s < 32 := by omega
        obtain ⟨Ma, ua, fa, va⟩ := jupX M9 245 s (M16 242 s)
        obtain ⟨Mb, ub, fb, vb⟩ := jupX Ma 246 s (M16 243 s)
        obtain ⟨Mc, uc, fc, vc⟩ := jupX Mb 247 s (M16 244 s)
        rw [if_neg (by rw [jLle (by omega) (by decide)]; omega), jrd_nI s32 (by decide), Option.bind_some, hf _ _ (by omega), jwr_nI s32 (by decide), ua, Option.bind_some, jrd_nI s32 (by decide), Option.bind_some, fa _ _ (by omega), hf _ _ (by omega), jwr_nI s32 (by decide), ub, Option.bind_some, jrd_nI s32 (by decide), Option.bind_some, fb _ _ (by omega), fa _ _ (by omega), hf _ _ (by omega), jwr_nI s32 (by decide), uc, Option.bind_some]
        refine ⟨_, rfl, Or.inl ⟨_, c - 1, rfl, by omega, s + 1, by omega, nI_1 s, fun u hu => ?_, fun a i z => ?_⟩⟩
        · show Mc 245 u = _ ∧ Mc 246 u = _ ∧ Mc 247 u = _
          by_cases e : u = s
          · rw [e]
            refine ⟨?_, ?_, vc⟩
            · rw [fc _ _ (by omega), fb _ _ (by omega)]
              exact va
            · rw [fc _ _ (by omega)]
              exact vb
          · rw [fc _ _ (by omega), fc _ _ (by omega), fc _ _ (by omega), fb _ _ (by omega), fb _ _ (by omega), fb _ _ (by omega), fa _ _ (by omega), fa _ _ (by omega), fa _ _ (by omega)]
            exact hp u (by omega)
        · show Mc a i = _
          rw [fc _ _ (by omega), fb _ _ (by omega), fa _ _ (by omega)]
          exact hf a i z
    obtain ⟨t25, d1, d2, d3⟩ := l
    have fB : ∀ a i, ¬ ((242 ≤ a ∧ a ≤ 247) ∨ (a = 221 ∧ (i = 28 ∨ i = 29 ∨ i = 30 ∨ i = 31))) → t25 a i = M4 a i := fun a i z => by rw [d3 a i (by omega), f16 a i (by omega), f15 a i (by omega), c5 a i (by omega), b3 a i (by omega)]
    have q4 : ∀ s, s < F.ns → M16 242 s = (F.win x1 ah).1 s ∧ M16 243 s = (F.win x1 ah).2.1 s := fun s hs => by
      rw [f16 _ _ (by omega), f16 _ _ (by omega), f15 _ _ (by omega), f15 _ _ (by omega)]
      exact c3 s hs
    have q5 : ∀ s, s < 32 → M16 244 s = (F.win x1 ah).2.2.1 s := fun s hs => by
      rw [f16 _ _ (by omega), f15 _ _ (by omega)]
      exact c4 s hs
    have hah0 : AHI F ah := fun s g _ hb => by
      rw [hah] at hb
      rw [b_0] at hb
      cases hb
    refine ⟨100, M4, t25, if v5 = 0 then 0 else 1, ?_, ?_, F, od, S, F.ns, q, hX.asked (fun a i z y => ?_) ⟨Nat.le_refl _, ?_, Or.inr ⟨?_, ?_⟩, fun s hs => ⟨?_, ?_, ?_⟩, fun s g hs hb => ?_⟩⟩
    · unfold f_X7_windows
      rw [jisOut, if_pos h1, Option.bind_some, if_pos rfl, e, Option.bind_some, if_neg n10, u3, Option.bind_some, a1, Option.bind_some]
      dsimp only
      by_cases z : v5 = 0
      · rw [if_pos z, if_pos z]
      · rw [if_neg z, if_neg z]
    · unfold f_X8_windows
      rw [jt, if_pos h1, if_neg n10, e2, Option.bind_some, if_neg n10, b1, Option.bind_some, c1, Option.bind_some]
      dsimp only
      rw [u15, Option.bind_some, e11, u16, Option.bind_some, d1, Option.bind_some, c2, ← a2]
      by_cases z : v5 = 0
      · rw [if_pos z, if_pos z]
      · rw [if_neg z, if_neg z]
    · unfold jcore at z
      rw [fB a i (by omega), fA a i (by omega)]
    · rw [fB _ _ (by omega)]
      exact a5
    · rw [d3 _ _ (by omega), f16 _ _ (by omega)]
      exact v15
    · rw [d3 _ _ (by omega)]
      exact v16
    · rw [fB _ _ (by omega), (d2 s (by omega)).1, (q4 s hs).1]
      exact (a3 s hs).1
    · rw [fB _ _ (by omega), (d2 s (by omega)).2.1, (q4 s hs).2]
      exact (a3 s hs).2
    · rw [fB _ _ (by omega), (d2 s (by omega)).2.2, q5 s (by omega)]
      exact a4 s (by omega)
    · rw [fB _ _ (by omega), show (77 : Nat) = 74 + 3 from rfl, a4 s hs] at hb
      have := ahi_win hns (t := x1) hah0 s g hs hb
      exact ⟨this.1, this.2.1⟩
  · have e2 : f_X8_isSimple 100 M = some 0 := by
      rcases jsimpB (N := 100) hW hB (by omega) with ⟨z, -⟩ | ⟨-, z⟩
      · exact absurd z hs
      · exact z
    exact ⟨100, M, M, -100003, by unfold f_X7_windows; rw [jisOut, if_pos h1, Option.bind_some, if_pos rfl, e, Option.bind_some, if_pos rfl], by unfold f_X8_windows; rw [jt, if_pos h1, if_neg n10, e2, Option.bind_some, if_pos rfl], hI⟩
