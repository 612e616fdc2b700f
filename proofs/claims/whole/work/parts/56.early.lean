/-! when a step can begin: behind its piece, behind its machine's row -/
def FT.ea (F : FT) (b : Nat → Nat) (s : Nat) : Nat := if F.rk s = 0 then 0 else b (F.ln (F.pc s) (F.rk s - 1)) + F.sp (F.ln (F.pc s) (F.rk s - 1))
def FT.gap (F : FT) (p s : Nat) : Nat := if F.kd (F.mc s) = 2 ∧ ¬ F.so (F.pc p) = F.so (F.pc s) then (F.wi (F.mc s)).toNatClampNeg else 0
def FT.fo (F : FT) (b row : Nat → Nat) (i s : Nat) : Nat := if F.kd (F.mc s) = 1 ∨ i = 0 then 0 else if F.kd (F.mc s) = 3 then max (b (row (i - 1))) (F.tt b row i ((F.wi (F.mc s)).toNatClampNeg - 1)) else b (row (i - 1)) + F.sp (row (i - 1)) + F.gap (row (i - 1)) s
theorem fo_a {F : FT} {b row : Nat → Nat} {i s : Nat} (h : F.kd (F.mc s) = 1 ∨ i = 0) : F.fo b row i s = 0 := by
  unfold FT.fo
  rw [if_pos h]
theorem fo_c {F : FT} {b row : Nat → Nat} {i s : Nat} (h : i ≠ 0) (h3 : F.kd (F.mc s) = 3) : F.fo b row i s = max (b (row (i - 1))) (F.tt b row i ((F.wi (F.mc s)).toNatClampNeg - 1)) := by
  unfold FT.fo
  rw [if_neg (show ¬ (F.kd (F.mc s) = 1 ∨ i = 0) by omega), if_pos h3]
theorem fo_o {F : FT} {b row : Nat → Nat} {i s : Nat} (h : i ≠ 0) (h1 : F.kd (F.mc s) ≠ 1) (h3 : F.kd (F.mc s) ≠ 3) : F.fo b row i s = b (row (i - 1)) + F.sp (row (i - 1)) + F.gap (row (i - 1)) s := by
  unfold FT.fo
  rw [if_neg (show ¬ (F.kd (F.mc s) = 1 ∨ i = 0) by omega), if_neg h3]
theorem gap_le {F : FT} (hW : WF F) {p s : Nat} (hs : s < F.ns) : F.gap p s ≤ 100 := by
  unfold FT.gap
  split
  · rename_i h
    obtain ⟨g, hg, e⟩ := (hW.1.2 _ (hW.2.2.1.2 s hs).2.1).2.1 h.1
    rw [e, nI_clamp (by omega)]
    exact hg
  · omega
/-- the step ahead in the piece -/
theorem jahead {F : FT} (hW : WF F) {s : Nat} (hs : s < F.ns) (h : F.rk s ≠ 0) : F.ln (F.pc s) (F.rk s - 1) < F.ns := by
  have h1 := (hW.2.2.1.2 s hs).2.2.2.2.1
  exact (hW.2.1.2.2.2 (F.pc s) (F.rk s - 1) (by omega)).1
theorem jeaA {M : JMem} {o s : Nat} {F : FT} {b : Nat → Nat} (hW : WF F) (hA : AF M F) (hs : s < F.ns) (h : F.rk s ≠ 0 → M (o + 1) (F.ln (F.pc s) (F.rk s - 1)) = nI (b (F.ln (F.pc s) (F.rk s - 1)))) : f_X1_endAheadInPiece M o (nI s) = some (nI (F.ea b s)) := by
  have hns := hW.2.2.1.1
  have hnp := hW.2.1.1
  obtain ⟨g1, g2, g3, g4, g5, g6, g7, g8, g9, g10⟩ := hA
  obtain ⟨a1, a2, a3, a4⟩ := g8 s hs
  obtain ⟨p1, p2, p3, p4, p5, p6⟩ := hW.2.2.1.2 s hs
  have hlc := hW.2.1.2.2.1 (F.pc s)
  unfold f_X1_endAheadInPiece FT.ea
  rw [jrd_nI (by omega) (by decide), Option.bind_some, a4]
  by_cases e : F.rk s = 0
  · rw [if_pos (by rw [e]; rfl), if_pos e]
    rfl
  · have h2 := jahead hW hs e
    rw [if_neg (by rw [jeqL (by omega) (by decide)]; omega), if_neg e, jrd_nI (by omega) (by decide), Option.bind_some, a1, jrw_nI (show F.pc s < 12 by omega) (by decide), Option.bind_some, jsub1 (by omega), jrd_nI (by omega) (by decide), Option.bind_some, g7 _ _ (by omega) (by omega), jendA (by omega) (h e) (g8 _ h2).2.2.1, Option.bind_some]
theorem jpauseA {M : JMem} {p s : Nat} {F : FT} (hW : WF F) (hA : AF M F) (hs : s < F.ns) (hp : p < F.ns) : f_X1_pauseBetween M (nI p) (nI s) = some (nI (F.gap p s)) := by
  have hns := hW.2.2.1.1
  have hnp := hW.2.1.1
  have hnm := hW.1.1
  obtain ⟨g1, g2, g3, g4, g5, g6, g7, g8, g9, g10⟩ := hA
  obtain ⟨a1, a2, a3, a4⟩ := g8 s hs
  obtain ⟨b1, b2, b3, b4⟩ := g8 p hp
  obtain ⟨p1, p2, p3, p4, p5, p6⟩ := hW.2.2.1.2 s hs
  obtain ⟨q1, q2, q3, q4, q5, q6⟩ := hW.2.2.1.2 p hp
  have hk := hW.1.2 _ p2
  unfold f_X1_pauseBetween FT.gap
  rw [jrd_nI (by omega) (by decide), Option.bind_some, a2, jrd_nI (by omega) (by decide), Option.bind_some, b1, jrd_nI (show F.pc p < 12 by omega) (by decide), Option.bind_some, g5 _ q1, jrd_nI (by omega) (by decide), Option.bind_some, a1, jrd_nI (show F.pc s < 12 by omega) (by decide), Option.bind_some, g5 _ p1, jrd_nI (show F.mc s < 8 by omega) (by decide), jrd_nI (show F.mc s < 8 by omega) (by decide), (g4 _ p2).1, (g4 _ p2).2]
  by_cases e : F.so (F.pc p) = F.so (F.pc s)
  · rw [if_pos e, Option.bind_some, Option.bind_some, if_neg (show ¬ (F.kd (F.mc s) = 2 ∧ ¬ F.so (F.pc p) = F.so (F.pc s)) from fun z => z.2 e)]
    rw [if_neg (show ¬ (1 : Int32) = 0 by decide)]
    split <;> rfl
  · rw [if_neg e, Option.bind_some, Option.bind_some, if_pos (show (0 : Int32) = 0 from rfl), Option.bind_some]
    by_cases e2 : F.kd (F.mc s) = 2
    · obtain ⟨g, hg, eg⟩ := hk.2.1 e2
      rw [if_pos (by rw [e2]; rfl), if_pos ⟨e2, e⟩, eg, nI_clamp (by omega)]
    · rw [if_neg (by rw [jeqL (by omega) (by decide)]; exact e2), if_neg (fun z => e2 z.1)]
      rfl
/-- the moment of a step that is not fixed -/
theorem jearA {M : JMem} {o r s i nb N : Nat} {F : FT} {b row : Nat → Nat} (hW : WF F) (hA : AF M F) (hs : s < F.ns) (ho : r + 10 < o) (hr : 33 ≤ r) (hi : i ≤ 32) (h0 : M (o + 3) s = -1) (h1 : M (o + 4) (F.mc s) = nI nb) (hnb : nb ≤ 1000000) (h2 : M (o + 8) (F.mc s) = nI i)
    (h3 : F.rk s ≠ 0 → M (o + 1) (F.ln (F.pc s) (F.rk s - 1)) = nI (b (F.ln (F.pc s) (F.rk s - 1))) ∧ b (F.ln (F.pc s) (F.rk s - 1)) + F.sp (F.ln (F.pc s) (F.rk s - 1)) ≤ 1000000)
    (h4 : F.kd (F.mc s) ≠ 1 → ∀ j, j < i → row j < F.ns ∧ M (r + 1 + 1 + F.mc s) j = nI (row j) ∧ M (o + 1) (row j) = nI (b (row j)) ∧ b (row j) + F.sp (row j) ≤ 1000000) (hN : 100 ≤ N) :
    ∃ M', f_X1_earliest N M o r (nI s) = some (M', nI (max nb (max (F.ea b s) (F.fo b row i s)))) ∧ ∀ a j, a ≠ o + 9 → M' a j = M a j := by
  have hns := hW.2.2.1.1
  have hnm := hW.1.1
  obtain ⟨p1, p2, p3, p4, p5, p6⟩ := hW.2.2.1.2 s hs
  have hk := hW.1.2 _ p2
  have eA := jeaA (b := b) hW hA hs (fun z => (h3 z).1)
  have hea : F.ea b s ≤ 1000000 := by
    unfold FT.ea
    split
    · omega
    · rename_i z
      exact (h3 z).2
  have g8 := hA.2.2.2.2.2.2.2.1
  have g4 := hA.2.2.2.1
  unfold f_X1_earliest
  rw [jrd_nI (by omega) (by decide), Option.bind_some, h0, if_pos rfl, jrd_nI (by omega) (by decide), Option.bind_some, (g8 s hs).2.1, jrd_nI (show F.mc s < 8 by omega) (by decide), Option.bind_some, h2, jrd_nI (show F.mc s < 8 by omega) (by decide), Option.bind_some, h1, eA, Option.bind_some, jrd_nI (show F.mc s < 8 by omega) (by decide), Option.bind_some, (g4 _ p2).1, jmaxN (by omega) (by omega)]
  by_cases e1 : F.kd (F.mc s) = 1
  · rw [if_pos (by rw [e1]; rfl)]
    refine ⟨M, ?_, fun _ _ _ => rfl⟩
    rw [fo_a (Or.inl e1), Nat.max_zero]
  rw [if_neg (by rw [jeqL (by omega) (by decide)]; exact e1)]
  by_cases e2 : i = 0
  · rw [if_pos (by rw [e2]; rfl)]
    refine ⟨M, ?_, fun _ _ _ => rfl⟩
    rw [fo_a (Or.inr e2), Nat.max_zero]
  rw [if_neg (by rw [jeqL (by omega) (by decide)]; exact e2)]
  obtain ⟨c1, c2, c3, c4⟩ := h4 e1 (i - 1) (by omega)
  rw [jrw_nI (show F.mc s < 8 by omega) (by decide), Option.bind_some, jsub1 (by omega), jrd_nI (show i - 1 < 32 by omega) (by decide), Option.bind_some, c2, Option.bind_some]
  by_cases e3 : F.kd (F.mc s) = 3
  · obtain ⟨h, hh1, hh2, eh⟩ := hk.2.2 e3
    obtain ⟨M', f1, f2⟩ := jfreeA (M := M) (o := o) (r := r) (m := F.mc s) (i := i) (h := h) (N := N) (F := F) (b := b) (row := row) (by omega) hi ho hr h2 (fun j hj => by
      obtain ⟨d1, d2, d3, d4⟩ := h4 e1 j hj
      exact ⟨by omega, d2, d3, (g8 _ d1).2.2.1, d4⟩) ⟨hh1, hh2⟩ (by rw [(g4 _ p2).2, eh]) hN
    have htt : F.tt b row i (h - 1) ≤ 1000000 := tt_le _ _ (fun j hj => (h4 e1 j hj).2.2.2)
    rw [if_pos (by rw [e3]; rfl), f1, Option.bind_some]
    dsimp only
    rw [jrd_nI (by omega) (by decide), Option.bind_some, f2 _ _ (by omega), c3, jmaxN (by omega) (by omega), jmaxN (by omega) (by omega), fo_c e2 e3, eh, nI_clamp (by omega)]
    refine ⟨M', ?_, f2⟩
    congr 3
    omega
  · have hg := gap_le hW (p := row (i - 1)) hs
    rw [if_neg (by rw [jeqL (by omega) (by decide)]; exact e3), fo_o e2 e1 e3, jendA (by omega) c3 (g8 _ c1).2.2.1, Option.bind_some, jpauseA hW hA hs c1, Option.bind_some, nI_add, jmaxN (by omega) (by omega)]
    refine ⟨M, ?_, fun _ _ _ => rfl⟩
    congr 3
    omega
