theorem jup_fr {M M' : JMem} {b k : Nat} {v : Int32} (h : some (jup M b k v) = some M') {a i : Nat} (ha : ¬ (a = b ∧ i = k)) : M' a i = M a i := by
  rw [← Option.some.inj h]
  unfold jup
  by_cases hb : a = b
  · subst hb
    simp only [if_true]
    unfold upd
    rw [if_neg (fun q => ha ⟨rfl, q⟩)]
  · rw [if_neg hb]
theorem jfl_fr {M M' : JMem} {b n : Nat} {v : Int32} (h : some (jfill M b n v) = some M') {a i : Nat} (ha : a ≠ b) : M' a i = M a i := by
  rw [← Option.some.inj h]
  simp [jfill, jrow, ha]
theorem jwr_fr {M M' : JMem} {b n : Nat} {j v : Int32} (h : jwr M b n j v = some M') {a i : Nat} (ha : a ≠ b) : M' a i = M a i := by
  rw [(jwr_spec h).2]
  simp [jup, ha]
theorem jcpy_fr {M M' : JMem} {c nc b nb : Nat} {sp dp n : Int32} (h : jcpy M c nc sp b nb dp n = some M') {a i : Nat} (ha : a ≠ b) : M' a i = M a i := by
  unfold jcpy at h
  split at h
  · rw [← Option.some.inj h]
    simp [jrow, ha]
  · cases h
set_option maxHeartbeats 4000000 in
theorem fr_X2_addMachine {M : JMem} {x1 : Int32} {x2 : Int32} {Mz : JMem} {r : Int32} (hf : f_X2_addMachine M x1 x2 = some (Mz, r)) (a i : Nat) (hA : ¬ ((a = 1 ∧ i = 0) ∨ a = 2 ∨ a = 3)) : Mz a i = M a i := by
  unfold f_X2_addMachine at hf
  obtain ⟨M1, eM1, hf⟩ := job hf
  refine Eq.trans ?_ (jwr_fr eM1 (by omega))
  obtain ⟨M2, eM2, hf⟩ := job hf
  refine Eq.trans ?_ (jwr_fr eM2 (by omega))
  obtain ⟨M3, eM3, hf⟩ := job hf
  refine Eq.trans ?_ (by first | exact jup_fr eM3 (by omega) | exact jfl_fr eM3 (by omega))
  obtain ⟨rfl, rfl⟩ := Prod.mk.inj (Option.some.inj hf)
  rfl
set_option maxHeartbeats 4000000 in
theorem fr_X2_addPiece {M : JMem} {x1 : Int32} {Mz : JMem} {r : Int32} (hf : f_X2_addPiece M x1 = some (Mz, r)) (a i : Nat) (hA : ¬ ((a = 1 ∧ i = 1) ∨ a = 4)) : Mz a i = M a i := by
  unfold f_X2_addPiece at hf
  obtain ⟨M1, eM1, hf⟩ := job hf
  refine Eq.trans ?_ (jwr_fr eM1 (by omega))
  obtain ⟨M2, eM2, hf⟩ := job hf
  refine Eq.trans ?_ (by first | exact jup_fr eM2 (by omega) | exact jfl_fr eM2 (by omega))
  obtain ⟨rfl, rfl⟩ := Prod.mk.inj (Option.some.inj hf)
  rfl
set_option maxHeartbeats 4000000 in
theorem fr_X2_addStep {M : JMem} {x1 : Int32} {x2 : Int32} {x3 : Int32} {Mz : JMem} {r : Int32} (hf : f_X2_addStep M x1 x2 x3 = some (Mz, r)) (a i : Nat) (hA : ¬ ((a = 1 ∧ i = 2) ∨ a = 18 ∨ a = 19 ∨ a = 20 ∨ a = 21 ∨ a = 22 ∨ (24 ≤ a ∧ a ≤ 31) ∨ a = 32 ∨ (6 ≤ a ∧ a ≤ 17))) : Mz a i = M a i := by
  unfold f_X2_addStep at hf
  obtain ⟨M1, eM1, hf⟩ := job hf
  refine Eq.trans ?_ (jwr_fr eM1 (by omega))
  obtain ⟨M2, eM2, hf⟩ := job hf
  refine Eq.trans ?_ (jwr_fr eM2 (by omega))
  obtain ⟨M3, eM3, hf⟩ := job hf
  refine Eq.trans ?_ (jwr_fr eM3 (by omega))
  obtain ⟨v4, ev4, hf⟩ := job hf
  obtain ⟨M5, eM5, hf⟩ := job hf
  refine Eq.trans ?_ (jwr_fr eM5 (by omega))
  obtain ⟨w6, ew6, hf⟩ := job hf
  obtain ⟨-, hew6a, hew6b⟩ := jrw_spec ew6
  obtain ⟨v7, ev7, hf⟩ := job hf
  obtain ⟨M8, eM8, hf⟩ := job hf
  refine Eq.trans ?_ (jwr_fr eM8 (by omega))
  obtain ⟨v9, ev9, hf⟩ := job hf
  obtain ⟨M10, eM10, hf⟩ := job hf
  refine Eq.trans ?_ (jwr_fr eM10 (by omega))
  obtain ⟨w11, ew11, hf⟩ := job hf
  obtain ⟨-, hew11a, hew11b⟩ := jrw_spec ew11
  obtain ⟨v12, ev12, hf⟩ := job hf
  obtain ⟨M13, eM13, hf⟩ := job hf
  refine Eq.trans ?_ (jwr_fr eM13 (by omega))
  obtain ⟨v14, ev14, hf⟩ := job hf
  obtain ⟨M15, eM15, hf⟩ := job hf
  refine Eq.trans ?_ (jwr_fr eM15 (by omega))
  obtain ⟨M16, eM16, hf⟩ := job hf
  refine Eq.trans ?_ (by first | exact jup_fr eM16 (by omega) | exact jfl_fr eM16 (by omega))
  obtain ⟨rfl, rfl⟩ := Prod.mk.inj (Option.some.inj hf)
  rfl
set_option maxHeartbeats 4000000 in
theorem fr_X3_clear {M : JMem} {o : Nat} {Mz : JMem} (hf : f_X3_clear M o = some Mz) (a i : Nat) (hA : ¬ (a = o + 10)) : Mz a i = M a i := by
  unfold f_X3_clear at hf
  obtain ⟨M1, eM1, hf⟩ := job hf
  refine Eq.trans ?_ (by first | exact jup_fr eM1 (by omega) | exact jfl_fr eM1 (by omega))
  show Mz a i = M1 a i
  obtain rfl := Option.some.inj hf
  rfl
set_option maxHeartbeats 4000000 in
theorem fr_X3_append {M : JMem} {o : Nat} {x1 : Int32} {x2 : Int32} {Mz : JMem} (hf : f_X3_append M o x1 x2 = some Mz) (a i : Nat) (hA : ¬ (a = o + 10 ∨ (o + 2 ≤ a ∧ a ≤ o + 9))) : Mz a i = M a i := by
  unfold f_X3_append at hf
  obtain ⟨w1, ew1, hf⟩ := job hf
  obtain ⟨-, hew1a, hew1b⟩ := jrw_spec ew1
  obtain ⟨v2, ev2, hf⟩ := job hf
  obtain ⟨M3, eM3, hf⟩ := job hf
  refine Eq.trans ?_ (jwr_fr eM3 (by omega))
  obtain ⟨v4, ev4, hf⟩ := job hf
  obtain ⟨M5, eM5, hf⟩ := job hf
  refine Eq.trans ?_ (jwr_fr eM5 (by omega))
  obtain rfl := Option.some.inj hf
  rfl
set_option maxHeartbeats 4000000 in
theorem fr_X3_exchange {M : JMem} {o : Nat} {x1 : Int32} {x2 : Int32} {Mz : JMem} (hf : f_X3_exchange M o x1 x2 = some Mz) (a i : Nat) (hA : ¬ ((o + 2 ≤ a ∧ a ≤ o + 9))) : Mz a i = M a i := by
  unfold f_X3_exchange at hf
  obtain ⟨w1, ew1, hf⟩ := job hf
  obtain ⟨-, hew1a, hew1b⟩ := jrw_spec ew1
  obtain ⟨v2, ev2, hf⟩ := job hf
  obtain ⟨w3, ew3, hf⟩ := job hf
  obtain ⟨-, hew3a, hew3b⟩ := jrw_spec ew3
  obtain ⟨w4, ew4, hf⟩ := job hf
  obtain ⟨-, hew4a, hew4b⟩ := jrw_spec ew4
  obtain ⟨v5, ev5, hf⟩ := job hf
  obtain ⟨M6, eM6, hf⟩ := job hf
  refine Eq.trans ?_ (jwr_fr eM6 (by omega))
  obtain ⟨w7, ew7, hf⟩ := job hf
  obtain ⟨-, hew7a, hew7b⟩ := jrw_spec ew7
  obtain ⟨M8, eM8, hf⟩ := job hf
  refine Eq.trans ?_ (jwr_fr eM8 (by omega))
  obtain rfl := Option.some.inj hf
  rfl
set_option maxHeartbeats 4000000 in
theorem fr_X3_move {N : Nat} {M : JMem} {o : Nat} {x1 : Int32} {x2 : Int32} {x3 : Int32} {Mz : JMem} (hf : f_X3_move N M o x1 x2 x3 = some Mz) (a i : Nat) (hA : ¬ ((o + 2 ≤ a ∧ a ≤ o + 9))) : Mz a i = M a i := by
  unfold f_X3_move at hf
  obtain ⟨t9, y2, hy1⟩ := job hf
  have K3 : Mz a i = t9 a i := by
    replace hf := hy1
    obtain ⟨t20, y13, hy12⟩ := job hf
    have K14 : Mz a i = t20 a i := by
      replace hf := hy12
      obtain rfl := Option.some.inj hf
      rfl
    refine jLp_ind (P := fun ((z18, M19) : Int32 × JMem) => Mz a i = M19 a i) ?_ N _ y13
    rintro ⟨z18, M19⟩ x_17 hf ih16 hx15
    show Mz a i = M19 a i
    by_cases hc22 : z18 ≤ x3
    · replace hf := jifp hc22 hf
      have hf := hx15 _ (Option.some.inj hf).symm
      obtain rfl := hf
      exact K14
    · replace hf := jifn hc22 hf
      obtain ⟨M21, eM21, hf⟩ := job hf
      refine Eq.trans ?_ (fr_X3_exchange eM21 a i (by omega))
      show Mz a i = M21 a i
      have hih : Mz a i = M21 a i := ih16 (z18 + (-1), M21) (Option.some.inj hf).symm
      exact hih
  refine jLp_ind (P := fun ((z7, M8) : Int32 × JMem) => Mz a i = M8 a i) ?_ N _ y2
  rintro ⟨z7, M8⟩ x_6 hf ih5 hx4
  show Mz a i = M8 a i
  by_cases hc11 : x3 ≤ z7
  · replace hf := jifp hc11 hf
    have hf := hx4 _ (Option.some.inj hf).symm
    obtain rfl := hf
    exact K3
  · replace hf := jifn hc11 hf
    obtain ⟨M10, eM10, hf⟩ := job hf
    refine Eq.trans ?_ (fr_X3_exchange eM10 a i (by omega))
    show Mz a i = M10 a i
    have hih : Mz a i = M10 a i := ih5 (z7 + 1, M10) (Option.some.inj hf).symm
    exact hih
set_option maxHeartbeats 4000000 in
theorem fr_X3_takeFrom {N : Nat} {M : JMem} {o : Nat} {r1 : Nat} {Mz : JMem} (hf : f_X3_takeFrom N M o r1 = some Mz) (a i : Nat) (hA : ¬ (a = o + 10 ∨ (o + 2 ≤ a ∧ a ≤ o + 9))) : Mz a i = M a i := by
  unfold f_X3_takeFrom at hf
  obtain ⟨t9, y2, hy1⟩ := job hf
  have K3 : Mz a i = t9 a i := by
    replace hf := hy1
    obtain ⟨M14, eM14, hf⟩ := job hf
    refine Eq.trans ?_ (jcpy_fr eM14 (by omega))
    obtain rfl := Option.some.inj hf
    rfl
  refine jLp_ind (P := fun ((z7, M8) : Int32 × JMem) => Mz a i = M8 a i) ?_ N _ y2
  rintro ⟨z7, M8⟩ x_6 hf ih5 hx4
  show Mz a i = M8 a i
  by_cases hc13 : 8 ≤ z7
  · replace hf := jifp hc13 hf
    have hf := hx4 _ (Option.some.inj hf).symm
    obtain rfl := hf
    exact K3
  · replace hf := jifn hc13 hf
    obtain ⟨w10, ew10, hf⟩ := job hf
    obtain ⟨-, hew10a, hew10b⟩ := jrw_spec ew10
    obtain ⟨w11, ew11, hf⟩ := job hf
    obtain ⟨-, hew11a, hew11b⟩ := jrw_spec ew11
    obtain ⟨M12, eM12, hf⟩ := job hf
    refine Eq.trans ?_ (jcpy_fr eM12 (by omega))
    have hih : Mz a i = M12 a i := ih5 (z7 + 1, M12) (Option.some.inj hf).symm
    exact hih
set_option maxHeartbeats 4000000 in
theorem fr_X5_make {M : JMem} {x1 : Int32} {x2 : Int32} {x3 : Int32} {Mz : JMem} (hf : f_X5_make M x1 x2 x3 = some Mz) (a i : Nat) (hA : ¬ (a = 45 ∨ a = 46 ∨ (48 ≤ a ∧ a ≤ 53))) : Mz a i = M a i := by
  unfold f_X5_make at hf
  obtain ⟨M1, eM1, hf⟩ := job hf
  refine Eq.trans ?_ (jwr_fr eM1 (by omega))
  obtain ⟨M2, eM2, hf⟩ := job hf
  refine Eq.trans ?_ (jwr_fr eM2 (by omega))
  obtain ⟨w3, ew3, hf⟩ := job hf
  obtain ⟨-, hew3a, hew3b⟩ := jrw_spec ew3
  obtain ⟨M4, eM4, hf⟩ := job hf
  refine Eq.trans ?_ (by first | exact jup_fr eM4 (by omega) | exact jfl_fr eM4 (by omega))
  show Mz a i = M4 a i
  obtain rfl := Option.some.inj hf
  rfl
set_option maxHeartbeats 4000000 in
theorem fr_X5_remove {M : JMem} {x1 : Int32} {Mz : JMem} (hf : f_X5_remove M x1 = some Mz) (a i : Nat) (hA : ¬ (a = 45 ∨ a = 46)) : Mz a i = M a i := by
  unfold f_X5_remove at hf
  obtain ⟨M1, eM1, hf⟩ := job hf
  refine Eq.trans ?_ (jwr_fr eM1 (by omega))
  obtain ⟨M2, eM2, hf⟩ := job hf
  refine Eq.trans ?_ (jwr_fr eM2 (by omega))
  obtain rfl := Option.some.inj hf
  rfl
set_option maxHeartbeats 4000000 in
theorem fr_X1_clear {M : JMem} {o : Nat} {Mz : JMem} (hf : f_X1_clear M o = some Mz) (a i : Nat) (hA : ¬ ((a = o ∧ i = 4) ∨ (a = o ∧ i = 6) ∨ a = o + 6 ∨ a = o + 7 ∨ a = o + 8)) : Mz a i = M a i := by
  unfold f_X1_clear at hf
  obtain ⟨M1, eM1, hf⟩ := job hf
  refine Eq.trans ?_ (by first | exact jup_fr eM1 (by omega) | exact jfl_fr eM1 (by omega))
  obtain ⟨M2, eM2, hf⟩ := job hf
  refine Eq.trans ?_ (by first | exact jup_fr eM2 (by omega) | exact jfl_fr eM2 (by omega))
  obtain ⟨M3, eM3, hf⟩ := job hf
  refine Eq.trans ?_ (by first | exact jup_fr eM3 (by omega) | exact jfl_fr eM3 (by omega))
  show Mz a i = M3 a i
  obtain ⟨M4, eM4, hf⟩ := job hf
  refine Eq.trans ?_ (by first | exact jup_fr eM4 (by omega) | exact jfl_fr eM4 (by omega))
  show Mz a i = M4 a i
  obtain ⟨M5, eM5, hf⟩ := job hf
  refine Eq.trans ?_ (by first | exact jup_fr eM5 (by omega) | exact jfl_fr eM5 (by omega))
  show Mz a i = M5 a i
  obtain rfl := Option.some.inj hf
  rfl
set_option maxHeartbeats 4000000 in
theorem fr_X1_keepLatest {N : Nat} {M : JMem} {o : Nat} {x1 : Int32} {Mz : JMem} (hf : f_X1_keepLatest N M o x1 = some Mz) (a i : Nat) (hA : ¬ (a = o + 9)) : Mz a i = M a i := by
  unfold f_X1_keepLatest at hf
  obtain ⟨t10, y2, hy1⟩ := job hf
  have K3 : Mz a i = t10 a i := by
    replace hf := hy1
    obtain rfl := Option.some.inj hf
    rfl
  refine jLp_ind (P := fun ((z7, z8, M9) : Int32 × Int32 × JMem) => Mz a i = M9 a i) ?_ N _ y2
  rintro ⟨z7, z8, M9⟩ x_6 hf ih5 hx4
  show Mz a i = M9 a i
  by_cases hc22 : 4 ≤ z8
  · replace hf := jifp hc22 hf
    have hf := hx4 _ (Option.some.inj hf).symm
    obtain rfl := hf
    exact K3
  · replace hf := jifn hc22 hf
    obtain ⟨v11, ev11, hf⟩ := job hf
    obtain ⟨⟨u20, M21⟩, hf, hy13⟩ := job hf
    have K15 : Mz a i = M21 a i := by
      replace hf := hy13
      have hih : Mz a i = M21 a i := ih5 (u20, z8 + 1, M21) (Option.some.inj hf).symm
      exact hih
    by_cases hc19 : z7 ≤ v11
    · replace hf := jifp hc19 hf
      obtain ⟨rfl, rfl⟩ := jp2 (Option.some.inj hf)
      exact (K15)
    · replace hf := jifn hc19 hf
      obtain ⟨v17, ev17, hf⟩ := job hf
      obtain ⟨M18, eM18, hf⟩ := job hf
      refine Eq.trans ?_ (jwr_fr eM18 (by omega))
      obtain ⟨rfl, rfl⟩ := jp2 (Option.some.inj hf)
      exact (K15)
set_option maxHeartbeats 4000000 in
theorem fr_X1_freeHand {N : Nat} {M : JMem} {o : Nat} {r2 : Nat} {x3 : Int32} {Mz : JMem} {r : Int32} (hf : f_X1_freeHand N M o r2 x3 = some (Mz, r)) (a i : Nat) (hA : ¬ (a = o + 9)) : Mz a i = M a i := by
  unfold f_X1_freeHand at hf
  obtain ⟨M1, eM1, hf⟩ := job hf
  refine Eq.trans ?_ (by first | exact jup_fr eM1 (by omega) | exact jfl_fr eM1 (by omega))
  show Mz a i = M1 a i
  obtain ⟨t10, y3, hy2⟩ := job hf
  have K4 : Mz a i = t10 a i := by
    replace hf := hy2
    obtain ⟨v17, ev17, hf⟩ := job hf
    obtain ⟨v18, ev18, hf⟩ := job hf
    obtain ⟨rfl, rfl⟩ := Prod.mk.inj (Option.some.inj hf)
    rfl
  refine jLp_ind (P := fun ((z8, M9) : Int32 × JMem) => Mz a i = M9 a i) ?_ N _ y3
  rintro ⟨z8, M9⟩ x_7 hf ih6 hx5
  show Mz a i = M9 a i
  obtain ⟨v11, ev11, hf⟩ := job hf
  by_cases hc16 : v11 ≤ z8
  · replace hf := jifp hc16 hf
    have hf := hx5 _ (Option.some.inj hf).symm
    obtain rfl := hf
    exact K4
  · replace hf := jifn hc16 hf
    obtain ⟨w12, ew12, hf⟩ := job hf
    obtain ⟨-, hew12a, hew12b⟩ := jrw_spec ew12
    obtain ⟨v13, ev13, hf⟩ := job hf
    obtain ⟨v14, ev14, hf⟩ := job hf
    show Mz a i = M9 a i
    obtain ⟨M15, eM15, hf⟩ := job hf
    refine Eq.trans ?_ (fr_X1_keepLatest eM15 a i (by omega))
    show Mz a i = M15 a i
    have hih : Mz a i = M15 a i := ih6 (z8 + 1, M15) (Option.some.inj hf).symm
    exact hih
set_option maxHeartbeats 4000000 in
theorem fr_X1_earliest {N : Nat} {M : JMem} {o : Nat} {r2 : Nat} {x3 : Int32} {Mz : JMem} {r : Int32} (hf : f_X1_earliest N M o r2 x3 = some (Mz, r)) (a i : Nat) (hA : ¬ (a = o + 9)) : Mz a i = M a i := by
  unfold f_X1_earliest at hf
  obtain ⟨v1, ev1, hf⟩ := job hf
  by_cases hc19 : v1 = ((-1))
  · replace hf := jifp hc19 hf
    obtain ⟨v2, ev2, hf⟩ := job hf
    obtain ⟨v3, ev3, hf⟩ := job hf
    obtain ⟨v4, ev4, hf⟩ := job hf
    obtain ⟨v5, ev5, hf⟩ := job hf
    show Mz a i = M a i
    obtain ⟨v6, ev6, hf⟩ := job hf
    by_cases hc17 : v6 = 1
    · replace hf := jifp hc17 hf
      obtain ⟨rfl, rfl⟩ := Prod.mk.inj (Option.some.inj hf)
      rfl
    · replace hf := jifn hc17 hf
      by_cases hc16 : v3 = 0
      · replace hf := jifp hc16 hf
        obtain ⟨rfl, rfl⟩ := Prod.mk.inj (Option.some.inj hf)
        rfl
      · replace hf := jifn hc16 hf
        obtain ⟨w7, ew7, hf⟩ := job hf
        obtain ⟨-, hew7a, hew7b⟩ := jrw_spec ew7
        obtain ⟨v8, ev8, hf⟩ := job hf
        obtain ⟨v9, ev9, hf⟩ := job hf
        by_cases hc15 : v9 = 3
        · replace hf := jifp hc15 hf
          obtain ⟨⟨M12, v13⟩, ev13, hf⟩ := job hf
          refine Eq.trans ?_ (fr_X1_freeHand ev13 a i (by omega))
          show Mz a i = M12 a i
          obtain ⟨v14, ev14, hf⟩ := job hf
          obtain ⟨rfl, rfl⟩ := Prod.mk.inj (Option.some.inj hf)
          rfl
        · replace hf := jifn hc15 hf
          obtain ⟨v10, ev10, hf⟩ := job hf
          show Mz a i = M a i
          obtain ⟨v11, ev11, hf⟩ := job hf
          show Mz a i = M a i
          obtain ⟨rfl, rfl⟩ := Prod.mk.inj (Option.some.inj hf)
          rfl
  · replace hf := jifn hc19 hf
    obtain ⟨v18, ev18, hf⟩ := job hf
    obtain ⟨rfl, rfl⟩ := Prod.mk.inj (Option.some.inj hf)
    rfl
set_option maxHeartbeats 4000000 in
theorem fr_X1_set {M : JMem} {o : Nat} {r2 : Nat} {x3 : Int32} {x4 : Int32} {Mz : JMem} (hf : f_X1_set M o r2 x3 x4 = some Mz) (a i : Nat) (hA : ¬ ((a = o ∧ i = 4) ∨ (a = o ∧ i = 6) ∨ a = o + 1 ∨ a = o + 5 ∨ a = o + 6 ∨ a = o + 7 ∨ a = o + 8)) : Mz a i = M a i := by
  unfold f_X1_set at hf
  obtain ⟨v1, ev1, hf⟩ := job hf
  obtain ⟨v2, ev2, hf⟩ := job hf
  obtain ⟨M3, eM3, hf⟩ := job hf
  refine Eq.trans ?_ (jwr_fr eM3 (by omega))
  obtain ⟨v4, ev4, hf⟩ := job hf
  show Mz a i = M3 a i
  obtain ⟨M5, eM5, hf⟩ := job hf
  refine Eq.trans ?_ (by first | exact jup_fr eM5 (by omega) | exact jfl_fr eM5 (by omega))
  obtain ⟨v6, ev6, hf⟩ := job hf
  obtain ⟨M17, hf, hy8⟩ := job hf
  have K10 : Mz a i = M17 a i := by
    replace hf := hy8
    obtain ⟨M18, eM18, hf⟩ := job hf
    refine Eq.trans ?_ (jwr_fr eM18 (by omega))
    obtain ⟨M19, eM19, hf⟩ := job hf
    refine Eq.trans ?_ (by first | exact jup_fr eM19 (by omega) | exact jfl_fr eM19 (by omega))
    obtain ⟨v20, ev20, hf⟩ := job hf
    obtain ⟨v21, ev21, hf⟩ := job hf
    obtain ⟨M22, eM22, hf⟩ := job hf
    refine Eq.trans ?_ (jwr_fr eM22 (by omega))
    obtain ⟨v23, ev23, hf⟩ := job hf
    obtain ⟨M24, eM24, hf⟩ := job hf
    refine Eq.trans ?_ (jwr_fr eM24 (by omega))
    obtain rfl := Option.some.inj hf
    rfl
  by_cases hc16 : v6 = 0
  · replace hf := jifp hc16 hf
    by_cases hc15 : v2 ≤ 0
    · replace hf := jifp hc15 hf
      obtain rfl := Option.some.inj hf
      exact (K10)
    · replace hf := jifn hc15 hf
      obtain ⟨w12, ew12, hf⟩ := job hf
      obtain ⟨-, hew12a, hew12b⟩ := jrw_spec ew12
      obtain ⟨v13, ev13, hf⟩ := job hf
      obtain ⟨M14, eM14, hf⟩ := job hf
      refine Eq.trans ?_ (jwr_fr eM14 (by omega))
      obtain rfl := Option.some.inj hf
      exact (K10)
  · replace hf := jifn hc16 hf
    obtain rfl := Option.some.inj hf
    exact (K10)
set_option maxHeartbeats 4000000 in
theorem fr_X1_work {N : Nat} {M : JMem} {o : Nat} {r2 : Nat} {Mz : JMem} {r : Int32} (hf : f_X1_work N M o r2 = some (Mz, r)) (a i : Nat) (hA : ¬ ((a = o ∧ i = 4) ∨ (a = o ∧ i = 6) ∨ a = o + 1 ∨ a = o + 5 ∨ a = o + 6 ∨ a = o + 7 ∨ a = o + 8 ∨ a = o + 9)) : Mz a i = M a i := by
  unfold f_X1_work at hf
  obtain ⟨M1, eM1, hf⟩ := job hf
  refine Eq.trans ?_ (fr_X1_clear eM1 a i (by omega))
  show Mz a i = M1 a i
  obtain ⟨t11, y3, hy2⟩ := job hf
  have K4 : Mz a i = t11 a i := by
    replace hf := hy2
    by_cases hc40 : (t11 o 6) = (t11 1 2)
    · replace hf := jifp hc40 hf
      obtain ⟨rfl, rfl⟩ := Prod.mk.inj (Option.some.inj hf)
      rfl
    · replace hf := jifn hc40 hf
      obtain ⟨rfl, rfl⟩ := Prod.mk.inj (Option.some.inj hf)
      rfl
  refine jLp_ind (P := fun ((z8, z9, M10) : Int32 × Int32 × JMem) => Mz a i = M10 a i) ?_ N _ y3
  rintro ⟨z8, z9, M10⟩ x_7 hf ih6 hx5
  show Mz a i = M10 a i
  by_cases hc39 : (M10 1 2) ≤ z9
  · replace hf := jifp hc39 hf
    have hf := hx5 _ (Option.some.inj hf).symm
    obtain rfl := hf
    exact K4
  · replace hf := jifn hc39 hf
    by_cases hc38 : z8 = 0
    · replace hf := jifp hc38 hf
      have hf := hx5 _ (Option.some.inj hf).symm
      obtain rfl := hf
      exact K4
    · replace hf := jifn hc38 hf
      obtain ⟨⟨t21, t22⟩, y13, hy12⟩ := job hf
      have K14 : Mz a i = t22 a i := by
        replace hf := hy12
        have hih : Mz a i = t22 a i := ih6 (t21, z9 + 1, t22) (Option.some.inj hf).symm
        exact hih
      refine jLp_ind (P := fun ((z18, z19, M20) : Int32 × Int32 × JMem) => Mz a i = M20 a i) ?_ N _ y13
      rintro ⟨z18, z19, M20⟩ x_17 hf ih16 hx15
      show Mz a i = M20 a i
      by_cases hc37 : (M20 1 1) ≤ z19
      · replace hf := jifp hc37 hf
        have hf := hx15 _ (Option.some.inj hf).symm
        obtain ⟨rfl, rfl⟩ := jp2 hf
        exact K14
      · replace hf := jifn hc37 hf
        obtain ⟨v23, ev23, hf⟩ := job hf
        show Mz a i = M20 a i
        obtain ⟨⟨u35, M36⟩, hf, hy25⟩ := job hf
        have K27 : Mz a i = M36 a i := by
          replace hf := hy25
          have hih : Mz a i = M36 a i := ih16 (u35, z19 + 1, M36) (Option.some.inj hf).symm
          exact hih
        by_cases hc34 : v23 = ((-1))
        · replace hf := jifp hc34 hf
          obtain ⟨rfl, rfl⟩ := jp2 (Option.some.inj hf)
          exact (K27)
        · replace hf := jifn hc34 hf
          obtain ⟨v29, ev29, hf⟩ := job hf
          show Mz a i = M20 a i
          by_cases hc33 : v29 = 0
          · replace hf := jifp hc33 hf
            obtain ⟨rfl, rfl⟩ := jp2 (Option.some.inj hf)
            exact (K27)
          · replace hf := jifn hc33 hf
            obtain ⟨⟨M30, v31⟩, ev31, hf⟩ := job hf
            refine Eq.trans ?_ (fr_X1_earliest ev31 a i (by omega))
            show Mz a i = M30 a i
            obtain ⟨M32, eM32, hf⟩ := job hf
            refine Eq.trans ?_ (fr_X1_set eM32 a i (by omega))
            show Mz a i = M32 a i
            obtain ⟨rfl, rfl⟩ := jp2 (Option.some.inj hf)
            exact (K27)
set_option maxHeartbeats 4000000 in
theorem fr_X1_findTails {N : Nat} {M : JMem} {o : Nat} {Mz : JMem} (hf : f_X1_findTails N M o = some Mz) (a i : Nat) (hA : ¬ (a = o + 2)) : Mz a i = M a i := by
  unfold f_X1_findTails at hf
  obtain ⟨t9, y2, hy1⟩ := job hf
  have K3 : Mz a i = t9 a i := by
    replace hf := hy1
    obtain rfl := Option.some.inj hf
    rfl
  refine jLp_ind (P := fun ((z7, M8) : Int32 × JMem) => Mz a i = M8 a i) ?_ N _ y2
  rintro ⟨z7, M8⟩ x_6 hf ih5 hx4
  show Mz a i = M8 a i
  by_cases hc16 : z7 < 0
  · replace hf := jifp hc16 hf
    have hf := hx4 _ (Option.some.inj hf).symm
    obtain rfl := hf
    exact K3
  · replace hf := jifn hc16 hf
    obtain ⟨v10, ev10, hf⟩ := job hf
    obtain ⟨v11, ev11, hf⟩ := job hf
    show Mz a i = M8 a i
    obtain ⟨v12, ev12, hf⟩ := job hf
    show Mz a i = M8 a i
    obtain ⟨v13, ev13, hf⟩ := job hf
    obtain ⟨v14, ev14, hf⟩ := job hf
    show Mz a i = M8 a i
    obtain ⟨M15, eM15, hf⟩ := job hf
    refine Eq.trans ?_ (jwr_fr eM15 (by omega))
    have hih : Mz a i = M15 a i := ih5 (z7 + (-1), M15) (Option.some.inj hf).symm
    exact hih
set_option maxHeartbeats 4000000 in
theorem fr_X6_raise {M : JMem} {o : Nat} {x1 : Int32} {x2 : Int32} {Mz : JMem} (hf : f_X6_raise M o x1 x2 = some Mz) (a i : Nat) (hA : ¬ ((a = o ∧ i = 4) ∨ a = o + 1)) : Mz a i = M a i := by
  unfold f_X6_raise at hf
  obtain ⟨v1, ev1, hf⟩ := job hf
  by_cases hc4 : x2 ≤ v1
  · replace hf := jifp hc4 hf
    obtain rfl := Option.some.inj hf
    rfl
  · replace hf := jifn hc4 hf
    obtain ⟨M2, eM2, hf⟩ := job hf
    refine Eq.trans ?_ (jwr_fr eM2 (by omega))
    obtain ⟨M3, eM3, hf⟩ := job hf
    refine Eq.trans ?_ (by first | exact jup_fr eM3 (by omega) | exact jfl_fr eM3 (by omega))
    obtain rfl := Option.some.inj hf
    rfl
set_option maxHeartbeats 4000000 in
theorem fr_X6_lower {M : JMem} {o : Nat} {x1 : Int32} {x2 : Int32} {Mz : JMem} (hf : f_X6_lower M o x1 x2 = some Mz) (a i : Nat) (hA : ¬ ((a = o ∧ i = 4) ∨ a = o + 2)) : Mz a i = M a i := by
  unfold f_X6_lower at hf
  obtain ⟨v1, ev1, hf⟩ := job hf
  by_cases hc4 : v1 ≤ x2
  · replace hf := jifp hc4 hf
    obtain rfl := Option.some.inj hf
    rfl
  · replace hf := jifn hc4 hf
    obtain ⟨M2, eM2, hf⟩ := job hf
    refine Eq.trans ?_ (jwr_fr eM2 (by omega))
    obtain ⟨M3, eM3, hf⟩ := job hf
    refine Eq.trans ?_ (by first | exact jup_fr eM3 (by omega) | exact jfl_fr eM3 (by omega))
    obtain rfl := Option.some.inj hf
    rfl
set_option maxHeartbeats 4000000 in
theorem fr_X6_alongPieces {N : Nat} {M : JMem} {o : Nat} {Mz : JMem} (hf : f_X6_alongPieces N M o = some Mz) (a i : Nat) (hA : ¬ ((a = o ∧ i = 4) ∨ a = o + 1 ∨ a = o + 2)) : Mz a i = M a i := by
  unfold f_X6_alongPieces at hf
  obtain ⟨t9, y2, hy1⟩ := job hf
  have K3 : Mz a i = t9 a i := by
    replace hf := hy1
    obtain rfl := Option.some.inj hf
    rfl
  refine jLp_ind (P := fun ((z7, M8) : Int32 × JMem) => Mz a i = M8 a i) ?_ N _ y2
  rintro ⟨z7, M8⟩ x_6 hf ih5 hx4
  show Mz a i = M8 a i
  by_cases hc44 : (M8 1 1) ≤ z7
  · replace hf := jifp hc44 hf
    have hf := hx4 _ (Option.some.inj hf).symm
    obtain rfl := hf
    exact K3
  · replace hf := jifn hc44 hf
    obtain ⟨w10, ew10, hf⟩ := job hf
    obtain ⟨-, hew10a, hew10b⟩ := jrw_spec ew10
    obtain ⟨v11, ev11, hf⟩ := job hf
    obtain ⟨t20, y13, hy12⟩ := job hf
    have K14 : Mz a i = t20 a i := by
      replace hf := hy12
      obtain ⟨t36, y29, hy28⟩ := job hf
      have K30 : Mz a i = t36 a i := by
        replace hf := hy28
        have hih : Mz a i = t36 a i := ih5 (z7 + 1, t36) (Option.some.inj hf).symm
        exact hih
      refine jLp_ind (P := fun ((z34, M35) : Int32 × JMem) => Mz a i = M35 a i) ?_ N _ y29
      rintro ⟨z34, M35⟩ x_33 hf ih32 hx31
      show Mz a i = M35 a i
      by_cases hc43 : z34 ≤ 0
      · replace hf := jifp hc43 hf
        have hf := hx31 _ (Option.some.inj hf).symm
        obtain rfl := hf
        exact K30
      · replace hf := jifn hc43 hf
        obtain ⟨v37, ev37, hf⟩ := job hf
        obtain ⟨v38, ev38, hf⟩ := job hf
        obtain ⟨v39, ev39, hf⟩ := job hf
        obtain ⟨v40, ev40, hf⟩ := job hf
        obtain ⟨v41, ev41, hf⟩ := job hf
        obtain ⟨M42, eM42, hf⟩ := job hf
        refine Eq.trans ?_ (fr_X6_lower eM42 a i (by omega))
        show Mz a i = M42 a i
        have hih : Mz a i = M42 a i := ih32 (z34 + (-1), M42) (Option.some.inj hf).symm
        exact hih
    refine jLp_ind (P := fun ((z18, M19) : Int32 × JMem) => Mz a i = M19 a i) ?_ N _ y13
    rintro ⟨z18, M19⟩ x_17 hf ih16 hx15
    show Mz a i = M19 a i
    by_cases hc27 : v11 ≤ z18
    · replace hf := jifp hc27 hf
      have hf := hx15 _ (Option.some.inj hf).symm
      obtain rfl := hf
      exact K14
    · replace hf := jifn hc27 hf
      obtain ⟨v21, ev21, hf⟩ := job hf
      obtain ⟨v22, ev22, hf⟩ := job hf
      obtain ⟨v23, ev23, hf⟩ := job hf
      obtain ⟨v24, ev24, hf⟩ := job hf
      obtain ⟨v25, ev25, hf⟩ := job hf
      obtain ⟨M26, eM26, hf⟩ := job hf
      refine Eq.trans ?_ (fr_X6_raise eM26 a i (by omega))
      show Mz a i = M26 a i
      have hih : Mz a i = M26 a i := ih16 (z18 + 1, M26) (Option.some.inj hf).symm
      exact hih
set_option maxHeartbeats 4000000 in
theorem fr_X6_lookForBurst {N : Nat} {M : JMem} {o : Nat} {Mz : JMem} (hf : f_X6_lookForBurst N M o = some Mz) (a i : Nat) (hA : ¬ ((a = o ∧ i = 5))) : Mz a i = M a i := by
  unfold f_X6_lookForBurst at hf
  obtain ⟨t9, y2, hy1⟩ := job hf
  have K3 : Mz a i = t9 a i := by
    replace hf := hy1
    obtain rfl := Option.some.inj hf
    rfl
  refine jLp_ind (P := fun ((z7, M8) : Int32 × JMem) => Mz a i = M8 a i) ?_ N _ y2
  rintro ⟨z7, M8⟩ x_6 hf ih5 hx4
  show Mz a i = M8 a i
  by_cases hc21 : (M8 o 3) ≤ z7
  · replace hf := jifp hc21 hf
    have hf := hx4 _ (Option.some.inj hf).symm
    obtain rfl := hf
    exact K3
  · replace hf := jifn hc21 hf
    obtain ⟨v10, ev10, hf⟩ := job hf
    obtain ⟨v11, ev11, hf⟩ := job hf
    obtain ⟨v12, ev12, hf⟩ := job hf
    obtain ⟨M20, hf, hy14⟩ := job hf
    have K16 : Mz a i = M20 a i := by
      replace hf := hy14
      have hih : Mz a i = M20 a i := ih5 (z7 + 1, M20) (Option.some.inj hf).symm
      exact hih
    by_cases hc19 : v12 ≤ (v10 - v11)
    · replace hf := jifp hc19 hf
      obtain rfl := Option.some.inj hf
      exact (K16)
    · replace hf := jifn hc19 hf
      obtain ⟨M18, eM18, hf⟩ := job hf
      refine Eq.trans ?_ (by first | exact jup_fr eM18 (by omega) | exact jfl_fr eM18 (by omega))
      obtain rfl := Option.some.inj hf
      exact (K16)
set_option maxHeartbeats 4000000 in
theorem fr_X6_alongPairs {N : Nat} {M : JMem} {o : Nat} {Mz : JMem} (hf : f_X6_alongPairs N M o = some Mz) (a i : Nat) (hA : ¬ ((a = o ∧ i = 4) ∨ a = o + 1 ∨ a = o + 2)) : Mz a i = M a i := by
  unfold f_X6_alongPairs at hf
  obtain ⟨t9, y2, hy1⟩ := job hf
  have K3 : Mz a i = t9 a i := by
    replace hf := hy1
    obtain rfl := Option.some.inj hf
    rfl
  refine jLp_ind (P := fun ((z7, M8) : Int32 × JMem) => Mz a i = M8 a i) ?_ N _ y2
  rintro ⟨z7, M8⟩ x_6 hf ih5 hx4
  show Mz a i = M8 a i
  by_cases hc34 : (M8 o 3) ≤ z7
  · replace hf := jifp hc34 hf
    have hf := hx4 _ (Option.some.inj hf).symm
    obtain rfl := hf
    exact K3
  · replace hf := jifn hc34 hf
    obtain ⟨t18, y11, hy10⟩ := job hf
    have K12 : Mz a i = t18 a i := by
      replace hf := hy10
      have hih : Mz a i = t18 a i := ih5 (z7 + 1, t18) (Option.some.inj hf).symm
      exact hih
    refine jLp_ind (P := fun ((z16, M17) : Int32 × JMem) => Mz a i = M17 a i) ?_ N _ y11
    rintro ⟨z16, M17⟩ x_15 hf ih14 hx13
    show Mz a i = M17 a i
    by_cases hc33 : (M17 o 3) ≤ z16
    · replace hf := jifp hc33 hf
      have hf := hx13 _ (Option.some.inj hf).symm
      obtain rfl := hf
      exact K12
    · replace hf := jifn hc33 hf
      obtain ⟨v19, ev19, hf⟩ := job hf
      show Mz a i = M17 a i
      obtain ⟨M32, hf, hy21⟩ := job hf
      have K23 : Mz a i = M32 a i := by
        replace hf := hy21
        have hih : Mz a i = M32 a i := ih14 (z16 + 1, M32) (Option.some.inj hf).symm
        exact hih
      by_cases hc31 : v19 = 0
      · replace hf := jifp hc31 hf
        obtain rfl := Option.some.inj hf
        exact (K23)
      · replace hf := jifn hc31 hf
        obtain ⟨v25, ev25, hf⟩ := job hf
        obtain ⟨v26, ev26, hf⟩ := job hf
        obtain ⟨M27, eM27, hf⟩ := job hf
        refine Eq.trans ?_ (fr_X6_raise eM27 a i (by omega))
        show Mz a i = M27 a i
        obtain ⟨v28, ev28, hf⟩ := job hf
        obtain ⟨v29, ev29, hf⟩ := job hf
        obtain ⟨M30, eM30, hf⟩ := job hf
        refine Eq.trans ?_ (fr_X6_lower eM30 a i (by omega))
        show Mz a i = M30 a i
        obtain rfl := Option.some.inj hf
        exact (K23)
set_option maxHeartbeats 4000000 in
theorem fr_X6_tellAhead {M : JMem} {o : Nat} {x1 : Int32} {x2 : Int32} {Mz : JMem} (hf : f_X6_tellAhead M o x1 x2 = some Mz) (a i : Nat) (hA : ¬ ((a = o ∧ i = 4) ∨ a = o + 3)) : Mz a i = M a i := by
  unfold f_X6_tellAhead at hf
  obtain ⟨v1, ev1, hf⟩ := job hf
  obtain ⟨M2, eM2, hf⟩ := job hf
  refine Eq.trans ?_ (jwr_fr eM2 (by omega))
  obtain ⟨M3, eM3, hf⟩ := job hf
  refine Eq.trans ?_ (by first | exact jup_fr eM3 (by omega) | exact jfl_fr eM3 (by omega))
  obtain rfl := Option.some.inj hf
  rfl
set_option maxHeartbeats 4000000 in
theorem fr_X6_tellPair {M : JMem} {o : Nat} {x2 : Int32} {x3 : Int32} {Mz : JMem} (hf : f_X6_tellPair M o x2 x3 = some Mz) (a i : Nat) (hA : ¬ ((a = o ∧ i = 4) ∨ (a = o ∧ i = 5) ∨ a = o + 3)) : Mz a i = M a i := by
  unfold f_X6_tellPair at hf
  obtain ⟨v1, ev1, hf⟩ := job hf
  show Mz a i = M a i
  by_cases hc34 : v1 = 0
  · replace hf := jifp hc34 hf
    obtain rfl := Option.some.inj hf
    rfl
  · replace hf := jifn hc34 hf
    obtain ⟨v2, ev2, hf⟩ := job hf
    obtain ⟨v3, ev3, hf⟩ := job hf
    obtain ⟨v4, ev4, hf⟩ := job hf
    obtain ⟨v5, ev5, hf⟩ := job hf
    obtain ⟨u12, hf, hy7⟩ := job hf
    have K9 : (hbu12 : u12 = 0 ∨ u12 = 1) → Mz a i = M a i := by
      intro hbu12
      replace hf := hy7
      obtain ⟨v13, ev13, hf⟩ := job hf
      obtain ⟨v14, ev14, hf⟩ := job hf
      obtain ⟨u21, hf, hy16⟩ := job hf
      have K18 : (hbu21 : u21 = 0 ∨ u21 = 1) → Mz a i = M a i := by
        intro hbu21
        replace hf := hy16
        obtain ⟨y24, hf, hy23⟩ := jcb hf
        have K25 : y24 = Sum.inr () → Mz a i = M a i := by
          intro hyy
          subst hyy
          replace hf := hy23
          by_cases hc33 : u12 = 0
          · replace hf := jifp hc33 hf
            by_cases hc31 : u21 = 0
            · replace hf := jifp hc31 hf
              obtain rfl := Option.some.inj hf
              rfl
            · replace hf := jifn hc31 hf
              obtain ⟨M30, eM30, hf⟩ := job hf
              refine Eq.trans ?_ (fr_X6_tellAhead eM30 a i (by omega))
              show Mz a i = M30 a i
              obtain rfl := Option.some.inj hf
              rfl
          · replace hf := jifn hc33 hf
            obtain ⟨M32, eM32, hf⟩ := job hf
            refine Eq.trans ?_ (fr_X6_tellAhead eM32 a i (by omega))
            show Mz a i = M32 a i
            obtain rfl := Option.some.inj hf
            rfl
        by_cases hc29 : u12 = 0
        · replace hf := jifp hc29 hf
          exact (K25 (Option.some.inj hf).symm)
        · replace hf := jifn hc29 hf
          by_cases hc28 : u21 = 0
          · replace hf := jifp hc28 hf
            exact (K25 (Option.some.inj hf).symm)
          · replace hf := jifn hc28 hf
            obtain ⟨M27, eM27, hf⟩ := job hf
            refine Eq.trans ?_ (by first | exact jup_fr eM27 (by omega) | exact jfl_fr eM27 (by omega))
            obtain rfl := Option.some.inj hf
            replace hf := hy23
            obtain rfl := Option.some.inj hf
            rfl
      by_cases hc20 : (v13 + (v2 + v3)) ≤ v14
      · replace hf := jifp hc20 hf
        obtain rfl := Option.some.inj hf
        exact (K18 (Or.inl rfl))
      · replace hf := jifn hc20 hf
        obtain rfl := Option.some.inj hf
        exact (K18 (Or.inr rfl))
    by_cases hc11 : (v4 + (v2 + v3)) ≤ v5
    · replace hf := jifp hc11 hf
      obtain rfl := Option.some.inj hf
      exact (K9 (Or.inl rfl))
    · replace hf := jifn hc11 hf
      obtain rfl := Option.some.inj hf
      exact (K9 (Or.inr rfl))
set_option maxHeartbeats 4000000 in
theorem fr_X6_tellPairs {N : Nat} {M : JMem} {o : Nat} {Mz : JMem} (hf : f_X6_tellPairs N M o = some Mz) (a i : Nat) (hA : ¬ ((a = o ∧ i = 4) ∨ (a = o ∧ i = 5) ∨ a = o + 3)) : Mz a i = M a i := by
  unfold f_X6_tellPairs at hf
  obtain ⟨t9, y2, hy1⟩ := job hf
  have K3 : Mz a i = t9 a i := by
    replace hf := hy1
    obtain rfl := Option.some.inj hf
    rfl
  refine jLp_ind (P := fun ((z7, M8) : Int32 × JMem) => Mz a i = M8 a i) ?_ N _ y2
  rintro ⟨z7, M8⟩ x_6 hf ih5 hx4
  show Mz a i = M8 a i
  by_cases hc45 : (M8 1 0) ≤ z7
  · replace hf := jifp hc45 hf
    have hf := hx4 _ (Option.some.inj hf).symm
    obtain rfl := hf
    exact K3
  · replace hf := jifn hc45 hf
    obtain ⟨v10, ev10, hf⟩ := job hf
    obtain ⟨u18, hf, hy12⟩ := job hf
    have K14 : Mz a i = M8 a i := by
      replace hf := hy12
      obtain ⟨t27, y20, hy19⟩ := job hf
      have K21 : Mz a i = t27 a i := by
        replace hf := hy19
        have hih : Mz a i = t27 a i := ih5 (z7 + 1, t27) (Option.some.inj hf).symm
        exact hih
      refine jLp_ind (P := fun ((z25, M26) : Int32 × JMem) => Mz a i = M26 a i) ?_ N _ y20
      rintro ⟨z25, M26⟩ x_24 hf ih23 hx22
      show Mz a i = M26 a i
      by_cases hc44 : u18 ≤ z25
      · replace hf := jifp hc44 hf
        have hf := hx22 _ (Option.some.inj hf).symm
        obtain rfl := hf
        exact K21
      · replace hf := jifn hc44 hf
        obtain ⟨t36, y29, hy28⟩ := job hf
        have K30 : Mz a i = t36 a i := by
          replace hf := hy28
          have hih : Mz a i = t36 a i := ih23 (z25 + 1, t36) (Option.some.inj hf).symm
          exact hih
        refine jLp_ind (P := fun ((z34, M35) : Int32 × JMem) => Mz a i = M35 a i) ?_ N _ y29
        rintro ⟨z34, M35⟩ x_33 hf ih32 hx31
        show Mz a i = M35 a i
        by_cases hc43 : u18 ≤ z34
        · replace hf := jifp hc43 hf
          have hf := hx31 _ (Option.some.inj hf).symm
          obtain rfl := hf
          exact K30
        · replace hf := jifn hc43 hf
          by_cases hc42 : (M35 o 5) = 0
          · replace hf := jifp hc42 hf
            obtain ⟨w37, ew37, hf⟩ := job hf
            obtain ⟨-, hew37a, hew37b⟩ := jrw_spec ew37
            obtain ⟨v38, ev38, hf⟩ := job hf
            obtain ⟨w39, ew39, hf⟩ := job hf
            obtain ⟨-, hew39a, hew39b⟩ := jrw_spec ew39
            obtain ⟨v40, ev40, hf⟩ := job hf
            obtain ⟨M41, eM41, hf⟩ := job hf
            refine Eq.trans ?_ (fr_X6_tellPair eM41 a i (by omega))
            show Mz a i = M41 a i
            have hih : Mz a i = M41 a i := ih32 (z34 + 1, M41) (Option.some.inj hf).symm
            exact hih
          · replace hf := jifn hc42 hf
            have hf := hx31 _ (Option.some.inj hf).symm
            obtain rfl := hf
            exact K30
    by_cases hc17 : v10 = 0
    · replace hf := jifp hc17 hf
      obtain ⟨v16, ev16, hf⟩ := job hf
      obtain rfl := Option.some.inj hf
      exact (K14)
    · replace hf := jifn hc17 hf
      obtain rfl := Option.some.inj hf
      exact (K14)
set_option maxHeartbeats 4000000 in
theorem fr_X6_keepOff {M : JMem} {o : Nat} {x1 : Int32} {x2 : Int32} {x3 : Int32} {x4 : Int32} {x5 : Int32} {Mz : JMem} (hf : f_X6_keepOff M o x1 x2 x3 x4 x5 = some Mz) (a i : Nat) (hA : ¬ ((a = o ∧ i = 4) ∨ a = o + 1 ∨ a = o + 2)) : Mz a i = M a i := by
  unfold f_X6_keepOff at hf
  obtain ⟨v1, ev1, hf⟩ := job hf
  obtain ⟨M9, hf, hy3⟩ := job hf
  have K5 : Mz a i = M9 a i := by
    replace hf := hy3
    obtain ⟨v10, ev10, hf⟩ := job hf
    by_cases hc12 : ((x3 + x5) + x2) ≤ (jmax x4 v10)
    · replace hf := jifp hc12 hf
      obtain rfl := Option.some.inj hf
      rfl
    · replace hf := jifn hc12 hf
      obtain ⟨M11, eM11, hf⟩ := job hf
      refine Eq.trans ?_ (fr_X6_lower eM11 a i (by omega))
      show Mz a i = M11 a i
      obtain rfl := Option.some.inj hf
      rfl
  by_cases hc8 : (((jmin v1 x3) + x5) + x2) ≤ x4
  · replace hf := jifp hc8 hf
    obtain rfl := Option.some.inj hf
    exact (K5)
  · replace hf := jifn hc8 hf
    obtain ⟨M7, eM7, hf⟩ := job hf
    refine Eq.trans ?_ (fr_X6_raise eM7 a i (by omega))
    show Mz a i = M7 a i
    obtain rfl := Option.some.inj hf
    exact (K5)
set_option maxHeartbeats 4000000 in
theorem fr_X6_closeSet {N : Nat} {M : JMem} {o : Nat} {x2 : Int32} {x3 : Int32} {x4 : Int32} {Mz : JMem} (hf : f_X6_closeSet N M o x2 x3 x4 = some Mz) (a i : Nat) (hA : ¬ ((a = o ∧ i = 4) ∨ (a = o ∧ i = 5) ∨ a = o + 1 ∨ a = o + 2)) : Mz a i = M a i := by
  unfold f_X6_closeSet at hf
  obtain ⟨⟨t10, t11⟩, y2, hy1⟩ := job hf
  have K3 : Mz a i = M a i := by
    replace hf := hy1
    by_cases hc52 : t10 = 0
    · replace hf := jifp hc52 hf
      obtain rfl := Option.some.inj hf
      rfl
    · replace hf := jifn hc52 hf
      by_cases hc51 : t11 ≤ (x4 - x3)
      · replace hf := jifp hc51 hf
        obtain ⟨t36, y29, hy28⟩ := job hf
        have K30 : Mz a i = t36 a i := by
          replace hf := hy28
          obtain rfl := Option.some.inj hf
          rfl
        refine jLp_ind (P := fun ((z34, M35) : Int32 × JMem) => Mz a i = M35 a i) ?_ N _ y29
        rintro ⟨z34, M35⟩ x_33 hf ih32 hx31
        show Mz a i = M35 a i
        obtain ⟨v37, ev37, hf⟩ := job hf
        by_cases hc49 : v37 ≤ z34
        · replace hf := jifp hc49 hf
          have hf := hx31 _ (Option.some.inj hf).symm
          obtain rfl := hf
          exact K30
        · replace hf := jifn hc49 hf
          obtain ⟨w38, ew38, hf⟩ := job hf
          obtain ⟨-, hew38a, hew38b⟩ := jrw_spec ew38
          obtain ⟨v39, ev39, hf⟩ := job hf
          obtain ⟨M48, hf, hy41⟩ := job hf
          have K43 : Mz a i = M48 a i := by
            replace hf := hy41
            have hih : Mz a i = M48 a i := ih32 (z34 + 1, M48) (Option.some.inj hf).symm
            exact hih
          by_cases hc47 : ((jushr t10 v39) &&& 1) = 0
          · replace hf := jifp hc47 hf
            obtain ⟨v45, ev45, hf⟩ := job hf
            obtain ⟨M46, eM46, hf⟩ := job hf
            refine Eq.trans ?_ (fr_X6_keepOff eM46 a i (by omega))
            show Mz a i = M46 a i
            obtain rfl := Option.some.inj hf
            exact (K43)
          · replace hf := jifn hc47 hf
            obtain rfl := Option.some.inj hf
            exact (K43)
      · replace hf := jifn hc51 hf
        obtain ⟨M50, eM50, hf⟩ := job hf
        refine Eq.trans ?_ (by first | exact jup_fr eM50 (by omega) | exact jfl_fr eM50 (by omega))
        obtain rfl := Option.some.inj hf
        rfl
  refine jLp_ind (P := fun ((z7, z8, z9) : Int32 × Int32 × Int32) => Mz a i = M a i) ?_ N _ y2
  rintro ⟨z7, z8, z9⟩ x_6 hf ih5 hx4
  show Mz a i = M a i
  obtain ⟨v12, ev12, hf⟩ := job hf
  by_cases hc27 : v12 ≤ z9
  · replace hf := jifp hc27 hf
    have hf := hx4 _ (Option.some.inj hf).symm
    obtain ⟨rfl, rfl⟩ := jp2 hf
    exact K3
  · replace hf := jifn hc27 hf
    obtain ⟨w13, ew13, hf⟩ := job hf
    obtain ⟨-, hew13a, hew13b⟩ := jrw_spec ew13
    obtain ⟨v14, ev14, hf⟩ := job hf
    obtain ⟨v15, ev15, hf⟩ := job hf
    obtain ⟨⟨u25, u26⟩, hf, hy17⟩ := job hf
    have K19 : Mz a i = M a i := by
      replace hf := hy17
      have hih : Mz a i = M a i := ih5 (u25, u26, z9 + 1) (Option.some.inj hf).symm
      exact hih
    by_cases hc24 : v15 < x3
    · replace hf := jifp hc24 hf
      obtain ⟨rfl, rfl⟩ := jp2 (Option.some.inj hf)
      exact (K19)
    · replace hf := jifn hc24 hf
      obtain ⟨v21, ev21, hf⟩ := job hf
      by_cases hc23 : x4 < v21
      · replace hf := jifp hc23 hf
        obtain ⟨rfl, rfl⟩ := jp2 (Option.some.inj hf)
        exact (K19)
      · replace hf := jifn hc23 hf
        obtain ⟨v22, ev22, hf⟩ := job hf
        obtain ⟨rfl, rfl⟩ := jp2 (Option.some.inj hf)
        exact (K19)
set_option maxHeartbeats 4000000 in
theorem fr_X6_closeSets {N : Nat} {M : JMem} {o : Nat} {Mz : JMem} (hf : f_X6_closeSets N M o = some Mz) (a i : Nat) (hA : ¬ ((a = o ∧ i = 4) ∨ (a = o ∧ i = 5) ∨ a = o + 1 ∨ a = o + 2)) : Mz a i = M a i := by
  unfold f_X6_closeSets at hf
  obtain ⟨t9, y2, hy1⟩ := job hf
  have K3 : Mz a i = t9 a i := by
    replace hf := hy1
    obtain rfl := Option.some.inj hf
    rfl
  refine jLp_ind (P := fun ((z7, M8) : Int32 × JMem) => Mz a i = M8 a i) ?_ N _ y2
  rintro ⟨z7, M8⟩ x_6 hf ih5 hx4
  show Mz a i = M8 a i
  by_cases hc47 : (M8 1 0) ≤ z7
  · replace hf := jifp hc47 hf
    have hf := hx4 _ (Option.some.inj hf).symm
    obtain rfl := hf
    exact K3
  · replace hf := jifn hc47 hf
    obtain ⟨v10, ev10, hf⟩ := job hf
    obtain ⟨u18, hf, hy12⟩ := job hf
    have K14 : Mz a i = M8 a i := by
      replace hf := hy12
      obtain ⟨t27, y20, hy19⟩ := job hf
      have K21 : Mz a i = t27 a i := by
        replace hf := hy19
        have hih : Mz a i = t27 a i := ih5 (z7 + 1, t27) (Option.some.inj hf).symm
        exact hih
      refine jLp_ind (P := fun ((z25, M26) : Int32 × JMem) => Mz a i = M26 a i) ?_ N _ y20
      rintro ⟨z25, M26⟩ x_24 hf ih23 hx22
      show Mz a i = M26 a i
      by_cases hc46 : u18 ≤ z25
      · replace hf := jifp hc46 hf
        have hf := hx22 _ (Option.some.inj hf).symm
        obtain rfl := hf
        exact K21
      · replace hf := jifn hc46 hf
        obtain ⟨t36, y29, hy28⟩ := job hf
        have K30 : Mz a i = t36 a i := by
          replace hf := hy28
          have hih : Mz a i = t36 a i := ih23 (z25 + 1, t36) (Option.some.inj hf).symm
          exact hih
        refine jLp_ind (P := fun ((z34, M35) : Int32 × JMem) => Mz a i = M35 a i) ?_ N _ y29
        rintro ⟨z34, M35⟩ x_33 hf ih32 hx31
        show Mz a i = M35 a i
        by_cases hc45 : u18 ≤ z34
        · replace hf := jifp hc45 hf
          have hf := hx31 _ (Option.some.inj hf).symm
          obtain rfl := hf
          exact K30
        · replace hf := jifn hc45 hf
          by_cases hc44 : (M35 o 5) = 0
          · replace hf := jifp hc44 hf
            obtain ⟨w37, ew37, hf⟩ := job hf
            obtain ⟨-, hew37a, hew37b⟩ := jrw_spec ew37
            obtain ⟨v38, ev38, hf⟩ := job hf
            obtain ⟨v39, ev39, hf⟩ := job hf
            obtain ⟨w40, ew40, hf⟩ := job hf
            obtain ⟨-, hew40a, hew40b⟩ := jrw_spec ew40
            obtain ⟨v41, ev41, hf⟩ := job hf
            obtain ⟨v42, ev42, hf⟩ := job hf
            obtain ⟨M43, eM43, hf⟩ := job hf
            refine Eq.trans ?_ (fr_X6_closeSet eM43 a i (by omega))
            show Mz a i = M43 a i
            have hih : Mz a i = M43 a i := ih32 (z34 + 1, M43) (Option.some.inj hf).symm
            exact hih
          · replace hf := jifn hc44 hf
            have hf := hx31 _ (Option.some.inj hf).symm
            obtain rfl := hf
            exact K30
    by_cases hc17 : v10 = 0
    · replace hf := jifp hc17 hf
      obtain ⟨v16, ev16, hf⟩ := job hf
      obtain rfl := Option.some.inj hf
      exact (K14)
    · replace hf := jifn hc17 hf
      obtain rfl := Option.some.inj hf
      exact (K14)
set_option maxHeartbeats 4000000 in
theorem fr_X6_narrow {N : Nat} {M : JMem} {o : Nat} {x2 : Int32} {Mz : JMem} {r : Int32} (hf : f_X6_narrow N M o x2 = some (Mz, r)) (a i : Nat) (hA : ¬ ((a = o ∧ i = 3) ∨ (a = o ∧ i = 4) ∨ (a = o ∧ i = 5) ∨ a = o + 1 ∨ a = o + 2 ∨ a = o + 3)) : Mz a i = M a i := by
  unfold f_X6_narrow at hf
  obtain ⟨M1, eM1, hf⟩ := job hf
  refine Eq.trans ?_ (by first | exact jup_fr eM1 (by omega) | exact jfl_fr eM1 (by omega))
  obtain ⟨M2, eM2, hf⟩ := job hf
  refine Eq.trans ?_ (by first | exact jup_fr eM2 (by omega) | exact jfl_fr eM2 (by omega))
  show Mz a i = M2 a i
  obtain ⟨M3, eM3, hf⟩ := job hf
  refine Eq.trans ?_ (by first | exact jup_fr eM3 (by omega) | exact jfl_fr eM3 (by omega))
  show Mz a i = M3 a i
  obtain ⟨M4, eM4, hf⟩ := job hf
  refine Eq.trans ?_ (by first | exact jup_fr eM4 (by omega) | exact jfl_fr eM4 (by omega))
  obtain ⟨M5, eM5, hf⟩ := job hf
  refine Eq.trans ?_ (by first | exact jup_fr eM5 (by omega) | exact jfl_fr eM5 (by omega))
  obtain ⟨t14, y7, hy6⟩ := job hf
  have K8 : Mz a i = t14 a i := by
    replace hf := hy6
    by_cases hc47 : (t14 o 5) = 0
    · replace hf := jifp hc47 hf
      obtain ⟨rfl, rfl⟩ := Prod.mk.inj (Option.some.inj hf)
      rfl
    · replace hf := jifn hc47 hf
      obtain ⟨rfl, rfl⟩ := Prod.mk.inj (Option.some.inj hf)
      rfl
  refine jLp_ind (P := fun ((z12, M13) : Int32 × JMem) => Mz a i = M13 a i) ?_ N _ y7
  rintro ⟨z12, M13⟩ x_11 hf ih10 hx9
  show Mz a i = M13 a i
  by_cases hc46 : 20 ≤ z12
  · replace hf := jifp hc46 hf
    have hf := hx9 _ (Option.some.inj hf).symm
    obtain rfl := hf
    exact K8
  · replace hf := jifn hc46 hf
    by_cases hc45 : (M13 o 4) = 0
    · replace hf := jifp hc45 hf
      have hf := hx9 _ (Option.some.inj hf).symm
      obtain rfl := hf
      exact K8
    · replace hf := jifn hc45 hf
      by_cases hc44 : (M13 o 5) = 0
      · replace hf := jifp hc44 hf
        obtain ⟨M15, eM15, hf⟩ := job hf
        refine Eq.trans ?_ (by first | exact jup_fr eM15 (by omega) | exact jfl_fr eM15 (by omega))
        obtain ⟨M16, eM16, hf⟩ := job hf
        refine Eq.trans ?_ (fr_X6_alongPieces eM16 a i (by omega))
        show Mz a i = M16 a i
        obtain ⟨M17, eM17, hf⟩ := job hf
        refine Eq.trans ?_ (fr_X6_lookForBurst eM17 a i (by omega))
        show Mz a i = M17 a i
        obtain ⟨M26, hf, hy19⟩ := job hf
        have K21 : Mz a i = M26 a i := by
          replace hf := hy19
          obtain ⟨M34, hf, hy28⟩ := job hf
          have K30 : Mz a i = M34 a i := by
            replace hf := hy28
            obtain ⟨M43, hf, hy36⟩ := job hf
            have K38 : Mz a i = M43 a i := by
              replace hf := hy36
              have hih : Mz a i = M43 a i := ih10 (z12 + 1, M43) (Option.some.inj hf).symm
              exact hih
            by_cases hc42 : (M34 o 5) = 0
            · replace hf := jifp hc42 hf
              obtain ⟨M40, eM40, hf⟩ := job hf
              refine Eq.trans ?_ (fr_X6_closeSets eM40 a i (by omega))
              show Mz a i = M40 a i
              obtain ⟨M41, eM41, hf⟩ := job hf
              refine Eq.trans ?_ (fr_X6_lookForBurst eM41 a i (by omega))
              show Mz a i = M41 a i
              obtain rfl := Option.some.inj hf
              exact (K38)
            · replace hf := jifn hc42 hf
              obtain rfl := Option.some.inj hf
              exact (K38)
          by_cases hc33 : (M26 o 5) = 0
          · replace hf := jifp hc33 hf
            obtain ⟨M32, eM32, hf⟩ := job hf
            refine Eq.trans ?_ (fr_X6_tellPairs eM32 a i (by omega))
            show Mz a i = M32 a i
            obtain rfl := Option.some.inj hf
            exact (K30)
          · replace hf := jifn hc33 hf
            obtain rfl := Option.some.inj hf
            exact (K30)
        by_cases hc25 : (M17 o 5) = 0
        · replace hf := jifp hc25 hf
          obtain ⟨M23, eM23, hf⟩ := job hf
          refine Eq.trans ?_ (fr_X6_alongPairs eM23 a i (by omega))
          show Mz a i = M23 a i
          obtain ⟨M24, eM24, hf⟩ := job hf
          refine Eq.trans ?_ (fr_X6_lookForBurst eM24 a i (by omega))
          show Mz a i = M24 a i
          obtain rfl := Option.some.inj hf
          exact (K21)
        · replace hf := jifn hc25 hf
          obtain rfl := Option.some.inj hf
          exact (K21)
      · replace hf := jifn hc44 hf
        have hf := hx9 _ (Option.some.inj hf).symm
        obtain rfl := hf
        exact K8
set_option maxHeartbeats 4000000 in
theorem fr_X0_takeJobs {N : Nat} {M : JMem} {x2 : Int32} {Mz : JMem} (hf : f_X0_takeJobs N M x2 = some Mz) (a i : Nat) (hA : ¬ ((a = 78 ∧ i = 4) ∨ a = 79 ∨ a = 80 ∨ a = 81)) : Mz a i = M a i := by
  unfold f_X0_takeJobs at hf
  obtain ⟨v1, ev1, hf⟩ := job hf
  obtain ⟨M2, eM2, hf⟩ := job hf
  refine Eq.trans ?_ (by first | exact jup_fr eM2 (by omega) | exact jfl_fr eM2 (by omega))
  obtain ⟨t11, y4, hy3⟩ := job hf
  have K5 : Mz a i = t11 a i := by
    replace hf := hy3
    obtain rfl := Option.some.inj hf
    rfl
  refine jLp_ind (P := fun ((z9, M10) : Int32 × JMem) => Mz a i = M10 a i) ?_ N _ y4
  rintro ⟨z9, M10⟩ x_8 hf ih7 hx6
  show Mz a i = M10 a i
  by_cases hc20 : (M10 78 4) ≤ z9
  · replace hf := jifp hc20 hf
    have hf := hx6 _ (Option.some.inj hf).symm
    obtain rfl := hf
    exact K5
  · replace hf := jifn hc20 hf
    obtain ⟨w12, ew12, hf⟩ := job hf
    obtain ⟨-, hew12a, hew12b⟩ := jrw_spec ew12
    obtain ⟨v13, ev13, hf⟩ := job hf
    obtain ⟨v14, ev14, hf⟩ := job hf
    show Mz a i = M10 a i
    obtain ⟨M15, eM15, hf⟩ := job hf
    refine Eq.trans ?_ (jwr_fr eM15 (by omega))
    obtain ⟨v16, ev16, hf⟩ := job hf
    show Mz a i = M15 a i
    obtain ⟨M17, eM17, hf⟩ := job hf
    refine Eq.trans ?_ (jwr_fr eM17 (by omega))
    obtain ⟨v18, ev18, hf⟩ := job hf
    obtain ⟨M19, eM19, hf⟩ := job hf
    refine Eq.trans ?_ (jwr_fr eM19 (by omega))
    have hih : Mz a i = M19 a i := ih7 (z9 + 1, M19) (Option.some.inj hf).symm
    exact hih
set_option maxHeartbeats 4000000 in
theorem fr_X0_cutBound {N : Nat} {M : JMem} {Mz : JMem} {r : Int32} (hf : f_X0_cutBound N M = some (Mz, r)) (a i : Nat) (hA : ¬ (a = 82)) : Mz a i = M a i := by
  unfold f_X0_cutBound at hf
  obtain ⟨M1, eM1, hf⟩ := job hf
  refine Eq.trans ?_ (jcpy_fr eM1 (by omega))
  obtain ⟨y3, hr52, hy2⟩ := jcb hf
  have K4 : ∀ (t12 : Int32), ∀ (t13 : JMem), y3 = Sum.inr (t12, t13) → Mz a i = t13 a i := by
    intro t12 t13 hyy
    subst hyy
    replace hf := hy2
    obtain ⟨rfl, rfl⟩ := Prod.mk.inj (Option.some.inj hf)
    rfl
  refine jLp_ind (P := fun ((z8, z9, z10, M11) : Int32 × Int32 × Int32 × JMem) => Mz a i = M11 a i) ?_ N _ hr52
  rintro ⟨z8, z9, z10, M11⟩ x_7 hf ih6 hx5
  show Mz a i = M11 a i
  by_cases hc51 : (2 * (M11 78 4)) ≤ z10
  · replace hf := jifp hc51 hf
    have hf := hx5 _ (Option.some.inj hf).symm
    exact (K4 _ _ hf.symm)
  · replace hf := jifn hc51 hf
    obtain ⟨v14, ev14, hf⟩ := job hf
    show Mz a i = M11 a i
    obtain ⟨v15, ev15, hf⟩ := job hf
    show Mz a i = M11 a i
    obtain ⟨u23, hf, hy17⟩ := job hf
    have K19 : Mz a i = M11 a i := by
      replace hf := hy17
      obtain ⟨u30, hf, hy25⟩ := job hf
      have K27 : Mz a i = M11 a i := by
        replace hf := hy25
        by_cases hc50 : u30 = ((-1))
        · replace hf := jifp hc50 hf
          have hf := hx5 _ (Option.some.inj hf).symm
          subst hf
          replace hf := hy2
          obtain ⟨rfl, rfl⟩ := Prod.mk.inj (Option.some.inj hf)
          rfl
        · replace hf := jifn hc50 hf
          obtain ⟨⟨u48, M49⟩, hf, hy32⟩ := job hf
          have K34 : Mz a i = M49 a i := by
            replace hf := hy32
            have hih : Mz a i = M49 a i := ih6 (u30, u48, z10 + 1, M49) (Option.some.inj hf).symm
            exact hih
          by_cases hc47 : v14 = ((-1))
          · replace hf := jifp hc47 hf
            obtain ⟨rfl, rfl⟩ := jp2 (Option.some.inj hf)
            exact (K34)
          · replace hf := jifn hc47 hf
            obtain ⟨v36, ev36, hf⟩ := job hf
            obtain ⟨M37, eM37, hf⟩ := job hf
            refine Eq.trans ?_ (jwr_fr eM37 (by omega))
            obtain ⟨v38, ev38, hf⟩ := job hf
            obtain ⟨u46, hf, hy40⟩ := job hf
            have K42 : Mz a i = M37 a i := by
              replace hf := hy40
              obtain ⟨rfl, rfl⟩ := jp2 (Option.some.inj hf)
              exact (K34)
            by_cases hc45 : v38 = 0
            · replace hf := jifp hc45 hf
              obtain ⟨v44, ev44, hf⟩ := job hf
              obtain rfl := Option.some.inj hf
              exact (K42)
            · replace hf := jifn hc45 hf
              obtain rfl := Option.some.inj hf
              exact (K42)
      by_cases hc29 : v15 = ((-1))
      · replace hf := jifp hc29 hf
        obtain rfl := Option.some.inj hf
        exact (K27)
      · replace hf := jifn hc29 hf
        obtain rfl := Option.some.inj hf
        exact (K27)
    by_cases hc22 : v14 = ((-1))
    · replace hf := jifp hc22 hf
      obtain rfl := Option.some.inj hf
      exact (K19)
    · replace hf := jifn hc22 hf
      obtain ⟨v21, ev21, hf⟩ := job hf
      obtain rfl := Option.some.inj hf
      exact (K19)
set_option maxHeartbeats 4000000 in
theorem fr_X4_addCase {M : JMem} {x1 : Int32} {x2 : Int32} {Mz : JMem} (hf : f_X4_addCase M x1 x2 = some Mz) (a i : Nat) (hA : ¬ ((a = 83 ∧ i = 3) ∨ (85 ≤ a ∧ a ≤ 185))) : Mz a i = M a i := by
  unfold f_X4_addCase at hf
  by_cases hc7 : 101 ≤ (M 83 3)
  · replace hf := jifp hc7 hf
    obtain rfl := Option.some.inj hf
    rfl
  · replace hf := jifn hc7 hf
    obtain ⟨w1, ew1, hf⟩ := job hf
    obtain ⟨-, hew1a, hew1b⟩ := jrw_spec ew1
    obtain ⟨M2, eM2, hf⟩ := job hf
    refine Eq.trans ?_ (jcpy_fr eM2 (by omega))
    obtain ⟨w3, ew3, hf⟩ := job hf
    obtain ⟨-, hew3a, hew3b⟩ := jrw_spec ew3
    obtain ⟨v4, ev4, hf⟩ := job hf
    obtain ⟨M5, eM5, hf⟩ := job hf
    refine Eq.trans ?_ (jwr_fr eM5 (by omega))
    obtain ⟨M6, eM6, hf⟩ := job hf
    refine Eq.trans ?_ (by first | exact jup_fr eM6 (by omega) | exact jfl_fr eM6 (by omega))
    obtain rfl := Option.some.inj hf
    rfl
set_option maxHeartbeats 4000000 in
theorem fr_X4_splitCase {N : Nat} {M : JMem} {Mz : JMem} {r : Int32} (hf : f_X4_splitCase N M = some (Mz, r)) (a i : Nat) (hA : ¬ ((a = 83 ∧ i = 3) ∨ (85 ≤ a ∧ a ≤ 185))) : Mz a i = M a i := by
  unfold f_X4_splitCase at hf
  obtain ⟨y2, hr44, hy1⟩ := jcb hf
  have K3 : y2 = Sum.inr () → Mz a i = M a i := by
    intro hyy
    subst hyy
    replace hf := hy1
    obtain ⟨rfl, rfl⟩ := Prod.mk.inj (Option.some.inj hf)
    rfl
  refine jLp_ind (P := fun (z7 : Int32) => Mz a i = M a i) ?_ N _ hr44
  rintro z7 x_6 hf ih5 hx4
  show Mz a i = M a i
  by_cases hc43 : (M 1 2) ≤ z7
  · replace hf := jifp hc43 hf
    have hf := hx4 _ (Option.some.inj hf).symm
    exact (K3 hf.symm)
  · replace hf := jifn hc43 hf
    obtain ⟨y9, hr42, hy8⟩ := jcb hf
    have K10 : y9 = Sum.inr () → Mz a i = M a i := by
      intro hyy
      subst hyy
      replace hf := hy8
      have hih : Mz a i = M a i := ih5 (z7 + 1) (Option.some.inj hf).symm
      exact hih
    refine jLp_ind (P := fun (z14 : Int32) => Mz a i = M a i) ?_ N _ hr42
    rintro z14 x_13 hf ih12 hx11
    show Mz a i = M a i
    by_cases hc41 : (M 1 2) ≤ z14
    · replace hf := jifp hc41 hf
      have hf := hx11 _ (Option.some.inj hf).symm
      exact (K10 hf.symm)
    · replace hf := jifn hc41 hf
      obtain ⟨v15, ev15, hf⟩ := job hf
      obtain ⟨v16, ev16, hf⟩ := job hf
      obtain ⟨u30, hf, hy18⟩ := job hf
      have K20 : (hbu30 : u30 = 0 ∨ u30 = 1) → Mz a i = M a i := by
        intro hbu30
        replace hf := hy18
        obtain ⟨y33, hf, hy32⟩ := jcb hf
        have K34 : y33 = Sum.inr () → Mz a i = M a i := by
          intro hyy
          subst hyy
          replace hf := hy32
          have hih : Mz a i = M a i := ih12 (z14 + 1) (Option.some.inj hf).symm
          exact hih
        by_cases hc40 : u30 = 0
        · replace hf := jifp hc40 hf
          exact (K34 (Option.some.inj hf).symm)
        · replace hf := jifn hc40 hf
          obtain ⟨v36, ev36, hf⟩ := job hf
          show Mz a i = M a i
          by_cases hc39 : v36 = 0
          · replace hf := jifp hc39 hf
            exact (K34 (Option.some.inj hf).symm)
          · replace hf := jifn hc39 hf
            obtain ⟨M37, eM37, hf⟩ := job hf
            refine Eq.trans ?_ (fr_X4_addCase eM37 a i (by omega))
            show Mz a i = M37 a i
            obtain ⟨M38, eM38, hf⟩ := job hf
            refine Eq.trans ?_ (fr_X4_addCase eM38 a i (by omega))
            show Mz a i = M38 a i
            obtain rfl := Option.some.inj hf
            replace hf := hy32
            have hf := hx11 _ (Option.some.inj hf).symm
            subst hf
            replace hf := hy8
            have hf := hx4 _ (Option.some.inj hf).symm
            subst hf
            replace hf := hy1
            obtain ⟨rfl, rfl⟩ := Prod.mk.inj (Option.some.inj hf)
            rfl
      obtain ⟨y24, hf, hy23⟩ := jcb hf
      have K25 : y24 = Sum.inr () → Mz a i = M a i := by
        intro hyy
        subst hyy
        replace hf := hy23
        obtain rfl := Option.some.inj hf
        exact (K20 (Or.inl rfl))
      by_cases hc29 : v16 = v15
      · replace hf := jifp hc29 hf
        obtain ⟨v27, ev27, hf⟩ := job hf
        by_cases hc28 : v27 = 0
        · replace hf := jifp hc28 hf
          obtain rfl := Option.some.inj hf
          replace hf := hy23
          obtain rfl := Option.some.inj hf
          exact (K20 (Or.inr rfl))
        · replace hf := jifn hc28 hf
          exact (K25 (Option.some.inj hf).symm)
      · replace hf := jifn hc29 hf
        exact (K25 (Option.some.inj hf).symm)
set_option maxHeartbeats 4000000 in
theorem fr_X4_orderMachine {N : Nat} {M : JMem} {x2 : Int32} {Mz : JMem} (hf : f_X4_orderMachine N M x2 = some Mz) (a i : Nat) (hA : ¬ ((192 ≤ a ∧ a ≤ 199))) : Mz a i = M a i := by
  unfold f_X4_orderMachine at hf
  obtain ⟨w1, ew1, hf⟩ := job hf
  obtain ⟨-, hew1a, hew1b⟩ := jrw_spec ew1
  obtain ⟨t10, y3, hy2⟩ := job hf
  have K4 : Mz a i = t10 a i := by
    replace hf := hy2
    obtain rfl := Option.some.inj hf
    rfl
  refine jLp_ind (P := fun ((z8, M9) : Int32 × JMem) => Mz a i = M9 a i) ?_ N _ y3
  rintro ⟨z8, M9⟩ x_7 hf ih6 hx5
  show Mz a i = M9 a i
  obtain ⟨v11, ev11, hf⟩ := job hf
  by_cases hc33 : v11 ≤ z8
  · replace hf := jifp hc33 hf
    have hf := hx5 _ (Option.some.inj hf).symm
    obtain rfl := hf
    exact K4
  · replace hf := jifn hc33 hf
    obtain ⟨w12, ew12, hf⟩ := job hf
    obtain ⟨-, hew12a, hew12b⟩ := jrw_spec ew12
    obtain ⟨v13, ev13, hf⟩ := job hf
    obtain ⟨⟨t23, t24⟩, y15, hy14⟩ := job hf
    have K16 : Mz a i = t24 a i := by
      replace hf := hy14
      obtain ⟨M32, eM32, hf⟩ := job hf
      refine Eq.trans ?_ (jwr_fr eM32 (by omega))
      have hih : Mz a i = M32 a i := ih6 (z8 + 1, M32) (Option.some.inj hf).symm
      exact hih
    refine jLp_ind (P := fun ((z20, z21, M22) : Int32 × Int32 × JMem) => Mz a i = M22 a i) ?_ N _ y15
    rintro ⟨z20, z21, M22⟩ x_19 hf ih18 hx17
    show Mz a i = M22 a i
    by_cases hc31 : z21 ≤ 0
    · replace hf := jifp hc31 hf
      have hf := hx17 _ (Option.some.inj hf).symm
      obtain ⟨rfl, rfl⟩ := jp2 hf
      exact K16
    · replace hf := jifn hc31 hf
      obtain ⟨v25, ev25, hf⟩ := job hf
      obtain ⟨v26, ev26, hf⟩ := job hf
      show Mz a i = M22 a i
      obtain ⟨v27, ev27, hf⟩ := job hf
      show Mz a i = M22 a i
      by_cases hc30 : v26 ≤ v27
      · replace hf := jifp hc30 hf
        have hf := hx17 _ (Option.some.inj hf).symm
        obtain ⟨rfl, rfl⟩ := jp2 hf
        exact K16
      · replace hf := jifn hc30 hf
        obtain ⟨v28, ev28, hf⟩ := job hf
        obtain ⟨M29, eM29, hf⟩ := job hf
        refine Eq.trans ?_ (jwr_fr eM29 (by omega))
        have hih : Mz a i = M29 a i := ih18 (z21 - 1, z21 + (-1), M29) (Option.some.inj hf).symm
        exact hih
set_option maxHeartbeats 4000000 in
theorem fr_X4_tryOrders {N : Nat} {M : JMem} {r2 : Nat} {Mz : JMem} (hf : f_X4_tryOrders N M r2 = some Mz) (a i : Nat) (hA : ¬ ((192 ≤ a ∧ a ≤ 199) ∨ a = 200 ∨ (a = 201 ∧ i = 4) ∨ (a = 201 ∧ i = 6) ∨ a = 202 ∨ a = 206 ∨ a = 207 ∨ a = 208 ∨ a = 209 ∨ a = 210 ∨ (a = 83 ∧ i = 0) ∨ (a = 83 ∧ i = 2) ∨ a = r2 + 10 ∨ (r2 + 2 ≤ a ∧ a ≤ r2 + 9))) : Mz a i = M a i := by
  unfold f_X4_tryOrders at hf
  obtain ⟨M1, eM1, hf⟩ := job hf
  refine Eq.trans ?_ (fr_X3_takeFrom eM1 a i (by omega))
  show Mz a i = M1 a i
  obtain ⟨t10, y3, hy2⟩ := job hf
  have K4 : Mz a i = t10 a i := by
    replace hf := hy2
    obtain ⟨⟨M21, v22⟩, ev22, hf⟩ := job hf
    refine Eq.trans ?_ (fr_X1_work ev22 a i (by omega))
    show Mz a i = M21 a i
    by_cases hc27 : v22 = 0
    · replace hf := jifp hc27 hf
      obtain rfl := Option.some.inj hf
      rfl
    · replace hf := jifn hc27 hf
      by_cases hc26 : (M21 83 0) ≤ (M21 201 4)
      · replace hf := jifp hc26 hf
        obtain rfl := Option.some.inj hf
        rfl
      · replace hf := jifn hc26 hf
        obtain ⟨M23, eM23, hf⟩ := job hf
        refine Eq.trans ?_ (by first | exact jup_fr eM23 (by omega) | exact jfl_fr eM23 (by omega))
        obtain ⟨M24, eM24, hf⟩ := job hf
        refine Eq.trans ?_ (by first | exact jup_fr eM24 (by omega) | exact jfl_fr eM24 (by omega))
        obtain ⟨M25, eM25, hf⟩ := job hf
        refine Eq.trans ?_ (fr_X3_takeFrom eM25 a i (by omega))
        show Mz a i = M25 a i
        obtain rfl := Option.some.inj hf
        rfl
  refine jLp_ind (P := fun ((z8, M9) : Int32 × JMem) => Mz a i = M9 a i) ?_ N _ y3
  rintro ⟨z8, M9⟩ x_7 hf ih6 hx5
  show Mz a i = M9 a i
  by_cases hc20 : (M9 1 0) ≤ z8
  · replace hf := jifp hc20 hf
    have hf := hx5 _ (Option.some.inj hf).symm
    obtain rfl := hf
    exact K4
  · replace hf := jifn hc20 hf
    obtain ⟨v11, ev11, hf⟩ := job hf
    obtain ⟨M19, hf, hy13⟩ := job hf
    have K15 : Mz a i = M19 a i := by
      replace hf := hy13
      have hih : Mz a i = M19 a i := ih6 (z8 + 1, M19) (Option.some.inj hf).symm
      exact hih
    by_cases hc18 : v11 = 0
    · replace hf := jifp hc18 hf
      obtain ⟨M17, eM17, hf⟩ := job hf
      refine Eq.trans ?_ (fr_X4_orderMachine eM17 a i (by omega))
      show Mz a i = M17 a i
      obtain rfl := Option.some.inj hf
      exact (K15)
    · replace hf := jifn hc18 hf
      obtain rfl := Option.some.inj hf
      exact (K15)
set_option maxHeartbeats 4000000 in
theorem fr_X4_seek {N : Nat} {M : JMem} {r2 : Nat} {x3 : Int32} {Mz : JMem} {r : Int32} (hf : f_X4_seek N M r2 x3 = some (Mz, r)) (a i : Nat) (hA : ¬ ((a = 186 ∧ i = 3) ∨ (a = 186 ∧ i = 4) ∨ (a = 186 ∧ i = 5) ∨ a = 187 ∨ a = 188 ∨ a = 189 ∨ (192 ≤ a ∧ a ≤ 199) ∨ a = 200 ∨ (a = 201 ∧ i = 4) ∨ (a = 201 ∧ i = 6) ∨ a = 202 ∨ a = 206 ∨ a = 207 ∨ a = 208 ∨ a = 209 ∨ a = 210 ∨ (a = 83 ∧ i = 0) ∨ (a = 83 ∧ i = 1) ∨ (a = 83 ∧ i = 2) ∨ (a = 83 ∧ i = 3) ∨ (85 ≤ a ∧ a ≤ 185) ∨ a = r2 + 10 ∨ (r2 + 2 ≤ a ∧ a ≤ r2 + 9))) : Mz a i = M a i := by
  unfold f_X4_seek at hf
  obtain ⟨M1, eM1, hf⟩ := job hf
  refine Eq.trans ?_ (by first | exact jup_fr eM1 (by omega) | exact jfl_fr eM1 (by omega))
  obtain ⟨M2, eM2, hf⟩ := job hf
  refine Eq.trans ?_ (by first | exact jup_fr eM2 (by omega) | exact jfl_fr eM2 (by omega))
  obtain ⟨w3, ew3, hf⟩ := job hf
  obtain ⟨-, hew3a, hew3b⟩ := jrw_spec ew3
  obtain ⟨M4, eM4, hf⟩ := job hf
  refine Eq.trans ?_ (by first | exact jup_fr eM4 (by omega) | exact jfl_fr eM4 (by omega))
  show Mz a i = M4 a i
  obtain ⟨M5, eM5, hf⟩ := job hf
  refine Eq.trans ?_ (by first | exact jup_fr eM5 (by omega) | exact jfl_fr eM5 (by omega))
  obtain ⟨t13, y7, hy6⟩ := job hf
  have K8 : Mz a i = t13 a i := by
    replace hf := hy6
    by_cases hc27 : (t13 83 3) = 0
    · replace hf := jifp hc27 hf
      obtain ⟨rfl, rfl⟩ := Prod.mk.inj (Option.some.inj hf)
      rfl
    · replace hf := jifn hc27 hf
      obtain ⟨rfl, rfl⟩ := Prod.mk.inj (Option.some.inj hf)
      rfl
  refine jLp_ind (P := fun (M12 : JMem) => Mz a i = M12 a i) ?_ N _ y7
  rintro M12 x_11 hf ih10 hx9
  show Mz a i = M12 a i
  by_cases hc26 : (M12 83 3) ≤ 0
  · replace hf := jifp hc26 hf
    have hf := hx9 _ (Option.some.inj hf).symm
    obtain rfl := hf
    exact K8
  · replace hf := jifn hc26 hf
    by_cases hc25 : x3 ≤ (M12 83 1)
    · replace hf := jifp hc25 hf
      have hf := hx9 _ (Option.some.inj hf).symm
      obtain rfl := hf
      exact K8
    · replace hf := jifn hc25 hf
      obtain ⟨M14, eM14, hf⟩ := job hf
      refine Eq.trans ?_ (by first | exact jup_fr eM14 (by omega) | exact jfl_fr eM14 (by omega))
      obtain ⟨M15, eM15, hf⟩ := job hf
      refine Eq.trans ?_ (by first | exact jup_fr eM15 (by omega) | exact jfl_fr eM15 (by omega))
      obtain ⟨w16, ew16, hf⟩ := job hf
      obtain ⟨-, hew16a, hew16b⟩ := jrw_spec ew16
      obtain ⟨M17, eM17, hf⟩ := job hf
      refine Eq.trans ?_ (jcpy_fr eM17 (by omega))
      obtain ⟨⟨M18, v19⟩, ev19, hf⟩ := job hf
      refine Eq.trans ?_ (fr_X6_narrow ev19 a i (by omega))
      show Mz a i = M18 a i
      by_cases hc24 : v19 = 0
      · replace hf := jifp hc24 hf
        have hih : Mz a i = M18 a i := ih10 M18 (Option.some.inj hf).symm
        exact hih
      · replace hf := jifn hc24 hf
        obtain ⟨⟨M20, v21⟩, ev21, hf⟩ := job hf
        refine Eq.trans ?_ (fr_X4_splitCase ev21 a i (by omega))
        show Mz a i = M20 a i
        by_cases hc23 : v21 = 0
        · replace hf := jifp hc23 hf
          obtain ⟨M22, eM22, hf⟩ := job hf
          refine Eq.trans ?_ (fr_X4_tryOrders eM22 a i (by omega))
          show Mz a i = M22 a i
          have hih : Mz a i = M22 a i := ih10 M22 (Option.some.inj hf).symm
          exact hih
        · replace hf := jifn hc23 hf
          have hih : Mz a i = M20 a i := ih10 M20 (Option.some.inj hf).symm
          exact hih
set_option maxHeartbeats 4000000 in
theorem fr_X7_machine {M : JMem} {x1 : Int32} {x2 : Int32} {Mz : JMem} {r : Int32} (hf : f_X7_machine M x1 x2 = some (Mz, r)) (a i : Nat) (hA : ¬ ((a = 1 ∧ i = 0) ∨ a = 2 ∨ a = 3)) : Mz a i = M a i := by
  unfold f_X7_machine at hf
  obtain ⟨v1, ev1, hf⟩ := job hf
  show Mz a i = M a i
  by_cases hc21 : v1 = 0
  · replace hf := jifp hc21 hf
    obtain ⟨y4, hf, hy3⟩ := jcb hf
    have K5 : y4 = Sum.inr () → Mz a i = M a i := by
      intro hyy
      subst hyy
      replace hf := hy3
      obtain ⟨y12, hf, hy11⟩ := jcb hf
      have K13 : y12 = Sum.inr () → Mz a i = M a i := by
        intro hyy
        subst hyy
        replace hf := hy11
        by_cases hc20 : (M 1 0) < 8
        · replace hf := jifp hc20 hf
          obtain ⟨⟨M18, v19⟩, ev19, hf⟩ := job hf
          refine Eq.trans ?_ (fr_X2_addMachine ev19 a i (by omega))
          show Mz a i = M18 a i
          obtain ⟨rfl, rfl⟩ := Prod.mk.inj (Option.some.inj hf)
          rfl
        · replace hf := jifn hc20 hf
          obtain ⟨rfl, rfl⟩ := Prod.mk.inj (Option.some.inj hf)
          rfl
      by_cases hc17 : x1 = 3
      · replace hf := jifp hc17 hf
        obtain ⟨v15, ev15, hf⟩ := job hf
        show Mz a i = M a i
        by_cases hc16 : v15 = 0
        · replace hf := jifp hc16 hf
          exact (K13 (Option.some.inj hf).symm)
        · replace hf := jifn hc16 hf
          obtain rfl := Option.some.inj hf
          replace hf := hy11
          obtain ⟨rfl, rfl⟩ := Prod.mk.inj (Option.some.inj hf)
          rfl
      · replace hf := jifn hc17 hf
        exact (K13 (Option.some.inj hf).symm)
    by_cases hc9 : x1 = 2
    · replace hf := jifp hc9 hf
      obtain ⟨v7, ev7, hf⟩ := job hf
      show Mz a i = M a i
      by_cases hc8 : v7 = 0
      · replace hf := jifp hc8 hf
        exact (K5 (Option.some.inj hf).symm)
      · replace hf := jifn hc8 hf
        obtain rfl := Option.some.inj hf
        replace hf := hy3
        obtain ⟨rfl, rfl⟩ := Prod.mk.inj (Option.some.inj hf)
        rfl
    · replace hf := jifn hc9 hf
      exact (K5 (Option.some.inj hf).symm)
  · replace hf := jifn hc21 hf
    obtain ⟨rfl, rfl⟩ := Prod.mk.inj (Option.some.inj hf)
    rfl
set_option maxHeartbeats 4000000 in
theorem fr_X7_piece {M : JMem} {x1 : Int32} {Mz : JMem} {r : Int32} (hf : f_X7_piece M x1 = some (Mz, r)) (a i : Nat) (hA : ¬ ((a = 1 ∧ i = 1) ∨ a = 4)) : Mz a i = M a i := by
  unfold f_X7_piece at hf
  obtain ⟨v1, ev1, hf⟩ := job hf
  show Mz a i = M a i
  by_cases hc5 : v1 = 0
  · replace hf := jifp hc5 hf
    by_cases hc4 : (M 1 1) < 12
    · replace hf := jifp hc4 hf
      obtain ⟨⟨M2, v3⟩, ev3, hf⟩ := job hf
      refine Eq.trans ?_ (fr_X2_addPiece ev3 a i (by omega))
      show Mz a i = M2 a i
      obtain ⟨rfl, rfl⟩ := Prod.mk.inj (Option.some.inj hf)
      rfl
    · replace hf := jifn hc4 hf
      obtain ⟨rfl, rfl⟩ := Prod.mk.inj (Option.some.inj hf)
      rfl
  · replace hf := jifn hc5 hf
    obtain ⟨rfl, rfl⟩ := Prod.mk.inj (Option.some.inj hf)
    rfl
set_option maxHeartbeats 4000000 in
theorem fr_X7_addStep {M : JMem} {x1 : Int32} {x2 : Int32} {x3 : Int32} {Mz : JMem} {r : Int32} (hf : f_X7_addStep M x1 x2 x3 = some (Mz, r)) (a i : Nat) (hA : ¬ ((a = 1 ∧ i = 2) ∨ a = 18 ∨ a = 19 ∨ a = 20 ∨ a = 21 ∨ a = 22 ∨ (24 ≤ a ∧ a ≤ 31) ∨ a = 32 ∨ (35 ≤ a ∧ a ≤ 42) ∨ a = 43 ∨ (6 ≤ a ∧ a ≤ 17))) : Mz a i = M a i := by
  unfold f_X7_addStep at hf
  obtain ⟨⟨M1, v2⟩, ev2, hf⟩ := job hf
  refine Eq.trans ?_ (fr_X2_addStep ev2 a i (by omega))
  show Mz a i = M1 a i
  obtain ⟨M3, eM3, hf⟩ := job hf
  refine Eq.trans ?_ (fr_X3_append eM3 a i (by omega))
  show Mz a i = M3 a i
  obtain ⟨rfl, rfl⟩ := Prod.mk.inj (Option.some.inj hf)
  rfl
set_option maxHeartbeats 4000000 in
theorem fr_X7_step {M : JMem} {x1 : Int32} {x2 : Int32} {x3 : Int32} {Mz : JMem} {r : Int32} (hf : f_X7_step M x1 x2 x3 = some (Mz, r)) (a i : Nat) (hA : ¬ ((a = 1 ∧ i = 2) ∨ a = 18 ∨ a = 19 ∨ a = 20 ∨ a = 21 ∨ a = 22 ∨ (24 ≤ a ∧ a ≤ 31) ∨ a = 32 ∨ (35 ≤ a ∧ a ≤ 42) ∨ a = 43 ∨ (6 ≤ a ∧ a ≤ 17))) : Mz a i = M a i := by
  unfold f_X7_step at hf
  obtain ⟨v1, ev1, hf⟩ := job hf
  show Mz a i = M a i
  by_cases hc11 : v1 = 0
  · replace hf := jifp hc11 hf
    obtain ⟨v2, ev2, hf⟩ := job hf
    show Mz a i = M a i
    by_cases hc10 : v2 = 0
    · replace hf := jifp hc10 hf
      obtain ⟨rfl, rfl⟩ := Prod.mk.inj (Option.some.inj hf)
      rfl
    · replace hf := jifn hc10 hf
      obtain ⟨v3, ev3, hf⟩ := job hf
      show Mz a i = M a i
      by_cases hc9 : v3 = 0
      · replace hf := jifp hc9 hf
        obtain ⟨v4, ev4, hf⟩ := job hf
        by_cases hc8 : 8 ≤ v4
        · replace hf := jifp hc8 hf
          obtain ⟨rfl, rfl⟩ := Prod.mk.inj (Option.some.inj hf)
          rfl
        · replace hf := jifn hc8 hf
          by_cases hc7 : (M 1 2) < 32
          · replace hf := jifp hc7 hf
            obtain ⟨⟨M5, v6⟩, ev6, hf⟩ := job hf
            refine Eq.trans ?_ (fr_X7_addStep ev6 a i (by omega))
            show Mz a i = M5 a i
            obtain ⟨rfl, rfl⟩ := Prod.mk.inj (Option.some.inj hf)
            rfl
          · replace hf := jifn hc7 hf
            obtain ⟨rfl, rfl⟩ := Prod.mk.inj (Option.some.inj hf)
            rfl
      · replace hf := jifn hc9 hf
        obtain ⟨rfl, rfl⟩ := Prod.mk.inj (Option.some.inj hf)
        rfl
  · replace hf := jifn hc11 hf
    obtain ⟨rfl, rfl⟩ := Prod.mk.inj (Option.some.inj hf)
    rfl
set_option maxHeartbeats 4000000 in
theorem fr_X7_sheet {M : JMem} {x1 : Int32} {x2 : Int32} {x3 : Int32} {Mz : JMem} {r : Int32} (hf : f_X7_sheet M x1 x2 x3 = some (Mz, r)) (a i : Nat) (hA : ¬ ((a = 44 ∧ i = 3) ∨ a = 45 ∨ a = 46 ∨ (48 ≤ a ∧ a ≤ 53))) : Mz a i = M a i := by
  unfold f_X7_sheet at hf
  obtain ⟨v1, ev1, hf⟩ := job hf
  show Mz a i = M a i
  by_cases hc15 : v1 = 0
  · replace hf := jifp hc15 hf
    obtain ⟨rfl, rfl⟩ := Prod.mk.inj (Option.some.inj hf)
    rfl
  · replace hf := jifn hc15 hf
    obtain ⟨v2, ev2, hf⟩ := job hf
    show Mz a i = M a i
    by_cases hc14 : v2 = 0
    · replace hf := jifp hc14 hf
      by_cases hc13 : x3 ≤ 40
      · replace hf := jifp hc13 hf
        obtain ⟨u9, hf, hy4⟩ := job hf
        have K6 : Mz a i = M a i := by
          replace hf := hy4
          obtain ⟨M10, eM10, hf⟩ := job hf
          refine Eq.trans ?_ (by first | exact jup_fr eM10 (by omega) | exact jfl_fr eM10 (by omega))
          by_cases hc12 : (M10 44 3) = 0
          · replace hf := jifp hc12 hf
            obtain ⟨M11, eM11, hf⟩ := job hf
            refine Eq.trans ?_ (fr_X5_make eM11 a i (by omega))
            show Mz a i = M11 a i
            obtain ⟨rfl, rfl⟩ := Prod.mk.inj (Option.some.inj hf)
            rfl
          · replace hf := jifn hc12 hf
            obtain ⟨rfl, rfl⟩ := Prod.mk.inj (Option.some.inj hf)
            rfl
        by_cases hc8 : 0 ≤ x3
        · replace hf := jifp hc8 hf
          obtain rfl := Option.some.inj hf
          exact (K6)
        · replace hf := jifn hc8 hf
          obtain rfl := Option.some.inj hf
          exact (K6)
      · replace hf := jifn hc13 hf
        obtain ⟨rfl, rfl⟩ := Prod.mk.inj (Option.some.inj hf)
        rfl
    · replace hf := jifn hc14 hf
      obtain ⟨rfl, rfl⟩ := Prod.mk.inj (Option.some.inj hf)
      rfl
set_option maxHeartbeats 4000000 in
theorem fr_X7_tear {M : JMem} {x1 : Int32} {Mz : JMem} {r : Int32} (hf : f_X7_tear M x1 = some (Mz, r)) (a i : Nat) (hA : ¬ (a = 45 ∨ a = 46)) : Mz a i = M a i := by
  unfold f_X7_tear at hf
  obtain ⟨v1, ev1, hf⟩ := job hf
  show Mz a i = M a i
  by_cases hc11 : v1 = 0
  · replace hf := jifp hc11 hf
    obtain ⟨rfl, rfl⟩ := Prod.mk.inj (Option.some.inj hf)
    rfl
  · replace hf := jifn hc11 hf
    obtain ⟨v2, ev2, hf⟩ := job hf
    show Mz a i = M a i
    obtain ⟨u9, hf, hy4⟩ := job hf
    have K6 : (hbu9 : u9 = 0 ∨ u9 = 1) → Mz a i = M a i := by
      intro hbu9
      replace hf := hy4
      obtain ⟨M10, eM10, hf⟩ := job hf
      refine Eq.trans ?_ (fr_X5_remove eM10 a i (by omega))
      show Mz a i = M10 a i
      obtain ⟨rfl, rfl⟩ := Prod.mk.inj (Option.some.inj hf)
      rfl
    by_cases hc8 : v2 = 0
    · replace hf := jifp hc8 hf
      obtain rfl := Option.some.inj hf
      exact (K6 (Or.inl rfl))
    · replace hf := jifn hc8 hf
      obtain rfl := Option.some.inj hf
      exact (K6 (Or.inr rfl))
set_option maxHeartbeats 4000000 in
theorem fr_X7_put {M : JMem} {x1 : Int32} {x2 : Int32} {x3 : Int32} {x4 : Int32} {Mz : JMem} {r : Int32} (hf : f_X7_put M x1 x2 x3 x4 = some (Mz, r)) (a i : Nat) (hA : ¬ ((a = 44 ∧ i = 3) ∨ (48 ≤ a ∧ a ≤ 53))) : Mz a i = M a i := by
  unfold f_X7_put at hf
  obtain ⟨v1, ev1, hf⟩ := job hf
  show Mz a i = M a i
  by_cases hc12 : v1 = 0
  · replace hf := jifp hc12 hf
    obtain ⟨rfl, rfl⟩ := Prod.mk.inj (Option.some.inj hf)
    rfl
  · replace hf := jifn hc12 hf
    obtain ⟨v2, ev2, hf⟩ := job hf
    show Mz a i = M a i
    by_cases hc11 : v2 = 0
    · replace hf := jifp hc11 hf
      obtain ⟨v3, ev3, hf⟩ := job hf
      show Mz a i = M a i
      obtain ⟨M4, eM4, hf⟩ := job hf
      refine Eq.trans ?_ (by first | exact jup_fr eM4 (by omega) | exact jfl_fr eM4 (by omega))
      by_cases hc10 : (M4 44 3) = 0
      · replace hf := jifp hc10 hf
        obtain ⟨w5, ew5, hf⟩ := job hf
        obtain ⟨-, hew5a, hew5b⟩ := jrw_spec ew5
        obtain ⟨v6, ev6, hf⟩ := job hf
        show Mz a i = M4 a i
        obtain ⟨M7, eM7, hf⟩ := job hf
        refine Eq.trans ?_ (jwr_fr eM7 (by omega))
        obtain ⟨w8, ew8, hf⟩ := job hf
        obtain ⟨-, hew8a, hew8b⟩ := jrw_spec ew8
        obtain ⟨v9, ev9, hf⟩ := job hf
        obtain ⟨rfl, rfl⟩ := Prod.mk.inj (Option.some.inj hf)
        rfl
      · replace hf := jifn hc10 hf
        obtain ⟨rfl, rfl⟩ := Prod.mk.inj (Option.some.inj hf)
        rfl
    · replace hf := jifn hc11 hf
      obtain ⟨rfl, rfl⟩ := Prod.mk.inj (Option.some.inj hf)
      rfl
set_option maxHeartbeats 4000000 in
theorem fr_X7_at {M : JMem} {x1 : Int32} {x2 : Int32} {Mz : JMem} {r : Int32} (hf : f_X7_at M x1 x2 = some (Mz, r)) (a i : Nat) (hA : ¬ ((a = 44 ∧ i = 3))) : Mz a i = M a i := by
  unfold f_X7_at at hf
  obtain ⟨v1, ev1, hf⟩ := job hf
  show Mz a i = M a i
  by_cases hc7 : v1 = 0
  · replace hf := jifp hc7 hf
    obtain ⟨rfl, rfl⟩ := Prod.mk.inj (Option.some.inj hf)
    rfl
  · replace hf := jifn hc7 hf
    obtain ⟨v2, ev2, hf⟩ := job hf
    show Mz a i = M a i
    obtain ⟨M3, eM3, hf⟩ := job hf
    refine Eq.trans ?_ (by first | exact jup_fr eM3 (by omega) | exact jfl_fr eM3 (by omega))
    by_cases hc6 : (M3 44 3) = 0
    · replace hf := jifp hc6 hf
      obtain ⟨w4, ew4, hf⟩ := job hf
      obtain ⟨-, hew4a, hew4b⟩ := jrw_spec ew4
      obtain ⟨v5, ev5, hf⟩ := job hf
      obtain ⟨rfl, rfl⟩ := Prod.mk.inj (Option.some.inj hf)
      rfl
    · replace hf := jifn hc6 hf
      obtain ⟨rfl, rfl⟩ := Prod.mk.inj (Option.some.inj hf)
      rfl
set_option maxHeartbeats 4000000 in
theorem fr_X7_copy {M : JMem} {x1 : Int32} {x2 : Int32} {x3 : Int32} {x4 : Int32} {x5 : Int32} {Mz : JMem} {r : Int32} (hf : f_X7_copy M x1 x2 x3 x4 x5 = some (Mz, r)) (a i : Nat) (hA : ¬ ((a = 44 ∧ i = 3) ∨ (48 ≤ a ∧ a ≤ 53))) : Mz a i = M a i := by
  unfold f_X7_copy at hf
  obtain ⟨v1, ev1, hf⟩ := job hf
  show Mz a i = M a i
  by_cases hc10 : v1 = 0
  · replace hf := jifp hc10 hf
    obtain ⟨rfl, rfl⟩ := Prod.mk.inj (Option.some.inj hf)
    rfl
  · replace hf := jifn hc10 hf
    obtain ⟨v2, ev2, hf⟩ := job hf
    show Mz a i = M a i
    by_cases hc9 : v2 = 0
    · replace hf := jifp hc9 hf
      obtain ⟨rfl, rfl⟩ := Prod.mk.inj (Option.some.inj hf)
      rfl
    · replace hf := jifn hc9 hf
      obtain ⟨v3, ev3, hf⟩ := job hf
      show Mz a i = M a i
      obtain ⟨M4, eM4, hf⟩ := job hf
      refine Eq.trans ?_ (by first | exact jup_fr eM4 (by omega) | exact jfl_fr eM4 (by omega))
      by_cases hc8 : (M4 44 3) = 0
      · replace hf := jifp hc8 hf
        obtain ⟨w5, ew5, hf⟩ := job hf
        obtain ⟨-, hew5a, hew5b⟩ := jrw_spec ew5
        obtain ⟨w6, ew6, hf⟩ := job hf
        obtain ⟨-, hew6a, hew6b⟩ := jrw_spec ew6
        obtain ⟨M7, eM7, hf⟩ := job hf
        refine Eq.trans ?_ (jcpy_fr eM7 (by omega))
        obtain ⟨rfl, rfl⟩ := Prod.mk.inj (Option.some.inj hf)
        rfl
      · replace hf := jifn hc8 hf
        obtain ⟨rfl, rfl⟩ := Prod.mk.inj (Option.some.inj hf)
        rfl
set_option maxHeartbeats 4000000 in
theorem fr_X7_addPieceBy {N : Nat} {M : JMem} {x1 : Int32} {a2 : Nat} {x3 : Int32} {Mz : JMem} {r : Int32} (hf : f_X7_addPieceBy N M x1 a2 x3 = some (Mz, r)) (a i : Nat) (hA : ¬ ((a = 1 ∧ i = 1) ∨ (a = 1 ∧ i = 2) ∨ a = 18 ∨ a = 19 ∨ a = 20 ∨ a = 21 ∨ a = 22 ∨ (24 ≤ a ∧ a ≤ 31) ∨ a = 32 ∨ (35 ≤ a ∧ a ≤ 42) ∨ a = 4 ∨ a = 43 ∨ (6 ≤ a ∧ a ≤ 17))) : Mz a i = M a i := by
  unfold f_X7_addPieceBy at hf
  obtain ⟨⟨M1, v2⟩, ev2, hf⟩ := job hf
  refine Eq.trans ?_ (fr_X2_addPiece ev2 a i (by omega))
  show Mz a i = M1 a i
  obtain ⟨t11, y4, hy3⟩ := job hf
  have K5 : Mz a i = t11 a i := by
    replace hf := hy3
    obtain ⟨rfl, rfl⟩ := Prod.mk.inj (Option.some.inj hf)
    rfl
  refine jLp_ind (P := fun ((z9, M10) : Int32 × JMem) => Mz a i = M10 a i) ?_ N _ y4
  rintro ⟨z9, M10⟩ x_8 hf ih7 hx6
  show Mz a i = M10 a i
  by_cases hc16 : x3 ≤ z9
  · replace hf := jifp hc16 hf
    have hf := hx6 _ (Option.some.inj hf).symm
    obtain rfl := hf
    exact K5
  · replace hf := jifn hc16 hf
    obtain ⟨v12, ev12, hf⟩ := job hf
    obtain ⟨v13, ev13, hf⟩ := job hf
    obtain ⟨⟨M14, v15⟩, ev15, hf⟩ := job hf
    refine Eq.trans ?_ (fr_X7_addStep ev15 a i (by omega))
    show Mz a i = M14 a i
    have hih : Mz a i = M14 a i := ih7 (z9 + 1, M14) (Option.some.inj hf).symm
    exact hih
set_option maxHeartbeats 4000000 in
theorem fr_X7_read {N : Nat} {M : JMem} {x1 : Int32} {x2 : Int32} {Mz : JMem} {r : Int32} (hf : f_X7_read N M x1 x2 = some (Mz, r)) (a i : Nat) (hA : ¬ ((a = 1 ∧ i = 1) ∨ (a = 1 ∧ i = 2) ∨ a = 18 ∨ a = 19 ∨ a = 20 ∨ a = 21 ∨ a = 22 ∨ (24 ≤ a ∧ a ≤ 31) ∨ a = 32 ∨ (35 ≤ a ∧ a ≤ 42) ∨ a = 4 ∨ a = 43 ∨ (a = 44 ∧ i = 3) ∨ (6 ≤ a ∧ a ≤ 17))) : Mz a i = M a i := by
  unfold f_X7_read at hf
  obtain ⟨v1, ev1, hf⟩ := job hf
  show Mz a i = M a i
  by_cases hc18 : v1 = 0
  · replace hf := jifp hc18 hf
    obtain ⟨rfl, rfl⟩ := Prod.mk.inj (Option.some.inj hf)
    rfl
  · replace hf := jifn hc18 hf
    obtain ⟨v2, ev2, hf⟩ := job hf
    show Mz a i = M a i
    by_cases hc17 : v2 = 0
    · replace hf := jifp hc17 hf
      obtain ⟨v3, ev3, hf⟩ := job hf
      show Mz a i = M a i
      by_cases hc16 : v3 = 0
      · replace hf := jifp hc16 hf
        obtain ⟨v4, ev4, hf⟩ := job hf
        obtain ⟨w5, ew5, hf⟩ := job hf
        obtain ⟨-, hew5a, hew5b⟩ := jrw_spec ew5
        obtain ⟨v6, ev6, hf⟩ := job hf
        show Mz a i = M a i
        by_cases hc14 : v6 = 0
        · replace hf := jifp hc14 hf
          obtain ⟨rfl, rfl⟩ := Prod.mk.inj (Option.some.inj hf)
          rfl
        · replace hf := jifn hc14 hf
          by_cases hc13 : 12 ≤ (M 1 1)
          · replace hf := jifp hc13 hf
            obtain ⟨rfl, rfl⟩ := Prod.mk.inj (Option.some.inj hf)
            rfl
          · replace hf := jifn hc13 hf
            by_cases hc12 : 8 < (v4 / 2)
            · replace hf := jifp hc12 hf
              obtain ⟨rfl, rfl⟩ := Prod.mk.inj (Option.some.inj hf)
              rfl
            · replace hf := jifn hc12 hf
              by_cases hc11 : ((M 1 2) + (v4 / 2)) ≤ 32
              · replace hf := jifp hc11 hf
                obtain ⟨M7, eM7, hf⟩ := job hf
                refine Eq.trans ?_ (by first | exact jup_fr eM7 (by omega) | exact jfl_fr eM7 (by omega))
                obtain ⟨w8, ew8, hf⟩ := job hf
                obtain ⟨-, hew8a, hew8b⟩ := jrw_spec ew8
                obtain ⟨⟨M9, v10⟩, ev10, hf⟩ := job hf
                refine Eq.trans ?_ (fr_X7_addPieceBy ev10 a i (by omega))
                show Mz a i = M9 a i
                obtain ⟨rfl, rfl⟩ := Prod.mk.inj (Option.some.inj hf)
                rfl
              · replace hf := jifn hc11 hf
                obtain ⟨rfl, rfl⟩ := Prod.mk.inj (Option.some.inj hf)
                rfl
      · replace hf := jifn hc16 hf
        obtain ⟨M15, eM15, hf⟩ := job hf
        refine Eq.trans ?_ (by first | exact jup_fr eM15 (by omega) | exact jfl_fr eM15 (by omega))
        obtain ⟨rfl, rfl⟩ := Prod.mk.inj (Option.some.inj hf)
        rfl
    · replace hf := jifn hc17 hf
      obtain ⟨rfl, rfl⟩ := Prod.mk.inj (Option.some.inj hf)
      rfl
set_option maxHeartbeats 4000000 in
theorem fr_X7_swap {N : Nat} {M : JMem} {x1 : Int32} {x2 : Int32} {Mz : JMem} {r : Int32} (hf : f_X7_swap N M x1 x2 = some (Mz, r)) (a i : Nat) (hA : ¬ ((35 ≤ a ∧ a ≤ 42) ∨ (a = 54 ∧ i = 4) ∨ (a = 54 ∧ i = 6) ∨ a = 55 ∨ a = 59 ∨ a = 60 ∨ a = 61 ∨ a = 62 ∨ a = 63)) : Mz a i = M a i := by
  unfold f_X7_swap at hf
  obtain ⟨v1, ev1, hf⟩ := job hf
  show Mz a i = M a i
  by_cases hc15 : v1 = 0
  · replace hf := jifp hc15 hf
    obtain ⟨rfl, rfl⟩ := Prod.mk.inj (Option.some.inj hf)
    rfl
  · replace hf := jifn hc15 hf
    obtain ⟨v2, ev2, hf⟩ := job hf
    obtain ⟨v3, ev3, hf⟩ := job hf
    show Mz a i = M a i
    by_cases hc14 : v3 = 0
    · replace hf := jifp hc14 hf
      obtain ⟨v4, ev4, hf⟩ := job hf
      by_cases hc13 : v4 = 1
      · replace hf := jifp hc13 hf
        obtain ⟨rfl, rfl⟩ := Prod.mk.inj (Option.some.inj hf)
        rfl
      · replace hf := jifn hc13 hf
        obtain ⟨⟨M5, v6⟩, ev6, hf⟩ := job hf
        refine Eq.trans ?_ (fr_X1_work ev6 a i (by omega))
        show Mz a i = M5 a i
        obtain ⟨M7, eM7, hf⟩ := job hf
        refine Eq.trans ?_ (fr_X3_exchange eM7 a i (by omega))
        show Mz a i = M7 a i
        by_cases hc12 : v6 = 0
        · replace hf := jifp hc12 hf
          obtain ⟨rfl, rfl⟩ := Prod.mk.inj (Option.some.inj hf)
          rfl
        · replace hf := jifn hc12 hf
          obtain ⟨⟨M8, v9⟩, ev9, hf⟩ := job hf
          refine Eq.trans ?_ (fr_X1_work ev9 a i (by omega))
          show Mz a i = M8 a i
          by_cases hc11 : v9 = 0
          · replace hf := jifp hc11 hf
            obtain ⟨M10, eM10, hf⟩ := job hf
            refine Eq.trans ?_ (fr_X3_exchange eM10 a i (by omega))
            show Mz a i = M10 a i
            obtain ⟨rfl, rfl⟩ := Prod.mk.inj (Option.some.inj hf)
            rfl
          · replace hf := jifn hc11 hf
            obtain ⟨rfl, rfl⟩ := Prod.mk.inj (Option.some.inj hf)
            rfl
    · replace hf := jifn hc14 hf
      obtain ⟨rfl, rfl⟩ := Prod.mk.inj (Option.some.inj hf)
      rfl
set_option maxHeartbeats 4000000 in
theorem fr_X7_lay {N : Nat} {M : JMem} {x1 : Int32} {x2 : Int32} {Mz : JMem} {r : Int32} (hf : f_X7_lay N M x1 x2 = some (Mz, r)) (a i : Nat) (hA : ¬ ((35 ≤ a ∧ a ≤ 42) ∨ (a = 54 ∧ i = 4) ∨ (a = 54 ∧ i = 6) ∨ a = 55 ∨ a = 59 ∨ a = 60 ∨ a = 61 ∨ a = 62 ∨ a = 63)) : Mz a i = M a i := by
  unfold f_X7_lay at hf
  obtain ⟨v1, ev1, hf⟩ := job hf
  show Mz a i = M a i
  by_cases hc11 : v1 = 0
  · replace hf := jifp hc11 hf
    obtain ⟨rfl, rfl⟩ := Prod.mk.inj (Option.some.inj hf)
    rfl
  · replace hf := jifn hc11 hf
    obtain ⟨v2, ev2, hf⟩ := job hf
    obtain ⟨v3, ev3, hf⟩ := job hf
    obtain ⟨v4, ev4, hf⟩ := job hf
    show Mz a i = M a i
    by_cases hc10 : v4 = 0
    · replace hf := jifp hc10 hf
      obtain ⟨v5, ev5, hf⟩ := job hf
      show Mz a i = M a i
      obtain ⟨M6, eM6, hf⟩ := job hf
      refine Eq.trans ?_ (fr_X3_move eM6 a i (by omega))
      show Mz a i = M6 a i
      obtain ⟨⟨M7, v8⟩, ev8, hf⟩ := job hf
      refine Eq.trans ?_ (fr_X1_work ev8 a i (by omega))
      show Mz a i = M7 a i
      by_cases hc9 : v8 = 0
      · replace hf := jifp hc9 hf
        obtain ⟨rfl, rfl⟩ := Prod.mk.inj (Option.some.inj hf)
        rfl
      · replace hf := jifn hc9 hf
        obtain ⟨rfl, rfl⟩ := Prod.mk.inj (Option.some.inj hf)
        rfl
    · replace hf := jifn hc10 hf
      obtain ⟨rfl, rfl⟩ := Prod.mk.inj (Option.some.inj hf)
      rfl
set_option maxHeartbeats 4000000 in
theorem fr_X7_end {N : Nat} {M : JMem} {Mz : JMem} {r : Int32} (hf : f_X7_end N M = some (Mz, r)) (a i : Nat) (hA : ¬ ((a = 54 ∧ i = 4) ∨ (a = 54 ∧ i = 6) ∨ a = 55 ∨ a = 59 ∨ a = 60 ∨ a = 61 ∨ a = 62 ∨ a = 63)) : Mz a i = M a i := by
  unfold f_X7_end at hf
  obtain ⟨⟨M1, v2⟩, ev2, hf⟩ := job hf
  refine Eq.trans ?_ (fr_X1_work ev2 a i (by omega))
  show Mz a i = M1 a i
  by_cases hc3 : v2 = 0
  · replace hf := jifp hc3 hf
    obtain ⟨rfl, rfl⟩ := Prod.mk.inj (Option.some.inj hf)
    rfl
  · replace hf := jifn hc3 hf
    obtain ⟨rfl, rfl⟩ := Prod.mk.inj (Option.some.inj hf)
    rfl
set_option maxHeartbeats 4000000 in
theorem fr_X7_begin {N : Nat} {M : JMem} {x1 : Int32} {Mz : JMem} {r : Int32} (hf : f_X7_begin N M x1 = some (Mz, r)) (a i : Nat) (hA : ¬ ((a = 54 ∧ i = 4) ∨ (a = 54 ∧ i = 6) ∨ a = 55 ∨ a = 59 ∨ a = 60 ∨ a = 61 ∨ a = 62 ∨ a = 63)) : Mz a i = M a i := by
  unfold f_X7_begin at hf
  obtain ⟨v1, ev1, hf⟩ := job hf
  show Mz a i = M a i
  by_cases hc6 : v1 = 0
  · replace hf := jifp hc6 hf
    obtain ⟨rfl, rfl⟩ := Prod.mk.inj (Option.some.inj hf)
    rfl
  · replace hf := jifn hc6 hf
    obtain ⟨⟨M2, v3⟩, ev3, hf⟩ := job hf
    refine Eq.trans ?_ (fr_X1_work ev3 a i (by omega))
    show Mz a i = M2 a i
    by_cases hc5 : v3 = 0
    · replace hf := jifp hc5 hf
      obtain ⟨rfl, rfl⟩ := Prod.mk.inj (Option.some.inj hf)
      rfl
    · replace hf := jifn hc5 hf
      obtain ⟨v4, ev4, hf⟩ := job hf
      obtain ⟨rfl, rfl⟩ := Prod.mk.inj (Option.some.inj hf)
      rfl
set_option maxHeartbeats 4000000 in
theorem fr_X7_hasTails {N : Nat} {M : JMem} {Mz : JMem} {r : Int32} (hf : f_X7_hasTails N M = some (Mz, r)) (a i : Nat) (hA : ¬ ((a = 54 ∧ i = 4) ∨ (a = 54 ∧ i = 6) ∨ a = 55 ∨ a = 56 ∨ a = 59 ∨ a = 60 ∨ a = 61 ∨ a = 62 ∨ a = 63)) : Mz a i = M a i := by
  unfold f_X7_hasTails at hf
  obtain ⟨v1, ev1, hf⟩ := job hf
  show Mz a i = M a i
  by_cases hc6 : v1 = 0
  · replace hf := jifp hc6 hf
    obtain ⟨rfl, rfl⟩ := Prod.mk.inj (Option.some.inj hf)
    rfl
  · replace hf := jifn hc6 hf
    obtain ⟨⟨M2, v3⟩, ev3, hf⟩ := job hf
    refine Eq.trans ?_ (fr_X1_work ev3 a i (by omega))
    show Mz a i = M2 a i
    by_cases hc5 : v3 = 0
    · replace hf := jifp hc5 hf
      obtain ⟨rfl, rfl⟩ := Prod.mk.inj (Option.some.inj hf)
      rfl
    · replace hf := jifn hc5 hf
      obtain ⟨M4, eM4, hf⟩ := job hf
      refine Eq.trans ?_ (fr_X1_findTails eM4 a i (by omega))
      show Mz a i = M4 a i
      obtain ⟨rfl, rfl⟩ := Prod.mk.inj (Option.some.inj hf)
      rfl
set_option maxHeartbeats 4000000 in
theorem fr_X7_tail {N : Nat} {M : JMem} {x1 : Int32} {x2 : Int32} {Mz : JMem} {r : Int32} (hf : f_X7_tail N M x1 x2 = some (Mz, r)) (a i : Nat) (hA : ¬ ((a = 54 ∧ i = 4) ∨ (a = 54 ∧ i = 6) ∨ a = 55 ∨ a = 56 ∨ a = 59 ∨ a = 60 ∨ a = 61 ∨ a = 62 ∨ a = 63)) : Mz a i = M a i := by
  unfold f_X7_tail at hf
  obtain ⟨v1, ev1, hf⟩ := job hf
  show Mz a i = M a i
  by_cases hc10 : v1 = 0
  · replace hf := jifp hc10 hf
    obtain ⟨rfl, rfl⟩ := Prod.mk.inj (Option.some.inj hf)
    rfl
  · replace hf := jifn hc10 hf
    obtain ⟨v2, ev2, hf⟩ := job hf
    show Mz a i = M a i
    by_cases hc9 : v2 = 0
    · replace hf := jifp hc9 hf
      obtain ⟨⟨M3, v4⟩, ev4, hf⟩ := job hf
      refine Eq.trans ?_ (fr_X7_hasTails ev4 a i (by omega))
      show Mz a i = M3 a i
      by_cases hc8 : v4 = 0
      · replace hf := jifp hc8 hf
        obtain ⟨rfl, rfl⟩ := Prod.mk.inj (Option.some.inj hf)
        rfl
      · replace hf := jifn hc8 hf
        by_cases hc7 : x2 = 0
        · replace hf := jifp hc7 hf
          obtain ⟨v6, ev6, hf⟩ := job hf
          obtain ⟨rfl, rfl⟩ := Prod.mk.inj (Option.some.inj hf)
          rfl
        · replace hf := jifn hc7 hf
          obtain ⟨v5, ev5, hf⟩ := job hf
          show Mz a i = M3 a i
          obtain ⟨rfl, rfl⟩ := Prod.mk.inj (Option.some.inj hf)
          rfl
    · replace hf := jifn hc9 hf
      obtain ⟨rfl, rfl⟩ := Prod.mk.inj (Option.some.inj hf)
      rfl
set_option maxHeartbeats 4000000 in
theorem fr_X7_row {N : Nat} {M : JMem} {x1 : Int32} {Mz : JMem} {r : Int32} (hf : f_X7_row N M x1 = some (Mz, r)) (a i : Nat) (hA : ¬ ((a = 54 ∧ i = 4) ∨ (a = 54 ∧ i = 6) ∨ a = 55 ∨ a = 56 ∨ a = 59 ∨ a = 60 ∨ a = 61 ∨ a = 62 ∨ a = 63)) : Mz a i = M a i := by
  unfold f_X7_row at hf
  obtain ⟨⟨M1, v2⟩, ev2, hf⟩ := job hf
  refine Eq.trans ?_ (fr_X7_hasTails ev2 a i (by omega))
  show Mz a i = M1 a i
  by_cases hc18 : v2 = 0
  · replace hf := jifp hc18 hf
    obtain ⟨rfl, rfl⟩ := Prod.mk.inj (Option.some.inj hf)
    rfl
  · replace hf := jifn hc18 hf
    obtain ⟨v3, ev3, hf⟩ := job hf
    show Mz a i = M1 a i
    by_cases hc17 : v3 = 0
    · replace hf := jifp hc17 hf
      obtain ⟨v4, ev4, hf⟩ := job hf
      show Mz a i = M1 a i
      obtain ⟨t13, y6, hy5⟩ := job hf
      have K7 : Mz a i = M1 a i := by
        replace hf := hy5
        obtain ⟨rfl, rfl⟩ := Prod.mk.inj (Option.some.inj hf)
        rfl
      refine jLp_ind (P := fun ((z11, z12) : Int32 × Int32) => Mz a i = M1 a i) ?_ N _ y6
      rintro ⟨z11, z12⟩ x_10 hf ih9 hx8
      show Mz a i = M1 a i
      by_cases hc16 : x1 ≤ z12
      · replace hf := jifp hc16 hf
        have hf := hx8 _ (Option.some.inj hf).symm
        obtain rfl := hf
        exact K7
      · replace hf := jifn hc16 hf
        by_cases hc15 : z11 = ((-1))
        · replace hf := jifp hc15 hf
          have hf := hx8 _ (Option.some.inj hf).symm
          obtain rfl := hf
          exact K7
        · replace hf := jifn hc15 hf
          obtain ⟨v14, ev14, hf⟩ := job hf
          show Mz a i = M1 a i
          have hih : Mz a i = M1 a i := ih9 (v14, z12 + 1) (Option.some.inj hf).symm
          exact hih
    · replace hf := jifn hc17 hf
      obtain ⟨rfl, rfl⟩ := Prod.mk.inj (Option.some.inj hf)
      rfl
set_option maxHeartbeats 4000000 in
theorem fr_X7_pickBy {N : Nat} {M : JMem} {x1 : Int32} {Mz : JMem} {r : Int32} (hf : f_X7_pickBy N M x1 = some (Mz, r)) (a i : Nat) (hA : ¬ (a = 63)) : Mz a i = M a i := by
  unfold f_X7_pickBy at hf
  obtain ⟨⟨t12, t13⟩, y2, hy1⟩ := job hf
  have K3 : Mz a i = t13 a i := by
    replace hf := hy1
    obtain ⟨rfl, rfl⟩ := Prod.mk.inj (Option.some.inj hf)
    rfl
  refine jLp_ind (P := fun ((z7, z8, z9, z10, M11) : Int32 × Int32 × Int32 × Int32 × JMem) => Mz a i = M11 a i) ?_ N _ y2
  rintro ⟨z7, z8, z9, z10, M11⟩ x_6 hf ih5 hx4
  show Mz a i = M11 a i
  by_cases hc54 : (M11 1 1) ≤ z10
  · replace hf := jifp hc54 hf
    have hf := hx4 _ (Option.some.inj hf).symm
    obtain ⟨rfl, rfl⟩ := jp2 hf
    exact K3
  · replace hf := jifn hc54 hf
    obtain ⟨v14, ev14, hf⟩ := job hf
    show Mz a i = M11 a i
    obtain ⟨⟨u50, u51, u52, M53⟩, hf, hy16⟩ := job hf
    have K18 : Mz a i = M53 a i := by
      replace hf := hy16
      have hih : Mz a i = M53 a i := ih5 (u50, u51, u52, z10 + 1, M53) (Option.some.inj hf).symm
      exact hih
    by_cases hc49 : v14 = ((-1))
    · replace hf := jifp hc49 hf
      obtain ⟨rfl, rfl, rfl, rfl⟩ := jp4 (Option.some.inj hf)
      exact (K18)
    · replace hf := jifn hc49 hf
      obtain ⟨⟨M20, v21⟩, ev21, hf⟩ := job hf
      refine Eq.trans ?_ (fr_X1_earliest ev21 a i (by omega))
      show Mz a i = M20 a i
      obtain ⟨v22, ev22, hf⟩ := job hf
      show Mz a i = M20 a i
      obtain ⟨u41, hf, hy24⟩ := job hf
      have K26 : (hbu41 : u41 = 0 ∨ u41 = 1) → Mz a i = M20 a i := by
        intro hbu41
        replace hf := hy24
        obtain ⟨y44, hf, hy43⟩ := jcb hf
        have K45 : y44 = Sum.inr () → Mz a i = M20 a i := by
          intro hyy
          subst hyy
          replace hf := hy43
          obtain ⟨rfl, rfl, rfl, rfl⟩ := jp4 (Option.some.inj hf)
          exact (K18)
        by_cases hc48 : z7 = ((-1))
        · replace hf := jifp hc48 hf
          exact (K45 (Option.some.inj hf).symm)
        · replace hf := jifn hc48 hf
          by_cases hc47 : u41 = 0
          · replace hf := jifp hc47 hf
            obtain rfl := Option.some.inj hf
            replace hf := hy43
            obtain ⟨rfl, rfl, rfl, rfl⟩ := jp4 (Option.some.inj hf)
            exact (K18)
          · replace hf := jifn hc47 hf
            exact (K45 (Option.some.inj hf).symm)
      obtain ⟨y30, hf, hy29⟩ := jcb hf
      have K31 : y30 = Sum.inr () → Mz a i = M20 a i := by
        intro hyy
        subst hyy
        replace hf := hy29
        obtain rfl := Option.some.inj hf
        exact (K26 (Or.inr rfl))
      by_cases hc40 : v21 < z8
      · replace hf := jifp hc40 hf
        exact (K31 (Option.some.inj hf).symm)
      · replace hf := jifn hc40 hf
        obtain ⟨y35, hf, hy34⟩ := jcb hf
        have K36 : y35 = Sum.inr () → Mz a i = M20 a i := by
          intro hyy
          subst hyy
          replace hf := hy34
          obtain rfl := Option.some.inj hf
          replace hf := hy29
          obtain rfl := Option.some.inj hf
          exact (K26 (Or.inl rfl))
        by_cases hc39 : v21 = z8
        · replace hf := jifp hc39 hf
          by_cases hc38 : z9 ≤ v22
          · replace hf := jifp hc38 hf
            exact (K36 (Option.some.inj hf).symm)
          · replace hf := jifn hc38 hf
            obtain rfl := Option.some.inj hf
            replace hf := hy34
            exact (K31 (Option.some.inj hf).symm)
        · replace hf := jifn hc39 hf
          exact (K36 (Option.some.inj hf).symm)
set_option maxHeartbeats 4000000 in
theorem fr_X7_rule {N : Nat} {M : JMem} {x1 : Int32} {Mz : JMem} {r : Int32} (hf : f_X7_rule N M x1 = some (Mz, r)) (a i : Nat) (hA : ¬ ((35 ≤ a ∧ a ≤ 42) ∨ a = 43 ∨ (a = 54 ∧ i = 4) ∨ (a = 54 ∧ i = 6) ∨ a = 55 ∨ a = 59 ∨ a = 60 ∨ a = 61 ∨ a = 62 ∨ a = 63)) : Mz a i = M a i := by
  unfold f_X7_rule at hf
  obtain ⟨v1, ev1, hf⟩ := job hf
  show Mz a i = M a i
  by_cases hc28 : v1 = 0
  · replace hf := jifp hc28 hf
    obtain ⟨M2, eM2, hf⟩ := job hf
    refine Eq.trans ?_ (fr_X3_clear eM2 a i (by omega))
    show Mz a i = M2 a i
    obtain ⟨M3, eM3, hf⟩ := job hf
    refine Eq.trans ?_ (fr_X1_clear eM3 a i (by omega))
    show Mz a i = M3 a i
    obtain ⟨t12, y5, hy4⟩ := job hf
    have K6 : Mz a i = t12 a i := by
      replace hf := hy4
      obtain ⟨rfl, rfl⟩ := Prod.mk.inj (Option.some.inj hf)
      rfl
    refine jLp_ind (P := fun ((z10, M11) : Int32 × JMem) => Mz a i = M11 a i) ?_ N _ y5
    rintro ⟨z10, M11⟩ x_9 hf ih8 hx7
    show Mz a i = M11 a i
    by_cases hc27 : (M11 1 2) ≤ z10
    · replace hf := jifp hc27 hf
      have hf := hx7 _ (Option.some.inj hf).symm
      obtain rfl := hf
      exact K6
    · replace hf := jifn hc27 hf
      obtain ⟨⟨M13, v14⟩, ev14, hf⟩ := job hf
      refine Eq.trans ?_ (fr_X7_pickBy ev14 a i (by omega))
      show Mz a i = M13 a i
      obtain ⟨M26, hf, hy16⟩ := job hf
      have K18 : Mz a i = M26 a i := by
        replace hf := hy16
        have hih : Mz a i = M26 a i := ih8 (z10 + 1, M26) (Option.some.inj hf).symm
        exact hih
      by_cases hc25 : v14 = ((-1))
      · replace hf := jifp hc25 hf
        obtain rfl := Option.some.inj hf
        exact (K18)
      · replace hf := jifn hc25 hf
        obtain ⟨⟨M20, v21⟩, ev21, hf⟩ := job hf
        refine Eq.trans ?_ (fr_X1_earliest ev21 a i (by omega))
        show Mz a i = M20 a i
        obtain ⟨v22, ev22, hf⟩ := job hf
        obtain ⟨M23, eM23, hf⟩ := job hf
        refine Eq.trans ?_ (fr_X3_append eM23 a i (by omega))
        show Mz a i = M23 a i
        obtain ⟨M24, eM24, hf⟩ := job hf
        refine Eq.trans ?_ (fr_X1_set eM24 a i (by omega))
        show Mz a i = M24 a i
        obtain rfl := Option.some.inj hf
        exact (K18)
  · replace hf := jifn hc28 hf
    obtain ⟨rfl, rfl⟩ := Prod.mk.inj (Option.some.inj hf)
    rfl
set_option maxHeartbeats 4000000 in
theorem fr_X7_endBySwap {N : Nat} {M : JMem} {x1 : Int32} {x2 : Int32} {Mz : JMem} {r : Int32} (hf : f_X7_endBySwap N M x1 x2 = some (Mz, r)) (a i : Nat) (hA : ¬ ((35 ≤ a ∧ a ≤ 42) ∨ (a = 64 ∧ i = 4) ∨ (a = 64 ∧ i = 6) ∨ a = 65 ∨ a = 69 ∨ a = 70 ∨ a = 71 ∨ a = 72 ∨ a = 73)) : Mz a i = M a i := by
  unfold f_X7_endBySwap at hf
  obtain ⟨M1, eM1, hf⟩ := job hf
  refine Eq.trans ?_ (fr_X3_exchange eM1 a i (by omega))
  show Mz a i = M1 a i
  obtain ⟨⟨M2, v3⟩, ev3, hf⟩ := job hf
  refine Eq.trans ?_ (fr_X1_work ev3 a i (by omega))
  show Mz a i = M2 a i
  obtain ⟨u10, hf, hy5⟩ := job hf
  have K7 : Mz a i = M2 a i := by
    replace hf := hy5
    obtain ⟨M11, eM11, hf⟩ := job hf
    refine Eq.trans ?_ (fr_X3_exchange eM11 a i (by omega))
    show Mz a i = M11 a i
    obtain ⟨rfl, rfl⟩ := Prod.mk.inj (Option.some.inj hf)
    rfl
  by_cases hc9 : v3 = 0
  · replace hf := jifp hc9 hf
    obtain rfl := Option.some.inj hf
    exact (K7)
  · replace hf := jifn hc9 hf
    obtain rfl := Option.some.inj hf
    exact (K7)
set_option maxHeartbeats 4000000 in
theorem fr_X7_shorten {N : Nat} {M : JMem} {Mz : JMem} {r : Int32} (hf : f_X7_shorten N M = some (Mz, r)) (a i : Nat) (hA : ¬ ((35 ≤ a ∧ a ≤ 42) ∨ (a = 54 ∧ i = 4) ∨ (a = 54 ∧ i = 6) ∨ a = 55 ∨ a = 56 ∨ a = 59 ∨ a = 60 ∨ a = 61 ∨ a = 62 ∨ a = 63 ∨ (a = 64 ∧ i = 4) ∨ (a = 64 ∧ i = 6) ∨ a = 65 ∨ a = 69 ∨ a = 70 ∨ a = 71 ∨ a = 72 ∨ a = 73)) : Mz a i = M a i := by
  unfold f_X7_shorten at hf
  obtain ⟨⟨M1, v2⟩, ev2, hf⟩ := job hf
  refine Eq.trans ?_ (fr_X7_hasTails ev2 a i (by omega))
  show Mz a i = M1 a i
  by_cases hc52 : v2 = 0
  · replace hf := jifp hc52 hf
    obtain ⟨rfl, rfl⟩ := Prod.mk.inj (Option.some.inj hf)
    rfl
  · replace hf := jifn hc52 hf
    obtain ⟨⟨t14, t15, t16⟩, y4, hy3⟩ := job hf
    have K5 : Mz a i = t16 a i := by
      replace hf := hy3
      by_cases hc51 : t14 = ((-1))
      · replace hf := jifp hc51 hf
        obtain ⟨rfl, rfl⟩ := Prod.mk.inj (Option.some.inj hf)
        rfl
      · replace hf := jifn hc51 hf
        obtain ⟨M50, eM50, hf⟩ := job hf
        refine Eq.trans ?_ (fr_X3_exchange eM50 a i (by omega))
        show Mz a i = M50 a i
        obtain ⟨rfl, rfl⟩ := Prod.mk.inj (Option.some.inj hf)
        rfl
    refine jLp_ind (P := fun ((z9, z10, z11, z12, M13) : Int32 × Int32 × Int32 × Int32 × JMem) => Mz a i = M13 a i) ?_ N _ y4
    rintro ⟨z9, z10, z11, z12, M13⟩ x_8 hf ih7 hx6
    show Mz a i = M13 a i
    by_cases hc49 : (M13 1 0) ≤ z12
    · replace hf := jifp hc49 hf
      have hf := hx6 _ (Option.some.inj hf).symm
      obtain ⟨rfl, rfl, rfl⟩ := jp3 hf
      exact K5
    · replace hf := jifn hc49 hf
      obtain ⟨⟨t28, t29, t30, t31⟩, y18, hy17⟩ := job hf
      have K19 : Mz a i = t31 a i := by
        replace hf := hy17
        have hih : Mz a i = t31 a i := ih7 (t28, t29, t30, z12 + 1, t31) (Option.some.inj hf).symm
        exact hih
      refine jLp_ind (P := fun ((z23, z24, z25, z26, M27) : Int32 × Int32 × Int32 × Int32 × JMem) => Mz a i = M27 a i) ?_ N _ y18
      rintro ⟨z23, z24, z25, z26, M27⟩ x_22 hf ih21 hx20
      show Mz a i = M27 a i
      obtain ⟨v32, ev32, hf⟩ := job hf
      by_cases hc48 : v32 ≤ (z26 + 1)
      · replace hf := jifp hc48 hf
        have hf := hx20 _ (Option.some.inj hf).symm
        obtain ⟨rfl, rfl, rfl, rfl⟩ := jp4 hf
        exact K19
      · replace hf := jifn hc48 hf
        obtain ⟨v33, ev33, hf⟩ := job hf
        show Mz a i = M27 a i
        obtain ⟨⟨u44, u45, u46, M47⟩, hf, hy35⟩ := job hf
        have K37 : Mz a i = M47 a i := by
          replace hf := hy35
          have hih : Mz a i = M47 a i := ih21 (u44, u45, u46, z26 + 1, M47) (Option.some.inj hf).symm
          exact hih
        by_cases hc43 : v33 = 0
        · replace hf := jifp hc43 hf
          obtain ⟨rfl, rfl, rfl, rfl⟩ := jp4 (Option.some.inj hf)
          exact (K37)
        · replace hf := jifn hc43 hf
          obtain ⟨⟨M39, v40⟩, ev40, hf⟩ := job hf
          refine Eq.trans ?_ (fr_X7_endBySwap ev40 a i (by omega))
          show Mz a i = M39 a i
          by_cases hc42 : v40 = ((-1))
          · replace hf := jifp hc42 hf
            obtain ⟨rfl, rfl, rfl, rfl⟩ := jp4 (Option.some.inj hf)
            exact (K37)
          · replace hf := jifn hc42 hf
            by_cases hc41 : z23 ≤ v40
            · replace hf := jifp hc41 hf
              obtain ⟨rfl, rfl, rfl, rfl⟩ := jp4 (Option.some.inj hf)
              exact (K37)
            · replace hf := jifn hc41 hf
              obtain ⟨rfl, rfl, rfl, rfl⟩ := jp4 (Option.some.inj hf)
              exact (K37)
set_option maxHeartbeats 4000000 in
theorem fr_X7_better {N : Nat} {M : JMem} {x1 : Int32} {Mz : JMem} {r : Int32} (hf : f_X7_better N M x1 = some (Mz, r)) (a i : Nat) (hA : ¬ ((35 ≤ a ∧ a ≤ 42) ∨ (a = 54 ∧ i = 4) ∨ (a = 54 ∧ i = 6) ∨ a = 55 ∨ a = 56 ∨ a = 59 ∨ a = 60 ∨ a = 61 ∨ a = 62 ∨ a = 63 ∨ (a = 64 ∧ i = 4) ∨ (a = 64 ∧ i = 6) ∨ a = 65 ∨ a = 69 ∨ a = 70 ∨ a = 71 ∨ a = 72 ∨ a = 73)) : Mz a i = M a i := by
  unfold f_X7_better at hf
  obtain ⟨v1, ev1, hf⟩ := job hf
  show Mz a i = M a i
  by_cases hc19 : v1 = 0
  · replace hf := jifp hc19 hf
    obtain ⟨⟨M2, v3⟩, ev3, hf⟩ := job hf
    refine Eq.trans ?_ (fr_X7_hasTails ev3 a i (by omega))
    show Mz a i = M2 a i
    by_cases hc18 : v3 = 0
    · replace hf := jifp hc18 hf
      obtain ⟨rfl, rfl⟩ := Prod.mk.inj (Option.some.inj hf)
      rfl
    · replace hf := jifn hc18 hf
      obtain ⟨⟨t12, t13⟩, y5, hy4⟩ := job hf
      have K6 : Mz a i = t13 a i := by
        replace hf := hy4
        obtain ⟨rfl, rfl⟩ := Prod.mk.inj (Option.some.inj hf)
        rfl
      refine jLp_ind (P := fun ((z10, M11) : Int32 × JMem) => Mz a i = M11 a i) ?_ N _ y5
      rintro ⟨z10, M11⟩ x_9 hf ih8 hx7
      show Mz a i = M11 a i
      by_cases hc17 : x1 ≤ z10
      · replace hf := jifp hc17 hf
        have hf := hx7 _ (Option.some.inj hf).symm
        obtain ⟨rfl, rfl⟩ := jp2 hf
        exact K6
      · replace hf := jifn hc17 hf
        obtain ⟨⟨M14, v15⟩, ev15, hf⟩ := job hf
        refine Eq.trans ?_ (fr_X7_shorten ev15 a i (by omega))
        show Mz a i = M14 a i
        by_cases hc16 : v15 = 0
        · replace hf := jifp hc16 hf
          have hf := hx7 _ (Option.some.inj hf).symm
          obtain ⟨rfl, rfl⟩ := jp2 hf
          exact K6
        · replace hf := jifn hc16 hf
          have hih : Mz a i = M14 a i := ih8 (z10 + 1, M14) (Option.some.inj hf).symm
          exact hih
  · replace hf := jifn hc19 hf
    obtain ⟨rfl, rfl⟩ := Prod.mk.inj (Option.some.inj hf)
    rfl
set_option maxHeartbeats 4000000 in
theorem fr_X7_windows {N : Nat} {M : JMem} {x1 : Int32} {Mz : JMem} {r : Int32} (hf : f_X7_windows N M x1 = some (Mz, r)) (a i : Nat) (hA : ¬ ((a = 74 ∧ i = 3) ∨ (a = 74 ∧ i = 4) ∨ (a = 74 ∧ i = 5) ∨ a = 75 ∨ a = 76 ∨ a = 77)) : Mz a i = M a i := by
  unfold f_X7_windows at hf
  obtain ⟨v1, ev1, hf⟩ := job hf
  show Mz a i = M a i
  by_cases hc8 : v1 = 0
  · replace hf := jifp hc8 hf
    obtain ⟨v2, ev2, hf⟩ := job hf
    show Mz a i = M a i
    by_cases hc7 : v2 = 0
    · replace hf := jifp hc7 hf
      obtain ⟨rfl, rfl⟩ := Prod.mk.inj (Option.some.inj hf)
      rfl
    · replace hf := jifn hc7 hf
      obtain ⟨M3, eM3, hf⟩ := job hf
      refine Eq.trans ?_ (by first | exact jup_fr eM3 (by omega) | exact jfl_fr eM3 (by omega))
      show Mz a i = M3 a i
      obtain ⟨⟨M4, v5⟩, ev5, hf⟩ := job hf
      refine Eq.trans ?_ (fr_X6_narrow ev5 a i (by omega))
      show Mz a i = M4 a i
      by_cases hc6 : v5 = 0
      · replace hf := jifp hc6 hf
        obtain ⟨rfl, rfl⟩ := Prod.mk.inj (Option.some.inj hf)
        rfl
      · replace hf := jifn hc6 hf
        obtain ⟨rfl, rfl⟩ := Prod.mk.inj (Option.some.inj hf)
        rfl
  · replace hf := jifn hc8 hf
    obtain ⟨rfl, rfl⟩ := Prod.mk.inj (Option.some.inj hf)
    rfl
set_option maxHeartbeats 4000000 in
theorem fr_X7_bound {N : Nat} {M : JMem} {x1 : Int32} {x2 : Int32} {Mz : JMem} {r : Int32} (hf : f_X7_bound N M x1 x2 = some (Mz, r)) (a i : Nat) (hA : ¬ ((a = 78 ∧ i = 4) ∨ a = 79 ∨ a = 80 ∨ a = 81 ∨ a = 82)) : Mz a i = M a i := by
  unfold f_X7_bound at hf
  obtain ⟨v1, ev1, hf⟩ := job hf
  show Mz a i = M a i
  by_cases hc19 : v1 = 0
  · replace hf := jifp hc19 hf
    obtain ⟨rfl, rfl⟩ := Prod.mk.inj (Option.some.inj hf)
    rfl
  · replace hf := jifn hc19 hf
    obtain ⟨v2, ev2, hf⟩ := job hf
    show Mz a i = M a i
    by_cases hc18 : v2 = 0
    · replace hf := jifp hc18 hf
      obtain ⟨v3, ev3, hf⟩ := job hf
      by_cases hc17 : v3 = 0
      · replace hf := jifp hc17 hf
        obtain ⟨y6, hf, hy5⟩ := jcb hf
        have K7 : y6 = Sum.inr () → Mz a i = M a i := by
          intro hyy
          subst hyy
          replace hf := hy5
          obtain ⟨M12, eM12, hf⟩ := job hf
          refine Eq.trans ?_ (fr_X0_takeJobs eM12 a i (by omega))
          show Mz a i = M12 a i
          obtain ⟨⟨M13, v14⟩, ev14, hf⟩ := job hf
          refine Eq.trans ?_ (fr_X0_cutBound ev14 a i (by omega))
          show Mz a i = M13 a i
          by_cases hc16 : x2 = 0
          · replace hf := jifp hc16 hf
            obtain ⟨rfl, rfl⟩ := Prod.mk.inj (Option.some.inj hf)
            rfl
          · replace hf := jifn hc16 hf
            obtain ⟨v15, ev15, hf⟩ := job hf
            show Mz a i = M13 a i
            obtain ⟨rfl, rfl⟩ := Prod.mk.inj (Option.some.inj hf)
            rfl
        by_cases hc11 : x2 = 1
        · replace hf := jifp hc11 hf
          obtain ⟨v9, ev9, hf⟩ := job hf
          by_cases hc10 : v9 ≤ 8
          · replace hf := jifp hc10 hf
            exact (K7 (Option.some.inj hf).symm)
          · replace hf := jifn hc10 hf
            obtain rfl := Option.some.inj hf
            replace hf := hy5
            obtain ⟨rfl, rfl⟩ := Prod.mk.inj (Option.some.inj hf)
            rfl
        · replace hf := jifn hc11 hf
          exact (K7 (Option.some.inj hf).symm)
      · replace hf := jifn hc17 hf
        obtain ⟨rfl, rfl⟩ := Prod.mk.inj (Option.some.inj hf)
        rfl
    · replace hf := jifn hc18 hf
      obtain ⟨rfl, rfl⟩ := Prod.mk.inj (Option.some.inj hf)
      rfl
set_option maxHeartbeats 4000000 in
theorem fr_X7_least {N : Nat} {M : JMem} {x1 : Int32} {Mz : JMem} {r : Int32} (hf : f_X7_least N M x1 = some (Mz, r)) (a i : Nat) (hA : ¬ ((a = 186 ∧ i = 3) ∨ (a = 186 ∧ i = 4) ∨ (a = 186 ∧ i = 5) ∨ a = 187 ∨ a = 188 ∨ a = 189 ∨ (192 ≤ a ∧ a ≤ 199) ∨ a = 200 ∨ (a = 201 ∧ i = 4) ∨ (a = 201 ∧ i = 6) ∨ a = 202 ∨ a = 206 ∨ a = 207 ∨ a = 208 ∨ a = 209 ∨ a = 210 ∨ (35 ≤ a ∧ a ≤ 42) ∨ a = 43 ∨ (a = 54 ∧ i = 4) ∨ (a = 54 ∧ i = 6) ∨ a = 55 ∨ a = 59 ∨ a = 60 ∨ a = 61 ∨ a = 62 ∨ a = 63 ∨ (a = 83 ∧ i = 0) ∨ (a = 83 ∧ i = 1) ∨ (a = 83 ∧ i = 2) ∨ (a = 83 ∧ i = 3) ∨ (85 ≤ a ∧ a ≤ 185))) : Mz a i = M a i := by
  unfold f_X7_least at hf
  obtain ⟨v1, ev1, hf⟩ := job hf
  show Mz a i = M a i
  by_cases hc19 : v1 = 0
  · replace hf := jifp hc19 hf
    obtain ⟨v2, ev2, hf⟩ := job hf
    show Mz a i = M a i
    by_cases hc18 : v2 = 0
    · replace hf := jifp hc18 hf
      obtain ⟨rfl, rfl⟩ := Prod.mk.inj (Option.some.inj hf)
      rfl
    · replace hf := jifn hc18 hf
      by_cases hc17 : (M 1 2) = 0
      · replace hf := jifp hc17 hf
        obtain ⟨rfl, rfl⟩ := Prod.mk.inj (Option.some.inj hf)
        rfl
      · replace hf := jifn hc17 hf
        obtain ⟨⟨M3, v4⟩, ev4, hf⟩ := job hf
        refine Eq.trans ?_ (fr_X1_work ev4 a i (by omega))
        show Mz a i = M3 a i
        obtain ⟨u12, hf, hy6⟩ := job hf
        have K8 : Mz a i = M3 a i := by
          replace hf := hy6
          obtain ⟨M13, eM13, hf⟩ := job hf
          refine Eq.trans ?_ (by first | exact jup_fr eM13 (by omega) | exact jfl_fr eM13 (by omega))
          obtain ⟨⟨M14, v15⟩, ev15, hf⟩ := job hf
          refine Eq.trans ?_ (fr_X4_seek ev15 a i (by omega))
          show Mz a i = M14 a i
          by_cases hc16 : v15 = 0
          · replace hf := jifp hc16 hf
            obtain ⟨rfl, rfl⟩ := Prod.mk.inj (Option.some.inj hf)
            rfl
          · replace hf := jifn hc16 hf
            obtain ⟨rfl, rfl⟩ := Prod.mk.inj (Option.some.inj hf)
            rfl
        by_cases hc11 : v4 = 0
        · replace hf := jifp hc11 hf
          obtain ⟨v10, ev10, hf⟩ := job hf
          show Mz a i = M3 a i
          obtain rfl := Option.some.inj hf
          exact (K8)
        · replace hf := jifn hc11 hf
          obtain rfl := Option.some.inj hf
          exact (K8)
  · replace hf := jifn hc19 hf
    obtain ⟨rfl, rfl⟩ := Prod.mk.inj (Option.some.inj hf)
    rfl
set_option maxHeartbeats 4000000 in
theorem fr_X7_fail {N : Nat} {M : JMem} {x1 : Int32} {x2 : Int32} {x3 : Int32} {Mz : JMem} {r : Int32} (hf : f_X7_fail N M x1 x2 x3 = some (Mz, r)) (a i : Nat) (hA : ¬ ((a = 0 ∧ i = 9) ∨ (a = 211 ∧ i = 4) ∨ (a = 211 ∧ i = 6) ∨ a = 212 ∨ a = 214 ∨ a = 215 ∨ a = 216 ∨ a = 217 ∨ a = 218 ∨ a = 219 ∨ a = 220 ∨ (a = 54 ∧ i = 4) ∨ (a = 54 ∧ i = 6) ∨ a = 55 ∨ a = 59 ∨ a = 60 ∨ a = 61 ∨ a = 62 ∨ a = 63)) : Mz a i = M a i := by
  unfold f_X7_fail at hf
  obtain ⟨v1, ev1, hf⟩ := job hf
  show Mz a i = M a i
  by_cases hc34 : v1 = 0
  · replace hf := jifp hc34 hf
    obtain ⟨rfl, rfl⟩ := Prod.mk.inj (Option.some.inj hf)
    rfl
  · replace hf := jifn hc34 hf
    obtain ⟨v2, ev2, hf⟩ := job hf
    show Mz a i = M a i
    by_cases hc33 : v2 = 0
    · replace hf := jifp hc33 hf
      obtain ⟨v3, ev3, hf⟩ := job hf
      show Mz a i = M a i
      by_cases hc32 : v3 = 0
      · replace hf := jifp hc32 hf
        obtain ⟨⟨M4, v5⟩, ev5, hf⟩ := job hf
        refine Eq.trans ?_ (fr_X1_work ev5 a i (by omega))
        show Mz a i = M4 a i
        by_cases hc31 : v5 = 0
        · replace hf := jifp hc31 hf
          obtain ⟨rfl, rfl⟩ := Prod.mk.inj (Option.some.inj hf)
          rfl
        · replace hf := jifn hc31 hf
          obtain ⟨M6, eM6, hf⟩ := job hf
          refine Eq.trans ?_ (by first | exact jup_fr eM6 (by omega) | exact jfl_fr eM6 (by omega))
          show Mz a i = M6 a i
          obtain ⟨M7, eM7, hf⟩ := job hf
          refine Eq.trans ?_ (jwr_fr eM7 (by omega))
          obtain ⟨t16, y9, hy8⟩ := job hf
          have K10 : Mz a i = t16 a i := by
            replace hf := hy8
            obtain ⟨⟨M28, v29⟩, ev29, hf⟩ := job hf
            refine Eq.trans ?_ (fr_X1_work ev29 a i (by omega))
            show Mz a i = M28 a i
            obtain ⟨M30, eM30, hf⟩ := job hf
            refine Eq.trans ?_ (by first | exact jup_fr eM30 (by omega) | exact jfl_fr eM30 (by omega))
            obtain ⟨rfl, rfl⟩ := Prod.mk.inj (Option.some.inj hf)
            rfl
          refine jLp_ind (P := fun ((z14, M15) : Int32 × JMem) => Mz a i = M15 a i) ?_ N _ y9
          rintro ⟨z14, M15⟩ x_13 hf ih12 hx11
          show Mz a i = M15 a i
          by_cases hc27 : (M15 1 2) ≤ z14
          · replace hf := jifp hc27 hf
            have hf := hx11 _ (Option.some.inj hf).symm
            obtain rfl := hf
            exact K10
          · replace hf := jifn hc27 hf
            obtain ⟨v17, ev17, hf⟩ := job hf
            show Mz a i = M15 a i
            obtain ⟨u25, hf, hy19⟩ := job hf
            have K21 : Mz a i = M15 a i := by
              replace hf := hy19
              obtain ⟨M26, eM26, hf⟩ := job hf
              refine Eq.trans ?_ (jwr_fr eM26 (by omega))
              have hih : Mz a i = M26 a i := ih12 (z14 + 1, M26) (Option.some.inj hf).symm
              exact hih
            by_cases hc24 : v17 = 0
            · replace hf := jifp hc24 hf
              obtain rfl := Option.some.inj hf
              exact (K21)
            · replace hf := jifn hc24 hf
              obtain ⟨v23, ev23, hf⟩ := job hf
              obtain rfl := Option.some.inj hf
              exact (K21)
      · replace hf := jifn hc32 hf
        obtain ⟨rfl, rfl⟩ := Prod.mk.inj (Option.some.inj hf)
        rfl
    · replace hf := jifn hc33 hf
      obtain ⟨rfl, rfl⟩ := Prod.mk.inj (Option.some.inj hf)
      rfl
set_option maxHeartbeats 4000000 in
theorem fr_X8_machine {M : JMem} {x1 : Int32} {x2 : Int32} {Mz : JMem} {r : Int32} (hf : f_X8_machine M x1 x2 = some (Mz, r)) (a i : Nat) (hA : ¬ ((a = 221 ∧ i = 2) ∨ a = 222 ∨ a = 223)) : Mz a i = M a i := by
  unfold f_X8_machine at hf
  show Mz a i = M a i
  by_cases hc19 : (jin3 x1.toInt64 0 3) = 0
  · replace hf := jifp hc19 hf
    obtain ⟨rfl, rfl⟩ := Prod.mk.inj (Option.some.inj hf)
    rfl
  · replace hf := jifn hc19 hf
    obtain ⟨y3, hf, hy2⟩ := jcb hf
    have K4 : y3 = Sum.inr () → Mz a i = M a i := by
      intro hyy
      subst hyy
      replace hf := hy2
      obtain ⟨y10, hf, hy9⟩ := jcb hf
      have K11 : y10 = Sum.inr () → Mz a i = M a i := by
        intro hyy
        subst hyy
        replace hf := hy9
        by_cases hc18 : (M 221 2) = 8
        · replace hf := jifp hc18 hf
          obtain ⟨rfl, rfl⟩ := Prod.mk.inj (Option.some.inj hf)
          rfl
        · replace hf := jifn hc18 hf
          obtain ⟨M15, eM15, hf⟩ := job hf
          refine Eq.trans ?_ (jwr_fr eM15 (by omega))
          obtain ⟨M16, eM16, hf⟩ := job hf
          refine Eq.trans ?_ (jwr_fr eM16 (by omega))
          obtain ⟨M17, eM17, hf⟩ := job hf
          refine Eq.trans ?_ (by first | exact jup_fr eM17 (by omega) | exact jfl_fr eM17 (by omega))
          obtain ⟨rfl, rfl⟩ := Prod.mk.inj (Option.some.inj hf)
          rfl
      by_cases hc14 : x1 = 3
      · replace hf := jifp hc14 hf
        show Mz a i = M a i
        by_cases hc13 : (jin3 x2.toInt64 1 4) = 0
        · replace hf := jifp hc13 hf
          obtain rfl := Option.some.inj hf
          replace hf := hy9
          obtain ⟨rfl, rfl⟩ := Prod.mk.inj (Option.some.inj hf)
          rfl
        · replace hf := jifn hc13 hf
          exact (K11 (Option.some.inj hf).symm)
      · replace hf := jifn hc14 hf
        exact (K11 (Option.some.inj hf).symm)
    by_cases hc7 : x1 = 2
    · replace hf := jifp hc7 hf
      show Mz a i = M a i
      by_cases hc6 : (jin3 x2.toInt64 0 100) = 0
      · replace hf := jifp hc6 hf
        obtain rfl := Option.some.inj hf
        replace hf := hy2
        obtain ⟨rfl, rfl⟩ := Prod.mk.inj (Option.some.inj hf)
        rfl
      · replace hf := jifn hc6 hf
        exact (K4 (Option.some.inj hf).symm)
    · replace hf := jifn hc7 hf
      exact (K4 (Option.some.inj hf).symm)
set_option maxHeartbeats 4000000 in
theorem fr_X8_piece {M : JMem} {x1 : Int32} {Mz : JMem} {r : Int32} (hf : f_X8_piece M x1 = some (Mz, r)) (a i : Nat) (hA : ¬ ((a = 221 ∧ i = 6) ∨ a = 224 ∨ a = 225)) : Mz a i = M a i := by
  unfold f_X8_piece at hf
  show Mz a i = M a i
  by_cases hc5 : (jin3 x1.toInt64 0 9) = 0
  · replace hf := jifp hc5 hf
    obtain ⟨rfl, rfl⟩ := Prod.mk.inj (Option.some.inj hf)
    rfl
  · replace hf := jifn hc5 hf
    by_cases hc4 : (M 221 6) = 12
    · replace hf := jifp hc4 hf
      obtain ⟨rfl, rfl⟩ := Prod.mk.inj (Option.some.inj hf)
      rfl
    · replace hf := jifn hc4 hf
      obtain ⟨M1, eM1, hf⟩ := job hf
      refine Eq.trans ?_ (jwr_fr eM1 (by omega))
      obtain ⟨M2, eM2, hf⟩ := job hf
      refine Eq.trans ?_ (jwr_fr eM2 (by omega))
      obtain ⟨M3, eM3, hf⟩ := job hf
      refine Eq.trans ?_ (by first | exact jup_fr eM3 (by omega) | exact jfl_fr eM3 (by omega))
      obtain ⟨rfl, rfl⟩ := Prod.mk.inj (Option.some.inj hf)
      rfl
set_option maxHeartbeats 4000000 in
theorem fr_X8_more {M : JMem} {x1 : Int32} {x2 : Int32} {x3 : Int32} {Mz : JMem} {r : Int32} (hf : f_X8_more M x1 x2 x3 = some (Mz, r)) (a i : Nat) (hA : ¬ ((a = 221 ∧ i = 11) ∨ a = 225 ∨ a = 226 ∨ a = 227 ∨ a = 228 ∨ a = 229 ∨ a = 230 ∨ a = 231 ∨ a = 232)) : Mz a i = M a i := by
  unfold f_X8_more at hf
  obtain ⟨M1, eM1, hf⟩ := job hf
  refine Eq.trans ?_ (jwr_fr eM1 (by omega))
  obtain ⟨M2, eM2, hf⟩ := job hf
  refine Eq.trans ?_ (jwr_fr eM2 (by omega))
  obtain ⟨M3, eM3, hf⟩ := job hf
  refine Eq.trans ?_ (jwr_fr eM3 (by omega))
  obtain ⟨v4, ev4, hf⟩ := job hf
  obtain ⟨M5, eM5, hf⟩ := job hf
  refine Eq.trans ?_ (jwr_fr eM5 (by omega))
  obtain ⟨v6, ev6, hf⟩ := job hf
  obtain ⟨M7, eM7, hf⟩ := job hf
  refine Eq.trans ?_ (jwr_fr eM7 (by omega))
  obtain ⟨v8, ev8, hf⟩ := job hf
  obtain ⟨M9, eM9, hf⟩ := job hf
  refine Eq.trans ?_ (jwr_fr eM9 (by omega))
  obtain ⟨v10, ev10, hf⟩ := job hf
  obtain ⟨M11, eM11, hf⟩ := job hf
  refine Eq.trans ?_ (jwr_fr eM11 (by omega))
  obtain ⟨v12, ev12, hf⟩ := job hf
  obtain ⟨M13, eM13, hf⟩ := job hf
  refine Eq.trans ?_ (jwr_fr eM13 (by omega))
  obtain ⟨M14, eM14, hf⟩ := job hf
  refine Eq.trans ?_ (by first | exact jup_fr eM14 (by omega) | exact jfl_fr eM14 (by omega))
  obtain ⟨rfl, rfl⟩ := Prod.mk.inj (Option.some.inj hf)
  rfl
set_option maxHeartbeats 4000000 in
theorem fr_X8_step {M : JMem} {x1 : Int32} {x2 : Int32} {x3 : Int32} {Mz : JMem} {r : Int32} (hf : f_X8_step M x1 x2 x3 = some (Mz, r)) (a i : Nat) (hA : ¬ ((a = 221 ∧ i = 11) ∨ a = 225 ∨ a = 226 ∨ a = 227 ∨ a = 228 ∨ a = 229 ∨ a = 230 ∨ a = 231 ∨ a = 232)) : Mz a i = M a i := by
  unfold f_X8_step at hf
  show Mz a i = M a i
  by_cases hc13 : (jin3 x1.toInt64 0 (((M 221 6) - 1).toInt64)) = 0
  · replace hf := jifp hc13 hf
    obtain ⟨rfl, rfl⟩ := Prod.mk.inj (Option.some.inj hf)
    rfl
  · replace hf := jifn hc13 hf
    show Mz a i = M a i
    by_cases hc12 : (jin3 x2.toInt64 0 (((M 221 2) - 1).toInt64)) = 0
    · replace hf := jifp hc12 hf
      obtain ⟨rfl, rfl⟩ := Prod.mk.inj (Option.some.inj hf)
      rfl
    · replace hf := jifn hc12 hf
      show Mz a i = M a i
      by_cases hc11 : (jin3 x3.toInt64 1 1000) = 0
      · replace hf := jifp hc11 hf
        obtain ⟨rfl, rfl⟩ := Prod.mk.inj (Option.some.inj hf)
        rfl
      · replace hf := jifn hc11 hf
        obtain ⟨v1, ev1, hf⟩ := job hf
        obtain ⟨y4, hf, hy3⟩ := jcb hf
        have K5 : y4 = Sum.inr () → Mz a i = M a i := by
          intro hyy
          subst hyy
          replace hf := hy3
          obtain ⟨rfl, rfl⟩ := Prod.mk.inj (Option.some.inj hf)
          rfl
        by_cases hc10 : v1 = 8
        · replace hf := jifp hc10 hf
          exact (K5 (Option.some.inj hf).symm)
        · replace hf := jifn hc10 hf
          by_cases hc9 : (M 221 11) = 32
          · replace hf := jifp hc9 hf
            exact (K5 (Option.some.inj hf).symm)
          · replace hf := jifn hc9 hf
            obtain ⟨⟨M7, v8⟩, ev8, hf⟩ := job hf
            refine Eq.trans ?_ (fr_X8_more ev8 a i (by omega))
            show Mz a i = M7 a i
            obtain rfl := Option.some.inj hf
            replace hf := hy3
            obtain ⟨rfl, rfl⟩ := Prod.mk.inj (Option.some.inj hf)
            rfl
set_option maxHeartbeats 4000000 in
theorem fr_X8_sheet {N : Nat} {M : JMem} {x1 : Int32} {x2 : Int32} {x3 : Int32} {Mz : JMem} {r : Int32} (hf : f_X8_sheet N M x1 x2 x3 = some (Mz, r)) (a i : Nat) (hA : ¬ ((a = 221 ∧ i = 14) ∨ a = 233 ∨ a = 234 ∨ a = 235)) : Mz a i = M a i := by
  unfold f_X8_sheet at hf
  obtain ⟨v1, ev1, hf⟩ := job hf
  show Mz a i = M a i
  by_cases hc26 : v1 = 0
  · replace hf := jifp hc26 hf
    obtain ⟨rfl, rfl⟩ := Prod.mk.inj (Option.some.inj hf)
    rfl
  · replace hf := jifn hc26 hf
    show Mz a i = M a i
    by_cases hc25 : (jin3 x2.toInt64 0 2) = 0
    · replace hf := jifp hc25 hf
      obtain ⟨rfl, rfl⟩ := Prod.mk.inj (Option.some.inj hf)
      rfl
    · replace hf := jifn hc25 hf
      by_cases hc24 : x3 ≤ 40
      · replace hf := jifp hc24 hf
        obtain ⟨u8, hf, hy3⟩ := job hf
        have K5 : Mz a i = M a i := by
          replace hf := hy3
          obtain ⟨M9, eM9, hf⟩ := job hf
          refine Eq.trans ?_ (by first | exact jup_fr eM9 (by omega) | exact jfl_fr eM9 (by omega))
          by_cases hc23 : (M9 221 14) ≤ 0
          · replace hf := jifp hc23 hf
            obtain ⟨M10, eM10, hf⟩ := job hf
            refine Eq.trans ?_ (jwr_fr eM10 (by omega))
            obtain ⟨M11, eM11, hf⟩ := job hf
            refine Eq.trans ?_ (jwr_fr eM11 (by omega))
            obtain ⟨t20, y13, hy12⟩ := job hf
            have K14 : Mz a i = t20 a i := by
              replace hf := hy12
              obtain ⟨rfl, rfl⟩ := Prod.mk.inj (Option.some.inj hf)
              rfl
            refine jLp_ind (P := fun ((z18, M19) : Int32 × JMem) => Mz a i = M19 a i) ?_ N _ y13
            rintro ⟨z18, M19⟩ x_17 hf ih16 hx15
            show Mz a i = M19 a i
            by_cases hc22 : x3 ≤ z18
            · replace hf := jifp hc22 hf
              have hf := hx15 _ (Option.some.inj hf).symm
              obtain rfl := hf
              exact K14
            · replace hf := jifn hc22 hf
              obtain ⟨M21, eM21, hf⟩ := job hf
              refine Eq.trans ?_ (jwr_fr eM21 (by omega))
              have hih : Mz a i = M21 a i := ih16 (z18 + 1, M21) (Option.some.inj hf).symm
              exact hih
          · replace hf := jifn hc23 hf
            obtain ⟨rfl, rfl⟩ := Prod.mk.inj (Option.some.inj hf)
            rfl
        by_cases hc7 : 0 ≤ x3
        · replace hf := jifp hc7 hf
          obtain rfl := Option.some.inj hf
          exact (K5)
        · replace hf := jifn hc7 hf
          obtain rfl := Option.some.inj hf
          exact (K5)
      · replace hf := jifn hc24 hf
        obtain ⟨rfl, rfl⟩ := Prod.mk.inj (Option.some.inj hf)
        rfl
set_option maxHeartbeats 4000000 in
theorem fr_X8_tear {M : JMem} {x1 : Int32} {Mz : JMem} {r : Int32} (hf : f_X8_tear M x1 = some (Mz, r)) (a i : Nat) (hA : ¬ (a = 233)) : Mz a i = M a i := by
  unfold f_X8_tear at hf
  obtain ⟨v1, ev1, hf⟩ := job hf
  show Mz a i = M a i
  by_cases hc11 : v1 = 0
  · replace hf := jifp hc11 hf
    obtain ⟨rfl, rfl⟩ := Prod.mk.inj (Option.some.inj hf)
    rfl
  · replace hf := jifn hc11 hf
    obtain ⟨v2, ev2, hf⟩ := job hf
    obtain ⟨u9, hf, hy4⟩ := job hf
    have K6 : (hbu9 : u9 = 0 ∨ u9 = 1) → Mz a i = M a i := by
      intro hbu9
      replace hf := hy4
      obtain ⟨M10, eM10, hf⟩ := job hf
      refine Eq.trans ?_ (jwr_fr eM10 (by omega))
      obtain ⟨rfl, rfl⟩ := Prod.mk.inj (Option.some.inj hf)
      rfl
    by_cases hc8 : 0 ≤ v2
    · replace hf := jifp hc8 hf
      obtain rfl := Option.some.inj hf
      exact (K6 (Or.inr rfl))
    · replace hf := jifn hc8 hf
      obtain rfl := Option.some.inj hf
      exact (K6 (Or.inl rfl))
set_option maxHeartbeats 4000000 in
theorem fr_X8_put {M : JMem} {x1 : Int32} {x2 : Int32} {x3 : Int32} {x4 : Int32} {Mz : JMem} {r : Int32} (hf : f_X8_put M x1 x2 x3 x4 = some (Mz, r)) (a i : Nat) (hA : ¬ ((a = 221 ∧ i = 14) ∨ a = 235)) : Mz a i = M a i := by
  unfold f_X8_put at hf
  obtain ⟨v1, ev1, hf⟩ := job hf
  show Mz a i = M a i
  by_cases hc27 : v1 = 0
  · replace hf := jifp hc27 hf
    obtain ⟨rfl, rfl⟩ := Prod.mk.inj (Option.some.inj hf)
    rfl
  · replace hf := jifn hc27 hf
    show Mz a i = M a i
    by_cases hc26 : (jin3 x2.toInt64 0 2) = 0
    · replace hf := jifp hc26 hf
      obtain ⟨rfl, rfl⟩ := Prod.mk.inj (Option.some.inj hf)
      rfl
    · replace hf := jifn hc26 hf
      obtain ⟨v2, ev2, hf⟩ := job hf
      obtain ⟨u13, hf, hy4⟩ := job hf
      have K6 : Mz a i = M a i := by
        replace hf := hy4
        obtain ⟨M14, eM14, hf⟩ := job hf
        refine Eq.trans ?_ (by first | exact jup_fr eM14 (by omega) | exact jfl_fr eM14 (by omega))
        by_cases hc25 : (M14 221 14) ≤ 0
        · replace hf := jifp hc25 hf
          obtain ⟨u22, hf, hy16⟩ := job hf
          have K18 : Mz a i = M14 a i := by
            replace hf := hy16
            obtain ⟨M23, eM23, hf⟩ := job hf
            refine Eq.trans ?_ (jwr_fr eM23 (by omega))
            obtain ⟨v24, ev24, hf⟩ := job hf
            obtain ⟨rfl, rfl⟩ := Prod.mk.inj (Option.some.inj hf)
            rfl
          by_cases hc21 : x2 = 0
          · replace hf := jifp hc21 hf
            obtain rfl := Option.some.inj hf
            exact (K18)
          · replace hf := jifn hc21 hf
            by_cases hc20 : x2 = 1
            · replace hf := jifp hc20 hf
              obtain rfl := Option.some.inj hf
              exact (K18)
            · replace hf := jifn hc20 hf
              obtain rfl := Option.some.inj hf
              exact (K18)
        · replace hf := jifn hc25 hf
          obtain ⟨rfl, rfl⟩ := Prod.mk.inj (Option.some.inj hf)
          rfl
      by_cases hc12 : 0 ≤ v2
      · replace hf := jifp hc12 hf
        obtain ⟨v8, ev8, hf⟩ := job hf
        by_cases hc11 : v8 = x2
        · replace hf := jifp hc11 hf
          obtain ⟨v9, ev9, hf⟩ := job hf
          show Mz a i = M a i
          by_cases hc10 : (jin3 x3.toInt64 0 ((v9 - 1).toInt64)) = 0
          · replace hf := jifp hc10 hf
            obtain rfl := Option.some.inj hf
            exact (K6)
          · replace hf := jifn hc10 hf
            obtain rfl := Option.some.inj hf
            exact (K6)
        · replace hf := jifn hc11 hf
          obtain rfl := Option.some.inj hf
          exact (K6)
      · replace hf := jifn hc12 hf
        obtain rfl := Option.some.inj hf
        exact (K6)
set_option maxHeartbeats 4000000 in
theorem fr_X8_at {M : JMem} {x1 : Int32} {x2 : Int32} {Mz : JMem} {r : Int32} (hf : f_X8_at M x1 x2 = some (Mz, r)) (a i : Nat) (hA : ¬ ((a = 221 ∧ i = 14))) : Mz a i = M a i := by
  unfold f_X8_at at hf
  obtain ⟨v1, ev1, hf⟩ := job hf
  show Mz a i = M a i
  by_cases hc15 : v1 = 0
  · replace hf := jifp hc15 hf
    obtain ⟨rfl, rfl⟩ := Prod.mk.inj (Option.some.inj hf)
    rfl
  · replace hf := jifn hc15 hf
    obtain ⟨v2, ev2, hf⟩ := job hf
    obtain ⟨u11, hf, hy4⟩ := job hf
    have K6 : Mz a i = M a i := by
      replace hf := hy4
      obtain ⟨M12, eM12, hf⟩ := job hf
      refine Eq.trans ?_ (by first | exact jup_fr eM12 (by omega) | exact jfl_fr eM12 (by omega))
      by_cases hc14 : (M12 221 14) ≤ 0
      · replace hf := jifp hc14 hf
        obtain ⟨v13, ev13, hf⟩ := job hf
        obtain ⟨rfl, rfl⟩ := Prod.mk.inj (Option.some.inj hf)
        rfl
      · replace hf := jifn hc14 hf
        obtain ⟨rfl, rfl⟩ := Prod.mk.inj (Option.some.inj hf)
        rfl
    by_cases hc10 : 0 ≤ v2
    · replace hf := jifp hc10 hf
      obtain ⟨v8, ev8, hf⟩ := job hf
      show Mz a i = M a i
      by_cases hc9 : (jin3 x2.toInt64 0 ((v8 - 1).toInt64)) = 0
      · replace hf := jifp hc9 hf
        obtain rfl := Option.some.inj hf
        exact (K6)
      · replace hf := jifn hc9 hf
        obtain rfl := Option.some.inj hf
        exact (K6)
    · replace hf := jifn hc10 hf
      obtain rfl := Option.some.inj hf
      exact (K6)
set_option maxHeartbeats 4000000 in
theorem fr_X8_copy {N : Nat} {M : JMem} {x1 : Int32} {x2 : Int32} {x3 : Int32} {x4 : Int32} {x5 : Int32} {Mz : JMem} {r : Int32} (hf : f_X8_copy N M x1 x2 x3 x4 x5 = some (Mz, r)) (a i : Nat) (hA : ¬ ((a = 221 ∧ i = 14) ∨ a = 235 ∨ a = 236)) : Mz a i = M a i := by
  unfold f_X8_copy at hf
  obtain ⟨v1, ev1, hf⟩ := job hf
  show Mz a i = M a i
  by_cases hc67 : v1 = 0
  · replace hf := jifp hc67 hf
    obtain ⟨rfl, rfl⟩ := Prod.mk.inj (Option.some.inj hf)
    rfl
  · replace hf := jifn hc67 hf
    obtain ⟨v2, ev2, hf⟩ := job hf
    show Mz a i = M a i
    by_cases hc66 : v2 = 0
    · replace hf := jifp hc66 hf
      obtain ⟨rfl, rfl⟩ := Prod.mk.inj (Option.some.inj hf)
      rfl
    · replace hf := jifn hc66 hf
      obtain ⟨u20, hf, hy4⟩ := job hf
      have K6 : (hbu20 : u20 = 0 ∨ u20 = 1) → Mz a i = M a i := by
        intro hbu20
        replace hf := hy4
        obtain ⟨v21, ev21, hf⟩ := job hf
        obtain ⟨u39, hf, hy23⟩ := job hf
        have K25 : Mz a i = M a i := by
          replace hf := hy23
          obtain ⟨M40, eM40, hf⟩ := job hf
          refine Eq.trans ?_ (by first | exact jup_fr eM40 (by omega) | exact jfl_fr eM40 (by omega))
          by_cases hc65 : (M40 221 14) ≤ 0
          · replace hf := jifp hc65 hf
            obtain ⟨t49, y42, hy41⟩ := job hf
            have K43 : Mz a i = t49 a i := by
              replace hf := hy41
              obtain ⟨t61, y54, hy53⟩ := job hf
              have K55 : Mz a i = t61 a i := by
                replace hf := hy53
                obtain ⟨rfl, rfl⟩ := Prod.mk.inj (Option.some.inj hf)
                rfl
              refine jLp_ind (P := fun ((z59, M60) : Int32 × JMem) => Mz a i = M60 a i) ?_ N _ y54
              rintro ⟨z59, M60⟩ x_58 hf ih57 hx56
              show Mz a i = M60 a i
              by_cases hc64 : x5 ≤ z59
              · replace hf := jifp hc64 hf
                have hf := hx56 _ (Option.some.inj hf).symm
                obtain rfl := hf
                exact K55
              · replace hf := jifn hc64 hf
                obtain ⟨v62, ev62, hf⟩ := job hf
                obtain ⟨M63, eM63, hf⟩ := job hf
                refine Eq.trans ?_ (jwr_fr eM63 (by omega))
                have hih : Mz a i = M63 a i := ih57 (z59 + 1, M63) (Option.some.inj hf).symm
                exact hih
            refine jLp_ind (P := fun ((z47, M48) : Int32 × JMem) => Mz a i = M48 a i) ?_ N _ y42
            rintro ⟨z47, M48⟩ x_46 hf ih45 hx44
            show Mz a i = M48 a i
            by_cases hc52 : x5 ≤ z47
            · replace hf := jifp hc52 hf
              have hf := hx44 _ (Option.some.inj hf).symm
              obtain rfl := hf
              exact K43
            · replace hf := jifn hc52 hf
              obtain ⟨v50, ev50, hf⟩ := job hf
              obtain ⟨M51, eM51, hf⟩ := job hf
              refine Eq.trans ?_ (jwr_fr eM51 (by omega))
              have hih : Mz a i = M51 a i := ih45 (z47 + 1, M51) (Option.some.inj hf).symm
              exact hih
          · replace hf := jifn hc65 hf
            obtain ⟨rfl, rfl⟩ := Prod.mk.inj (Option.some.inj hf)
            rfl
        obtain ⟨y29, hf, hy28⟩ := jcb hf
        have K30 : y29 = Sum.inr () → Mz a i = M a i := by
          intro hyy
          subst hyy
          replace hf := hy28
          obtain rfl := Option.some.inj hf
          exact (K25)
        by_cases hc38 : v21 < 0
        · replace hf := jifp hc38 hf
          exact (K30 (Option.some.inj hf).symm)
        · replace hf := jifn hc38 hf
          obtain ⟨v32, ev32, hf⟩ := job hf
          by_cases hc37 : 0 ≤ v32
          · replace hf := jifp hc37 hf
            obtain ⟨v33, ev33, hf⟩ := job hf
            obtain ⟨v34, ev34, hf⟩ := job hf
            by_cases hc36 : v33 = v34
            · replace hf := jifp hc36 hf
              by_cases hc35 : u20 = 0
              · replace hf := jifp hc35 hf
                obtain rfl := Option.some.inj hf
                replace hf := hy28
                obtain rfl := Option.some.inj hf
                exact (K25)
              · replace hf := jifn hc35 hf
                obtain rfl := Option.some.inj hf
                replace hf := hy28
                obtain rfl := Option.some.inj hf
                exact (K25)
            · replace hf := jifn hc36 hf
              obtain rfl := Option.some.inj hf
              replace hf := hy28
              obtain rfl := Option.some.inj hf
              exact (K25)
          · replace hf := jifn hc37 hf
            exact (K30 (Option.some.inj hf).symm)
      obtain ⟨y10, hf, hy9⟩ := jcb hf
      have K11 : y10 = Sum.inr () → Mz a i = M a i := by
        intro hyy
        subst hyy
        replace hf := hy9
        obtain rfl := Option.some.inj hf
        exact (K6 (Or.inl rfl))
      by_cases hc19 : x2 < 0
      · replace hf := jifp hc19 hf
        exact (K11 (Option.some.inj hf).symm)
      · replace hf := jifn hc19 hf
        by_cases hc18 : x4 < 0
        · replace hf := jifp hc18 hf
          exact (K11 (Option.some.inj hf).symm)
        · replace hf := jifn hc18 hf
          by_cases hc17 : x5 < 0
          · replace hf := jifp hc17 hf
            exact (K11 (Option.some.inj hf).symm)
          · replace hf := jifn hc17 hf
            obtain ⟨v13, ev13, hf⟩ := job hf
            by_cases hc16 : 0 < (lg_cmp (x2.toInt64 + x5.toInt64) v13.toInt64)
            · replace hf := jifp hc16 hf
              exact (K11 (Option.some.inj hf).symm)
            · replace hf := jifn hc16 hf
              obtain ⟨v14, ev14, hf⟩ := job hf
              by_cases hc15 : 0 < (lg_cmp (x4.toInt64 + x5.toInt64) v14.toInt64)
              · replace hf := jifp hc15 hf
                exact (K11 (Option.some.inj hf).symm)
              · replace hf := jifn hc15 hf
                obtain rfl := Option.some.inj hf
                replace hf := hy9
                obtain rfl := Option.some.inj hf
                exact (K6 (Or.inr rfl))
set_option maxHeartbeats 4000000 in
theorem fr_X8_read {N : Nat} {M : JMem} {x1 : Int32} {x2 : Int32} {Mz : JMem} {r : Int32} (hf : f_X8_read N M x1 x2 = some (Mz, r)) (a i : Nat) (hA : ¬ ((a = 221 ∧ i = 11) ∨ (a = 221 ∧ i = 14) ∨ (a = 221 ∧ i = 6) ∨ a = 224 ∨ a = 225 ∨ a = 226 ∨ a = 227 ∨ a = 228 ∨ a = 229 ∨ a = 230 ∨ a = 231 ∨ a = 232)) : Mz a i = M a i := by
  unfold f_X8_read at hf
  obtain ⟨v1, ev1, hf⟩ := job hf
  show Mz a i = M a i
  by_cases hc64 : v1 = 0
  · replace hf := jifp hc64 hf
    obtain ⟨rfl, rfl⟩ := Prod.mk.inj (Option.some.inj hf)
    rfl
  · replace hf := jifn hc64 hf
    show Mz a i = M a i
    by_cases hc63 : (jin3 x2.toInt64 0 9) = 0
    · replace hf := jifp hc63 hf
      obtain ⟨rfl, rfl⟩ := Prod.mk.inj (Option.some.inj hf)
      rfl
    · replace hf := jifn hc63 hf
      obtain ⟨v2, ev2, hf⟩ := job hf
      obtain ⟨u11, hf, hy4⟩ := job hf
      have K6 : Mz a i = M a i := by
        replace hf := hy4
        by_cases hc62 : u11 ≤ 0
        · replace hf := jifp hc62 hf
          obtain ⟨v12, ev12, hf⟩ := job hf
          obtain ⟨t21, y14, hy13⟩ := job hf
          have K15 : Mz a i = M a i := by
            replace hf := hy13
            by_cases hc60 : t21 = 0
            · replace hf := jifp hc60 hf
              obtain ⟨rfl, rfl⟩ := Prod.mk.inj (Option.some.inj hf)
              rfl
            · replace hf := jifn hc60 hf
              by_cases hc59 : (M 221 6) = 12
              · replace hf := jifp hc59 hf
                obtain ⟨rfl, rfl⟩ := Prod.mk.inj (Option.some.inj hf)
                rfl
              · replace hf := jifn hc59 hf
                by_cases hc58 : 8 < (v12 / 2)
                · replace hf := jifp hc58 hf
                  obtain ⟨rfl, rfl⟩ := Prod.mk.inj (Option.some.inj hf)
                  rfl
                · replace hf := jifn hc58 hf
                  by_cases hc57 : ((M 221 11) + (v12 / 2)) ≤ 32
                  · replace hf := jifp hc57 hf
                    obtain ⟨M39, eM39, hf⟩ := job hf
                    refine Eq.trans ?_ (by first | exact jup_fr eM39 (by omega) | exact jfl_fr eM39 (by omega))
                    obtain ⟨M40, eM40, hf⟩ := job hf
                    refine Eq.trans ?_ (jwr_fr eM40 (by omega))
                    obtain ⟨M41, eM41, hf⟩ := job hf
                    refine Eq.trans ?_ (jwr_fr eM41 (by omega))
                    obtain ⟨M42, eM42, hf⟩ := job hf
                    refine Eq.trans ?_ (by first | exact jup_fr eM42 (by omega) | exact jfl_fr eM42 (by omega))
                    obtain ⟨t51, y44, hy43⟩ := job hf
                    have K45 : Mz a i = t51 a i := by
                      replace hf := hy43
                      obtain ⟨rfl, rfl⟩ := Prod.mk.inj (Option.some.inj hf)
                      rfl
                    refine jLp_ind (P := fun ((z49, M50) : Int32 × JMem) => Mz a i = M50 a i) ?_ N _ y44
                    rintro ⟨z49, M50⟩ x_48 hf ih47 hx46
                    show Mz a i = M50 a i
                    by_cases hc56 : (v12 / 2) ≤ z49
                    · replace hf := jifp hc56 hf
                      have hf := hx46 _ (Option.some.inj hf).symm
                      obtain rfl := hf
                      exact K45
                    · replace hf := jifn hc56 hf
                      obtain ⟨v52, ev52, hf⟩ := job hf
                      obtain ⟨v53, ev53, hf⟩ := job hf
                      obtain ⟨⟨M54, v55⟩, ev55, hf⟩ := job hf
                      refine Eq.trans ?_ (fr_X8_more ev55 a i (by omega))
                      show Mz a i = M54 a i
                      have hih : Mz a i = M54 a i := ih47 (z49 + 1, M54) (Option.some.inj hf).symm
                      exact hih
                  · replace hf := jifn hc57 hf
                    obtain ⟨rfl, rfl⟩ := Prod.mk.inj (Option.some.inj hf)
                    rfl
          refine jLp_ind (P := fun ((z19, z20) : Int32 × Int32) => Mz a i = M a i) ?_ N _ y14
          rintro ⟨z19, z20⟩ x_18 hf ih17 hx16
          show Mz a i = M a i
          by_cases hc38 : (v12 / 2) ≤ z20
          · replace hf := jifp hc38 hf
            have hf := hx16 _ (Option.some.inj hf).symm
            obtain rfl := hf
            exact K15
          · replace hf := jifn hc38 hf
            obtain ⟨u37, hf, hy23⟩ := job hf
            have K25 : (hbu37 : u37 = 0 ∨ u37 = 1) → Mz a i = M a i := by
              intro hbu37
              replace hf := hy23
              have hih : Mz a i = M a i := ih17 (u37, z20 + 1) (Option.some.inj hf).symm
              exact hih
            obtain ⟨y29, hf, hy28⟩ := jcb hf
            have K30 : y29 = Sum.inr () → Mz a i = M a i := by
              intro hyy
              subst hyy
              replace hf := hy28
              obtain rfl := Option.some.inj hf
              exact (K25 (Or.inl rfl))
            by_cases hc36 : z19 = 0
            · replace hf := jifp hc36 hf
              exact (K30 (Option.some.inj hf).symm)
            · replace hf := jifn hc36 hf
              obtain ⟨v32, ev32, hf⟩ := job hf
              show Mz a i = M a i
              by_cases hc35 : (jin3 v32.toInt64 0 (((M 221 2) - 1).toInt64)) = 0
              · replace hf := jifp hc35 hf
                exact (K30 (Option.some.inj hf).symm)
              · replace hf := jifn hc35 hf
                obtain ⟨v33, ev33, hf⟩ := job hf
                show Mz a i = M a i
                by_cases hc34 : (jin3 v33.toInt64 1 1000) = 0
                · replace hf := jifp hc34 hf
                  exact (K30 (Option.some.inj hf).symm)
                · replace hf := jifn hc34 hf
                  obtain rfl := Option.some.inj hf
                  replace hf := hy28
                  obtain rfl := Option.some.inj hf
                  exact (K25 (Or.inr rfl))
        · replace hf := jifn hc62 hf
          obtain ⟨M61, eM61, hf⟩ := job hf
          refine Eq.trans ?_ (by first | exact jup_fr eM61 (by omega) | exact jfl_fr eM61 (by omega))
          obtain ⟨rfl, rfl⟩ := Prod.mk.inj (Option.some.inj hf)
          rfl
      by_cases hc10 : 0 ≤ v2
      · replace hf := jifp hc10 hf
        obtain ⟨v8, ev8, hf⟩ := job hf
        by_cases hc9 : (v8 - v8 / 2 * 2) = 0
        · replace hf := jifp hc9 hf
          obtain rfl := Option.some.inj hf
          exact (K6)
        · replace hf := jifn hc9 hf
          obtain rfl := Option.some.inj hf
          exact (K6)
      · replace hf := jifn hc10 hf
        obtain rfl := Option.some.inj hf
        exact (K6)
set_option maxHeartbeats 4000000 in
theorem fr_X8_fromOrder {N : Nat} {M : JMem} {x1 : Int32} {x2 : Int32} {x3 : Int32} {Mz : JMem} {r : Int32} (hf : f_X8_fromOrder N M x1 x2 x3 = some (Mz, r)) (a i : Nat) (hA : ¬ (a = 239)) : Mz a i = M a i := by
  unfold f_X8_fromOrder at hf
  obtain ⟨v1, ev1, hf⟩ := job hf
  by_cases hc68 : v1 = 1
  · replace hf := jifp hc68 hf
    obtain ⟨rfl, rfl⟩ := Prod.mk.inj (Option.some.inj hf)
    rfl
  · replace hf := jifn hc68 hf
    by_cases hc67 : x2 = 0
    · replace hf := jifp hc67 hf
      obtain ⟨rfl, rfl⟩ := Prod.mk.inj (Option.some.inj hf)
      rfl
    · replace hf := jifn hc67 hf
      obtain ⟨v2, ev2, hf⟩ := job hf
      obtain ⟨v3, ev3, hf⟩ := job hf
      by_cases hc66 : v3 = 3
      · replace hf := jifp hc66 hf
        obtain ⟨v4, ev4, hf⟩ := job hf
        obtain ⟨v5, ev5, hf⟩ := job hf
        by_cases hc44 : x2 < v5
        · replace hf := jifp hc44 hf
          obtain ⟨rfl, rfl⟩ := Prod.mk.inj (Option.some.inj hf)
          rfl
        · replace hf := jifn hc44 hf
          obtain ⟨t14, y7, hy6⟩ := job hf
          have K8 : Mz a i = t14 a i := by
            replace hf := hy6
            obtain ⟨v35, ev35, hf⟩ := job hf
            obtain ⟨u43, hf, hy37⟩ := job hf
            have K39 : Mz a i = t14 a i := by
              replace hf := hy37
              obtain ⟨rfl, rfl⟩ := Prod.mk.inj (Option.some.inj hf)
              rfl
            by_cases hc42 : v35 ≤ v4
            · replace hf := jifp hc42 hf
              obtain rfl := Option.some.inj hf
              exact (K39)
            · replace hf := jifn hc42 hf
              obtain ⟨v41, ev41, hf⟩ := job hf
              obtain rfl := Option.some.inj hf
              exact (K39)
          refine jLp_ind (P := fun ((z12, M13) : Int32 × JMem) => Mz a i = M13 a i) ?_ N _ y7
          rintro ⟨z12, M13⟩ x_11 hf ih10 hx9
          show Mz a i = M13 a i
          by_cases hc34 : x2 ≤ z12
          · replace hf := jifp hc34 hf
            have hf := hx9 _ (Option.some.inj hf).symm
            obtain rfl := hf
            exact K8
          · replace hf := jifn hc34 hf
            obtain ⟨v15, ev15, hf⟩ := job hf
            obtain ⟨v16, ev16, hf⟩ := job hf
            obtain ⟨v17, ev17, hf⟩ := job hf
            obtain ⟨⟨t26, t27⟩, y19, hy18⟩ := job hf
            have K20 : Mz a i = t27 a i := by
              replace hf := hy18
              obtain ⟨M33, eM33, hf⟩ := job hf
              refine Eq.trans ?_ (jwr_fr eM33 (by omega))
              have hih : Mz a i = M33 a i := ih10 (z12 + 1, M33) (Option.some.inj hf).symm
              exact hih
            refine jLp_ind (P := fun ((z24, M25) : Int32 × JMem) => Mz a i = M25 a i) ?_ N _ y19
            rintro ⟨z24, M25⟩ x_23 hf ih22 hx21
            show Mz a i = M25 a i
            by_cases hc32 : z24 ≤ 0
            · replace hf := jifp hc32 hf
              have hf := hx21 _ (Option.some.inj hf).symm
              obtain ⟨rfl, rfl⟩ := jp2 hf
              exact K20
            · replace hf := jifn hc32 hf
              obtain ⟨v28, ev28, hf⟩ := job hf
              by_cases hc31 : (v16 + v17) ≤ v28
              · replace hf := jifp hc31 hf
                have hf := hx21 _ (Option.some.inj hf).symm
                obtain ⟨rfl, rfl⟩ := jp2 hf
                exact K20
              · replace hf := jifn hc31 hf
                obtain ⟨v29, ev29, hf⟩ := job hf
                obtain ⟨M30, eM30, hf⟩ := job hf
                refine Eq.trans ?_ (jwr_fr eM30 (by omega))
                have hih : Mz a i = M30 a i := ih22 (z24 + (-1), M30) (Option.some.inj hf).symm
                exact hih
      · replace hf := jifn hc66 hf
        obtain ⟨v45, ev45, hf⟩ := job hf
        obtain ⟨u63, hf, hy47⟩ := job hf
        have K49 : Mz a i = M a i := by
          replace hf := hy47
          obtain ⟨v64, ev64, hf⟩ := job hf
          obtain ⟨v65, ev65, hf⟩ := job hf
          obtain ⟨rfl, rfl⟩ := Prod.mk.inj (Option.some.inj hf)
          rfl
        obtain ⟨y53, hf, hy52⟩ := jcb hf
        have K54 : y53 = Sum.inr () → Mz a i = M a i := by
          intro hyy
          subst hyy
          replace hf := hy52
          obtain rfl := Option.some.inj hf
          exact (K49)
        by_cases hc62 : v45 = 2
        · replace hf := jifp hc62 hf
          obtain ⟨v56, ev56, hf⟩ := job hf
          obtain ⟨v57, ev57, hf⟩ := job hf
          obtain ⟨v58, ev58, hf⟩ := job hf
          obtain ⟨v59, ev59, hf⟩ := job hf
          by_cases hc61 : v57 = v59
          · replace hf := jifp hc61 hf
            exact (K54 (Option.some.inj hf).symm)
          · replace hf := jifn hc61 hf
            obtain ⟨v60, ev60, hf⟩ := job hf
            obtain rfl := Option.some.inj hf
            replace hf := hy52
            obtain rfl := Option.some.inj hf
            exact (K49)
        · replace hf := jifn hc62 hf
          exact (K54 (Option.some.inj hf).symm)
set_option maxHeartbeats 4000000 in
theorem fr_X8_work {N : Nat} {M : JMem} {Mz : JMem} {r : Int32} (hf : f_X8_work N M = some (Mz, r)) (a i : Nat) (hA : ¬ ((a = 221 ∧ i = 21) ∨ a = 237 ∨ a = 238 ∨ a = 239)) : Mz a i = M a i := by
  unfold f_X8_work at hf
  obtain ⟨t9, y2, hy1⟩ := job hf
  have K3 : Mz a i = t9 a i := by
    replace hf := hy1
    obtain ⟨M12, eM12, hf⟩ := job hf
    refine Eq.trans ?_ (by first | exact jup_fr eM12 (by omega) | exact jfl_fr eM12 (by omega))
    obtain ⟨⟨t22, t23⟩, y14, hy13⟩ := job hf
    have K15 : Mz a i = t23 a i := by
      replace hf := hy13
      by_cases hc86 : t22 = (t23 221 11)
      · replace hf := jifp hc86 hf
        obtain ⟨rfl, rfl⟩ := Prod.mk.inj (Option.some.inj hf)
        rfl
      · replace hf := jifn hc86 hf
        obtain ⟨rfl, rfl⟩ := Prod.mk.inj (Option.some.inj hf)
        rfl
    refine jLp_ind (P := fun ((z19, z20, M21) : Int32 × Int32 × JMem) => Mz a i = M21 a i) ?_ N _ y14
    rintro ⟨z19, z20, M21⟩ x_18 hf ih17 hx16
    show Mz a i = M21 a i
    by_cases hc85 : z20 = 0
    · replace hf := jifp hc85 hf
      have hf := hx16 _ (Option.some.inj hf).symm
      obtain ⟨rfl, rfl⟩ := jp2 hf
      exact K15
    · replace hf := jifn hc85 hf
      obtain ⟨⟨t34, t35, t36⟩, y25, hy24⟩ := job hf
      have K26 : Mz a i = t36 a i := by
        replace hf := hy24
        have hih : Mz a i = t36 a i := ih17 (t34, t35, t36) (Option.some.inj hf).symm
        exact hih
      refine jLp_ind (P := fun ((z30, z31, z32, M33) : Int32 × Int32 × Int32 × JMem) => Mz a i = M33 a i) ?_ N _ y25
      rintro ⟨z30, z31, z32, M33⟩ x_29 hf ih28 hx27
      show Mz a i = M33 a i
      by_cases hc84 : (M33 221 11) ≤ z32
      · replace hf := jifp hc84 hf
        have hf := hx27 _ (Option.some.inj hf).symm
        obtain ⟨rfl, rfl, rfl⟩ := jp3 hf
        exact K26
      · replace hf := jifn hc84 hf
        obtain ⟨v37, ev37, hf⟩ := job hf
        obtain ⟨⟨u81, u82, M83⟩, hf, hy39⟩ := job hf
        have K41 : Mz a i = M83 a i := by
          replace hf := hy39
          have hih : Mz a i = M83 a i := ih28 (u81, u82, z32 + 1, M83) (Option.some.inj hf).symm
          exact hih
        by_cases hc80 : v37 = 0
        · replace hf := jifp hc80 hf
          obtain ⟨v43, ev43, hf⟩ := job hf
          show Mz a i = M33 a i
          by_cases hc79 : v43 = 0
          · replace hf := jifp hc79 hf
            obtain ⟨rfl, rfl, rfl⟩ := jp3 (Option.some.inj hf)
            exact (K41)
          · replace hf := jifn hc79 hf
            obtain ⟨v44, ev44, hf⟩ := job hf
            show Mz a i = M33 a i
            obtain ⟨u53, hf, hy46⟩ := job hf
            have K48 : Mz a i = M33 a i := by
              replace hf := hy46
              obtain ⟨v54, ev54, hf⟩ := job hf
              obtain ⟨v55, ev55, hf⟩ := job hf
              show Mz a i = M33 a i
              obtain ⟨⟨M56, v57⟩, ev57, hf⟩ := job hf
              refine Eq.trans ?_ (fr_X8_fromOrder ev57 a i (by omega))
              show Mz a i = M56 a i
              obtain ⟨u64, hf, hy59⟩ := job hf
              have K61 : Mz a i = M56 a i := by
                replace hf := hy59
                obtain ⟨M65, eM65, hf⟩ := job hf
                refine Eq.trans ?_ (jwr_fr eM65 (by omega))
                obtain ⟨M66, eM66, hf⟩ := job hf
                refine Eq.trans ?_ (jwr_fr eM66 (by omega))
                obtain ⟨v67, ev67, hf⟩ := job hf
                obtain ⟨v68, ev68, hf⟩ := job hf
                obtain ⟨u77, hf, hy70⟩ := job hf
                have K72 : Mz a i = M66 a i := by
                  replace hf := hy70
                  obtain ⟨M78, eM78, hf⟩ := job hf
                  refine Eq.trans ?_ (by first | exact jup_fr eM78 (by omega) | exact jfl_fr eM78 (by omega))
                  obtain ⟨rfl, rfl, rfl⟩ := jp3 (Option.some.inj hf)
                  exact (K41)
                by_cases hc76 : (v67 + v68) ≤ (M66 221 21)
                · replace hf := jifp hc76 hf
                  obtain rfl := Option.some.inj hf
                  exact (K72)
                · replace hf := jifn hc76 hf
                  obtain ⟨v74, ev74, hf⟩ := job hf
                  obtain ⟨v75, ev75, hf⟩ := job hf
                  obtain rfl := Option.some.inj hf
                  exact (K72)
              by_cases hc63 : u53 ≤ v57
              · replace hf := jifp hc63 hf
                obtain rfl := Option.some.inj hf
                exact (K61)
              · replace hf := jifn hc63 hf
                obtain rfl := Option.some.inj hf
                exact (K61)
            by_cases hc52 : 0 ≤ v44
            · replace hf := jifp hc52 hf
              obtain ⟨v50, ev50, hf⟩ := job hf
              obtain ⟨v51, ev51, hf⟩ := job hf
              obtain rfl := Option.some.inj hf
              exact (K48)
            · replace hf := jifn hc52 hf
              obtain rfl := Option.some.inj hf
              exact (K48)
        · replace hf := jifn hc80 hf
          obtain ⟨rfl, rfl, rfl⟩ := jp3 (Option.some.inj hf)
          exact (K41)
  refine jLp_ind (P := fun ((z7, M8) : Int32 × JMem) => Mz a i = M8 a i) ?_ N _ y2
  rintro ⟨z7, M8⟩ x_6 hf ih5 hx4
  show Mz a i = M8 a i
  by_cases hc11 : (M8 221 11) ≤ z7
  · replace hf := jifp hc11 hf
    have hf := hx4 _ (Option.some.inj hf).symm
    obtain rfl := hf
    exact K3
  · replace hf := jifn hc11 hf
    obtain ⟨M10, eM10, hf⟩ := job hf
    refine Eq.trans ?_ (jwr_fr eM10 (by omega))
    have hih : Mz a i = M10 a i := ih5 (z7 + 1, M10) (Option.some.inj hf).symm
    exact hih
set_option maxHeartbeats 4000000 in
theorem fr_X8_exchange {M : JMem} {x1 : Int32} {x2 : Int32} {Mz : JMem} (hf : f_X8_exchange M x1 x2 = some Mz) (a i : Nat) (hA : ¬ (a = 231)) : Mz a i = M a i := by
  unfold f_X8_exchange at hf
  obtain ⟨v1, ev1, hf⟩ := job hf
  obtain ⟨v2, ev2, hf⟩ := job hf
  obtain ⟨M3, eM3, hf⟩ := job hf
  refine Eq.trans ?_ (jwr_fr eM3 (by omega))
  obtain ⟨M4, eM4, hf⟩ := job hf
  refine Eq.trans ?_ (jwr_fr eM4 (by omega))
  obtain rfl := Option.some.inj hf
  rfl
set_option maxHeartbeats 4000000 in
theorem fr_X8_swap {N : Nat} {M : JMem} {x1 : Int32} {x2 : Int32} {Mz : JMem} {r : Int32} (hf : f_X8_swap N M x1 x2 = some (Mz, r)) (a i : Nat) (hA : ¬ ((a = 221 ∧ i = 21) ∨ a = 231 ∨ a = 237 ∨ a = 238 ∨ a = 239)) : Mz a i = M a i := by
  unfold f_X8_swap at hf
  show Mz a i = M a i
  by_cases hc13 : (jin3 x1.toInt64 0 (((M 221 2) - 1).toInt64)) = 0
  · replace hf := jifp hc13 hf
    obtain ⟨rfl, rfl⟩ := Prod.mk.inj (Option.some.inj hf)
    rfl
  · replace hf := jifn hc13 hf
    obtain ⟨v1, ev1, hf⟩ := job hf
    show Mz a i = M a i
    by_cases hc12 : (jin3 x2.toInt64 0 ((v1 - 2).toInt64)) = 0
    · replace hf := jifp hc12 hf
      obtain ⟨rfl, rfl⟩ := Prod.mk.inj (Option.some.inj hf)
      rfl
    · replace hf := jifn hc12 hf
      obtain ⟨v2, ev2, hf⟩ := job hf
      by_cases hc11 : v2 = 1
      · replace hf := jifp hc11 hf
        obtain ⟨rfl, rfl⟩ := Prod.mk.inj (Option.some.inj hf)
        rfl
      · replace hf := jifn hc11 hf
        obtain ⟨⟨M3, v4⟩, ev4, hf⟩ := job hf
        refine Eq.trans ?_ (fr_X8_work ev4 a i (by omega))
        show Mz a i = M3 a i
        obtain ⟨M5, eM5, hf⟩ := job hf
        refine Eq.trans ?_ (fr_X8_exchange eM5 a i (by omega))
        show Mz a i = M5 a i
        by_cases hc10 : v4 = 0
        · replace hf := jifp hc10 hf
          obtain ⟨rfl, rfl⟩ := Prod.mk.inj (Option.some.inj hf)
          rfl
        · replace hf := jifn hc10 hf
          obtain ⟨⟨M6, v7⟩, ev7, hf⟩ := job hf
          refine Eq.trans ?_ (fr_X8_work ev7 a i (by omega))
          show Mz a i = M6 a i
          by_cases hc9 : v7 = 0
          · replace hf := jifp hc9 hf
            obtain ⟨M8, eM8, hf⟩ := job hf
            refine Eq.trans ?_ (fr_X8_exchange eM8 a i (by omega))
            show Mz a i = M8 a i
            obtain ⟨rfl, rfl⟩ := Prod.mk.inj (Option.some.inj hf)
            rfl
          · replace hf := jifn hc9 hf
            obtain ⟨rfl, rfl⟩ := Prod.mk.inj (Option.some.inj hf)
            rfl
set_option maxHeartbeats 4000000 in
theorem fr_X8_lay {N : Nat} {M : JMem} {x1 : Int32} {x2 : Int32} {Mz : JMem} {r : Int32} (hf : f_X8_lay N M x1 x2 = some (Mz, r)) (a i : Nat) (hA : ¬ ((a = 221 ∧ i = 21) ∨ a = 231 ∨ a = 237 ∨ a = 238 ∨ a = 239)) : Mz a i = M a i := by
  unfold f_X8_lay at hf
  obtain ⟨v1, ev1, hf⟩ := job hf
  show Mz a i = M a i
  by_cases hc32 : v1 = 0
  · replace hf := jifp hc32 hf
    obtain ⟨rfl, rfl⟩ := Prod.mk.inj (Option.some.inj hf)
    rfl
  · replace hf := jifn hc32 hf
    obtain ⟨v2, ev2, hf⟩ := job hf
    obtain ⟨v3, ev3, hf⟩ := job hf
    show Mz a i = M a i
    by_cases hc31 : (jin3 x2.toInt64 0 ((v3 - 1).toInt64)) = 0
    · replace hf := jifp hc31 hf
      obtain ⟨rfl, rfl⟩ := Prod.mk.inj (Option.some.inj hf)
      rfl
    · replace hf := jifn hc31 hf
      obtain ⟨v4, ev4, hf⟩ := job hf
      show Mz a i = M a i
      obtain ⟨⟨t13, t14⟩, y6, hy5⟩ := job hf
      have K7 : Mz a i = t14 a i := by
        replace hf := hy5
        obtain ⟨t25, y18, hy17⟩ := job hf
        have K19 : Mz a i = t25 a i := by
          replace hf := hy17
          obtain ⟨⟨M28, v29⟩, ev29, hf⟩ := job hf
          refine Eq.trans ?_ (fr_X8_work ev29 a i (by omega))
          show Mz a i = M28 a i
          by_cases hc30 : v29 = 0
          · replace hf := jifp hc30 hf
            obtain ⟨rfl, rfl⟩ := Prod.mk.inj (Option.some.inj hf)
            rfl
          · replace hf := jifn hc30 hf
            obtain ⟨rfl, rfl⟩ := Prod.mk.inj (Option.some.inj hf)
            rfl
        refine jLp_ind (P := fun ((z23, M24) : Int32 × JMem) => Mz a i = M24 a i) ?_ N _ y18
        rintro ⟨z23, M24⟩ x_22 hf ih21 hx20
        show Mz a i = M24 a i
        by_cases hc27 : z23 ≤ x2
        · replace hf := jifp hc27 hf
          have hf := hx20 _ (Option.some.inj hf).symm
          obtain rfl := hf
          exact K19
        · replace hf := jifn hc27 hf
          obtain ⟨M26, eM26, hf⟩ := job hf
          refine Eq.trans ?_ (fr_X8_exchange eM26 a i (by omega))
          show Mz a i = M26 a i
          have hih : Mz a i = M26 a i := ih21 (z23 + (-1), M26) (Option.some.inj hf).symm
          exact hih
      refine jLp_ind (P := fun ((z11, M12) : Int32 × JMem) => Mz a i = M12 a i) ?_ N _ y6
      rintro ⟨z11, M12⟩ x_10 hf ih9 hx8
      show Mz a i = M12 a i
      by_cases hc16 : x2 ≤ z11
      · replace hf := jifp hc16 hf
        have hf := hx8 _ (Option.some.inj hf).symm
        obtain ⟨rfl, rfl⟩ := jp2 hf
        exact K7
      · replace hf := jifn hc16 hf
        obtain ⟨M15, eM15, hf⟩ := job hf
        refine Eq.trans ?_ (fr_X8_exchange eM15 a i (by omega))
        show Mz a i = M15 a i
        have hih : Mz a i = M15 a i := ih9 (z11 + 1, M15) (Option.some.inj hf).symm
        exact hih
set_option maxHeartbeats 4000000 in
theorem fr_X8_end {N : Nat} {M : JMem} {Mz : JMem} {r : Int32} (hf : f_X8_end N M = some (Mz, r)) (a i : Nat) (hA : ¬ ((a = 221 ∧ i = 21) ∨ a = 237 ∨ a = 238 ∨ a = 239)) : Mz a i = M a i := by
  unfold f_X8_end at hf
  obtain ⟨⟨M1, v2⟩, ev2, hf⟩ := job hf
  refine Eq.trans ?_ (fr_X8_work ev2 a i (by omega))
  show Mz a i = M1 a i
  by_cases hc3 : v2 = 0
  · replace hf := jifp hc3 hf
    obtain ⟨rfl, rfl⟩ := Prod.mk.inj (Option.some.inj hf)
    rfl
  · replace hf := jifn hc3 hf
    obtain ⟨rfl, rfl⟩ := Prod.mk.inj (Option.some.inj hf)
    rfl
set_option maxHeartbeats 4000000 in
theorem fr_X8_begin {N : Nat} {M : JMem} {x1 : Int32} {Mz : JMem} {r : Int32} (hf : f_X8_begin N M x1 = some (Mz, r)) (a i : Nat) (hA : ¬ ((a = 221 ∧ i = 21) ∨ a = 237 ∨ a = 238 ∨ a = 239)) : Mz a i = M a i := by
  unfold f_X8_begin at hf
  obtain ⟨v1, ev1, hf⟩ := job hf
  show Mz a i = M a i
  by_cases hc6 : v1 = 0
  · replace hf := jifp hc6 hf
    obtain ⟨rfl, rfl⟩ := Prod.mk.inj (Option.some.inj hf)
    rfl
  · replace hf := jifn hc6 hf
    obtain ⟨⟨M2, v3⟩, ev3, hf⟩ := job hf
    refine Eq.trans ?_ (fr_X8_work ev3 a i (by omega))
    show Mz a i = M2 a i
    by_cases hc5 : v3 = 0
    · replace hf := jifp hc5 hf
      obtain ⟨rfl, rfl⟩ := Prod.mk.inj (Option.some.inj hf)
      rfl
    · replace hf := jifn hc5 hf
      obtain ⟨v4, ev4, hf⟩ := job hf
      obtain ⟨rfl, rfl⟩ := Prod.mk.inj (Option.some.inj hf)
      rfl
set_option maxHeartbeats 4000000 in
theorem fr_X8_workTails {N : Nat} {M : JMem} {Mz : JMem} (hf : f_X8_workTails N M = some Mz) (a i : Nat) (hA : ¬ (a = 238 ∨ a = 240)) : Mz a i = M a i := by
  unfold f_X8_workTails at hf
  obtain ⟨t9, y2, hy1⟩ := job hf
  have K3 : Mz a i = t9 a i := by
    replace hf := hy1
    obtain ⟨t20, y13, hy12⟩ := job hf
    have K14 : Mz a i = t20 a i := by
      replace hf := hy12
      obtain rfl := Option.some.inj hf
      rfl
    refine jLp_ind (P := fun ((z18, M19) : Int32 × JMem) => Mz a i = M19 a i) ?_ N _ y13
    rintro ⟨z18, M19⟩ x_17 hf ih16 hx15
    show Mz a i = M19 a i
    by_cases hc77 : (M19 221 11) ≤ z18
    · replace hf := jifp hc77 hf
      have hf := hx15 _ (Option.some.inj hf).symm
      obtain rfl := hf
      exact K14
    · replace hf := jifn hc77 hf
      obtain ⟨t29, y22, hy21⟩ := job hf
      have K23 : Mz a i = M19 a i := by
        replace hf := hy21
        obtain ⟨v48, ev48, hf⟩ := job hf
        show Mz a i = M19 a i
        obtain ⟨v49, ev49, hf⟩ := job hf
        show Mz a i = M19 a i
        obtain ⟨u58, hf, hy51⟩ := job hf
        have K53 : Mz a i = M19 a i := by
          replace hf := hy51
          obtain ⟨u67, hf, hy60⟩ := job hf
          have K62 : Mz a i = M19 a i := by
            replace hf := hy60
            obtain ⟨u74, hf, hy69⟩ := job hf
            have K71 : Mz a i = M19 a i := by
              replace hf := hy69
              obtain ⟨M75, eM75, hf⟩ := job hf
              refine Eq.trans ?_ (jwr_fr eM75 (by omega))
              obtain ⟨M76, eM76, hf⟩ := job hf
              refine Eq.trans ?_ (jwr_fr eM76 (by omega))
              have hih : Mz a i = M76 a i := ih16 (z18 + 1, M76) (Option.some.inj hf).symm
              exact hih
            by_cases hc73 : u58 ≤ u67
            · replace hf := jifp hc73 hf
              obtain rfl := Option.some.inj hf
              exact (K71)
            · replace hf := jifn hc73 hf
              obtain rfl := Option.some.inj hf
              exact (K71)
          by_cases hc66 : 0 ≤ v49
          · replace hf := jifp hc66 hf
            obtain ⟨v64, ev64, hf⟩ := job hf
            obtain ⟨v65, ev65, hf⟩ := job hf
            obtain rfl := Option.some.inj hf
            exact (K62)
          · replace hf := jifn hc66 hf
            obtain rfl := Option.some.inj hf
            exact (K62)
        by_cases hc57 : 0 ≤ v48
        · replace hf := jifp hc57 hf
          obtain ⟨v55, ev55, hf⟩ := job hf
          obtain ⟨v56, ev56, hf⟩ := job hf
          obtain rfl := Option.some.inj hf
          exact (K53)
        · replace hf := jifn hc57 hf
          obtain rfl := Option.some.inj hf
          exact (K53)
      refine jLp_ind (P := fun ((z27, z28) : Int32 × Int32) => Mz a i = M19 a i) ?_ N _ y22
      rintro ⟨z27, z28⟩ x_26 hf ih25 hx24
      show Mz a i = M19 a i
      by_cases hc47 : (M19 221 11) ≤ z28
      · replace hf := jifp hc47 hf
        have hf := hx24 _ (Option.some.inj hf).symm
        obtain rfl := hf
        exact K23
      · replace hf := jifn hc47 hf
        obtain ⟨v30, ev30, hf⟩ := job hf
        obtain ⟨u46, hf, hy32⟩ := job hf
        have K34 : Mz a i = M19 a i := by
          replace hf := hy32
          have hih : Mz a i = M19 a i := ih25 (u46, z28 + 1) (Option.some.inj hf).symm
          exact hih
        by_cases hc45 : v30 = 0
        · replace hf := jifp hc45 hf
          obtain ⟨y38, hf, hy37⟩ := jcb hf
          have K39 : y38 = Sum.inr () → Mz a i = M19 a i := by
            intro hyy
            subst hyy
            replace hf := hy37
            obtain rfl := Option.some.inj hf
            exact (K34)
          by_cases hc44 : z27 < 0
          · replace hf := jifp hc44 hf
            exact (K39 (Option.some.inj hf).symm)
          · replace hf := jifn hc44 hf
            obtain ⟨v41, ev41, hf⟩ := job hf
            obtain ⟨v42, ev42, hf⟩ := job hf
            by_cases hc43 : v41 ≤ v42
            · replace hf := jifp hc43 hf
              obtain rfl := Option.some.inj hf
              replace hf := hy37
              obtain rfl := Option.some.inj hf
              exact (K34)
            · replace hf := jifn hc43 hf
              exact (K39 (Option.some.inj hf).symm)
        · replace hf := jifn hc45 hf
          obtain rfl := Option.some.inj hf
          exact (K34)
  refine jLp_ind (P := fun ((z7, M8) : Int32 × JMem) => Mz a i = M8 a i) ?_ N _ y2
  rintro ⟨z7, M8⟩ x_6 hf ih5 hx4
  show Mz a i = M8 a i
  by_cases hc11 : (M8 221 11) ≤ z7
  · replace hf := jifp hc11 hf
    have hf := hx4 _ (Option.some.inj hf).symm
    obtain rfl := hf
    exact K3
  · replace hf := jifn hc11 hf
    obtain ⟨M10, eM10, hf⟩ := job hf
    refine Eq.trans ?_ (jwr_fr eM10 (by omega))
    have hih : Mz a i = M10 a i := ih5 (z7 + 1, M10) (Option.some.inj hf).symm
    exact hih
set_option maxHeartbeats 4000000 in
theorem fr_X8_hasTails {N : Nat} {M : JMem} {Mz : JMem} {r : Int32} (hf : f_X8_hasTails N M = some (Mz, r)) (a i : Nat) (hA : ¬ ((a = 221 ∧ i = 21) ∨ a = 237 ∨ a = 238 ∨ a = 239 ∨ a = 240)) : Mz a i = M a i := by
  unfold f_X8_hasTails at hf
  obtain ⟨v1, ev1, hf⟩ := job hf
  show Mz a i = M a i
  by_cases hc6 : v1 = 0
  · replace hf := jifp hc6 hf
    obtain ⟨rfl, rfl⟩ := Prod.mk.inj (Option.some.inj hf)
    rfl
  · replace hf := jifn hc6 hf
    obtain ⟨⟨M2, v3⟩, ev3, hf⟩ := job hf
    refine Eq.trans ?_ (fr_X8_work ev3 a i (by omega))
    show Mz a i = M2 a i
    by_cases hc5 : v3 = 0
    · replace hf := jifp hc5 hf
      obtain ⟨rfl, rfl⟩ := Prod.mk.inj (Option.some.inj hf)
      rfl
    · replace hf := jifn hc5 hf
      obtain ⟨M4, eM4, hf⟩ := job hf
      refine Eq.trans ?_ (fr_X8_workTails eM4 a i (by omega))
      show Mz a i = M4 a i
      obtain ⟨rfl, rfl⟩ := Prod.mk.inj (Option.some.inj hf)
      rfl
set_option maxHeartbeats 4000000 in
theorem fr_X8_tail {N : Nat} {M : JMem} {x1 : Int32} {x2 : Int32} {Mz : JMem} {r : Int32} (hf : f_X8_tail N M x1 x2 = some (Mz, r)) (a i : Nat) (hA : ¬ ((a = 221 ∧ i = 21) ∨ a = 237 ∨ a = 238 ∨ a = 239 ∨ a = 240)) : Mz a i = M a i := by
  unfold f_X8_tail at hf
  obtain ⟨v1, ev1, hf⟩ := job hf
  show Mz a i = M a i
  by_cases hc9 : v1 = 0
  · replace hf := jifp hc9 hf
    obtain ⟨rfl, rfl⟩ := Prod.mk.inj (Option.some.inj hf)
    rfl
  · replace hf := jifn hc9 hf
    show Mz a i = M a i
    by_cases hc8 : (jin3 x2.toInt64 0 1) = 0
    · replace hf := jifp hc8 hf
      obtain ⟨rfl, rfl⟩ := Prod.mk.inj (Option.some.inj hf)
      rfl
    · replace hf := jifn hc8 hf
      obtain ⟨⟨M2, v3⟩, ev3, hf⟩ := job hf
      refine Eq.trans ?_ (fr_X8_hasTails ev3 a i (by omega))
      show Mz a i = M2 a i
      by_cases hc7 : v3 = 0
      · replace hf := jifp hc7 hf
        obtain ⟨rfl, rfl⟩ := Prod.mk.inj (Option.some.inj hf)
        rfl
      · replace hf := jifn hc7 hf
        by_cases hc6 : x2 = 0
        · replace hf := jifp hc6 hf
          obtain ⟨v5, ev5, hf⟩ := job hf
          obtain ⟨rfl, rfl⟩ := Prod.mk.inj (Option.some.inj hf)
          rfl
        · replace hf := jifn hc6 hf
          obtain ⟨v4, ev4, hf⟩ := job hf
          show Mz a i = M2 a i
          obtain ⟨rfl, rfl⟩ := Prod.mk.inj (Option.some.inj hf)
          rfl
set_option maxHeartbeats 4000000 in
theorem fr_X8_row {N : Nat} {M : JMem} {x1 : Int32} {Mz : JMem} {r : Int32} (hf : f_X8_row N M x1 = some (Mz, r)) (a i : Nat) (hA : ¬ ((a = 221 ∧ i = 21) ∨ a = 237 ∨ a = 238 ∨ a = 239 ∨ a = 240)) : Mz a i = M a i := by
  unfold f_X8_row at hf
  obtain ⟨⟨M1, v2⟩, ev2, hf⟩ := job hf
  refine Eq.trans ?_ (fr_X8_hasTails ev2 a i (by omega))
  show Mz a i = M1 a i
  by_cases hc46 : v2 = 0
  · replace hf := jifp hc46 hf
    obtain ⟨rfl, rfl⟩ := Prod.mk.inj (Option.some.inj hf)
    rfl
  · replace hf := jifn hc46 hf
    obtain ⟨t10, y4, hy3⟩ := job hf
    have K5 : Mz a i = M1 a i := by
      replace hf := hy3
      by_cases hc45 : t10 = (M1 221 11)
      · replace hf := jifp hc45 hf
        obtain ⟨rfl, rfl⟩ := Prod.mk.inj (Option.some.inj hf)
        rfl
      · replace hf := jifn hc45 hf
        by_cases hc44 : 0 ≤ x1
        · replace hf := jifp hc44 hf
          obtain ⟨t29, y22, hy21⟩ := job hf
          have K23 : Mz a i = M1 a i := by
            replace hf := hy21
            obtain ⟨rfl, rfl⟩ := Prod.mk.inj (Option.some.inj hf)
            rfl
          refine jLp_ind (P := fun ((z27, z28) : Int32 × Int32) => Mz a i = M1 a i) ?_ N _ y22
          rintro ⟨z27, z28⟩ x_26 hf ih25 hx24
          show Mz a i = M1 a i
          by_cases hc43 : x1 ≤ z28
          · replace hf := jifp hc43 hf
            have hf := hx24 _ (Option.some.inj hf).symm
            obtain rfl := hf
            exact K23
          · replace hf := jifn hc43 hf
            by_cases hc42 : z27 < 0
            · replace hf := jifp hc42 hf
              have hf := hx24 _ (Option.some.inj hf).symm
              obtain rfl := hf
              exact K23
            · replace hf := jifn hc42 hf
              obtain ⟨v30, ev30, hf⟩ := job hf
              show Mz a i = M1 a i
              obtain ⟨v31, ev31, hf⟩ := job hf
              show Mz a i = M1 a i
              obtain ⟨v32, ev32, hf⟩ := job hf
              show Mz a i = M1 a i
              obtain ⟨u41, hf, hy34⟩ := job hf
              have K36 : Mz a i = M1 a i := by
                replace hf := hy34
                have hih : Mz a i = M1 a i := ih25 (u41, z28 + 1) (Option.some.inj hf).symm
                exact hih
              by_cases hc40 : v32 = 0
              · replace hf := jifp hc40 hf
                obtain ⟨v38, ev38, hf⟩ := job hf
                show Mz a i = M1 a i
                by_cases hc39 : v38 = 0
                · replace hf := jifp hc39 hf
                  obtain rfl := Option.some.inj hf
                  exact (K36)
                · replace hf := jifn hc39 hf
                  obtain rfl := Option.some.inj hf
                  exact (K36)
              · replace hf := jifn hc40 hf
                obtain rfl := Option.some.inj hf
                exact (K36)
        · replace hf := jifn hc44 hf
          obtain ⟨rfl, rfl⟩ := Prod.mk.inj (Option.some.inj hf)
          rfl
    refine jLp_ind (P := fun (z9 : Int32) => Mz a i = M1 a i) ?_ N _ y4
    rintro z9 x_8 hf ih7 hx6
    show Mz a i = M1 a i
    by_cases hc20 : (M1 221 11) ≤ z9
    · replace hf := jifp hc20 hf
      have hf := hx6 _ (Option.some.inj hf).symm
      obtain rfl := hf
      exact K5
    · replace hf := jifn hc20 hf
      obtain ⟨v11, ev11, hf⟩ := job hf
      obtain ⟨y14, hf, hy13⟩ := jcb hf
      have K15 : y14 = Sum.inr () → Mz a i = M1 a i := by
        intro hyy
        subst hyy
        replace hf := hy13
        have hih : Mz a i = M1 a i := ih7 (z9 + 1) (Option.some.inj hf).symm
        exact hih
      by_cases hc19 : v11 = 0
      · replace hf := jifp hc19 hf
        obtain ⟨v17, ev17, hf⟩ := job hf
        show Mz a i = M1 a i
        by_cases hc18 : v17 = 0
        · replace hf := jifp hc18 hf
          obtain rfl := Option.some.inj hf
          replace hf := hy13
          have hf := hx6 _ (Option.some.inj hf).symm
          obtain rfl := hf
          exact K5
        · replace hf := jifn hc18 hf
          exact (K15 (Option.some.inj hf).symm)
      · replace hf := jifn hc19 hf
        exact (K15 (Option.some.inj hf).symm)
set_option maxHeartbeats 4000000 in
theorem fr_X8_early {N : Nat} {M : JMem} {x1 : Int32} {Mz : JMem} {r : Int32} (hf : f_X8_early N M x1 = some (Mz, r)) (a i : Nat) (hA : ¬ (a = 239)) : Mz a i = M a i := by
  unfold f_X8_early at hf
  obtain ⟨v1, ev1, hf⟩ := job hf
  show Mz a i = M a i
  obtain ⟨u10, hf, hy3⟩ := job hf
  have K5 : Mz a i = M a i := by
    replace hf := hy3
    obtain ⟨v11, ev11, hf⟩ := job hf
    obtain ⟨v12, ev12, hf⟩ := job hf
    obtain ⟨v13, ev13, hf⟩ := job hf
    obtain ⟨⟨M14, v15⟩, ev15, hf⟩ := job hf
    refine Eq.trans ?_ (fr_X8_fromOrder ev15 a i (by omega))
    show Mz a i = M14 a i
    by_cases hc16 : u10 ≤ v15
    · replace hf := jifp hc16 hf
      obtain ⟨rfl, rfl⟩ := Prod.mk.inj (Option.some.inj hf)
      rfl
    · replace hf := jifn hc16 hf
      obtain ⟨rfl, rfl⟩ := Prod.mk.inj (Option.some.inj hf)
      rfl
  by_cases hc9 : 0 ≤ v1
  · replace hf := jifp hc9 hf
    obtain ⟨v7, ev7, hf⟩ := job hf
    obtain ⟨v8, ev8, hf⟩ := job hf
    obtain rfl := Option.some.inj hf
    exact (K5)
  · replace hf := jifn hc9 hf
    obtain rfl := Option.some.inj hf
    exact (K5)
set_option maxHeartbeats 4000000 in
theorem fr_X8_rule {N : Nat} {M : JMem} {x1 : Int32} {Mz : JMem} {r : Int32} (hf : f_X8_rule N M x1 = some (Mz, r)) (a i : Nat) (hA : ¬ ((a = 221 ∧ i = 21) ∨ a = 231 ∨ a = 232 ∨ a = 237 ∨ a = 238 ∨ a = 239)) : Mz a i = M a i := by
  unfold f_X8_rule at hf
  show Mz a i = M a i
  by_cases hc98 : (jin3 x1.toInt64 0 2) = 0
  · replace hf := jifp hc98 hf
    obtain ⟨rfl, rfl⟩ := Prod.mk.inj (Option.some.inj hf)
    rfl
  · replace hf := jifn hc98 hf
    obtain ⟨t9, y2, hy1⟩ := job hf
    have K3 : Mz a i = t9 a i := by
      replace hf := hy1
      obtain ⟨t20, y13, hy12⟩ := job hf
      have K14 : Mz a i = t20 a i := by
        replace hf := hy12
        obtain ⟨M23, eM23, hf⟩ := job hf
        refine Eq.trans ?_ (by first | exact jup_fr eM23 (by omega) | exact jfl_fr eM23 (by omega))
        obtain ⟨t32, y25, hy24⟩ := job hf
        have K26 : Mz a i = t32 a i := by
          replace hf := hy24
          obtain ⟨rfl, rfl⟩ := Prod.mk.inj (Option.some.inj hf)
          rfl
        refine jLp_ind (P := fun ((z30, M31) : Int32 × JMem) => Mz a i = M31 a i) ?_ N _ y25
        rintro ⟨z30, M31⟩ x_29 hf ih28 hx27
        show Mz a i = M31 a i
        by_cases hc97 : (M31 221 11) ≤ z30
        · replace hf := jifp hc97 hf
          have hf := hx27 _ (Option.some.inj hf).symm
          obtain rfl := hf
          exact K26
        · replace hf := jifn hc97 hf
          obtain ⟨⟨t44, t45, t46⟩, y34, hy33⟩ := job hf
          have K35 : Mz a i = t46 a i := by
            replace hf := hy33
            obtain ⟨v80, ev80, hf⟩ := job hf
            obtain ⟨v81, ev81, hf⟩ := job hf
            obtain ⟨M82, eM82, hf⟩ := job hf
            refine Eq.trans ?_ (jwr_fr eM82 (by omega))
            obtain ⟨v83, ev83, hf⟩ := job hf
            obtain ⟨M84, eM84, hf⟩ := job hf
            refine Eq.trans ?_ (jwr_fr eM84 (by omega))
            obtain ⟨M85, eM85, hf⟩ := job hf
            refine Eq.trans ?_ (jwr_fr eM85 (by omega))
            obtain ⟨M86, eM86, hf⟩ := job hf
            refine Eq.trans ?_ (jwr_fr eM86 (by omega))
            obtain ⟨v87, ev87, hf⟩ := job hf
            obtain ⟨u95, hf, hy89⟩ := job hf
            have K91 : Mz a i = M86 a i := by
              replace hf := hy89
              obtain ⟨M96, eM96, hf⟩ := job hf
              refine Eq.trans ?_ (by first | exact jup_fr eM96 (by omega) | exact jfl_fr eM96 (by omega))
              have hih : Mz a i = M96 a i := ih28 (z30 + 1, M96) (Option.some.inj hf).symm
              exact hih
            by_cases hc94 : (t45 + v87) ≤ (M86 221 21)
            · replace hf := jifp hc94 hf
              obtain rfl := Option.some.inj hf
              exact (K91)
            · replace hf := jifn hc94 hf
              obtain ⟨v93, ev93, hf⟩ := job hf
              obtain rfl := Option.some.inj hf
              exact (K91)
          refine jLp_ind (P := fun ((z39, z40, z41, z42, M43) : Int32 × Int32 × Int32 × Int32 × JMem) => Mz a i = M43 a i) ?_ N _ y34
          rintro ⟨z39, z40, z41, z42, M43⟩ x_38 hf ih37 hx36
          show Mz a i = M43 a i
          by_cases hc79 : (M43 221 6) ≤ z42
          · replace hf := jifp hc79 hf
            have hf := hx36 _ (Option.some.inj hf).symm
            obtain ⟨rfl, rfl, rfl⟩ := jp3 hf
            exact K35
          · replace hf := jifn hc79 hf
            obtain ⟨v47, ev47, hf⟩ := job hf
            show Mz a i = M43 a i
            obtain ⟨⟨u75, u76, u77, M78⟩, hf, hy49⟩ := job hf
            have K51 : Mz a i = M78 a i := by
              replace hf := hy49
              have hih : Mz a i = M78 a i := ih37 (u75, u76, u77, z42 + 1, M78) (Option.some.inj hf).symm
              exact hih
            by_cases hc74 : 0 ≤ v47
            · replace hf := jifp hc74 hf
              obtain ⟨⟨M53, v54⟩, ev54, hf⟩ := job hf
              refine Eq.trans ?_ (fr_X8_early ev54 a i (by omega))
              show Mz a i = M53 a i
              obtain ⟨u64, hf, hy56⟩ := job hf
              have K58 : Mz a i = M53 a i := by
                replace hf := hy56
                obtain ⟨y67, hf, hy66⟩ := jcb hf
                have K68 : y67 = Sum.inr () → Mz a i = M53 a i := by
                  intro hyy
                  subst hyy
                  replace hf := hy66
                  obtain ⟨rfl, rfl, rfl, rfl⟩ := jp4 (Option.some.inj hf)
                  exact (K51)
                by_cases hc73 : z39 < 0
                · replace hf := jifp hc73 hf
                  exact (K68 (Option.some.inj hf).symm)
                · replace hf := jifn hc73 hf
                  by_cases hc72 : v54 < z40
                  · replace hf := jifp hc72 hf
                    exact (K68 (Option.some.inj hf).symm)
                  · replace hf := jifn hc72 hf
                    by_cases hc71 : v54 = z40
                    · replace hf := jifp hc71 hf
                      by_cases hc70 : z41 ≤ u64
                      · replace hf := jifp hc70 hf
                        obtain rfl := Option.some.inj hf
                        replace hf := hy66
                        obtain ⟨rfl, rfl, rfl, rfl⟩ := jp4 (Option.some.inj hf)
                        exact (K51)
                      · replace hf := jifn hc70 hf
                        exact (K68 (Option.some.inj hf).symm)
                    · replace hf := jifn hc71 hf
                      obtain rfl := Option.some.inj hf
                      replace hf := hy66
                      obtain ⟨rfl, rfl, rfl, rfl⟩ := jp4 (Option.some.inj hf)
                      exact (K51)
              by_cases hc63 : x1 = 0
              · replace hf := jifp hc63 hf
                obtain ⟨v62, ev62, hf⟩ := job hf
                obtain rfl := Option.some.inj hf
                exact (K58)
              · replace hf := jifn hc63 hf
                by_cases hc61 : x1 = 1
                · replace hf := jifp hc61 hf
                  obtain ⟨v60, ev60, hf⟩ := job hf
                  show Mz a i = M53 a i
                  obtain rfl := Option.some.inj hf
                  exact (K58)
                · replace hf := jifn hc61 hf
                  obtain rfl := Option.some.inj hf
                  exact (K58)
            · replace hf := jifn hc74 hf
              obtain ⟨rfl, rfl, rfl, rfl⟩ := jp4 (Option.some.inj hf)
              exact (K51)
      refine jLp_ind (P := fun ((z18, M19) : Int32 × JMem) => Mz a i = M19 a i) ?_ N _ y13
      rintro ⟨z18, M19⟩ x_17 hf ih16 hx15
      show Mz a i = M19 a i
      by_cases hc22 : (M19 221 11) ≤ z18
      · replace hf := jifp hc22 hf
        have hf := hx15 _ (Option.some.inj hf).symm
        obtain rfl := hf
        exact K14
      · replace hf := jifn hc22 hf
        obtain ⟨M21, eM21, hf⟩ := job hf
        refine Eq.trans ?_ (jwr_fr eM21 (by omega))
        have hih : Mz a i = M21 a i := ih16 (z18 + 1, M21) (Option.some.inj hf).symm
        exact hih
    refine jLp_ind (P := fun ((z7, M8) : Int32 × JMem) => Mz a i = M8 a i) ?_ N _ y2
    rintro ⟨z7, M8⟩ x_6 hf ih5 hx4
    show Mz a i = M8 a i
    by_cases hc11 : 8 ≤ z7
    · replace hf := jifp hc11 hf
      have hf := hx4 _ (Option.some.inj hf).symm
      obtain rfl := hf
      exact K3
    · replace hf := jifn hc11 hf
      obtain ⟨M10, eM10, hf⟩ := job hf
      refine Eq.trans ?_ (jwr_fr eM10 (by omega))
      have hih : Mz a i = M10 a i := ih5 (z7 + 1, M10) (Option.some.inj hf).symm
      exact hih
set_option maxHeartbeats 4000000 in
theorem fr_X8_swapBest {N : Nat} {M : JMem} {Mz : JMem} {r : Int32} (hf : f_X8_swapBest N M = some (Mz, r)) (a i : Nat) (hA : ¬ ((a = 221 ∧ i = 21) ∨ a = 231 ∨ a = 237 ∨ a = 238 ∨ a = 239 ∨ a = 240 ∨ a = 241)) : Mz a i = M a i := by
  unfold f_X8_swapBest at hf
  obtain ⟨⟨M1, v2⟩, ev2, hf⟩ := job hf
  refine Eq.trans ?_ (fr_X8_hasTails ev2 a i (by omega))
  show Mz a i = M1 a i
  obtain ⟨t11, y4, hy3⟩ := job hf
  have K5 : Mz a i = t11 a i := by
    replace hf := hy3
    obtain ⟨⟨t57, t58⟩, y48, hy47⟩ := job hf
    have K49 : Mz a i = t58 a i := by
      replace hf := hy47
      by_cases hc84 : 0 ≤ t57
      · replace hf := jifp hc84 hf
        obtain ⟨M83, eM83, hf⟩ := job hf
        refine Eq.trans ?_ (fr_X8_exchange eM83 a i (by omega))
        show Mz a i = M83 a i
        obtain ⟨rfl, rfl⟩ := Prod.mk.inj (Option.some.inj hf)
        rfl
      · replace hf := jifn hc84 hf
        obtain ⟨rfl, rfl⟩ := Prod.mk.inj (Option.some.inj hf)
        rfl
    refine jLp_ind (P := fun ((z53, z54, z55, M56) : Int32 × Int32 × Int32 × JMem) => Mz a i = M56 a i) ?_ N _ y48
    rintro ⟨z53, z54, z55, M56⟩ x_52 hf ih51 hx50
    show Mz a i = M56 a i
    by_cases hc82 : 256 ≤ z55
    · replace hf := jifp hc82 hf
      have hf := hx50 _ (Option.some.inj hf).symm
      obtain ⟨rfl, rfl⟩ := jp2 hf
      exact K49
    · replace hf := jifn hc82 hf
      obtain ⟨v59, ev59, hf⟩ := job hf
      obtain ⟨⟨u79, u80, M81⟩, hf, hy61⟩ := job hf
      have K63 : Mz a i = M81 a i := by
        replace hf := hy61
        have hih : Mz a i = M81 a i := ih51 (u79, u80, z55 + 1, M81) (Option.some.inj hf).symm
        exact hih
      by_cases hc78 : v59 = 0
      · replace hf := jifp hc78 hf
        obtain ⟨rfl, rfl, rfl⟩ := jp3 (Option.some.inj hf)
        exact (K63)
      · replace hf := jifn hc78 hf
        obtain ⟨M65, eM65, hf⟩ := job hf
        refine Eq.trans ?_ (fr_X8_exchange eM65 a i (by omega))
        show Mz a i = M65 a i
        obtain ⟨⟨M66, v67⟩, ev67, hf⟩ := job hf
        refine Eq.trans ?_ (fr_X8_work ev67 a i (by omega))
        show Mz a i = M66 a i
        obtain ⟨⟨u75, u76⟩, hf, hy69⟩ := job hf
        have K71 : Mz a i = M66 a i := by
          replace hf := hy69
          obtain ⟨M77, eM77, hf⟩ := job hf
          refine Eq.trans ?_ (fr_X8_exchange eM77 a i (by omega))
          show Mz a i = M77 a i
          obtain ⟨rfl, rfl, rfl⟩ := jp3 (Option.some.inj hf)
          exact (K63)
        by_cases hc74 : v67 = 0
        · replace hf := jifp hc74 hf
          obtain ⟨rfl, rfl⟩ := jp2 (Option.some.inj hf)
          exact (K71)
        · replace hf := jifn hc74 hf
          by_cases hc73 : z54 ≤ (M66 221 21)
          · replace hf := jifp hc73 hf
            obtain ⟨rfl, rfl⟩ := jp2 (Option.some.inj hf)
            exact (K71)
          · replace hf := jifn hc73 hf
            obtain ⟨rfl, rfl⟩ := jp2 (Option.some.inj hf)
            exact (K71)
  refine jLp_ind (P := fun ((z9, M10) : Int32 × JMem) => Mz a i = M10 a i) ?_ N _ y4
  rintro ⟨z9, M10⟩ x_8 hf ih7 hx6
  show Mz a i = M10 a i
  by_cases hc46 : 256 ≤ z9
  · replace hf := jifp hc46 hf
    have hf := hx6 _ (Option.some.inj hf).symm
    obtain rfl := hf
    exact K5
  · replace hf := jifn hc46 hf
    obtain ⟨M12, eM12, hf⟩ := job hf
    refine Eq.trans ?_ (jwr_fr eM12 (by omega))
    obtain ⟨M45, hf, hy14⟩ := job hf
    have K16 : Mz a i = M45 a i := by
      replace hf := hy14
      have hih : Mz a i = M45 a i := ih7 (z9 + 1, M45) (Option.some.inj hf).symm
      exact hih
    by_cases hc44 : (M12 221 2) ≤ (z9 / 32)
    · replace hf := jifp hc44 hf
      obtain rfl := Option.some.inj hf
      exact (K16)
    · replace hf := jifn hc44 hf
      obtain ⟨v18, ev18, hf⟩ := job hf
      by_cases hc43 : v18 = 0
      · replace hf := jifp hc43 hf
        obtain ⟨v19, ev19, hf⟩ := job hf
        by_cases hc42 : v19 ≤ ((z9 - z9 / 32 * 32) + 1)
        · replace hf := jifp hc42 hf
          obtain rfl := Option.some.inj hf
          exact (K16)
        · replace hf := jifn hc42 hf
          obtain ⟨v20, ev20, hf⟩ := job hf
          obtain ⟨v21, ev21, hf⟩ := job hf
          obtain ⟨v22, ev22, hf⟩ := job hf
          show Mz a i = M12 a i
          obtain ⟨u40, hf, hy24⟩ := job hf
          have K26 : (hbu40 : u40 = 0 ∨ u40 = 1) → Mz a i = M12 a i := by
            intro hbu40
            replace hf := hy24
            obtain ⟨M41, eM41, hf⟩ := job hf
            refine Eq.trans ?_ (jwr_fr eM41 (by omega))
            obtain rfl := Option.some.inj hf
            exact (K16)
          obtain ⟨y30, hf, hy29⟩ := jcb hf
          have K31 : y30 = Sum.inr () → Mz a i = M12 a i := by
            intro hyy
            subst hyy
            replace hf := hy29
            obtain rfl := Option.some.inj hf
            exact (K26 (Or.inl rfl))
          by_cases hc39 : v22 = 0
          · replace hf := jifp hc39 hf
            obtain ⟨v33, ev33, hf⟩ := job hf
            show Mz a i = M12 a i
            by_cases hc38 : v33 = 0
            · replace hf := jifp hc38 hf
              obtain ⟨v34, ev34, hf⟩ := job hf
              obtain ⟨v35, ev35, hf⟩ := job hf
              obtain ⟨v36, ev36, hf⟩ := job hf
              by_cases hc37 : v34 = (v35 + v36)
              · replace hf := jifp hc37 hf
                obtain rfl := Option.some.inj hf
                replace hf := hy29
                obtain rfl := Option.some.inj hf
                exact (K26 (Or.inr rfl))
              · replace hf := jifn hc37 hf
                exact (K31 (Option.some.inj hf).symm)
            · replace hf := jifn hc38 hf
              exact (K31 (Option.some.inj hf).symm)
          · replace hf := jifn hc39 hf
            exact (K31 (Option.some.inj hf).symm)
      · replace hf := jifn hc43 hf
        obtain rfl := Option.some.inj hf
        exact (K16)
set_option maxHeartbeats 4000000 in
theorem fr_X8_better {N : Nat} {M : JMem} {x1 : Int32} {Mz : JMem} {r : Int32} (hf : f_X8_better N M x1 = some (Mz, r)) (a i : Nat) (hA : ¬ ((a = 221 ∧ i = 21) ∨ a = 231 ∨ a = 237 ∨ a = 238 ∨ a = 239 ∨ a = 240 ∨ a = 241)) : Mz a i = M a i := by
  unfold f_X8_better at hf
  show Mz a i = M a i
  by_cases hc18 : (jin3 x1.toInt64 0 50) = 0
  · replace hf := jifp hc18 hf
    obtain ⟨rfl, rfl⟩ := Prod.mk.inj (Option.some.inj hf)
    rfl
  · replace hf := jifn hc18 hf
    obtain ⟨⟨M1, v2⟩, ev2, hf⟩ := job hf
    refine Eq.trans ?_ (fr_X8_hasTails ev2 a i (by omega))
    show Mz a i = M1 a i
    by_cases hc17 : v2 = 0
    · replace hf := jifp hc17 hf
      obtain ⟨rfl, rfl⟩ := Prod.mk.inj (Option.some.inj hf)
      rfl
    · replace hf := jifn hc17 hf
      obtain ⟨⟨t11, t12⟩, y4, hy3⟩ := job hf
      have K5 : Mz a i = t12 a i := by
        replace hf := hy3
        obtain ⟨rfl, rfl⟩ := Prod.mk.inj (Option.some.inj hf)
        rfl
      refine jLp_ind (P := fun ((z9, M10) : Int32 × JMem) => Mz a i = M10 a i) ?_ N _ y4
      rintro ⟨z9, M10⟩ x_8 hf ih7 hx6
      show Mz a i = M10 a i
      by_cases hc16 : x1 ≤ z9
      · replace hf := jifp hc16 hf
        have hf := hx6 _ (Option.some.inj hf).symm
        obtain ⟨rfl, rfl⟩ := jp2 hf
        exact K5
      · replace hf := jifn hc16 hf
        obtain ⟨⟨M13, v14⟩, ev14, hf⟩ := job hf
        refine Eq.trans ?_ (fr_X8_swapBest ev14 a i (by omega))
        show Mz a i = M13 a i
        by_cases hc15 : v14 = 0
        · replace hf := jifp hc15 hf
          have hf := hx6 _ (Option.some.inj hf).symm
          obtain ⟨rfl, rfl⟩ := jp2 hf
          exact K5
        · replace hf := jifn hc15 hf
          have hih : Mz a i = M13 a i := ih7 (z9 + 1, M13) (Option.some.inj hf).symm
          exact hih
set_option maxHeartbeats 4000000 in
theorem fr_X8_tell {M : JMem} {x1 : Int32} {x2 : Int32} {Mz : JMem} (hf : f_X8_tell M x1 x2 = some Mz) (a i : Nat) (hA : ¬ ((a = 221 ∧ i = 28) ∨ a = 244)) : Mz a i = M a i := by
  unfold f_X8_tell at hf
  obtain ⟨v1, ev1, hf⟩ := job hf
  obtain ⟨M2, eM2, hf⟩ := job hf
  refine Eq.trans ?_ (jwr_fr eM2 (by omega))
  obtain ⟨M3, eM3, hf⟩ := job hf
  refine Eq.trans ?_ (by first | exact jup_fr eM3 (by omega) | exact jfl_fr eM3 (by omega))
  obtain rfl := Option.some.inj hf
  rfl
set_option maxHeartbeats 4000000 in
theorem fr_X8_head {M : JMem} {x1 : Int32} {x2 : Int32} {Mz : JMem} (hf : f_X8_head M x1 x2 = some Mz) (a i : Nat) (hA : ¬ ((a = 221 ∧ i = 28) ∨ a = 242)) : Mz a i = M a i := by
  unfold f_X8_head at hf
  obtain ⟨v1, ev1, hf⟩ := job hf
  by_cases hc4 : x2 ≤ v1
  · replace hf := jifp hc4 hf
    obtain rfl := Option.some.inj hf
    rfl
  · replace hf := jifn hc4 hf
    obtain ⟨M2, eM2, hf⟩ := job hf
    refine Eq.trans ?_ (jwr_fr eM2 (by omega))
    obtain ⟨M3, eM3, hf⟩ := job hf
    refine Eq.trans ?_ (by first | exact jup_fr eM3 (by omega) | exact jfl_fr eM3 (by omega))
    obtain rfl := Option.some.inj hf
    rfl
set_option maxHeartbeats 4000000 in
theorem fr_X8_dead {M : JMem} {x1 : Int32} {x2 : Int32} {Mz : JMem} (hf : f_X8_dead M x1 x2 = some Mz) (a i : Nat) (hA : ¬ ((a = 221 ∧ i = 28) ∨ a = 243)) : Mz a i = M a i := by
  unfold f_X8_dead at hf
  obtain ⟨v1, ev1, hf⟩ := job hf
  by_cases hc4 : v1 ≤ x2
  · replace hf := jifp hc4 hf
    obtain rfl := Option.some.inj hf
    rfl
  · replace hf := jifn hc4 hf
    obtain ⟨M2, eM2, hf⟩ := job hf
    refine Eq.trans ?_ (jwr_fr eM2 (by omega))
    obtain ⟨M3, eM3, hf⟩ := job hf
    refine Eq.trans ?_ (by first | exact jup_fr eM3 (by omega) | exact jfl_fr eM3 (by omega))
    obtain rfl := Option.some.inj hf
    rfl
set_option maxHeartbeats 4000000 in
theorem fr_X8_ask {N : Nat} {M : JMem} {Mz : JMem} (hf : f_X8_ask N M = some Mz) (a i : Nat) (hA : ¬ ((a = 221 ∧ i = 29))) : Mz a i = M a i := by
  unfold f_X8_ask at hf
  obtain ⟨t9, y2, hy1⟩ := job hf
  have K3 : Mz a i = t9 a i := by
    replace hf := hy1
    obtain rfl := Option.some.inj hf
    rfl
  refine jLp_ind (P := fun ((z7, M8) : Int32 × JMem) => Mz a i = M8 a i) ?_ N _ y2
  rintro ⟨z7, M8⟩ x_6 hf ih5 hx4
  show Mz a i = M8 a i
  by_cases hc27 : (M8 221 11) ≤ z7
  · replace hf := jifp hc27 hf
    have hf := hx4 _ (Option.some.inj hf).symm
    obtain rfl := hf
    exact K3
  · replace hf := jifn hc27 hf
    obtain ⟨u25, hf, hy11⟩ := job hf
    have K13 : (hbu25 : u25 = 0 ∨ u25 = 1) → Mz a i = M8 a i := by
      intro hbu25
      replace hf := hy11
      obtain ⟨M26, eM26, hf⟩ := job hf
      refine Eq.trans ?_ (by first | exact jup_fr eM26 (by omega) | exact jfl_fr eM26 (by omega))
      have hih : Mz a i = M26 a i := ih5 (z7 + 1, M26) (Option.some.inj hf).symm
      exact hih
    obtain ⟨y17, hf, hy16⟩ := jcb hf
    have K18 : y17 = Sum.inr () → Mz a i = M8 a i := by
      intro hyy
      subst hyy
      replace hf := hy16
      obtain rfl := Option.some.inj hf
      exact (K13 (Or.inr rfl))
    by_cases hc24 : (M8 221 29) = 0
    · replace hf := jifp hc24 hf
      obtain ⟨v20, ev20, hf⟩ := job hf
      obtain ⟨v21, ev21, hf⟩ := job hf
      obtain ⟨v22, ev22, hf⟩ := job hf
      by_cases hc23 : v22 ≤ (v20 - v21)
      · replace hf := jifp hc23 hf
        obtain rfl := Option.some.inj hf
        replace hf := hy16
        obtain rfl := Option.some.inj hf
        exact (K13 (Or.inl rfl))
      · replace hf := jifn hc23 hf
        exact (K18 (Option.some.inj hf).symm)
    · replace hf := jifn hc24 hf
      exact (K18 (Option.some.inj hf).symm)
set_option maxHeartbeats 4000000 in
theorem fr_X8_byPieces {N : Nat} {M : JMem} {Mz : JMem} (hf : f_X8_byPieces N M = some Mz) (a i : Nat) (hA : ¬ ((a = 221 ∧ i = 28) ∨ a = 242 ∨ a = 243)) : Mz a i = M a i := by
  unfold f_X8_byPieces at hf
  obtain ⟨t9, y2, hy1⟩ := job hf
  have K3 : Mz a i = t9 a i := by
    replace hf := hy1
    obtain rfl := Option.some.inj hf
    rfl
  refine jLp_ind (P := fun ((z7, M8) : Int32 × JMem) => Mz a i = M8 a i) ?_ N _ y2
  rintro ⟨z7, M8⟩ x_6 hf ih5 hx4
  show Mz a i = M8 a i
  by_cases hc42 : (M8 221 6) ≤ z7
  · replace hf := jifp hc42 hf
    have hf := hx4 _ (Option.some.inj hf).symm
    obtain rfl := hf
    exact K3
  · replace hf := jifn hc42 hf
    obtain ⟨t18, y11, hy10⟩ := job hf
    have K12 : Mz a i = t18 a i := by
      replace hf := hy10
      obtain ⟨v26, ev26, hf⟩ := job hf
      obtain ⟨t35, y28, hy27⟩ := job hf
      have K29 : Mz a i = t35 a i := by
        replace hf := hy27
        have hih : Mz a i = t35 a i := ih5 (z7 + 1, t35) (Option.some.inj hf).symm
        exact hih
      refine jLp_ind (P := fun ((z33, M34) : Int32 × JMem) => Mz a i = M34 a i) ?_ N _ y28
      rintro ⟨z33, M34⟩ x_32 hf ih31 hx30
      show Mz a i = M34 a i
      by_cases hc41 : z33 < 0
      · replace hf := jifp hc41 hf
        have hf := hx30 _ (Option.some.inj hf).symm
        obtain rfl := hf
        exact K29
      · replace hf := jifn hc41 hf
        obtain ⟨v36, ev36, hf⟩ := job hf
        obtain ⟨v37, ev37, hf⟩ := job hf
        obtain ⟨v38, ev38, hf⟩ := job hf
        obtain ⟨v39, ev39, hf⟩ := job hf
        obtain ⟨M40, eM40, hf⟩ := job hf
        refine Eq.trans ?_ (fr_X8_dead eM40 a i (by omega))
        show Mz a i = M40 a i
        have hih : Mz a i = M40 a i := ih31 (z33 + (-1), M40) (Option.some.inj hf).symm
        exact hih
    refine jLp_ind (P := fun ((z16, M17) : Int32 × JMem) => Mz a i = M17 a i) ?_ N _ y11
    rintro ⟨z16, M17⟩ x_15 hf ih14 hx13
    show Mz a i = M17 a i
    obtain ⟨v19, ev19, hf⟩ := job hf
    by_cases hc25 : v19 ≤ z16
    · replace hf := jifp hc25 hf
      have hf := hx13 _ (Option.some.inj hf).symm
      obtain rfl := hf
      exact K12
    · replace hf := jifn hc25 hf
      obtain ⟨v20, ev20, hf⟩ := job hf
      obtain ⟨v21, ev21, hf⟩ := job hf
      obtain ⟨v22, ev22, hf⟩ := job hf
      obtain ⟨v23, ev23, hf⟩ := job hf
      obtain ⟨M24, eM24, hf⟩ := job hf
      refine Eq.trans ?_ (fr_X8_head eM24 a i (by omega))
      show Mz a i = M24 a i
      have hih : Mz a i = M24 a i := ih14 (z16 + 1, M24) (Option.some.inj hf).symm
      exact hih
set_option maxHeartbeats 4000000 in
theorem fr_X8_byAhead {N : Nat} {M : JMem} {Mz : JMem} (hf : f_X8_byAhead N M = some Mz) (a i : Nat) (hA : ¬ ((a = 221 ∧ i = 28) ∨ a = 242 ∨ a = 243)) : Mz a i = M a i := by
  unfold f_X8_byAhead at hf
  obtain ⟨t9, y2, hy1⟩ := job hf
  have K3 : Mz a i = t9 a i := by
    replace hf := hy1
    obtain rfl := Option.some.inj hf
    rfl
  refine jLp_ind (P := fun ((z7, M8) : Int32 × JMem) => Mz a i = M8 a i) ?_ N _ y2
  rintro ⟨z7, M8⟩ x_6 hf ih5 hx4
  show Mz a i = M8 a i
  by_cases hc34 : (M8 221 11) ≤ z7
  · replace hf := jifp hc34 hf
    have hf := hx4 _ (Option.some.inj hf).symm
    obtain rfl := hf
    exact K3
  · replace hf := jifn hc34 hf
    obtain ⟨t18, y11, hy10⟩ := job hf
    have K12 : Mz a i = t18 a i := by
      replace hf := hy10
      have hih : Mz a i = t18 a i := ih5 (z7 + 1, t18) (Option.some.inj hf).symm
      exact hih
    refine jLp_ind (P := fun ((z16, M17) : Int32 × JMem) => Mz a i = M17 a i) ?_ N _ y11
    rintro ⟨z16, M17⟩ x_15 hf ih14 hx13
    show Mz a i = M17 a i
    by_cases hc33 : (M17 221 11) ≤ z16
    · replace hf := jifp hc33 hf
      have hf := hx13 _ (Option.some.inj hf).symm
      obtain rfl := hf
      exact K12
    · replace hf := jifn hc33 hf
      obtain ⟨v19, ev19, hf⟩ := job hf
      show Mz a i = M17 a i
      obtain ⟨M32, hf, hy21⟩ := job hf
      have K23 : Mz a i = M32 a i := by
        replace hf := hy21
        have hih : Mz a i = M32 a i := ih14 (z16 + 1, M32) (Option.some.inj hf).symm
        exact hih
      by_cases hc31 : v19 = 0
      · replace hf := jifp hc31 hf
        obtain rfl := Option.some.inj hf
        exact (K23)
      · replace hf := jifn hc31 hf
        obtain ⟨v25, ev25, hf⟩ := job hf
        obtain ⟨v26, ev26, hf⟩ := job hf
        obtain ⟨M27, eM27, hf⟩ := job hf
        refine Eq.trans ?_ (fr_X8_head eM27 a i (by omega))
        show Mz a i = M27 a i
        obtain ⟨v28, ev28, hf⟩ := job hf
        obtain ⟨v29, ev29, hf⟩ := job hf
        obtain ⟨M30, eM30, hf⟩ := job hf
        refine Eq.trans ?_ (fr_X8_dead eM30 a i (by omega))
        show Mz a i = M30 a i
        obtain rfl := Option.some.inj hf
        exact (K23)
set_option maxHeartbeats 4000000 in
theorem fr_X8_byPairs {N : Nat} {M : JMem} {x1 : Int32} {Mz : JMem} (hf : f_X8_byPairs N M x1 = some Mz) (a i : Nat) (hA : ¬ ((a = 221 ∧ i = 28) ∨ (a = 221 ∧ i = 29) ∨ a = 244)) : Mz a i = M a i := by
  unfold f_X8_byPairs at hf
  obtain ⟨t9, y2, hy1⟩ := job hf
  have K3 : Mz a i = t9 a i := by
    replace hf := hy1
    obtain rfl := Option.some.inj hf
    rfl
  refine jLp_ind (P := fun ((z7, M8) : Int32 × JMem) => Mz a i = M8 a i) ?_ N _ y2
  rintro ⟨z7, M8⟩ x_6 hf ih5 hx4
  show Mz a i = M8 a i
  by_cases hc70 : (M8 221 11) ≤ z7
  · replace hf := jifp hc70 hf
    have hf := hx4 _ (Option.some.inj hf).symm
    obtain rfl := hf
    exact K3
  · replace hf := jifn hc70 hf
    by_cases hc69 : (M8 221 29) = 0
    · replace hf := jifp hc69 hf
      obtain ⟨t18, y11, hy10⟩ := job hf
      have K12 : Mz a i = t18 a i := by
        replace hf := hy10
        have hih : Mz a i = t18 a i := ih5 (z7 + 1, t18) (Option.some.inj hf).symm
        exact hih
      refine jLp_ind (P := fun ((z16, M17) : Int32 × JMem) => Mz a i = M17 a i) ?_ N _ y11
      rintro ⟨z16, M17⟩ x_15 hf ih14 hx13
      show Mz a i = M17 a i
      by_cases hc68 : (M17 221 11) ≤ z16
      · replace hf := jifp hc68 hf
        have hf := hx13 _ (Option.some.inj hf).symm
        obtain rfl := hf
        exact K12
      · replace hf := jifn hc68 hf
        by_cases hc67 : (M17 221 29) = 0
        · replace hf := jifp hc67 hf
          obtain ⟨v19, ev19, hf⟩ := job hf
          show Mz a i = M17 a i
          obtain ⟨M66, hf, hy21⟩ := job hf
          have K23 : Mz a i = M66 a i := by
            replace hf := hy21
            have hih : Mz a i = M66 a i := ih14 (z16 + 1, M66) (Option.some.inj hf).symm
            exact hih
          by_cases hc65 : v19 = 0
          · replace hf := jifp hc65 hf
            obtain rfl := Option.some.inj hf
            exact (K23)
          · replace hf := jifn hc65 hf
            obtain ⟨v25, ev25, hf⟩ := job hf
            show Mz a i = M17 a i
            by_cases hc64 : v25 = 0
            · replace hf := jifp hc64 hf
              obtain rfl := Option.some.inj hf
              exact (K23)
            · replace hf := jifn hc64 hf
              obtain ⟨v26, ev26, hf⟩ := job hf
              show Mz a i = M17 a i
              by_cases hc63 : v26 = 0
              · replace hf := jifp hc63 hf
                obtain ⟨v27, ev27, hf⟩ := job hf
                show Mz a i = M17 a i
                by_cases hc62 : v27 = 0
                · replace hf := jifp hc62 hf
                  obtain ⟨v28, ev28, hf⟩ := job hf
                  obtain ⟨v29, ev29, hf⟩ := job hf
                  obtain ⟨v30, ev30, hf⟩ := job hf
                  obtain ⟨v31, ev31, hf⟩ := job hf
                  obtain ⟨u38, hf, hy33⟩ := job hf
                  have K35 : (hbu38 : u38 = 0 ∨ u38 = 1) → Mz a i = M17 a i := by
                    intro hbu38
                    replace hf := hy33
                    obtain ⟨v39, ev39, hf⟩ := job hf
                    obtain ⟨v40, ev40, hf⟩ := job hf
                    obtain ⟨v41, ev41, hf⟩ := job hf
                    obtain ⟨v42, ev42, hf⟩ := job hf
                    obtain ⟨u49, hf, hy44⟩ := job hf
                    have K46 : (hbu49 : u49 = 0 ∨ u49 = 1) → Mz a i = M17 a i := by
                      intro hbu49
                      replace hf := hy44
                      obtain ⟨y52, hf, hy51⟩ := jcb hf
                      have K53 : y52 = Sum.inr () → Mz a i = M17 a i := by
                        intro hyy
                        subst hyy
                        replace hf := hy51
                        by_cases hc61 : u38 = 0
                        · replace hf := jifp hc61 hf
                          by_cases hc59 : u49 = 0
                          · replace hf := jifp hc59 hf
                            obtain rfl := Option.some.inj hf
                            exact (K23)
                          · replace hf := jifn hc59 hf
                            obtain ⟨M58, eM58, hf⟩ := job hf
                            refine Eq.trans ?_ (fr_X8_tell eM58 a i (by omega))
                            show Mz a i = M58 a i
                            obtain rfl := Option.some.inj hf
                            exact (K23)
                        · replace hf := jifn hc61 hf
                          obtain ⟨M60, eM60, hf⟩ := job hf
                          refine Eq.trans ?_ (fr_X8_tell eM60 a i (by omega))
                          show Mz a i = M60 a i
                          obtain rfl := Option.some.inj hf
                          exact (K23)
                      by_cases hc57 : u38 = 0
                      · replace hf := jifp hc57 hf
                        exact (K53 (Option.some.inj hf).symm)
                      · replace hf := jifn hc57 hf
                        by_cases hc56 : u49 = 0
                        · replace hf := jifp hc56 hf
                          exact (K53 (Option.some.inj hf).symm)
                        · replace hf := jifn hc56 hf
                          obtain ⟨M55, eM55, hf⟩ := job hf
                          refine Eq.trans ?_ (by first | exact jup_fr eM55 (by omega) | exact jfl_fr eM55 (by omega))
                          obtain rfl := Option.some.inj hf
                          replace hf := hy51
                          obtain rfl := Option.some.inj hf
                          exact (K23)
                    by_cases hc48 : ((v39 + v40) + v41) ≤ v42
                    · replace hf := jifp hc48 hf
                      obtain rfl := Option.some.inj hf
                      exact (K46 (Or.inl rfl))
                    · replace hf := jifn hc48 hf
                      obtain rfl := Option.some.inj hf
                      exact (K46 (Or.inr rfl))
                  by_cases hc37 : ((v28 + v29) + v30) ≤ v31
                  · replace hf := jifp hc37 hf
                    obtain rfl := Option.some.inj hf
                    exact (K35 (Or.inl rfl))
                  · replace hf := jifn hc37 hf
                    obtain rfl := Option.some.inj hf
                    exact (K35 (Or.inr rfl))
                · replace hf := jifn hc62 hf
                  obtain rfl := Option.some.inj hf
                  exact (K23)
              · replace hf := jifn hc63 hf
                obtain rfl := Option.some.inj hf
                exact (K23)
        · replace hf := jifn hc67 hf
          have hf := hx13 _ (Option.some.inj hf).symm
          obtain rfl := hf
          exact K12
    · replace hf := jifn hc69 hf
      have hf := hx4 _ (Option.some.inj hf).symm
      obtain rfl := hf
      exact K3
set_option maxHeartbeats 4000000 in
theorem fr_X8_bySet {N : Nat} {M : JMem} {x1 : Int32} {x2 : Int32} {x3 : Int32} {Mz : JMem} (hf : f_X8_bySet N M x1 x2 x3 = some Mz) (a i : Nat) (hA : ¬ ((a = 221 ∧ i = 28) ∨ (a = 221 ∧ i = 29) ∨ a = 242 ∨ a = 243)) : Mz a i = M a i := by
  unfold f_X8_bySet at hf
  obtain ⟨v1, ev1, hf⟩ := job hf
  obtain ⟨v2, ev2, hf⟩ := job hf
  obtain ⟨⟨t12, t13⟩, y4, hy3⟩ := job hf
  have K5 : Mz a i = M a i := by
    replace hf := hy3
    by_cases hc80 : t12 = 0
    · replace hf := jifp hc80 hf
      obtain rfl := Option.some.inj hf
      rfl
    · replace hf := jifn hc80 hf
      by_cases hc79 : t13 ≤ (v2 - v1)
      · replace hf := jifp hc79 hf
        obtain ⟨t37, y30, hy29⟩ := job hf
        have K31 : Mz a i = t37 a i := by
          replace hf := hy29
          obtain rfl := Option.some.inj hf
          rfl
        refine jLp_ind (P := fun ((z35, M36) : Int32 × JMem) => Mz a i = M36 a i) ?_ N _ y30
        rintro ⟨z35, M36⟩ x_34 hf ih33 hx32
        show Mz a i = M36 a i
        by_cases hc77 : (M36 221 11) ≤ z35
        · replace hf := jifp hc77 hf
          have hf := hx32 _ (Option.some.inj hf).symm
          obtain rfl := hf
          exact K31
        · replace hf := jifn hc77 hf
          obtain ⟨v38, ev38, hf⟩ := job hf
          show Mz a i = M36 a i
          obtain ⟨M76, hf, hy40⟩ := job hf
          have K42 : Mz a i = M76 a i := by
            replace hf := hy40
            have hih : Mz a i = M76 a i := ih33 (z35 + 1, M76) (Option.some.inj hf).symm
            exact hih
          by_cases hc75 : v38 = 0
          · replace hf := jifp hc75 hf
            obtain rfl := Option.some.inj hf
            exact (K42)
          · replace hf := jifn hc75 hf
            by_cases hc74 : ((jushr t12 z35) &&& 1) = 1
            · replace hf := jifp hc74 hf
              obtain rfl := Option.some.inj hf
              exact (K42)
            · replace hf := jifn hc74 hf
              obtain ⟨v44, ev44, hf⟩ := job hf
              obtain ⟨u52, hf, hy46⟩ := job hf
              have K48 : Mz a i = M36 a i := by
                replace hf := hy46
                obtain ⟨v53, ev53, hf⟩ := job hf
                obtain ⟨M61, hf, hy55⟩ := job hf
                have K57 : Mz a i = M61 a i := by
                  replace hf := hy55
                  obtain ⟨v62, ev62, hf⟩ := job hf
                  obtain ⟨u70, hf, hy64⟩ := job hf
                  have K66 : Mz a i = M61 a i := by
                    replace hf := hy64
                    obtain ⟨v71, ev71, hf⟩ := job hf
                    by_cases hc73 : ((v1 + t13) + v71) ≤ u70
                    · replace hf := jifp hc73 hf
                      obtain rfl := Option.some.inj hf
                      exact (K42)
                    · replace hf := jifn hc73 hf
                      obtain ⟨M72, eM72, hf⟩ := job hf
                      refine Eq.trans ?_ (fr_X8_dead eM72 a i (by omega))
                      show Mz a i = M72 a i
                      obtain rfl := Option.some.inj hf
                      exact (K42)
                  by_cases hc69 : v2 ≤ v62
                  · replace hf := jifp hc69 hf
                    obtain ⟨v68, ev68, hf⟩ := job hf
                    obtain rfl := Option.some.inj hf
                    exact (K66)
                  · replace hf := jifn hc69 hf
                    obtain rfl := Option.some.inj hf
                    exact (K66)
                by_cases hc60 : ((u52 + t13) + v53) ≤ v2
                · replace hf := jifp hc60 hf
                  obtain rfl := Option.some.inj hf
                  exact (K57)
                · replace hf := jifn hc60 hf
                  obtain ⟨M59, eM59, hf⟩ := job hf
                  refine Eq.trans ?_ (fr_X8_head eM59 a i (by omega))
                  show Mz a i = M59 a i
                  obtain rfl := Option.some.inj hf
                  exact (K57)
              by_cases hc51 : v1 ≤ v44
              · replace hf := jifp hc51 hf
                obtain rfl := Option.some.inj hf
                exact (K48)
              · replace hf := jifn hc51 hf
                obtain ⟨v50, ev50, hf⟩ := job hf
                obtain rfl := Option.some.inj hf
                exact (K48)
      · replace hf := jifn hc79 hf
        obtain ⟨M78, eM78, hf⟩ := job hf
        refine Eq.trans ?_ (by first | exact jup_fr eM78 (by omega) | exact jfl_fr eM78 (by omega))
        obtain rfl := Option.some.inj hf
        rfl
  refine jLp_ind (P := fun ((z9, z10, z11) : Int32 × Int32 × Int32) => Mz a i = M a i) ?_ N _ y4
  rintro ⟨z9, z10, z11⟩ x_8 hf ih7 hx6
  show Mz a i = M a i
  by_cases hc28 : (M 221 11) ≤ z11
  · replace hf := jifp hc28 hf
    have hf := hx6 _ (Option.some.inj hf).symm
    obtain ⟨rfl, rfl⟩ := jp2 hf
    exact K5
  · replace hf := jifn hc28 hf
    obtain ⟨v14, ev14, hf⟩ := job hf
    show Mz a i = M a i
    obtain ⟨⟨u26, u27⟩, hf, hy16⟩ := job hf
    have K18 : Mz a i = M a i := by
      replace hf := hy16
      have hih : Mz a i = M a i := ih7 (u26, u27, z11 + 1) (Option.some.inj hf).symm
      exact hih
    by_cases hc25 : v14 = 0
    · replace hf := jifp hc25 hf
      obtain ⟨rfl, rfl⟩ := jp2 (Option.some.inj hf)
      exact (K18)
    · replace hf := jifn hc25 hf
      obtain ⟨v20, ev20, hf⟩ := job hf
      by_cases hc24 : v20 < v1
      · replace hf := jifp hc24 hf
        obtain ⟨rfl, rfl⟩ := jp2 (Option.some.inj hf)
        exact (K18)
      · replace hf := jifn hc24 hf
        obtain ⟨v21, ev21, hf⟩ := job hf
        by_cases hc23 : v2 < v21
        · replace hf := jifp hc23 hf
          obtain ⟨rfl, rfl⟩ := jp2 (Option.some.inj hf)
          exact (K18)
        · replace hf := jifn hc23 hf
          obtain ⟨v22, ev22, hf⟩ := job hf
          obtain ⟨rfl, rfl⟩ := jp2 (Option.some.inj hf)
          exact (K18)
set_option maxHeartbeats 4000000 in
theorem fr_X8_bySets {N : Nat} {M : JMem} {x1 : Int32} {Mz : JMem} (hf : f_X8_bySets N M x1 = some Mz) (a i : Nat) (hA : ¬ ((a = 221 ∧ i = 28) ∨ (a = 221 ∧ i = 29) ∨ a = 242 ∨ a = 243)) : Mz a i = M a i := by
  unfold f_X8_bySets at hf
  obtain ⟨t9, y2, hy1⟩ := job hf
  have K3 : Mz a i = t9 a i := by
    replace hf := hy1
    obtain rfl := Option.some.inj hf
    rfl
  refine jLp_ind (P := fun ((z7, M8) : Int32 × JMem) => Mz a i = M8 a i) ?_ N _ y2
  rintro ⟨z7, M8⟩ x_6 hf ih5 hx4
  show Mz a i = M8 a i
  by_cases hc33 : (M8 221 11) ≤ z7
  · replace hf := jifp hc33 hf
    have hf := hx4 _ (Option.some.inj hf).symm
    obtain rfl := hf
    exact K3
  · replace hf := jifn hc33 hf
    by_cases hc32 : (M8 221 29) = 0
    · replace hf := jifp hc32 hf
      obtain ⟨t18, y11, hy10⟩ := job hf
      have K12 : Mz a i = t18 a i := by
        replace hf := hy10
        have hih : Mz a i = t18 a i := ih5 (z7 + 1, t18) (Option.some.inj hf).symm
        exact hih
      refine jLp_ind (P := fun ((z16, M17) : Int32 × JMem) => Mz a i = M17 a i) ?_ N _ y11
      rintro ⟨z16, M17⟩ x_15 hf ih14 hx13
      show Mz a i = M17 a i
      by_cases hc31 : (M17 221 11) ≤ z16
      · replace hf := jifp hc31 hf
        have hf := hx13 _ (Option.some.inj hf).symm
        obtain rfl := hf
        exact K12
      · replace hf := jifn hc31 hf
        by_cases hc30 : (M17 221 29) = 0
        · replace hf := jifp hc30 hf
          obtain ⟨v19, ev19, hf⟩ := job hf
          show Mz a i = M17 a i
          obtain ⟨M29, hf, hy21⟩ := job hf
          have K23 : Mz a i = M29 a i := by
            replace hf := hy21
            have hih : Mz a i = M29 a i := ih14 (z16 + 1, M29) (Option.some.inj hf).symm
            exact hih
          by_cases hc28 : v19 = 0
          · replace hf := jifp hc28 hf
            obtain rfl := Option.some.inj hf
            exact (K23)
          · replace hf := jifn hc28 hf
            obtain ⟨v25, ev25, hf⟩ := job hf
            show Mz a i = M17 a i
            by_cases hc27 : v25 = 0
            · replace hf := jifp hc27 hf
              obtain rfl := Option.some.inj hf
              exact (K23)
            · replace hf := jifn hc27 hf
              obtain ⟨M26, eM26, hf⟩ := job hf
              refine Eq.trans ?_ (fr_X8_bySet eM26 a i (by omega))
              show Mz a i = M26 a i
              obtain rfl := Option.some.inj hf
              exact (K23)
        · replace hf := jifn hc30 hf
          have hf := hx13 _ (Option.some.inj hf).symm
          obtain rfl := hf
          exact K12
    · replace hf := jifn hc32 hf
      have hf := hx4 _ (Option.some.inj hf).symm
      obtain rfl := hf
      exact K3
set_option maxHeartbeats 4000000 in
theorem fr_X8_asks {N : Nat} {M : JMem} {x1 : Int32} {Mz : JMem} {r : Int32} (hf : f_X8_asks N M x1 = some (Mz, r)) (a i : Nat) (hA : ¬ ((a = 221 ∧ i = 28) ∨ (a = 221 ∧ i = 29) ∨ a = 242 ∨ a = 243 ∨ a = 244)) : Mz a i = M a i := by
  unfold f_X8_asks at hf
  obtain ⟨t9, y2, hy1⟩ := job hf
  have K3 : Mz a i = t9 a i := by
    replace hf := hy1
    obtain ⟨M13, eM13, hf⟩ := job hf
    refine Eq.trans ?_ (by first | exact jup_fr eM13 (by omega) | exact jfl_fr eM13 (by omega))
    obtain ⟨M14, eM14, hf⟩ := job hf
    refine Eq.trans ?_ (by first | exact jup_fr eM14 (by omega) | exact jfl_fr eM14 (by omega))
    obtain ⟨t23, y16, hy15⟩ := job hf
    have K17 : Mz a i = t23 a i := by
      replace hf := hy15
      by_cases hc88 : (t23 221 29) = 0
      · replace hf := jifp hc88 hf
        obtain ⟨rfl, rfl⟩ := Prod.mk.inj (Option.some.inj hf)
        rfl
      · replace hf := jifn hc88 hf
        obtain ⟨rfl, rfl⟩ := Prod.mk.inj (Option.some.inj hf)
        rfl
    refine jLp_ind (P := fun ((z21, M22) : Int32 × JMem) => Mz a i = M22 a i) ?_ N _ y16
    rintro ⟨z21, M22⟩ x_20 hf ih19 hx18
    show Mz a i = M22 a i
    by_cases hc87 : 20 ≤ z21
    · replace hf := jifp hc87 hf
      have hf := hx18 _ (Option.some.inj hf).symm
      obtain rfl := hf
      exact K17
    · replace hf := jifn hc87 hf
      by_cases hc86 : (M22 221 28) = 0
      · replace hf := jifp hc86 hf
        have hf := hx18 _ (Option.some.inj hf).symm
        obtain rfl := hf
        exact K17
      · replace hf := jifn hc86 hf
        by_cases hc85 : (M22 221 29) = 0
        · replace hf := jifp hc85 hf
          obtain ⟨M24, eM24, hf⟩ := job hf
          refine Eq.trans ?_ (by first | exact jup_fr eM24 (by omega) | exact jfl_fr eM24 (by omega))
          obtain ⟨M25, eM25, hf⟩ := job hf
          refine Eq.trans ?_ (fr_X8_byPieces eM25 a i (by omega))
          show Mz a i = M25 a i
          obtain ⟨M26, eM26, hf⟩ := job hf
          refine Eq.trans ?_ (fr_X8_ask eM26 a i (by omega))
          show Mz a i = M26 a i
          obtain ⟨M35, hf, hy28⟩ := job hf
          have K30 : Mz a i = M35 a i := by
            replace hf := hy28
            obtain ⟨t44, y37, hy36⟩ := job hf
            have K38 : Mz a i = t44 a i := by
              replace hf := hy36
              obtain ⟨M63, hf, hy57⟩ := job hf
              have K59 : Mz a i = M63 a i := by
                replace hf := hy57
                obtain ⟨t72, y65, hy64⟩ := job hf
                have K66 : Mz a i = t72 a i := by
                  replace hf := hy64
                  obtain ⟨M84, eM84, hf⟩ := job hf
                  refine Eq.trans ?_ (fr_X8_ask eM84 a i (by omega))
                  show Mz a i = M84 a i
                  have hih : Mz a i = M84 a i := ih19 (z21 + 1, M84) (Option.some.inj hf).symm
                  exact hih
                refine jLp_ind (P := fun ((z70, M71) : Int32 × JMem) => Mz a i = M71 a i) ?_ N _ y65
                rintro ⟨z70, M71⟩ x_69 hf ih68 hx67
                show Mz a i = M71 a i
                by_cases hc83 : (M71 221 2) ≤ z70
                · replace hf := jifp hc83 hf
                  have hf := hx67 _ (Option.some.inj hf).symm
                  obtain rfl := hf
                  exact K66
                · replace hf := jifn hc83 hf
                  by_cases hc82 : (M71 221 29) = 0
                  · replace hf := jifp hc82 hf
                    obtain ⟨v73, ev73, hf⟩ := job hf
                    obtain ⟨M81, hf, hy75⟩ := job hf
                    have K77 : Mz a i = M81 a i := by
                      replace hf := hy75
                      have hih : Mz a i = M81 a i := ih68 (z70 + 1, M81) (Option.some.inj hf).symm
                      exact hih
                    by_cases hc80 : v73 = 0
                    · replace hf := jifp hc80 hf
                      obtain ⟨M79, eM79, hf⟩ := job hf
                      refine Eq.trans ?_ (fr_X8_bySets eM79 a i (by omega))
                      show Mz a i = M79 a i
                      obtain rfl := Option.some.inj hf
                      exact (K77)
                    · replace hf := jifn hc80 hf
                      obtain rfl := Option.some.inj hf
                      exact (K77)
                  · replace hf := jifn hc82 hf
                    have hf := hx67 _ (Option.some.inj hf).symm
                    obtain rfl := hf
                    exact K66
              by_cases hc62 : (t44 221 29) = 0
              · replace hf := jifp hc62 hf
                obtain ⟨M61, eM61, hf⟩ := job hf
                refine Eq.trans ?_ (fr_X8_ask eM61 a i (by omega))
                show Mz a i = M61 a i
                obtain rfl := Option.some.inj hf
                exact (K59)
              · replace hf := jifn hc62 hf
                obtain rfl := Option.some.inj hf
                exact (K59)
            refine jLp_ind (P := fun ((z42, M43) : Int32 × JMem) => Mz a i = M43 a i) ?_ N _ y37
            rintro ⟨z42, M43⟩ x_41 hf ih40 hx39
            show Mz a i = M43 a i
            by_cases hc55 : (M43 221 2) ≤ z42
            · replace hf := jifp hc55 hf
              have hf := hx39 _ (Option.some.inj hf).symm
              obtain rfl := hf
              exact K38
            · replace hf := jifn hc55 hf
              by_cases hc54 : (M43 221 29) = 0
              · replace hf := jifp hc54 hf
                obtain ⟨v45, ev45, hf⟩ := job hf
                obtain ⟨M53, hf, hy47⟩ := job hf
                have K49 : Mz a i = M53 a i := by
                  replace hf := hy47
                  have hih : Mz a i = M53 a i := ih40 (z42 + 1, M53) (Option.some.inj hf).symm
                  exact hih
                by_cases hc52 : v45 = 0
                · replace hf := jifp hc52 hf
                  obtain ⟨M51, eM51, hf⟩ := job hf
                  refine Eq.trans ?_ (fr_X8_byPairs eM51 a i (by omega))
                  show Mz a i = M51 a i
                  obtain rfl := Option.some.inj hf
                  exact (K49)
                · replace hf := jifn hc52 hf
                  obtain rfl := Option.some.inj hf
                  exact (K49)
              · replace hf := jifn hc54 hf
                have hf := hx39 _ (Option.some.inj hf).symm
                obtain rfl := hf
                exact K38
          by_cases hc34 : (M26 221 29) = 0
          · replace hf := jifp hc34 hf
            obtain ⟨M32, eM32, hf⟩ := job hf
            refine Eq.trans ?_ (fr_X8_byAhead eM32 a i (by omega))
            show Mz a i = M32 a i
            obtain ⟨M33, eM33, hf⟩ := job hf
            refine Eq.trans ?_ (fr_X8_ask eM33 a i (by omega))
            show Mz a i = M33 a i
            obtain rfl := Option.some.inj hf
            exact (K30)
          · replace hf := jifn hc34 hf
            obtain rfl := Option.some.inj hf
            exact (K30)
        · replace hf := jifn hc85 hf
          have hf := hx18 _ (Option.some.inj hf).symm
          obtain rfl := hf
          exact K17
  refine jLp_ind (P := fun ((z7, M8) : Int32 × JMem) => Mz a i = M8 a i) ?_ N _ y2
  rintro ⟨z7, M8⟩ x_6 hf ih5 hx4
  show Mz a i = M8 a i
  by_cases hc12 : (M8 221 11) ≤ z7
  · replace hf := jifp hc12 hf
    have hf := hx4 _ (Option.some.inj hf).symm
    obtain rfl := hf
    exact K3
  · replace hf := jifn hc12 hf
    obtain ⟨M10, eM10, hf⟩ := job hf
    refine Eq.trans ?_ (jwr_fr eM10 (by omega))
    obtain ⟨M11, eM11, hf⟩ := job hf
    refine Eq.trans ?_ (jwr_fr eM11 (by omega))
    have hih : Mz a i = M11 a i := ih5 (z7 + 1, M11) (Option.some.inj hf).symm
    exact hih
set_option maxHeartbeats 4000000 in
theorem fr_X8_windows {N : Nat} {M : JMem} {x1 : Int32} {Mz : JMem} {r : Int32} (hf : f_X8_windows N M x1 = some (Mz, r)) (a i : Nat) (hA : ¬ ((a = 221 ∧ i = 28) ∨ (a = 221 ∧ i = 29) ∨ (a = 221 ∧ i = 30) ∨ (a = 221 ∧ i = 31) ∨ a = 242 ∨ a = 243 ∨ a = 244 ∨ a = 245 ∨ a = 246 ∨ a = 247)) : Mz a i = M a i := by
  unfold f_X8_windows at hf
  show Mz a i = M a i
  by_cases hc35 : (jin3 x1.toInt64 0 100000) = 0
  · replace hf := jifp hc35 hf
    obtain ⟨rfl, rfl⟩ := Prod.mk.inj (Option.some.inj hf)
    rfl
  · replace hf := jifn hc35 hf
    obtain ⟨v1, ev1, hf⟩ := job hf
    show Mz a i = M a i
    by_cases hc34 : v1 = 0
    · replace hf := jifp hc34 hf
      obtain ⟨rfl, rfl⟩ := Prod.mk.inj (Option.some.inj hf)
      rfl
    · replace hf := jifn hc34 hf
      obtain ⟨t10, y3, hy2⟩ := job hf
      have K4 : Mz a i = t10 a i := by
        replace hf := hy2
        obtain ⟨⟨M13, v14⟩, ev14, hf⟩ := job hf
        refine Eq.trans ?_ (fr_X8_asks ev14 a i (by omega))
        show Mz a i = M13 a i
        obtain ⟨M15, eM15, hf⟩ := job hf
        refine Eq.trans ?_ (by first | exact jup_fr eM15 (by omega) | exact jfl_fr eM15 (by omega))
        obtain ⟨M16, eM16, hf⟩ := job hf
        refine Eq.trans ?_ (by first | exact jup_fr eM16 (by omega) | exact jfl_fr eM16 (by omega))
        obtain ⟨t25, y18, hy17⟩ := job hf
        have K19 : Mz a i = t25 a i := by
          replace hf := hy17
          by_cases hc33 : v14 = 0
          · replace hf := jifp hc33 hf
            obtain ⟨rfl, rfl⟩ := Prod.mk.inj (Option.some.inj hf)
            rfl
          · replace hf := jifn hc33 hf
            obtain ⟨rfl, rfl⟩ := Prod.mk.inj (Option.some.inj hf)
            rfl
        refine jLp_ind (P := fun ((z23, M24) : Int32 × JMem) => Mz a i = M24 a i) ?_ N _ y18
        rintro ⟨z23, M24⟩ x_22 hf ih21 hx20
        show Mz a i = M24 a i
        by_cases hc32 : 32 ≤ z23
        · replace hf := jifp hc32 hf
          have hf := hx20 _ (Option.some.inj hf).symm
          obtain rfl := hf
          exact K19
        · replace hf := jifn hc32 hf
          obtain ⟨v26, ev26, hf⟩ := job hf
          obtain ⟨M27, eM27, hf⟩ := job hf
          refine Eq.trans ?_ (jwr_fr eM27 (by omega))
          obtain ⟨v28, ev28, hf⟩ := job hf
          obtain ⟨M29, eM29, hf⟩ := job hf
          refine Eq.trans ?_ (jwr_fr eM29 (by omega))
          obtain ⟨v30, ev30, hf⟩ := job hf
          obtain ⟨M31, eM31, hf⟩ := job hf
          refine Eq.trans ?_ (jwr_fr eM31 (by omega))
          have hih : Mz a i = M31 a i := ih21 (z23 + 1, M31) (Option.some.inj hf).symm
          exact hih
      refine jLp_ind (P := fun ((z8, M9) : Int32 × JMem) => Mz a i = M9 a i) ?_ N _ y3
      rintro ⟨z8, M9⟩ x_7 hf ih6 hx5
      show Mz a i = M9 a i
      by_cases hc12 : 32 ≤ z8
      · replace hf := jifp hc12 hf
        have hf := hx5 _ (Option.some.inj hf).symm
        obtain rfl := hf
        exact K4
      · replace hf := jifn hc12 hf
        obtain ⟨M11, eM11, hf⟩ := job hf
        refine Eq.trans ?_ (jwr_fr eM11 (by omega))
        have hih : Mz a i = M11 a i := ih6 (z8 + 1, M11) (Option.some.inj hf).symm
        exact hih
set_option maxHeartbeats 4000000 in
theorem fr_X8_gather {N : Nat} {M : JMem} {x1 : Int32} {Mz : JMem} (hf : f_X8_gather N M x1 = some Mz) (a i : Nat) (hA : ¬ ((a = 221 ∧ i = 36) ∨ a = 248 ∨ a = 249 ∨ a = 250 ∨ a = 251)) : Mz a i = M a i := by
  unfold f_X8_gather at hf
  obtain ⟨M1, eM1, hf⟩ := job hf
  refine Eq.trans ?_ (by first | exact jup_fr eM1 (by omega) | exact jfl_fr eM1 (by omega))
  obtain ⟨t10, y3, hy2⟩ := job hf
  have K4 : Mz a i = t10 a i := by
    replace hf := hy2
    obtain rfl := Option.some.inj hf
    rfl
  refine jLp_ind (P := fun ((z8, M9) : Int32 × JMem) => Mz a i = M9 a i) ?_ N _ y3
  rintro ⟨z8, M9⟩ x_7 hf ih6 hx5
  show Mz a i = M9 a i
  by_cases hc43 : (M9 221 11) ≤ z8
  · replace hf := jifp hc43 hf
    have hf := hx5 _ (Option.some.inj hf).symm
    obtain rfl := hf
    exact K4
  · replace hf := jifn hc43 hf
    obtain ⟨M11, eM11, hf⟩ := job hf
    refine Eq.trans ?_ (jwr_fr eM11 (by omega))
    obtain ⟨t20, y13, hy12⟩ := job hf
    have K14 : Mz a i = t20 a i := by
      replace hf := hy12
      obtain ⟨v28, ev28, hf⟩ := job hf
      show Mz a i = t20 a i
      obtain ⟨v29, ev29, hf⟩ := job hf
      obtain ⟨M30, eM30, hf⟩ := job hf
      refine Eq.trans ?_ (jwr_fr eM30 (by omega))
      obtain ⟨v31, ev31, hf⟩ := job hf
      obtain ⟨M32, eM32, hf⟩ := job hf
      refine Eq.trans ?_ (jwr_fr eM32 (by omega))
      obtain ⟨v33, ev33, hf⟩ := job hf
      show Mz a i = M32 a i
      obtain ⟨M42, hf, hy35⟩ := job hf
      have K37 : Mz a i = M42 a i := by
        replace hf := hy35
        have hih : Mz a i = M42 a i := ih6 (z8 + 1, M42) (Option.some.inj hf).symm
        exact hih
      by_cases hc41 : v33 = 0
      · replace hf := jifp hc41 hf
        obtain rfl := Option.some.inj hf
        exact (K37)
      · replace hf := jifn hc41 hf
        obtain ⟨M39, eM39, hf⟩ := job hf
        refine Eq.trans ?_ (jwr_fr eM39 (by omega))
        obtain ⟨M40, eM40, hf⟩ := job hf
        refine Eq.trans ?_ (by first | exact jup_fr eM40 (by omega) | exact jfl_fr eM40 (by omega))
        obtain rfl := Option.some.inj hf
        exact (K37)
    refine jLp_ind (P := fun ((z18, M19) : Int32 × JMem) => Mz a i = M19 a i) ?_ N _ y13
    rintro ⟨z18, M19⟩ x_17 hf ih16 hx15
    show Mz a i = M19 a i
    obtain ⟨v21, ev21, hf⟩ := job hf
    by_cases hc27 : v21 ≤ z18
    · replace hf := jifp hc27 hf
      have hf := hx15 _ (Option.some.inj hf).symm
      obtain rfl := hf
      exact K14
    · replace hf := jifn hc27 hf
      obtain ⟨v22, ev22, hf⟩ := job hf
      obtain ⟨v23, ev23, hf⟩ := job hf
      obtain ⟨v24, ev24, hf⟩ := job hf
      obtain ⟨v25, ev25, hf⟩ := job hf
      obtain ⟨M26, eM26, hf⟩ := job hf
      refine Eq.trans ?_ (jwr_fr eM26 (by omega))
      have hih : Mz a i = M26 a i := ih16 (z18 + 1, M26) (Option.some.inj hf).symm
      exact hih
set_option maxHeartbeats 4000000 in
theorem fr_X8_cutBound {N : Nat} {M : JMem} {Mz : JMem} {r : Int32} (hf : f_X8_cutBound N M = some (Mz, r)) (a i : Nat) (hA : ¬ (a = 251)) : Mz a i = M a i := by
  unfold f_X8_cutBound at hf
  obtain ⟨⟨t11, t12⟩, y2, hy1⟩ := job hf
  have K3 : Mz a i = t12 a i := by
    replace hf := hy1
    obtain ⟨rfl, rfl⟩ := Prod.mk.inj (Option.some.inj hf)
    rfl
  refine jLp_ind (P := fun ((z7, z8, z9, M10) : Int32 × Int32 × Int32 × JMem) => Mz a i = M10 a i) ?_ N _ y2
  rintro ⟨z7, z8, z9, M10⟩ x_6 hf ih5 hx4
  show Mz a i = M10 a i
  by_cases hc98 : z9 ≤ 0
  · replace hf := jifp hc98 hf
    have hf := hx4 _ (Option.some.inj hf).symm
    obtain ⟨rfl, rfl⟩ := jp2 hf
    exact K3
  · replace hf := jifn hc98 hf
    obtain ⟨⟨t22, t23⟩, y14, hy13⟩ := job hf
    have K15 : Mz a i = M10 a i := by
      replace hf := hy13
      by_cases hc97 : 0 ≤ t22
      · replace hf := jifp hc97 hf
        obtain ⟨v68, ev68, hf⟩ := job hf
        obtain ⟨u76, hf, hy70⟩ := job hf
        have K72 : Mz a i = M10 a i := by
          replace hf := hy70
          obtain ⟨v77, ev77, hf⟩ := job hf
          obtain ⟨M78, eM78, hf⟩ := job hf
          refine Eq.trans ?_ (jwr_fr eM78 (by omega))
          obtain ⟨v79, ev79, hf⟩ := job hf
          obtain ⟨⟨u95, u96⟩, hf, hy81⟩ := job hf
          have K83 : Mz a i = M78 a i := by
            replace hf := hy81
            have hih : Mz a i = M78 a i := ih5 (u76, u95, u96, M78) (Option.some.inj hf).symm
            exact hih
          by_cases hc94 : v79 = 0
          · replace hf := jifp hc94 hf
            obtain ⟨v85, ev85, hf⟩ := job hf
            obtain ⟨u93, hf, hy87⟩ := job hf
            have K89 : Mz a i = M78 a i := by
              replace hf := hy87
              obtain ⟨rfl, rfl⟩ := jp2 (Option.some.inj hf)
              exact (K83)
            by_cases hc92 : (u76 + v85) ≤ z8
            · replace hf := jifp hc92 hf
              obtain rfl := Option.some.inj hf
              exact (K89)
            · replace hf := jifn hc92 hf
              obtain ⟨v91, ev91, hf⟩ := job hf
              obtain rfl := Option.some.inj hf
              exact (K89)
          · replace hf := jifn hc94 hf
            obtain ⟨rfl, rfl⟩ := jp2 (Option.some.inj hf)
            exact (K83)
        by_cases hc75 : t23 ≤ (z7 + v68)
        · replace hf := jifp hc75 hf
          obtain rfl := Option.some.inj hf
          exact (K72)
        · replace hf := jifn hc75 hf
          obtain ⟨v74, ev74, hf⟩ := job hf
          obtain rfl := Option.some.inj hf
          exact (K72)
      · replace hf := jifn hc97 hf
        have hih : Mz a i = M10 a i := ih5 (t23, z8, z9, M10) (Option.some.inj hf).symm
        exact hih
    refine jLp_ind (P := fun ((z19, z20, z21) : Int32 × Int32 × Int32) => Mz a i = M10 a i) ?_ N _ y14
    rintro ⟨z19, z20, z21⟩ x_18 hf ih17 hx16
    show Mz a i = M10 a i
    by_cases hc67 : (M10 221 36) ≤ z21
    · replace hf := jifp hc67 hf
      have hf := hx16 _ (Option.some.inj hf).symm
      obtain ⟨rfl, rfl⟩ := jp2 hf
      exact K15
    · replace hf := jifn hc67 hf
      obtain ⟨v24, ev24, hf⟩ := job hf
      obtain ⟨v25, ev25, hf⟩ := job hf
      obtain ⟨⟨u65, u66⟩, hf, hy27⟩ := job hf
      have K29 : Mz a i = M10 a i := by
        replace hf := hy27
        have hih : Mz a i = M10 a i := ih17 (u65, u66, z21 + 1) (Option.some.inj hf).symm
        exact hih
      obtain ⟨y33, hf, hy32⟩ := jcb hf
      have K34 : y33 = Sum.inr () → Mz a i = M10 a i := by
        intro hyy
        subst hyy
        replace hf := hy32
        obtain ⟨v54, ev54, hf⟩ := job hf
        by_cases hc64 : v54 ≤ 0
        · replace hf := jifp hc64 hf
          obtain ⟨rfl, rfl⟩ := jp2 (Option.some.inj hf)
          exact (K29)
        · replace hf := jifn hc64 hf
          obtain ⟨v55, ev55, hf⟩ := job hf
          obtain ⟨u63, hf, hy57⟩ := job hf
          have K59 : Mz a i = M10 a i := by
            replace hf := hy57
            obtain ⟨rfl, rfl⟩ := jp2 (Option.some.inj hf)
            exact (K29)
          by_cases hc62 : z20 ≤ v55
          · replace hf := jifp hc62 hf
            obtain rfl := Option.some.inj hf
            exact (K59)
          · replace hf := jifn hc62 hf
            obtain ⟨v61, ev61, hf⟩ := job hf
            obtain rfl := Option.some.inj hf
            exact (K59)
      by_cases hc53 : v25 ≤ 0
      · replace hf := jifp hc53 hf
        exact (K34 (Option.some.inj hf).symm)
      · replace hf := jifn hc53 hf
        obtain ⟨v36, ev36, hf⟩ := job hf
        by_cases hc52 : z7 < v36
        · replace hf := jifp hc52 hf
          exact (K34 (Option.some.inj hf).symm)
        · replace hf := jifn hc52 hf
          obtain ⟨u51, hf, hy38⟩ := job hf
          have K40 : Mz a i = M10 a i := by
            replace hf := hy38
            obtain rfl := Option.some.inj hf
            replace hf := hy32
            obtain ⟨rfl, rfl⟩ := jp2 (Option.some.inj hf)
            exact (K29)
          obtain ⟨y44, hf, hy43⟩ := jcb hf
          have K45 : y44 = Sum.inr () → Mz a i = M10 a i := by
            intro hyy
            subst hyy
            replace hf := hy43
            obtain rfl := Option.some.inj hf
            exact (K40)
          by_cases hc50 : z19 < 0
          · replace hf := jifp hc50 hf
            exact (K45 (Option.some.inj hf).symm)
          · replace hf := jifn hc50 hf
            obtain ⟨v47, ev47, hf⟩ := job hf
            obtain ⟨v48, ev48, hf⟩ := job hf
            by_cases hc49 : v47 ≤ v48
            · replace hf := jifp hc49 hf
              obtain rfl := Option.some.inj hf
              replace hf := hy43
              obtain rfl := Option.some.inj hf
              exact (K40)
            · replace hf := jifn hc49 hf
              exact (K45 (Option.some.inj hf).symm)
set_option maxHeartbeats 4000000 in
theorem fr_X8_wholeBound {N : Nat} {M : JMem} {Mz : JMem} {r : Int32} (hf : f_X8_wholeBound N M = some (Mz, r)) (a i : Nat) (hA : ¬ (a = 252 ∨ a = 253 ∨ a = 254)) : Mz a i = M a i := by
  unfold f_X8_wholeBound at hf
  obtain ⟨M1, eM1, hf⟩ := job hf
  refine Eq.trans ?_ (jwr_fr eM1 (by omega))
  obtain ⟨M2, eM2, hf⟩ := job hf
  refine Eq.trans ?_ (jwr_fr eM2 (by omega))
  obtain ⟨M3, eM3, hf⟩ := job hf
  refine Eq.trans ?_ (jwr_fr eM3 (by omega))
  obtain ⟨⟨t14, t15⟩, y5, hy4⟩ := job hf
  have K6 : Mz a i = t15 a i := by
    replace hf := hy4
    obtain ⟨rfl, rfl⟩ := Prod.mk.inj (Option.some.inj hf)
    rfl
  refine jLp_ind (P := fun ((z10, z11, z12, M13) : Int32 × Int32 × Int32 × JMem) => Mz a i = M13 a i) ?_ N _ y5
  rintro ⟨z10, z11, z12, M13⟩ x_9 hf ih8 hx7
  show Mz a i = M13 a i
  by_cases hc84 : z11 < 0
  · replace hf := jifp hc84 hf
    have hf := hx7 _ (Option.some.inj hf).symm
    obtain ⟨rfl, rfl⟩ := jp2 hf
    exact K6
  · replace hf := jifn hc84 hf
    by_cases hc83 : z11 = (M13 221 36)
    · replace hf := jifp hc83 hf
      obtain ⟨v74, ev74, hf⟩ := job hf
      obtain ⟨u82, hf, hy76⟩ := job hf
      have K78 : Mz a i = M13 a i := by
        replace hf := hy76
        have hih : Mz a i = M13 a i := ih8 (u82, z11 + (-1), z12, M13) (Option.some.inj hf).symm
        exact hih
      by_cases hc81 : z10 ≤ v74
      · replace hf := jifp hc81 hf
        obtain rfl := Option.some.inj hf
        exact (K78)
      · replace hf := jifn hc81 hf
        obtain ⟨v80, ev80, hf⟩ := job hf
        obtain rfl := Option.some.inj hf
        exact (K78)
    · replace hf := jifn hc83 hf
      obtain ⟨v16, ev16, hf⟩ := job hf
      obtain ⟨u24, hf, hy18⟩ := job hf
      have K20 : Mz a i = M13 a i := by
        replace hf := hy18
        obtain ⟨v25, ev25, hf⟩ := job hf
        obtain ⟨t33, y27, hy26⟩ := job hf
        have K28 : Mz a i = M13 a i := by
          replace hf := hy26
          by_cases hc73 : t33 < (M13 221 36)
          · replace hf := jifp hc73 hf
            obtain ⟨M36, eM36, hf⟩ := job hf
            refine Eq.trans ?_ (jwr_fr eM36 (by omega))
            obtain ⟨v37, ev37, hf⟩ := job hf
            obtain ⟨v38, ev38, hf⟩ := job hf
            obtain ⟨v39, ev39, hf⟩ := job hf
            obtain ⟨u48, hf, hy41⟩ := job hf
            have K43 : Mz a i = M36 a i := by
              replace hf := hy41
              obtain ⟨v49, ev49, hf⟩ := job hf
              obtain ⟨v50, ev50, hf⟩ := job hf
              obtain ⟨v51, ev51, hf⟩ := job hf
              obtain ⟨u60, hf, hy53⟩ := job hf
              have K55 : Mz a i = M36 a i := by
                replace hf := hy53
                obtain ⟨⟨u70, u71, M72⟩, hf, hy62⟩ := job hf
                have K64 : Mz a i = M72 a i := by
                  replace hf := hy62
                  have hih : Mz a i = M72 a i := ih8 (z10, u70, u71, M72) (Option.some.inj hf).symm
                  exact hih
                by_cases hc69 : z10 ≤ u60
                · replace hf := jifp hc69 hf
                  obtain ⟨rfl, rfl, rfl⟩ := jp3 (Option.some.inj hf)
                  exact (K64)
                · replace hf := jifn hc69 hf
                  obtain ⟨M66, eM66, hf⟩ := job hf
                  refine Eq.trans ?_ (jwr_fr eM66 (by omega))
                  obtain ⟨M67, eM67, hf⟩ := job hf
                  refine Eq.trans ?_ (jwr_fr eM67 (by omega))
                  obtain ⟨M68, eM68, hf⟩ := job hf
                  refine Eq.trans ?_ (jwr_fr eM68 (by omega))
                  obtain ⟨rfl, rfl, rfl⟩ := jp3 (Option.some.inj hf)
                  exact (K64)
              by_cases hc59 : ((u48 + v49) + v50) ≤ v51
              · replace hf := jifp hc59 hf
                obtain ⟨v57, ev57, hf⟩ := job hf
                obtain rfl := Option.some.inj hf
                exact (K55)
              · replace hf := jifn hc59 hf
                obtain ⟨v58, ev58, hf⟩ := job hf
                obtain rfl := Option.some.inj hf
                exact (K55)
            by_cases hc47 : v38 ≤ v39
            · replace hf := jifp hc47 hf
              obtain ⟨v45, ev45, hf⟩ := job hf
              obtain rfl := Option.some.inj hf
              exact (K43)
            · replace hf := jifn hc47 hf
              obtain ⟨v46, ev46, hf⟩ := job hf
              obtain rfl := Option.some.inj hf
              exact (K43)
          · replace hf := jifn hc73 hf
            have hih : Mz a i = M13 a i := ih8 (z10, z11 + (-1), u24, M13) (Option.some.inj hf).symm
            exact hih
        refine jLp_ind (P := fun (z32 : Int32) => Mz a i = M13 a i) ?_ N _ y27
        rintro z32 x_31 hf ih30 hx29
        show Mz a i = M13 a i
        by_cases hc35 : (M13 221 36) ≤ z32
        · replace hf := jifp hc35 hf
          have hf := hx29 _ (Option.some.inj hf).symm
          obtain rfl := hf
          exact K28
        · replace hf := jifn hc35 hf
          by_cases hc34 : ((jushr u24 z32) &&& 1) = 1
          · replace hf := jifp hc34 hf
            have hih : Mz a i = M13 a i := ih30 (z32 + 1) (Option.some.inj hf).symm
            exact hih
          · replace hf := jifn hc34 hf
            have hf := hx29 _ (Option.some.inj hf).symm
            obtain rfl := hf
            exact K28
      by_cases hc23 : v16 < 0
      · replace hf := jifp hc23 hf
        obtain rfl := Option.some.inj hf
        exact (K20)
      · replace hf := jifn hc23 hf
        obtain ⟨v22, ev22, hf⟩ := job hf
        obtain rfl := Option.some.inj hf
        exact (K20)
set_option maxHeartbeats 4000000 in
theorem fr_X8_bound {N : Nat} {M : JMem} {x1 : Int32} {x2 : Int32} {Mz : JMem} {r : Int32} (hf : f_X8_bound N M x1 x2 = some (Mz, r)) (a i : Nat) (hA : ¬ ((a = 221 ∧ i = 36) ∨ a = 248 ∨ a = 249 ∨ a = 250 ∨ a = 251 ∨ a = 252 ∨ a = 253 ∨ a = 254)) : Mz a i = M a i := by
  unfold f_X8_bound at hf
  show Mz a i = M a i
  by_cases hc18 : (jin3 x1.toInt64 0 (((M 221 2) - 1).toInt64)) = 0
  · replace hf := jifp hc18 hf
    obtain ⟨rfl, rfl⟩ := Prod.mk.inj (Option.some.inj hf)
    rfl
  · replace hf := jifn hc18 hf
    show Mz a i = M a i
    by_cases hc17 : (jin3 x2.toInt64 0 1) = 0
    · replace hf := jifp hc17 hf
      obtain ⟨rfl, rfl⟩ := Prod.mk.inj (Option.some.inj hf)
      rfl
    · replace hf := jifn hc17 hf
      obtain ⟨M1, eM1, hf⟩ := job hf
      refine Eq.trans ?_ (fr_X8_gather eM1 a i (by omega))
      show Mz a i = M1 a i
      obtain ⟨v2, ev2, hf⟩ := job hf
      by_cases hc16 : v2 = 0
      · replace hf := jifp hc16 hf
        obtain ⟨y5, hf, hy4⟩ := jcb hf
        have K6 : y5 = Sum.inr () → Mz a i = M1 a i := by
          intro hyy
          subst hyy
          replace hf := hy4
          by_cases hc15 : (M1 221 36) = 0
          · replace hf := jifp hc15 hf
            obtain ⟨rfl, rfl⟩ := Prod.mk.inj (Option.some.inj hf)
            rfl
          · replace hf := jifn hc15 hf
            by_cases hc14 : x2 = 0
            · replace hf := jifp hc14 hf
              obtain ⟨⟨M12, v13⟩, ev13, hf⟩ := job hf
              refine Eq.trans ?_ (fr_X8_cutBound ev13 a i (by omega))
              show Mz a i = M12 a i
              obtain ⟨rfl, rfl⟩ := Prod.mk.inj (Option.some.inj hf)
              rfl
            · replace hf := jifn hc14 hf
              obtain ⟨⟨M10, v11⟩, ev11, hf⟩ := job hf
              refine Eq.trans ?_ (fr_X8_wholeBound ev11 a i (by omega))
              show Mz a i = M10 a i
              obtain ⟨rfl, rfl⟩ := Prod.mk.inj (Option.some.inj hf)
              rfl
        by_cases hc9 : x2 = 1
        · replace hf := jifp hc9 hf
          by_cases hc8 : (M1 221 36) ≤ 8
          · replace hf := jifp hc8 hf
            exact (K6 (Option.some.inj hf).symm)
          · replace hf := jifn hc8 hf
            obtain rfl := Option.some.inj hf
            replace hf := hy4
            obtain ⟨rfl, rfl⟩ := Prod.mk.inj (Option.some.inj hf)
            rfl
        · replace hf := jifn hc9 hf
          exact (K6 (Option.some.inj hf).symm)
      · replace hf := jifn hc16 hf
        obtain ⟨rfl, rfl⟩ := Prod.mk.inj (Option.some.inj hf)
        rfl
set_option maxHeartbeats 4000000 in
theorem fr_X8_pushCase {N : Nat} {M : JMem} {Mz : JMem} (hf : f_X8_pushCase N M = some Mz) (a i : Nat) (hA : ¬ ((a = 221 ∧ i = 44) ∨ a = 255)) : Mz a i = M a i := by
  unfold f_X8_pushCase at hf
  obtain ⟨t9, y2, hy1⟩ := job hf
  have K3 : Mz a i = t9 a i := by
    replace hf := hy1
    obtain ⟨M13, eM13, hf⟩ := job hf
    refine Eq.trans ?_ (by first | exact jup_fr eM13 (by omega) | exact jfl_fr eM13 (by omega))
    obtain rfl := Option.some.inj hf
    rfl
  refine jLp_ind (P := fun ((z7, M8) : Int32 × JMem) => Mz a i = M8 a i) ?_ N _ y2
  rintro ⟨z7, M8⟩ x_6 hf ih5 hx4
  show Mz a i = M8 a i
  by_cases hc12 : 32 ≤ z7
  · replace hf := jifp hc12 hf
    have hf := hx4 _ (Option.some.inj hf).symm
    obtain rfl := hf
    exact K3
  · replace hf := jifn hc12 hf
    obtain ⟨v10, ev10, hf⟩ := job hf
    obtain ⟨M11, eM11, hf⟩ := job hf
    refine Eq.trans ?_ (jwr_fr eM11 (by omega))
    have hih : Mz a i = M11 a i := ih5 (z7 + 1, M11) (Option.some.inj hf).symm
    exact hih
set_option maxHeartbeats 4000000 in
theorem fr_X8_popCase {N : Nat} {M : JMem} {Mz : JMem} (hf : f_X8_popCase N M = some Mz) (a i : Nat) (hA : ¬ ((a = 221 ∧ i = 44) ∨ a = 244)) : Mz a i = M a i := by
  unfold f_X8_popCase at hf
  obtain ⟨M1, eM1, hf⟩ := job hf
  refine Eq.trans ?_ (by first | exact jup_fr eM1 (by omega) | exact jfl_fr eM1 (by omega))
  obtain ⟨t10, y3, hy2⟩ := job hf
  have K4 : Mz a i = t10 a i := by
    replace hf := hy2
    obtain rfl := Option.some.inj hf
    rfl
  refine jLp_ind (P := fun ((z8, M9) : Int32 × JMem) => Mz a i = M9 a i) ?_ N _ y3
  rintro ⟨z8, M9⟩ x_7 hf ih6 hx5
  show Mz a i = M9 a i
  by_cases hc13 : 32 ≤ z8
  · replace hf := jifp hc13 hf
    have hf := hx5 _ (Option.some.inj hf).symm
    obtain rfl := hf
    exact K4
  · replace hf := jifn hc13 hf
    obtain ⟨v11, ev11, hf⟩ := job hf
    obtain ⟨M12, eM12, hf⟩ := job hf
    refine Eq.trans ?_ (jwr_fr eM12 (by omega))
    have hih : Mz a i = M12 a i := ih6 (z8 + 1, M12) (Option.some.inj hf).symm
    exact hih
set_option maxHeartbeats 4000000 in
theorem fr_X8_arrange {N : Nat} {M : JMem} {x1 : Int32} {Mz : JMem} (hf : f_X8_arrange N M x1 = some Mz) (a i : Nat) (hA : ¬ (a = 231)) : Mz a i = M a i := by
  unfold f_X8_arrange at hf
  obtain ⟨t10, y2, hy1⟩ := job hf
  have K3 : Mz a i = t10 a i := by
    replace hf := hy1
    obtain rfl := Option.some.inj hf
    rfl
  refine jLp_ind (P := fun ((z7, z8, M9) : Int32 × Int32 × JMem) => Mz a i = M9 a i) ?_ N _ y2
  rintro ⟨z7, z8, M9⟩ x_6 hf ih5 hx4
  show Mz a i = M9 a i
  by_cases hc38 : (M9 221 11) ≤ z8
  · replace hf := jifp hc38 hf
    have hf := hx4 _ (Option.some.inj hf).symm
    obtain rfl := hf
    exact K3
  · replace hf := jifn hc38 hf
    obtain ⟨v11, ev11, hf⟩ := job hf
    show Mz a i = M9 a i
    obtain ⟨⟨u36, M37⟩, hf, hy13⟩ := job hf
    have K15 : Mz a i = M37 a i := by
      replace hf := hy13
      have hih : Mz a i = M37 a i := ih5 (u36, z8 + 1, M37) (Option.some.inj hf).symm
      exact hih
    by_cases hc35 : v11 = 0
    · replace hf := jifp hc35 hf
      obtain ⟨rfl, rfl⟩ := jp2 (Option.some.inj hf)
      exact (K15)
    · replace hf := jifn hc35 hf
      obtain ⟨⟨t25, t26⟩, y18, hy17⟩ := job hf
      have K19 : Mz a i = t26 a i := by
        replace hf := hy17
        obtain ⟨M34, eM34, hf⟩ := job hf
        refine Eq.trans ?_ (jwr_fr eM34 (by omega))
        obtain ⟨rfl, rfl⟩ := jp2 (Option.some.inj hf)
        exact (K15)
      refine jLp_ind (P := fun ((z23, M24) : Int32 × JMem) => Mz a i = M24 a i) ?_ N _ y18
      rintro ⟨z23, M24⟩ x_22 hf ih21 hx20
      show Mz a i = M24 a i
      by_cases hc33 : z23 ≤ 0
      · replace hf := jifp hc33 hf
        have hf := hx20 _ (Option.some.inj hf).symm
        obtain ⟨rfl, rfl⟩ := jp2 hf
        exact K19
      · replace hf := jifn hc33 hf
        obtain ⟨v27, ev27, hf⟩ := job hf
        obtain ⟨v28, ev28, hf⟩ := job hf
        show Mz a i = M24 a i
        obtain ⟨v29, ev29, hf⟩ := job hf
        show Mz a i = M24 a i
        by_cases hc32 : v28 ≤ v29
        · replace hf := jifp hc32 hf
          have hf := hx20 _ (Option.some.inj hf).symm
          obtain ⟨rfl, rfl⟩ := jp2 hf
          exact K19
        · replace hf := jifn hc32 hf
          obtain ⟨v30, ev30, hf⟩ := job hf
          obtain ⟨M31, eM31, hf⟩ := job hf
          refine Eq.trans ?_ (jwr_fr eM31 (by omega))
          have hih : Mz a i = M31 a i := ih21 (z23 + (-1), M31) (Option.some.inj hf).symm
          exact hih
set_option maxHeartbeats 4000000 in
theorem fr_X8_complete {N : Nat} {M : JMem} {Mz : JMem} (hf : f_X8_complete N M = some Mz) (a i : Nat) (hA : ¬ ((a = 221 ∧ i = 21) ∨ (a = 221 ∧ i = 45) ∨ (a = 221 ∧ i = 47) ∨ a = 231 ∨ a = 237 ∨ a = 238 ∨ a = 239 ∨ a = 256)) : Mz a i = M a i := by
  unfold f_X8_complete at hf
  obtain ⟨t9, y2, hy1⟩ := job hf
  have K3 : Mz a i = t9 a i := by
    replace hf := hy1
    obtain ⟨t21, y14, hy13⟩ := job hf
    have K15 : Mz a i = t21 a i := by
      replace hf := hy13
      obtain ⟨⟨M32, v33⟩, ev33, hf⟩ := job hf
      refine Eq.trans ?_ (fr_X8_work ev33 a i (by omega))
      show Mz a i = M32 a i
      obtain ⟨y36, hf, hy35⟩ := jcb hf
      have K37 : y36 = Sum.inr () → Mz a i = M32 a i := by
        intro hyy
        subst hyy
        replace hf := hy35
        obtain ⟨t51, y44, hy43⟩ := job hf
        have K45 : Mz a i = t51 a i := by
          replace hf := hy43
          obtain rfl := Option.some.inj hf
          rfl
        refine jLp_ind (P := fun ((z49, M50) : Int32 × JMem) => Mz a i = M50 a i) ?_ N _ y44
        rintro ⟨z49, M50⟩ x_48 hf ih47 hx46
        show Mz a i = M50 a i
        by_cases hc54 : 256 ≤ z49
        · replace hf := jifp hc54 hf
          have hf := hx46 _ (Option.some.inj hf).symm
          obtain rfl := hf
          exact K45
        · replace hf := jifn hc54 hf
          obtain ⟨v52, ev52, hf⟩ := job hf
          obtain ⟨M53, eM53, hf⟩ := job hf
          refine Eq.trans ?_ (jwr_fr eM53 (by omega))
          have hih : Mz a i = M53 a i := ih47 (z49 + 1, M53) (Option.some.inj hf).symm
          exact hih
      by_cases hc42 : v33 = 0
      · replace hf := jifp hc42 hf
        exact (K37 (Option.some.inj hf).symm)
      · replace hf := jifn hc42 hf
        by_cases hc41 : (M32 221 45) ≤ (M32 221 21)
        · replace hf := jifp hc41 hf
          exact (K37 (Option.some.inj hf).symm)
        · replace hf := jifn hc41 hf
          obtain ⟨M39, eM39, hf⟩ := job hf
          refine Eq.trans ?_ (by first | exact jup_fr eM39 (by omega) | exact jfl_fr eM39 (by omega))
          obtain ⟨M40, eM40, hf⟩ := job hf
          refine Eq.trans ?_ (by first | exact jup_fr eM40 (by omega) | exact jfl_fr eM40 (by omega))
          obtain rfl := Option.some.inj hf
          replace hf := hy35
          obtain rfl := Option.some.inj hf
          rfl
    refine jLp_ind (P := fun ((z19, M20) : Int32 × JMem) => Mz a i = M20 a i) ?_ N _ y14
    rintro ⟨z19, M20⟩ x_18 hf ih17 hx16
    show Mz a i = M20 a i
    by_cases hc31 : (M20 221 2) ≤ z19
    · replace hf := jifp hc31 hf
      have hf := hx16 _ (Option.some.inj hf).symm
      obtain rfl := hf
      exact K15
    · replace hf := jifn hc31 hf
      obtain ⟨v22, ev22, hf⟩ := job hf
      obtain ⟨M30, hf, hy24⟩ := job hf
      have K26 : Mz a i = M30 a i := by
        replace hf := hy24
        have hih : Mz a i = M30 a i := ih17 (z19 + 1, M30) (Option.some.inj hf).symm
        exact hih
      by_cases hc29 : v22 = 0
      · replace hf := jifp hc29 hf
        obtain ⟨M28, eM28, hf⟩ := job hf
        refine Eq.trans ?_ (fr_X8_arrange eM28 a i (by omega))
        show Mz a i = M28 a i
        obtain rfl := Option.some.inj hf
        exact (K26)
      · replace hf := jifn hc29 hf
        obtain rfl := Option.some.inj hf
        exact (K26)
  refine jLp_ind (P := fun ((z7, M8) : Int32 × JMem) => Mz a i = M8 a i) ?_ N _ y2
  rintro ⟨z7, M8⟩ x_6 hf ih5 hx4
  show Mz a i = M8 a i
  by_cases hc12 : 256 ≤ z7
  · replace hf := jifp hc12 hf
    have hf := hx4 _ (Option.some.inj hf).symm
    obtain rfl := hf
    exact K3
  · replace hf := jifn hc12 hf
    obtain ⟨v10, ev10, hf⟩ := job hf
    obtain ⟨M11, eM11, hf⟩ := job hf
    refine Eq.trans ?_ (jwr_fr eM11 (by omega))
    have hih : Mz a i = M11 a i := ih5 (z7 + 1, M11) (Option.some.inj hf).symm
    exact hih
set_option maxHeartbeats 4000000 in
theorem fr_X8_parts {N : Nat} {M : JMem} {Mz : JMem} {r : Int32} (hf : f_X8_parts N M = some (Mz, r)) (a i : Nat) (hA : ¬ ((a = 221 ∧ i = 44) ∨ a = 244 ∨ a = 255)) : Mz a i = M a i := by
  unfold f_X8_parts at hf
  obtain ⟨y2, hr48, hy1⟩ := jcb hf
  have K3 : y2 = Sum.inr () → Mz a i = M a i := by
    intro hyy
    subst hyy
    replace hf := hy1
    obtain ⟨rfl, rfl⟩ := Prod.mk.inj (Option.some.inj hf)
    rfl
  refine jLp_ind (P := fun (z7 : Int32) => Mz a i = M a i) ?_ N _ hr48
  rintro z7 x_6 hf ih5 hx4
  show Mz a i = M a i
  by_cases hc47 : (M 221 11) ≤ z7
  · replace hf := jifp hc47 hf
    have hf := hx4 _ (Option.some.inj hf).symm
    exact (K3 hf.symm)
  · replace hf := jifn hc47 hf
    obtain ⟨y9, hr46, hy8⟩ := jcb hf
    have K10 : y9 = Sum.inr () → Mz a i = M a i := by
      intro hyy
      subst hyy
      replace hf := hy8
      have hih : Mz a i = M a i := ih5 (z7 + 1) (Option.some.inj hf).symm
      exact hih
    refine jLp_ind (P := fun (z14 : Int32) => Mz a i = M a i) ?_ N _ hr46
    rintro z14 x_13 hf ih12 hx11
    show Mz a i = M a i
    by_cases hc45 : (M 221 11) ≤ z14
    · replace hf := jifp hc45 hf
      have hf := hx11 _ (Option.some.inj hf).symm
      exact (K10 hf.symm)
    · replace hf := jifn hc45 hf
      obtain ⟨v15, ev15, hf⟩ := job hf
      obtain ⟨v16, ev16, hf⟩ := job hf
      obtain ⟨u35, hf, hy18⟩ := job hf
      have K20 : (hbu35 : u35 = 0 ∨ u35 = 1) → Mz a i = M a i := by
        intro hbu35
        replace hf := hy18
        by_cases hc44 : u35 = 0
        · replace hf := jifp hc44 hf
          have hih : Mz a i = M a i := ih12 (z14 + 1) (Option.some.inj hf).symm
          exact hih
        · replace hf := jifn hc44 hf
          obtain ⟨v36, ev36, hf⟩ := job hf
          obtain ⟨M37, eM37, hf⟩ := job hf
          refine Eq.trans ?_ (jwr_fr eM37 (by omega))
          obtain ⟨M38, eM38, hf⟩ := job hf
          refine Eq.trans ?_ (fr_X8_pushCase eM38 a i (by omega))
          show Mz a i = M38 a i
          obtain ⟨v39, ev39, hf⟩ := job hf
          obtain ⟨M40, eM40, hf⟩ := job hf
          refine Eq.trans ?_ (jwr_fr eM40 (by omega))
          obtain ⟨v41, ev41, hf⟩ := job hf
          obtain ⟨M42, eM42, hf⟩ := job hf
          refine Eq.trans ?_ (jwr_fr eM42 (by omega))
          obtain ⟨M43, eM43, hf⟩ := job hf
          refine Eq.trans ?_ (fr_X8_pushCase eM43 a i (by omega))
          show Mz a i = M43 a i
          have hf := hx11 _ (Option.some.inj hf).symm
          subst hf
          replace hf := hy8
          have hf := hx4 _ (Option.some.inj hf).symm
          subst hf
          replace hf := hy1
          obtain ⟨rfl, rfl⟩ := Prod.mk.inj (Option.some.inj hf)
          rfl
      obtain ⟨y24, hf, hy23⟩ := jcb hf
      have K25 : y24 = Sum.inr () → Mz a i = M a i := by
        intro hyy
        subst hyy
        replace hf := hy23
        obtain rfl := Option.some.inj hf
        exact (K20 (Or.inl rfl))
      by_cases hc34 : v15 = v16
      · replace hf := jifp hc34 hf
        obtain ⟨v27, ev27, hf⟩ := job hf
        obtain ⟨v28, ev28, hf⟩ := job hf
        by_cases hc33 : v28 = 0
        · replace hf := jifp hc33 hf
          obtain ⟨v29, ev29, hf⟩ := job hf
          show Mz a i = M a i
          by_cases hc32 : v29 = 0
          · replace hf := jifp hc32 hf
            obtain ⟨v30, ev30, hf⟩ := job hf
            show Mz a i = M a i
            by_cases hc31 : v30 = 0
            · replace hf := jifp hc31 hf
              obtain rfl := Option.some.inj hf
              replace hf := hy23
              obtain rfl := Option.some.inj hf
              exact (K20 (Or.inr rfl))
            · replace hf := jifn hc31 hf
              exact (K25 (Option.some.inj hf).symm)
          · replace hf := jifn hc32 hf
            exact (K25 (Option.some.inj hf).symm)
        · replace hf := jifn hc33 hf
          exact (K25 (Option.some.inj hf).symm)
      · replace hf := jifn hc34 hf
        exact (K25 (Option.some.inj hf).symm)
set_option maxHeartbeats 4000000 in
theorem fr_X8_least {N : Nat} {M : JMem} {x1 : Int32} {Mz : JMem} {r : Int32} (hf : f_X8_least N M x1 = some (Mz, r)) (a i : Nat) (hA : ¬ ((a = 221 ∧ i = 21) ∨ (a = 221 ∧ i = 28) ∨ (a = 221 ∧ i = 29) ∨ (a = 221 ∧ i = 44) ∨ (a = 221 ∧ i = 45) ∨ (a = 221 ∧ i = 46) ∨ (a = 221 ∧ i = 47) ∨ a = 231 ∨ a = 237 ∨ a = 238 ∨ a = 239 ∨ a = 242 ∨ a = 243 ∨ a = 244 ∨ a = 255 ∨ a = 256)) : Mz a i = M a i := by
  unfold f_X8_least at hf
  show Mz a i = M a i
  by_cases hc50 : (jin3 x1.toInt64 0 100) = 0
  · replace hf := jifp hc50 hf
    obtain ⟨rfl, rfl⟩ := Prod.mk.inj (Option.some.inj hf)
    rfl
  · replace hf := jifn hc50 hf
    obtain ⟨v1, ev1, hf⟩ := job hf
    show Mz a i = M a i
    by_cases hc49 : v1 = 0
    · replace hf := jifp hc49 hf
      obtain ⟨rfl, rfl⟩ := Prod.mk.inj (Option.some.inj hf)
      rfl
    · replace hf := jifn hc49 hf
      by_cases hc48 : (M 221 11) = 0
      · replace hf := jifp hc48 hf
        obtain ⟨rfl, rfl⟩ := Prod.mk.inj (Option.some.inj hf)
        rfl
      · replace hf := jifn hc48 hf
        obtain ⟨⟨M2, v3⟩, ev3, hf⟩ := job hf
        refine Eq.trans ?_ (fr_X8_work ev3 a i (by omega))
        show Mz a i = M2 a i
        obtain ⟨u11, hf, hy5⟩ := job hf
        have K7 : Mz a i = M2 a i := by
          replace hf := hy5
          obtain ⟨M12, eM12, hf⟩ := job hf
          refine Eq.trans ?_ (by first | exact jup_fr eM12 (by omega) | exact jfl_fr eM12 (by omega))
          obtain ⟨M13, eM13, hf⟩ := job hf
          refine Eq.trans ?_ (by first | exact jup_fr eM13 (by omega) | exact jfl_fr eM13 (by omega))
          obtain ⟨M14, eM14, hf⟩ := job hf
          refine Eq.trans ?_ (by first | exact jup_fr eM14 (by omega) | exact jfl_fr eM14 (by omega))
          obtain ⟨M15, eM15, hf⟩ := job hf
          refine Eq.trans ?_ (by first | exact jup_fr eM15 (by omega) | exact jfl_fr eM15 (by omega))
          obtain ⟨t24, y17, hy16⟩ := job hf
          have K18 : Mz a i = t24 a i := by
            replace hf := hy16
            obtain ⟨M27, eM27, hf⟩ := job hf
            refine Eq.trans ?_ (fr_X8_pushCase eM27 a i (by omega))
            show Mz a i = M27 a i
            obtain ⟨y29, hr47, hy28⟩ := jcb hf
            have K30 : ∀ (t35 : JMem), y29 = Sum.inr t35 → Mz a i = t35 a i := by
              intro t35 hyy
              subst hyy
              replace hf := hy28
              obtain ⟨rfl, rfl⟩ := Prod.mk.inj (Option.some.inj hf)
              rfl
            refine jLp_ind (P := fun (M34 : JMem) => Mz a i = M34 a i) ?_ N _ hr47
            rintro M34 x_33 hf ih32 hx31
            show Mz a i = M34 a i
            by_cases hc46 : (M34 221 44) ≤ 0
            · replace hf := jifp hc46 hf
              have hf := hx31 _ (Option.some.inj hf).symm
              exact (K30 _ hf.symm)
            · replace hf := jifn hc46 hf
              by_cases hc45 : (M34 221 46) = x1
              · replace hf := jifp hc45 hf
                have hf := hx31 _ (Option.some.inj hf).symm
                subst hf
                replace hf := hy28
                obtain ⟨rfl, rfl⟩ := Prod.mk.inj (Option.some.inj hf)
                rfl
              · replace hf := jifn hc45 hf
                obtain ⟨M36, eM36, hf⟩ := job hf
                refine Eq.trans ?_ (by first | exact jup_fr eM36 (by omega) | exact jfl_fr eM36 (by omega))
                obtain ⟨M37, eM37, hf⟩ := job hf
                refine Eq.trans ?_ (fr_X8_popCase eM37 a i (by omega))
                show Mz a i = M37 a i
                obtain ⟨⟨M38, v39⟩, ev39, hf⟩ := job hf
                refine Eq.trans ?_ (fr_X8_asks ev39 a i (by omega))
                show Mz a i = M38 a i
                by_cases hc44 : v39 = 0
                · replace hf := jifp hc44 hf
                  have hih : Mz a i = M38 a i := ih32 M38 (Option.some.inj hf).symm
                  exact hih
                · replace hf := jifn hc44 hf
                  obtain ⟨⟨M40, v41⟩, ev41, hf⟩ := job hf
                  refine Eq.trans ?_ (fr_X8_parts ev41 a i (by omega))
                  show Mz a i = M40 a i
                  by_cases hc43 : v41 = 0
                  · replace hf := jifp hc43 hf
                    obtain ⟨M42, eM42, hf⟩ := job hf
                    refine Eq.trans ?_ (fr_X8_complete eM42 a i (by omega))
                    show Mz a i = M42 a i
                    have hih : Mz a i = M42 a i := ih32 M42 (Option.some.inj hf).symm
                    exact hih
                  · replace hf := jifn hc43 hf
                    have hih : Mz a i = M40 a i := ih32 M40 (Option.some.inj hf).symm
                    exact hih
          refine jLp_ind (P := fun ((z22, M23) : Int32 × JMem) => Mz a i = M23 a i) ?_ N _ y17
          rintro ⟨z22, M23⟩ x_21 hf ih20 hx19
          show Mz a i = M23 a i
          by_cases hc26 : 32 ≤ z22
          · replace hf := jifp hc26 hf
            have hf := hx19 _ (Option.some.inj hf).symm
            obtain rfl := hf
            exact K18
          · replace hf := jifn hc26 hf
            obtain ⟨M25, eM25, hf⟩ := job hf
            refine Eq.trans ?_ (jwr_fr eM25 (by omega))
            have hih : Mz a i = M25 a i := ih20 (z22 + 1, M25) (Option.some.inj hf).symm
            exact hih
        by_cases hc10 : v3 = 0
        · replace hf := jifp hc10 hf
          obtain ⟨v9, ev9, hf⟩ := job hf
          show Mz a i = M2 a i
          obtain rfl := Option.some.inj hf
          exact (K7)
        · replace hf := jifn hc10 hf
          obtain rfl := Option.some.inj hf
          exact (K7)
set_option maxHeartbeats 4000000 in
theorem fr_X8_fail {N : Nat} {M : JMem} {x1 : Int32} {x2 : Int32} {x3 : Int32} {Mz : JMem} {r : Int32} (hf : f_X8_fail N M x1 x2 x3 = some (Mz, r)) (a i : Nat) (hA : ¬ ((a = 221 ∧ i = 21) ∨ (a = 221 ∧ i = 49) ∨ (a = 221 ∧ i = 50) ∨ a = 237 ∨ a = 238 ∨ a = 239 ∨ a = 257 ∨ a = 258)) : Mz a i = M a i := by
  unfold f_X8_fail at hf
  show Mz a i = M a i
  by_cases hc141 : (jin3 x1.toInt64 0 (((M 221 2) - 1).toInt64)) = 0
  · replace hf := jifp hc141 hf
    obtain ⟨rfl, rfl⟩ := Prod.mk.inj (Option.some.inj hf)
    rfl
  · replace hf := jifn hc141 hf
    show Mz a i = M a i
    by_cases hc140 : (jin3 x2.toInt64 0 100000) = 0
    · replace hf := jifp hc140 hf
      obtain ⟨rfl, rfl⟩ := Prod.mk.inj (Option.some.inj hf)
      rfl
    · replace hf := jifn hc140 hf
      show Mz a i = M a i
      by_cases hc139 : (jin3 x3.toInt64 0 10000) = 0
      · replace hf := jifp hc139 hf
        obtain ⟨rfl, rfl⟩ := Prod.mk.inj (Option.some.inj hf)
        rfl
      · replace hf := jifn hc139 hf
        obtain ⟨⟨M1, v2⟩, ev2, hf⟩ := job hf
        refine Eq.trans ?_ (fr_X8_work ev2 a i (by omega))
        show Mz a i = M1 a i
        by_cases hc138 : v2 = 0
        · replace hf := jifp hc138 hf
          obtain ⟨rfl, rfl⟩ := Prod.mk.inj (Option.some.inj hf)
          rfl
        · replace hf := jifn hc138 hf
          obtain ⟨t11, y4, hy3⟩ := job hf
          have K5 : Mz a i = t11 a i := by
            replace hf := hy3
            obtain ⟨t48, y41, hy40⟩ := job hf
            have K42 : Mz a i = t48 a i := by
              replace hf := hy40
              obtain ⟨⟨t120, t121⟩, y112, hy111⟩ := job hf
              have K113 : Mz a i = t121 a i := by
                replace hf := hy111
                obtain ⟨M136, eM136, hf⟩ := job hf
                refine Eq.trans ?_ (by first | exact jup_fr eM136 (by omega) | exact jfl_fr eM136 (by omega))
                obtain ⟨M137, eM137, hf⟩ := job hf
                refine Eq.trans ?_ (by first | exact jup_fr eM137 (by omega) | exact jfl_fr eM137 (by omega))
                obtain ⟨rfl, rfl⟩ := Prod.mk.inj (Option.some.inj hf)
                rfl
              refine jLp_ind (P := fun ((z117, z118, M119) : Int32 × Int32 × JMem) => Mz a i = M119 a i) ?_ N _ y112
              rintro ⟨z117, z118, M119⟩ x_116 hf ih115 hx114
              show Mz a i = M119 a i
              by_cases hc135 : (M119 221 11) ≤ z118
              · replace hf := jifp hc135 hf
                have hf := hx114 _ (Option.some.inj hf).symm
                obtain ⟨rfl, rfl⟩ := jp2 hf
                exact K113
              · replace hf := jifn hc135 hf
                obtain ⟨v122, ev122, hf⟩ := job hf
                obtain ⟨M123, eM123, hf⟩ := job hf
                refine Eq.trans ?_ (jwr_fr eM123 (by omega))
                obtain ⟨v124, ev124, hf⟩ := job hf
                obtain ⟨v125, ev125, hf⟩ := job hf
                obtain ⟨u134, hf, hy127⟩ := job hf
                have K129 : Mz a i = M123 a i := by
                  replace hf := hy127
                  have hih : Mz a i = M123 a i := ih115 (u134, z118 + 1, M123) (Option.some.inj hf).symm
                  exact hih
                by_cases hc133 : (v124 + v125) ≤ z117
                · replace hf := jifp hc133 hf
                  obtain rfl := Option.some.inj hf
                  exact (K129)
                · replace hf := jifn hc133 hf
                  obtain ⟨v131, ev131, hf⟩ := job hf
                  obtain ⟨v132, ev132, hf⟩ := job hf
                  obtain rfl := Option.some.inj hf
                  exact (K129)
            refine jLp_ind (P := fun ((z46, M47) : Int32 × JMem) => Mz a i = M47 a i) ?_ N _ y41
            rintro ⟨z46, M47⟩ x_45 hf ih44 hx43
            show Mz a i = M47 a i
            by_cases hc110 : z46 = 0
            · replace hf := jifp hc110 hf
              have hf := hx43 _ (Option.some.inj hf).symm
              obtain rfl := hf
              exact K42
            · replace hf := jifn hc110 hf
              obtain ⟨⟨t58, t59⟩, y50, hy49⟩ := job hf
              have K51 : Mz a i = t59 a i := by
                replace hf := hy49
                have hih : Mz a i = t59 a i := ih44 (t58, t59) (Option.some.inj hf).symm
                exact hih
              refine jLp_ind (P := fun ((z55, z56, M57) : Int32 × Int32 × JMem) => Mz a i = M57 a i) ?_ N _ y50
              rintro ⟨z55, z56, M57⟩ x_54 hf ih53 hx52
              show Mz a i = M57 a i
              by_cases hc109 : (M57 221 11) ≤ z56
              · replace hf := jifp hc109 hf
                have hf := hx52 _ (Option.some.inj hf).symm
                obtain ⟨rfl, rfl⟩ := jp2 hf
                exact K51
              · replace hf := jifn hc109 hf
                obtain ⟨v60, ev60, hf⟩ := job hf
                obtain ⟨⟨u107, M108⟩, hf, hy62⟩ := job hf
                have K64 : Mz a i = M108 a i := by
                  replace hf := hy62
                  have hih : Mz a i = M108 a i := ih53 (u107, z56 + 1, M108) (Option.some.inj hf).symm
                  exact hih
                by_cases hc106 : v60 = 0
                · replace hf := jifp hc106 hf
                  obtain ⟨v66, ev66, hf⟩ := job hf
                  show Mz a i = M57 a i
                  by_cases hc105 : v66 = 0
                  · replace hf := jifp hc105 hf
                    obtain ⟨rfl, rfl⟩ := jp2 (Option.some.inj hf)
                    exact (K64)
                  · replace hf := jifn hc105 hf
                    obtain ⟨v67, ev67, hf⟩ := job hf
                    show Mz a i = M57 a i
                    obtain ⟨u76, hf, hy69⟩ := job hf
                    have K71 : Mz a i = M57 a i := by
                      replace hf := hy69
                      obtain ⟨v77, ev77, hf⟩ := job hf
                      obtain ⟨v78, ev78, hf⟩ := job hf
                      show Mz a i = M57 a i
                      obtain ⟨⟨M79, v80⟩, ev80, hf⟩ := job hf
                      refine Eq.trans ?_ (fr_X8_fromOrder ev80 a i (by omega))
                      show Mz a i = M79 a i
                      obtain ⟨u87, hf, hy82⟩ := job hf
                      have K84 : Mz a i = M79 a i := by
                        replace hf := hy82
                        obtain ⟨v88, ev88, hf⟩ := job hf
                        show Mz a i = M79 a i
                        obtain ⟨u95, hf, hy90⟩ := job hf
                        have K92 : Mz a i = M79 a i := by
                          replace hf := hy90
                          obtain ⟨u102, hf, hy97⟩ := job hf
                          have K99 : Mz a i = M79 a i := by
                            replace hf := hy97
                            obtain ⟨M103, eM103, hf⟩ := job hf
                            refine Eq.trans ?_ (jwr_fr eM103 (by omega))
                            obtain ⟨M104, eM104, hf⟩ := job hf
                            refine Eq.trans ?_ (jwr_fr eM104 (by omega))
                            obtain ⟨rfl, rfl⟩ := jp2 (Option.some.inj hf)
                            exact (K64)
                          by_cases hc101 : u87 ≤ u95
                          · replace hf := jifp hc101 hf
                            obtain rfl := Option.some.inj hf
                            exact (K99)
                          · replace hf := jifn hc101 hf
                            obtain rfl := Option.some.inj hf
                            exact (K99)
                        by_cases hc94 : v88 = 0
                        · replace hf := jifp hc94 hf
                          obtain rfl := Option.some.inj hf
                          exact (K92)
                        · replace hf := jifn hc94 hf
                          obtain rfl := Option.some.inj hf
                          exact (K92)
                      by_cases hc86 : u76 ≤ v80
                      · replace hf := jifp hc86 hf
                        obtain rfl := Option.some.inj hf
                        exact (K84)
                      · replace hf := jifn hc86 hf
                        obtain rfl := Option.some.inj hf
                        exact (K84)
                    by_cases hc75 : 0 ≤ v67
                    · replace hf := jifp hc75 hf
                      obtain ⟨v73, ev73, hf⟩ := job hf
                      obtain ⟨v74, ev74, hf⟩ := job hf
                      obtain rfl := Option.some.inj hf
                      exact (K71)
                    · replace hf := jifn hc75 hf
                      obtain rfl := Option.some.inj hf
                      exact (K71)
                · replace hf := jifn hc106 hf
                  obtain ⟨rfl, rfl⟩ := jp2 (Option.some.inj hf)
                  exact (K64)
          refine jLp_ind (P := fun ((z9, M10) : Int32 × JMem) => Mz a i = M10 a i) ?_ N _ y4
          rintro ⟨z9, M10⟩ x_8 hf ih7 hx6
          show Mz a i = M10 a i
          by_cases hc39 : (M10 221 11) ≤ z9
          · replace hf := jifp hc39 hf
            have hf := hx6 _ (Option.some.inj hf).symm
            obtain rfl := hf
            exact K5
          · replace hf := jifn hc39 hf
            obtain ⟨v12, ev12, hf⟩ := job hf
            obtain ⟨v13, ev13, hf⟩ := job hf
            obtain ⟨u34, hf, hy15⟩ := job hf
            have K17 : (hbu34 : u34 = 0 ∨ u34 = 1) → Mz a i = M10 a i := by
              intro hbu34
              replace hf := hy15
              obtain ⟨M35, eM35, hf⟩ := job hf
              refine Eq.trans ?_ (jwr_fr eM35 (by omega))
              obtain ⟨v36, ev36, hf⟩ := job hf
              obtain ⟨_, ehb38, hf⟩ := job hf
              have hb38 := jb01_of (jgd ehb38)
              obtain ⟨M37, eM37, hf⟩ := job hf
              refine Eq.trans ?_ (jwr_fr eM37 (by omega))
              have hih : Mz a i = M37 a i := ih7 (z9 + 1, M37) (Option.some.inj hf).symm
              exact hih
            obtain ⟨y21, hf, hy20⟩ := jcb hf
            have K22 : y21 = Sum.inr () → Mz a i = M10 a i := by
              intro hyy
              subst hyy
              replace hf := hy20
              obtain rfl := Option.some.inj hf
              exact (K17 (Or.inr rfl))
            by_cases hc33 : (v12 + v13) ≤ x2
            · replace hf := jifp hc33 hf
              exact (K22 (Option.some.inj hf).symm)
            · replace hf := jifn hc33 hf
              obtain ⟨v24, ev24, hf⟩ := job hf
              obtain ⟨y27, hf, hy26⟩ := jcb hf
              have K28 : y27 = Sum.inr () → Mz a i = M10 a i := by
                intro hyy
                subst hyy
                replace hf := hy26
                obtain rfl := Option.some.inj hf
                replace hf := hy20
                obtain rfl := Option.some.inj hf
                exact (K17 (Or.inl rfl))
              by_cases hc32 : x2 ≤ v24
              · replace hf := jifp hc32 hf
                exact (K28 (Option.some.inj hf).symm)
              · replace hf := jifn hc32 hf
                obtain ⟨v30, ev30, hf⟩ := job hf
                show Mz a i = M10 a i
                by_cases hc31 : v30 = 0
                · replace hf := jifp hc31 hf
                  obtain rfl := Option.some.inj hf
                  replace hf := hy26
                  exact (K22 (Option.some.inj hf).symm)
                · replace hf := jifn hc31 hf
                  exact (K28 (Option.some.inj hf).symm)
