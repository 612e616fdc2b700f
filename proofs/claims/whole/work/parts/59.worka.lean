/-! the class's day -/
def DA (M : JMem) (o : Nat) (F : FT) (od : Nat → Nat → Nat) (fx : Nat → Option Nat) (nb : Nat → Nat) (B : Nat) (q : Nat → Nat) (P : Nat → Bool) (lp lm b : Nat → Nat) (E : Nat) : Prop :=
  F.snd od fx nb B P b ∧ F.mx P b E ∧ M o 6 = nI (fb_ct P F.ns) ∧ M o 4 = nI E ∧ (∀ s, s < F.ns → P s = true → M (o + 1) s = nI (b s)) ∧
  (∀ k, k < fb_ct P F.ns → M (o + 5) k = nI (q k) ∧ q k < F.ns ∧ P (q k) = true ∧ ∀ t, F.pre od t (q k) → ∃ j, j < k ∧ q j = t) ∧
  (∀ i j, i < fb_ct P F.ns → j < fb_ct P F.ns → q i = q j → i = j) ∧ (∀ s, s < F.ns → P s = true → ∃ k, k < fb_ct P F.ns ∧ q k = s) ∧
  (∀ p, p < 12 → M (o + 7) p = nI (lp p) ∧ lp p ≤ F.lc p) ∧ (∀ s, s < F.ns → (P s = true ↔ F.rk s < lp (F.pc s))) ∧
  (∀ m, m < 8 → M (o + 8) m = nI (lm m) ∧ lm m ≤ fb_ct P F.ns ∧ (F.kd m ≠ 1 → lm m ≤ F.oc m ∧ ∀ i, i < F.oc m → (P (od m i) = true ↔ i < lm m))) ∧
  ∀ s, s < F.ns → ∀ i, i < F.oc (F.mc s) → od (F.mc s) i = s → M (o + 6) s = if F.kd (F.mc s) = 0 ∧ i + 1 < lm (F.mc s) then nI (od (F.mc s) (i + 1)) else -1
/-- what a day is laid over -/
def EA (M : JMem) (o r : Nat) (F : FT) (od : Nat → Nat → Nat) (fx : Nat → Option Nat) (nb : Nat → Nat) (B : Nat) : Prop :=
  WF F ∧ WO F od ∧ AF M F ∧ AO M r F od ∧ (∀ s, s < F.ns → (fx s = none ∧ M (o + 3) s = -1) ∨ ∃ v, fx s = some v ∧ M (o + 3) s = nI v ∧ v + F.sp s ≤ B) ∧ (∀ m, m < 8 → M (o + 4) m = nI (nb m) ∧ nb m ≤ B) ∧ B ≤ 500000 ∧ r + 10 < o ∧ 33 ≤ r
theorem EA.fr {M M' : JMem} {o r B : Nat} {F : FT} {od : Nat → Nat → Nat} {fx : Nat → Option Nat} {nb : Nat → Nat} (h : EA M o r F od fx nb B) (e : ∀ a i, a < o ∨ a = o + 3 ∨ a = o + 4 → M' a i = M a i) : EA M' o r F od fx nb B := by
  obtain ⟨h1, h2, h3, h4, h5, h6, h7, h8, h9⟩ := h
  refine ⟨h1, h2, h3.fr h1.1.1 (fun a i _ _ => e a i (by omega)), h4.fr (fun a i _ _ => e a i (by omega)), fun s hs => ?_, fun m hm => ⟨(e _ _ (by omega)).trans (h6 m hm).1, (h6 m hm).2⟩, h7, h8, h9⟩
  rw [e (o + 3) s (by omega)]
  exact h5 s hs
section WA
variable {M : JMem} {o r B N : Nat} {F : FT} {od : Nat → Nat → Nat} {fx : Nat → Option Nat} {nb : Nat → Nat} {q : Nat → Nat} {P : Nat → Bool} {lp lm b : Nat → Nat} {E : Nat}
theorem DA.Ele (hEA : EA M o r F od fx nb B) (h : DA M o F od fx nb B q P lp lm b E) : E ≤ 540000 := by
  obtain ⟨h1, h2, -⟩ := h
  have hB := hEA.2.2.2.2.2.2.1
  have hns := hEA.1.2.2.1.1
  have hct := fb_ct_le P F.ns
  rcases h2.2 with z | ⟨s, hs, z1, z2⟩
  · omega
  · have := (h1 s hs z1).2.2.1
    omega
/-- a step that is ready stands next on its piece and on its machine -/
theorem DA.lpe (hEA : EA M o r F od fx nb B) (h : DA M o F od fx nb B q P lp lm b E) {s : Nat} (hs : s < F.ns) (hP : P s = false) (hr : ∀ t, F.pre od t s → P t = true) : lp (F.pc s) = F.rk s := by
  obtain ⟨-, -, -, -, -, -, -, -, h9, h10, -⟩ := h
  have hW := hEA.1
  have a1 : ¬ F.rk s < lp (F.pc s) := fun z => by rw [(h10 s hs).mpr z] at hP; cases hP
  by_cases e : F.rk s = 0
  · omega
  · have a2 := hr _ (Or.inl ⟨e, rfl⟩)
    have a3 := jahead hW hs e
    have a4 := (hW.2.2.1.2 s hs).2.2.2.2.1
    have a5 := hW.2.1.2.2.2 (F.pc s) (F.rk s - 1) (by omega)
    have a6 := (h10 _ a3).mp a2
    rw [a5.2.1, a5.2.2] at a6
    omega
theorem DA.lme (hEA : EA M o r F od fx nb B) (h : DA M o F od fx nb B q P lp lm b E) {s i : Nat} (hs : s < F.ns) (hP : P s = false) (hr : ∀ t, F.pre od t s → P t = true) (hk : F.kd (F.mc s) ≠ 1) (hi : i < F.oc (F.mc s)) (hoi : od (F.mc s) i = s) : lm (F.mc s) = i := by
  obtain ⟨-, -, -, -, -, -, -, -, -, -, h11, -⟩ := h
  have hW := hEA.1
  have hm8 : F.mc s < 8 := Nat.lt_of_lt_of_le (hW.2.2.1.2 s hs).2.1 hW.1.1
  obtain ⟨a1, a2⟩ := (h11 _ hm8).2.2 hk
  have a3 : ¬ i < lm (F.mc s) := fun z => by
    have := (a2 i hi).mpr z
    rw [hoi, hP] at this
    cases this
  rcases Nat.lt_or_ge (lm (F.mc s)) i with e | e
  · have := (a2 (lm (F.mc s)) (by omega)).mp (hr _ (Or.inr ⟨hk, i, _, hi, hoi, e, rfl⟩))
    omega
  · omega
theorem DA.lay (hEA : EA M o r F od fx nb B) (h : DA M o F od fx nb B q P lp lm b E) {s : Nat} (hs : s < F.ns) (hP : P s = false) (hr : ∀ t, F.pre od t s → P t = true) (hN : 100 ≤ N) :
    ∃ M1 v M', f_X1_earliest N M o r (nI s) = some (M1, nI v) ∧ f_X1_set M1 o r (nI s) (nI v) = some M' ∧ DA M' o F od fx nb B (addN q (fb_ct P F.ns) s) (addB P s) (addN lp (F.pc s) (lp (F.pc s) + 1)) (addN lm (F.mc s) (lm (F.mc s) + 1)) (addN b s v) (max E (v + F.sp s)) ∧ ∀ a i, ¬ ((a = o ∧ (i = 4 ∨ i = 6)) ∨ a = o + 1 ∨ (o + 5 ≤ a ∧ a ≤ o + 9)) → M' a i = M a i := by
  have hEle := h.Ele hEA
  have hlpe := h.lpe hEA hs hP hr
  have hlme := fun i => h.lme (i := i) hEA hs hP hr
  obtain ⟨hW, hO, hA, hAO, hfx, hnb, hB, ho, hr33⟩ := id hEA
  obtain ⟨h1, h2, h3, h4, h5, h6, h7, h8, h9, h10, h11, h12⟩ := id h
  have hns := hW.2.2.1.1
  have hnm := hW.1.1
  have hnp := hW.2.1.1
  have hct := ct_lt hs hP
  obtain ⟨p1, p2, p3, p4, p5, p6⟩ := hW.2.2.1.2 s hs
  obtain ⟨g1, g2, g3, g4, g5, g6, g7, g8, g9, g10⟩ := id hA
  have hm8 : F.mc s < 8 := by omega
  have hp12 : F.pc s < 12 := by omega
  have hk := hW.1.2 _ p2
  have hlt : ∀ t, F.pre od t s → t < F.ns := fun t ht => pre_lt hW hO hs ht
  obtain ⟨i, hi, hoi⟩ := hO.2.2 s hs
  obtain ⟨l1, l2, l3⟩ := h11 _ hm8
  have hoc := oc_le hW (F.mc s)
  have hiu : ∀ j, j < F.oc (F.mc s) → od (F.mc s) j = s → j = i := fun j hj e => hO.2.1 _ j i hj hi (by rw [e, hoi])
  have hbd : ∀ t, F.pre od t s → M (o + 1) t = nI (b t) ∧ b t + F.sp t ≤ B + 1100 * fb_ct P F.ns := fun t ht => ⟨h5 t (hlt t ht) (hr t ht), (h1 t (hlt t ht) (hr t ht)).2.2.1⟩
  -- the moment
  have hv : ∃ M1 v, f_X1_earliest N M o r (nI s) = some (M1, nI v) ∧ v = F.vl od fx nb b s i ∧ v + F.sp s ≤ B + 1100 * (fb_ct P F.ns + 1) ∧ ∀ a j, a ≠ o + 9 → M1 a j = M a j := by
    rcases hfx s hs with ⟨f1, f2⟩ | ⟨v, f1, f2, f3⟩
    · have hfo : F.fo b (od (F.mc s)) (lm (F.mc s)) s = F.fo b (od (F.mc s)) i s := by
        by_cases z : F.kd (F.mc s) = 1
        · rw [fo_a (Or.inl z), fo_a (Or.inl z)]
        · rw [hlme i z hi hoi]
      obtain ⟨M1, e1, e2⟩ := jearA (M := M) (o := o) (r := r) (s := s) (i := lm (F.mc s)) (nb := nb (F.mc s)) (N := N) (F := F) (b := b) (row := od (F.mc s)) hW hA hs ho hr33 (by omega) f2 (hnb _ hm8).1 (by have := (hnb _ hm8).2; omega) l1
        (fun z => by have := hbd _ (Or.inl ⟨z, rfl⟩); exact ⟨this.1, by omega⟩)
        (fun z j hj => by
          have z1 := hlme i z hi hoi
          have z2 := hbd _ (Or.inr ⟨z, i, j, hi, hoi, by omega, rfl⟩)
          exact ⟨(hO.1 _ j (by omega)).1, hAO.2 _ j hm8 (by omega), z2.1, by omega⟩) hN
      have hval : F.vl od fx nb b s i = max (nb (F.mc s)) (max (F.ea b s) (F.fo b (od (F.mc s)) i s)) := by
        unfold FT.vl
        rw [f1]
      rw [hfo] at e1
      refine ⟨M1, _, e1, hval.symm, ?_, e2⟩
      have b1 : F.ea b s ≤ B + 1100 * fb_ct P F.ns := by
        unfold FT.ea
        split
        · omega
        · rename_i z
          exact (hbd _ (Or.inl ⟨z, rfl⟩)).2
      have b2 : F.fo b (od (F.mc s)) i s ≤ B + 1100 * fb_ct P F.ns + 100 := by
        by_cases z : F.kd (F.mc s) = 1 ∨ i = 0
        · rw [fo_a z]
          omega
        · have z1 : F.kd (F.mc s) ≠ 1 := fun y => z (Or.inl y)
          have z2 : i ≠ 0 := fun y => z (Or.inr y)
          have hj : ∀ j, j < i → b (od (F.mc s) j) + F.sp (od (F.mc s) j) ≤ B + 1100 * fb_ct P F.ns := fun j hj => (hbd _ (Or.inr ⟨z1, i, j, hi, hoi, hj, rfl⟩)).2
          have hj1 := hj (i - 1) (by omega)
          by_cases z3 : F.kd (F.mc s) = 3
          · rw [fo_c z2 z3]
            have := tt_le (F := F) (b := b) (row := od (F.mc s)) i ((F.wi (F.mc s)).toNatClampNeg - 1) hj
            omega
          · rw [fo_o z2 z1 z3]
            have := gap_le hW (p := od (F.mc s) (i - 1)) hs
            omega
      have b3 := (hnb _ hm8).2
      omega
    · refine ⟨M, v, ?_, ?_, by omega, fun _ _ _ => rfl⟩
      · unfold f_X1_earliest
        rw [jrd_nI (by omega) (by decide), Option.bind_some, f2, if_neg (jnm1 (by omega)), Option.bind_some]
      · unfold FT.vl
        rw [f1]
  obtain ⟨M1, v, e1, e2, e3, e4⟩ := hv
  obtain ⟨M', s1, s2, s3, s4, s5, s6, s7, s8, s9⟩ := jsetA (M := M1) (o := o) (r := r) (s := s) (v := v) (n := fb_ct P F.ns) (p := F.pc s) (m := F.mc s) (lp := lp (F.pc s)) (lm := lm (F.mc s)) (E := E) (w := F.sp s) (kd := F.kd (F.mc s)) (prev := od (F.mc s) (lm (F.mc s) - 1)) (by omega) (by omega) hp12 hm8 (by omega) (by omega) (by omega) (by omega) ho hr33 (by omega)
    ((e4 _ _ (by omega)).trans (g8 s hs).2.1) ((e4 _ _ (by omega)).trans l1) ((e4 _ _ (by omega)).trans (g8 s hs).2.2.1) ((e4 _ _ (by omega)).trans h4) ((e4 _ _ (by omega)).trans (g4 _ p2).1) ((e4 _ _ (by omega)).trans h3) ((e4 _ _ (by omega)).trans (g8 s hs).1) ((e4 _ _ (by omega)).trans (h9 _ hp12).1)
    (fun z1 z2 => by
      have z3 := (l3 (by omega)).1
      have z4 := (hO.1 (F.mc s) (lm (F.mc s) - 1) (by omega)).1
      exact ⟨by omega, (e4 _ _ (by omega)).trans (hAO.2 _ _ hm8 (by omega))⟩)
  have hfr : ∀ a j, ¬ ((a = o + 1 ∧ j = s) ∨ (a = o ∧ (j = 4 ∨ j = 6)) ∨ (a = o + 5 ∧ j = fb_ct P F.ns) ∨ a = o + 6 ∨ (a = o + 7 ∧ j = F.pc s) ∨ (a = o + 8 ∧ j = F.mc s) ∨ a = o + 9) → M' a j = M a j := fun a j z => (s2 a j (by omega)).trans (e4 a j (by omega))
  have hne : ∀ u, P u = true → u ≠ s := fun u z e => by rw [e, hP] at z; cases z
  have hadd : ∀ u, addB P s u = true ↔ (u = s ∨ P u = true) := by
    intro u
    unfold addB
    by_cases e : u = s
    · rw [if_pos e]
      exact ⟨fun _ => Or.inl e, fun _ => rfl⟩
    · rw [if_neg e]
      exact ⟨fun z => Or.inr z, fun z => by rcases z with z | z; exact absurd z e; exact z⟩
  have hct2 := addB_ct hs hP
  refine ⟨M1, v, M', e1, s1, ⟨snd_add h1 hs hP hr (fun j hj hoj => by rw [hiu j hj hoj]; exact e2) e3 hlt, mx_add h2 hs hP, by rw [hct2]; exact s5, s4, fun u hu hPu => ?_, fun k hk => ?_, fun x y hx hy hxy => ?_, fun u hu hPu => ?_, fun p hp => ?_, fun u hu => ?_, fun m hm => ?_, fun u hu j hj hoj => ?_⟩, fun a j z => hfr a j (by omega)⟩
  · show M' (o + 1) u = nI (if u = s then v else b u)
    by_cases e : u = s
    · rw [if_pos e, e]
      exact s3
    · rw [if_neg e]
      rcases (hadd u).mp hPu with z | z
      · exact absurd z e
      · exact (hfr _ _ (by omega)).trans (h5 u hu z)
  · rw [hct2] at hk
    show M' (o + 5) k = nI (if k = fb_ct P F.ns then s else q k) ∧ (if k = fb_ct P F.ns then s else q k) < F.ns ∧ addB P s (if k = fb_ct P F.ns then s else q k) = true ∧ ∀ t, F.pre od t (if k = fb_ct P F.ns then s else q k) → ∃ j, j < k ∧ (if j = fb_ct P F.ns then s else q j) = t
    by_cases e : k = fb_ct P F.ns
    · rw [if_pos e]
      refine ⟨by rw [e]; exact s6, hs, (hadd s).mpr (Or.inl rfl), fun t ht => ?_⟩
      obtain ⟨j, hj, ej⟩ := h8 t (hlt t ht) (hr t ht)
      exact ⟨j, by omega, by rw [if_neg (by omega)]; exact ej⟩
    · rw [if_neg e]
      obtain ⟨c1, c2, c3, c4⟩ := h6 k (by omega)
      refine ⟨(hfr _ _ (by omega)).trans c1, c2, (hadd _).mpr (Or.inr c3), fun t ht => ?_⟩
      obtain ⟨j, hj, ej⟩ := c4 t ht
      exact ⟨j, hj, by rw [if_neg (by omega)]; exact ej⟩
  · rw [hct2] at hx hy
    have hxy2 : (if x = fb_ct P F.ns then s else q x) = (if y = fb_ct P F.ns then s else q y) := hxy
    by_cases ex : x = fb_ct P F.ns
    · by_cases ey : y = fb_ct P F.ns
      · omega
      · rw [if_pos ex, if_neg ey] at hxy2
        exact absurd hxy2.symm (hne _ (h6 y (by omega)).2.2.1)
    · by_cases ey : y = fb_ct P F.ns
      · rw [if_neg ex, if_pos ey] at hxy2
        exact absurd hxy2 (hne _ (h6 x (by omega)).2.2.1)
      · rw [if_neg ex, if_neg ey] at hxy2
        exact h7 x y (by omega) (by omega) hxy2
  · rw [hct2]
    show ∃ k, k < fb_ct P F.ns + 1 ∧ (if k = fb_ct P F.ns then s else q k) = u
    rcases (hadd u).mp hPu with z | z
    · exact ⟨fb_ct P F.ns, by omega, by rw [if_pos rfl]; exact z.symm⟩
    · obtain ⟨k, hk, ek⟩ := h8 u hu z
      exact ⟨k, by omega, by rw [if_neg (by omega)]; exact ek⟩
  · show M' (o + 7) p = nI (if p = F.pc s then lp (F.pc s) + 1 else lp p) ∧ (if p = F.pc s then lp (F.pc s) + 1 else lp p) ≤ F.lc p
    by_cases e : p = F.pc s
    · rw [if_pos e, e]
      exact ⟨s7, by omega⟩
    · rw [if_neg e]
      exact ⟨(hfr _ _ (by omega)).trans (h9 p hp).1, (h9 p hp).2⟩
  · rw [hadd u]
    show _ ↔ F.rk u < (if F.pc u = F.pc s then lp (F.pc s) + 1 else lp (F.pc u))
    by_cases e : F.pc u = F.pc s
    · rw [if_pos e]
      constructor
      · rintro (rfl | z)
        · omega
        · have := (h10 u hu).mp z
          rw [e] at this
          omega
      · intro z
        by_cases e2 : F.rk u = F.rk s
        · left
          rw [← (hW.2.2.1.2 u hu).2.2.2.2.2, e, e2, p6]
        · right
          refine (h10 u hu).mpr ?_
          rw [e]
          omega
    · rw [if_neg e]
      constructor
      · rintro (rfl | z)
        · exact absurd rfl e
        · exact (h10 u hu).mp z
      · intro z
        exact Or.inr ((h10 u hu).mpr z)
  · rw [hct2]
    show M' (o + 8) m = nI (if m = F.mc s then lm (F.mc s) + 1 else lm m) ∧ (if m = F.mc s then lm (F.mc s) + 1 else lm m) ≤ fb_ct P F.ns + 1 ∧ (F.kd m ≠ 1 → (if m = F.mc s then lm (F.mc s) + 1 else lm m) ≤ F.oc m ∧ ∀ i, i < F.oc m → (addB P s (od m i) = true ↔ i < (if m = F.mc s then lm (F.mc s) + 1 else lm m)))
    by_cases e : m = F.mc s
    · rw [if_pos e, e]
      refine ⟨s8, by omega, fun z => ?_⟩
      have z1 := hlme i z hi hoi
      obtain ⟨z2, z3⟩ := l3 z
      refine ⟨by omega, fun j hj => ?_⟩
      rw [hadd]
      constructor
      · rintro (z4 | z4)
        · have := hiu j hj z4
          omega
        · have := (z3 j hj).mp z4
          omega
      · intro z4
        by_cases z5 : j = i
        · left
          rw [z5]
          exact hoi
        · right
          exact (z3 j hj).mpr (by omega)
    · rw [if_neg e]
      obtain ⟨c1, c2, c3⟩ := h11 m hm
      refine ⟨(hfr _ _ (by omega)).trans c1, by omega, fun z => ⟨(c3 z).1, fun j hj => ?_⟩⟩
      rw [hadd, ← (c3 z).2 j hj]
      constructor
      · rintro (z4 | z4)
        · have := (hO.1 m j hj).2
          rw [z4] at this
          exact absurd this.symm e
        · exact z4
      · intro z4
        exact Or.inr z4
  · rw [s9 u, e4 _ _ (by omega), h12 u hu j hj hoj]
    show _ = if F.kd (F.mc u) = 0 ∧ j + 1 < (if F.mc u = F.mc s then lm (F.mc s) + 1 else lm (F.mc u)) then nI (od (F.mc u) (j + 1)) else -1
    by_cases em : F.mc u = F.mc s
    · rw [if_pos em, em]
      rw [em] at hj hoj
      by_cases ek : F.kd (F.mc s) = 0
      · have z1 := hlme i (by omega) hi hoi
        by_cases ej : j + 1 = lm (F.mc s)
        · rw [if_pos (show F.kd (F.mc s) = 0 ∧ 0 < lm (F.mc s) ∧ u = od (F.mc s) (lm (F.mc s) - 1) from ⟨ek, by omega, by rw [show lm (F.mc s) - 1 = j by omega]; exact hoj.symm⟩), if_pos ⟨ek, by omega⟩, ej, z1, hoi]
        · rw [if_neg (show ¬ (F.kd (F.mc s) = 0 ∧ 0 < lm (F.mc s) ∧ u = od (F.mc s) (lm (F.mc s) - 1)) from fun z => by
            have := hO.2.1 (F.mc s) j (lm (F.mc s) - 1) hj (by omega) (by rw [hoj]; exact z.2.2)
            omega)]
          by_cases ej2 : j + 1 < lm (F.mc s)
          · rw [if_pos ⟨ek, ej2⟩, if_pos ⟨ek, by omega⟩]
          · rw [if_neg (fun z => ej2 z.2), if_neg (show ¬ (F.kd (F.mc s) = 0 ∧ j + 1 < lm (F.mc s) + 1) by omega)]
      · rw [if_neg (show ¬ (F.kd (F.mc s) = 0 ∧ 0 < lm (F.mc s) ∧ u = od (F.mc s) (lm (F.mc s) - 1)) from fun z => ek z.1), if_neg (show ¬ (F.kd (F.mc s) = 0 ∧ j + 1 < lm (F.mc s)) from fun z => ek z.1), if_neg (show ¬ (F.kd (F.mc s) = 0 ∧ j + 1 < lm (F.mc s) + 1) from fun z => ek z.1)]
    · rw [if_neg em]
      rw [if_neg (show ¬ (F.kd (F.mc s) = 0 ∧ 0 < lm (F.mc s) ∧ u = od (F.mc s) (lm (F.mc s) - 1)) from fun z => by
        have z3 := (l3 (by omega)).1
        have := (hO.1 (F.mc s) (lm (F.mc s) - 1) (by omega)).2
        rw [← z.2.2] at this
        exact em this)]
end WA
