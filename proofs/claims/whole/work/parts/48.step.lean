/-- the floor with a step more: of piece p, on machine m, of span v -/
def FT.addS (F : FT) (p m v : Nat) : FT := (F.nm, F.np, F.ns + 1, F.kd, F.wi, F.so, fun x => if x = p then F.lc p + 1 else F.lc x, fun x i => if x = p ∧ i = F.lc p then F.ns else F.ln x i, fun s => if s = F.ns then p else F.pc s, fun s => if s = F.ns then m else F.mc s, fun s => if s = F.ns then v else F.sp s, fun s => if s = F.ns then F.lc p else F.rk s, fun x => if x = m then F.oc m + 1 else F.oc x, fun x i => if x = m ∧ i = F.oc m then F.ns else F.on x i)
def odS (F : FT) (od : Nat → Nat → Nat) (m : Nat) : Nat → Nat → Nat := fun x i => if x = m ∧ i = F.oc m then F.ns else od x i
/-- fewer steps on a machine than in all -/
theorem oc_le {F : FT} (h : WF F) (m : Nat) : F.oc m ≤ F.ns := by
  obtain ⟨-, -, -, -, -, o3, o4, -⟩ := h
  have key : ∀ i, i < F.oc m → i ≤ F.on m i := by
    intro i
    induction i with
    | zero => intro _; exact Nat.zero_le _
    | succ i ih =>
      intro hi
      have h1 := ih (by omega)
      have h2 := o4 m i (i + 1) (by omega) hi
      omega
  rcases Nat.eq_zero_or_pos (F.oc m) with e | e
  · omega
  · have h1 := key (F.oc m - 1) (by omega)
    have h2 := (o3 m (F.oc m - 1) (by omega)).1
    omega
theorem addS_wf {F : FT} {p m v : Nat} (h : WF F) (hp : p < F.np) (hm : m < F.nm) (hv : 1 ≤ v ∧ v ≤ 1000) (hl : F.lc p < 8) (hs : F.ns < 32) : WF (F.addS p m v) := by
  have hoc := oc_le h
  obtain ⟨hM, ⟨p1, p2, p3, p4⟩, ⟨s1, s2⟩, ⟨o1, o2, o3, o4, o5⟩⟩ := h
  refine ⟨hM, ⟨p1, fun x hx => ?_, fun x => ?_, fun x i hi => ?_⟩, ⟨hs, fun s hs2 => ?_⟩, ⟨fun x hx => ?_, fun x => ?_, fun x i hi => ?_, fun x i j hij hj => ?_, fun s hs2 => ?_⟩⟩
  · show (if x = p then F.lc p + 1 else F.lc x) = 0
    have hx2 : F.np ≤ x := hx
    rw [if_neg (by omega)]
    exact p2 x hx
  · show (if x = p then F.lc p + 1 else F.lc x) ≤ 8
    split
    · omega
    · exact p3 x
  · have hi2 : i < (if x = p then F.lc p + 1 else F.lc x) := hi
    show (if x = p ∧ i = F.lc p then F.ns else F.ln x i) < F.ns + 1 ∧ (if (if x = p ∧ i = F.lc p then F.ns else F.ln x i) = F.ns then p else F.pc (if x = p ∧ i = F.lc p then F.ns else F.ln x i)) = x ∧ (if (if x = p ∧ i = F.lc p then F.ns else F.ln x i) = F.ns then F.lc p else F.rk (if x = p ∧ i = F.lc p then F.ns else F.ln x i)) = i
    by_cases e : x = p ∧ i = F.lc p
    · rw [if_pos e, if_pos rfl, if_pos rfl]
      exact ⟨by omega, e.1.symm, e.2.symm⟩
    · rw [if_neg e]
      have hi3 : i < F.lc x := by
        by_cases ex : x = p
        · rw [if_pos ex] at hi2
          rw [ex]
          omega
        · rw [if_neg ex] at hi2
          exact hi2
      obtain ⟨q1, q2, q3⟩ := p4 x i hi3
      rw [if_neg (by omega), if_neg (by omega)]
      exact ⟨by omega, q2, q3⟩
  · have hs3 : s < F.ns + 1 := hs2
    show (if s = F.ns then p else F.pc s) < F.np ∧ (if s = F.ns then m else F.mc s) < F.nm ∧ 1 ≤ (if s = F.ns then v else F.sp s) ∧ (if s = F.ns then v else F.sp s) ≤ 1000 ∧ (if s = F.ns then F.lc p else F.rk s) < (if (if s = F.ns then p else F.pc s) = p then F.lc p + 1 else F.lc (if s = F.ns then p else F.pc s)) ∧ (if (if s = F.ns then p else F.pc s) = p ∧ (if s = F.ns then F.lc p else F.rk s) = F.lc p then F.ns else F.ln (if s = F.ns then p else F.pc s) (if s = F.ns then F.lc p else F.rk s)) = s
    by_cases e : s = F.ns
    · simp only [if_pos e]
      refine ⟨hp, hm, hv.1, hv.2, by simp, by simp [e]⟩
    · simp only [if_neg e]
      obtain ⟨q1, q2, q3, q4, q5, q6⟩ := s2 s (by omega)
      refine ⟨q1, q2, q3, q4, ?_, ?_⟩
      · split
        · rename_i h9
          rw [h9] at q5
          omega
        · exact q5
      · rw [if_neg (fun z => by rw [z.1, z.2] at q5; omega)]
        exact q6
  · show (if x = m then F.oc m + 1 else F.oc x) = 0
    have hx2 : F.nm ≤ x := hx
    rw [if_neg (by omega)]
    exact o1 x hx
  · show (if x = m then F.oc m + 1 else F.oc x) ≤ 32
    have := hoc m
    split
    · omega
    · exact o2 x
  · have hi2 : i < (if x = m then F.oc m + 1 else F.oc x) := hi
    show (if x = m ∧ i = F.oc m then F.ns else F.on x i) < F.ns + 1 ∧ (if (if x = m ∧ i = F.oc m then F.ns else F.on x i) = F.ns then m else F.mc (if x = m ∧ i = F.oc m then F.ns else F.on x i)) = x
    by_cases e : x = m ∧ i = F.oc m
    · rw [if_pos e, if_pos rfl]
      exact ⟨by omega, e.1.symm⟩
    · rw [if_neg e]
      have hi3 : i < F.oc x := by
        by_cases ex : x = m
        · rw [if_pos ex] at hi2
          rw [ex]
          omega
        · rw [if_neg ex] at hi2
          exact hi2
      obtain ⟨q1, q2⟩ := o3 x i hi3
      rw [if_neg (by omega)]
      exact ⟨by omega, q2⟩
  · have hj2 : j < (if x = m then F.oc m + 1 else F.oc x) := hj
    show (if x = m ∧ i = F.oc m then F.ns else F.on x i) < (if x = m ∧ j = F.oc m then F.ns else F.on x j)
    by_cases ex : x = m
    · rw [if_pos ex] at hj2
      rw [if_neg (by omega)]
      by_cases ej : j = F.oc m
      · rw [if_pos ⟨ex, ej⟩, ex]
        exact (o3 m i (by omega)).1
      · rw [if_neg (by omega), ex]
        exact o4 m i j hij (by omega)
    · rw [if_neg ex] at hj2
      rw [if_neg (fun z => ex z.1), if_neg (fun z => ex z.1)]
      exact o4 x i j hij hj2
  · have hs3 : s < F.ns + 1 := hs2
    show ∃ i, i < (if (if s = F.ns then m else F.mc s) = m then F.oc m + 1 else F.oc (if s = F.ns then m else F.mc s)) ∧ (if (if s = F.ns then m else F.mc s) = m ∧ i = F.oc m then F.ns else F.on (if s = F.ns then m else F.mc s) i) = s
    by_cases e : s = F.ns
    · simp only [if_pos e]
      exact ⟨F.oc m, by simp, by simp [e]⟩
    · simp only [if_neg e]
      obtain ⟨i, hi, q⟩ := o5 s (by omega)
      refine ⟨i, ?_, ?_⟩
      · split
        · rename_i h9
          rw [h9] at hi
          omega
        · exact hi
      · rw [if_neg (fun z => by rw [z.1, z.2] at hi; omega)]
        exact q
theorem addS_wo {F : FT} {od : Nat → Nat → Nat} {p m v : Nat} (h : WO F od) : WO (F.addS p m v) (odS F od m) := by
  obtain ⟨h1, h2, h3⟩ := h
  have cut : ∀ x i, i < (if x = m then F.oc m + 1 else F.oc x) → ¬ (x = m ∧ i = F.oc m) → i < F.oc x := by
    intro x i hi e
    by_cases ex : x = m
    · rw [if_pos ex] at hi
      rw [ex]
      omega
    · rw [if_neg ex] at hi
      exact hi
  refine ⟨fun x i hi => ?_, fun x i j hi hj hq => ?_, fun s hs2 => ?_⟩
  · have hi2 : i < (if x = m then F.oc m + 1 else F.oc x) := hi
    show (if x = m ∧ i = F.oc m then F.ns else od x i) < F.ns + 1 ∧ (if (if x = m ∧ i = F.oc m then F.ns else od x i) = F.ns then m else F.mc (if x = m ∧ i = F.oc m then F.ns else od x i)) = x
    by_cases e : x = m ∧ i = F.oc m
    · rw [if_pos e, if_pos rfl]
      exact ⟨by omega, e.1.symm⟩
    · rw [if_neg e]
      obtain ⟨q1, q2⟩ := h1 x i (cut x i hi2 e)
      rw [if_neg (by omega)]
      exact ⟨by omega, q2⟩
  · have hi2 : i < (if x = m then F.oc m + 1 else F.oc x) := hi
    have hj2 : j < (if x = m then F.oc m + 1 else F.oc x) := hj
    have hq2 : (if x = m ∧ i = F.oc m then F.ns else od x i) = (if x = m ∧ j = F.oc m then F.ns else od x j) := hq
    by_cases e : x = m ∧ i = F.oc m
    · by_cases e2 : x = m ∧ j = F.oc m
      · omega
      · rw [if_pos e, if_neg e2] at hq2
        have := (h1 x j (cut x j hj2 e2)).1
        omega
    · by_cases e2 : x = m ∧ j = F.oc m
      · rw [if_neg e, if_pos e2] at hq2
        have := (h1 x i (cut x i hi2 e)).1
        omega
      · rw [if_neg e, if_neg e2] at hq2
        exact h2 x i j (cut x i hi2 e) (cut x j hj2 e2) hq2
  · have hs3 : s < F.ns + 1 := hs2
    show ∃ i, i < (if (if s = F.ns then m else F.mc s) = m then F.oc m + 1 else F.oc (if s = F.ns then m else F.mc s)) ∧ (if (if s = F.ns then m else F.mc s) = m ∧ i = F.oc m then F.ns else od (if s = F.ns then m else F.mc s) i) = s
    by_cases e : s = F.ns
    · simp only [if_pos e]
      exact ⟨F.oc m, by simp, by simp [e]⟩
    · simp only [if_neg e]
      obtain ⟨i, hi, q⟩ := h3 s (by omega)
      refine ⟨i, ?_, ?_⟩
      · split
        · rename_i h9
          rw [h9] at hi
          omega
        · exact hi
      · rw [if_neg (fun z => by rw [z.1, z.2] at hi; omega)]
        exact q
