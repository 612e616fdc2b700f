/-! rule: what both do, in numbers -/
abbrev RT : Type := (Nat → Nat) × (Nat → Nat) × (Nat → Nat → Nat) × (Nat → Nat) × Nat
def FT.pP (F : FT) (lp : Nat → Nat) (s : Nat) : Bool := decide (F.rk s < lp (F.pc s))
def FT.vq (F : FT) (st : RT) (s : Nat) : Nat := max (F.ea st.2.2.2.1 s) (F.fo st.2.2.2.1 (st.2.2.1 (F.mc s)) (st.2.1 (F.mc s)) s)
def FT.rq (F : FT) (k s : Nat) : Int32 := if k = 0 then nI (F.sp s) else if k = 1 then -nI (F.sp s + F.sb s) else 0
def pkS (st : Option (Nat × Nat × Int32)) (s v : Nat) (r : Int32) : Option (Nat × Nat × Int32) := match st with
  | none => some (s, v, r)
  | some (s0, v0, r0) => if v < v0 ∨ (v = v0 ∧ r < r0) then some (s, v, r) else some (s0, v0, r0)
def FT.pk (F : FT) (k : Nat) (st : RT) : Nat → Option (Nat × Nat × Int32)
  | 0 => none
  | p + 1 => if st.1 p < F.lc p then pkS (FT.pk F k st p) (F.ln p (st.1 p)) (F.vq st (F.ln p (st.1 p))) (F.rq k (F.ln p (st.1 p))) else FT.pk F k st p
def FT.put (F : FT) (st : RT) (s v : Nat) : RT := (addN st.1 (F.pc s) (st.1 (F.pc s) + 1), addN st.2.1 (F.mc s) (st.2.1 (F.mc s) + 1), fun m i => if m = F.mc s ∧ i = st.2.1 (F.mc s) then s else st.2.2.1 m i, addN st.2.2.2.1 s v, max st.2.2.2.2 (v + F.sp s))
def FT.r1 (F : FT) (k : Nat) (st : RT) : RT := match F.pk k st F.np with
  | none => st
  | some (s, v, _) => F.put st s v
def FT.rN (F : FT) (k : Nat) : Nat → RT
  | 0 => (fun _ => 0, fun _ => 0, fun _ _ => 0, fun _ => 0, 0)
  | n + 1 => F.r1 k (FT.rN F k n)
def RI (F : FT) (st : RT) (n : Nat) : Prop := (∀ p, st.1 p ≤ F.lc p) ∧ fb_ct (F.pP st.1) F.ns = n ∧ (∀ m i, i < st.2.1 m → st.2.2.1 m i < F.ns ∧ F.mc (st.2.2.1 m i) = m ∧ F.pP st.1 (st.2.2.1 m i) = true) ∧ (∀ m i j, i < st.2.1 m → j < st.2.1 m → st.2.2.1 m i = st.2.2.1 m j → i = j) ∧ (∀ s, s < F.ns → F.pP st.1 s = true → (∃ i, i < st.2.1 (F.mc s) ∧ st.2.2.1 (F.mc s) i = s) ∧ st.2.2.2.1 s + F.sp s ≤ 1100 * n) ∧ st.2.2.2.2 ≤ 1100 * n
section RU
variable {M : JMem} {N k n : Nat} {F : FT} {st : RT}
theorem RI.cn (h : RI F st n) (m : Nat) : st.2.1 m ≤ F.ns := fb_holes F.ns (st.2.1 m) (st.2.2.1 m) (fun i hi => (h.2.2.1 m i hi).1) (fun i j hij hj e => by
  have := h.2.2.2.1 m i j (by omega) hj e
  omega)
theorem pk_inn (hr : ∀ p, st.1 p ≤ F.lc p) : ∀ p s v r, F.pk k st p = some (s, v, r) → ∃ p', p' < p ∧ st.1 p' < F.lc p' ∧ s = F.ln p' (st.1 p') ∧ v = F.vq st s
  | 0, s, v, r, h => by cases h
  | p + 1, s, v, r, h => by
    have h2 : (if st.1 p < F.lc p then pkS (F.pk k st p) (F.ln p (st.1 p)) (F.vq st (F.ln p (st.1 p))) (F.rq k (F.ln p (st.1 p))) else F.pk k st p) = some (s, v, r) := h
    by_cases e : st.1 p < F.lc p
    · rw [if_pos e] at h2
      unfold pkS at h2
      cases ho : F.pk k st p with
      | none =>
        rw [ho] at h2
        cases h2
        exact ⟨p, by omega, e, rfl, rfl⟩
      | some y =>
        obtain ⟨s0, v0, r0⟩ := y
        rw [ho] at h2
        dsimp only at h2
        split at h2
        · cases h2
          exact ⟨p, by omega, e, rfl, rfl⟩
        · cases h2
          obtain ⟨p', a1, a2⟩ := pk_inn hr p s v r ho
          exact ⟨p', by omega, a2⟩
    · rw [if_neg e] at h2
      obtain ⟨p', a1, a2⟩ := pk_inn hr p s v r h2
      exact ⟨p', by omega, a2⟩
theorem pk_non : ∀ p, F.pk k st p = none → ∀ p', p' < p → ¬ st.1 p' < F.lc p'
  | 0, _, p', hp => absurd hp (Nat.not_lt_zero p')
  | p + 1, h, p', hp => by
    have h2 : (if st.1 p < F.lc p then pkS (F.pk k st p) (F.ln p (st.1 p)) (F.vq st (F.ln p (st.1 p))) (F.rq k (F.ln p (st.1 p))) else F.pk k st p) = none := h
    by_cases e : st.1 p < F.lc p
    · rw [if_pos e] at h2
      unfold pkS at h2
      split at h2
      · cases h2
      · split at h2 <;> cases h2
    · rw [if_neg e] at h2
      rcases Nat.lt_succ_iff_lt_or_eq.mp hp with z | z
      · exact pk_non p h2 p' z
      · rw [z]
        exact e
/-- the next of a piece -/
theorem RI.nxt (hW : WF F) (h : RI F st n) {p : Nat} (hp : st.1 p < F.lc p) : F.ln p (st.1 p) < F.ns ∧ F.pc (F.ln p (st.1 p)) = p ∧ F.rk (F.ln p (st.1 p)) = st.1 p ∧ F.pP st.1 (F.ln p (st.1 p)) = false := by
  obtain ⟨a1, a2, a3⟩ := hW.2.1.2.2.2 p _ hp
  refine ⟨a1, a2, a3, ?_⟩
  unfold FT.pP
  rw [a2, a3]
  simp
theorem RI.vq_le (hW : WF F) (h : RI F st n) {s : Nat} (hs : s < F.ns) (hr : F.rk s = st.1 (F.pc s)) : F.ea st.2.2.2.1 s ≤ 1100 * n ∧ F.fo st.2.2.2.1 (st.2.2.1 (F.mc s)) (st.2.1 (F.mc s)) s ≤ 1100 * n + 100 := by
  refine ⟨?_, ?_⟩
  · unfold FT.ea
    split
    · omega
    · rename_i z
      have h1 := jahead hW hs z
      have h2 := hW.2.1.2.2.2 (F.pc s) (F.rk s - 1) (by have := (hW.2.2.1.2 s hs).2.2.2.2.1; omega)
      exact (h.2.2.2.2.1 _ h1 (by unfold FT.pP; rw [h2.2.1, h2.2.2]; simp; omega)).2
  · by_cases z : F.kd (F.mc s) = 1 ∨ st.2.1 (F.mc s) = 0
    · rw [fo_a z]
      omega
    · have z1 : F.kd (F.mc s) ≠ 1 := fun y => z (Or.inl y)
      have z2 : st.2.1 (F.mc s) ≠ 0 := fun y => z (Or.inr y)
      have hj : ∀ j, j < st.2.1 (F.mc s) → st.2.2.2.1 (st.2.2.1 (F.mc s) j) + F.sp (st.2.2.1 (F.mc s) j) ≤ 1100 * n := fun j hj => by
        obtain ⟨c1, c2, c3⟩ := h.2.2.1 _ j hj
        exact (h.2.2.2.2.1 _ c1 c3).2
      have hj1 := hj (st.2.1 (F.mc s) - 1) (by omega)
      by_cases z3 : F.kd (F.mc s) = 3
      · rw [fo_c z2 z3]
        have := tt_le (F := F) (b := st.2.2.2.1) (row := st.2.2.1 (F.mc s)) (st.2.1 (F.mc s)) ((F.wi (F.mc s)).toNatClampNeg - 1) hj
        omega
      · rw [fo_o z2 z1 z3]
        have := gap_le hW (p := st.2.2.1 (F.mc s) (st.2.1 (F.mc s) - 1)) hs
        omega
theorem pP_put (hW : WF F) {s v : Nat} (hs : s < F.ns) (hr : F.rk s = st.1 (F.pc s)) : ∀ u, u < F.ns → F.pP (F.put st s v).1 u = addB (F.pP st.1) s u := by
  intro u hu
  show decide (F.rk u < addN st.1 (F.pc s) (st.1 (F.pc s) + 1) (F.pc u)) = (if u = s then true else decide (F.rk u < st.1 (F.pc u)))
  unfold addN
  by_cases e : u = s
  · rw [if_pos e, e, if_pos rfl]
    simp
    omega
  · rw [if_neg e]
    by_cases e2 : F.pc u = F.pc s
    · rw [if_pos e2, e2]
      have : F.rk u ≠ st.1 (F.pc s) := fun z => by
        have h1 := (hW.2.2.1.2 u hu).2.2.2.2.2
        have h2 := (hW.2.2.1.2 s hs).2.2.2.2.2
        rw [e2, z, ← hr, h2] at h1
        exact e h1.symm
      congr 1
      apply propext
      omega
    · rw [if_neg e2]
theorem RI.put (hW : WF F) (h : RI F st n) {s : Nat} (hs : s < F.ns) (hr : F.rk s = st.1 (F.pc s)) : RI F (F.put st s (F.vq st s)) (n + 1) := by
  have hv := h.vq_le hW hs hr
  have hsp := (hW.2.2.1.2 s hs).2.2.2.1
  have hP0 : F.pP st.1 s = false := by
    unfold FT.pP
    rw [hr]
    simp
  obtain ⟨h1, h2, h3, h4, h5, h6⟩ := h
  have hvq : F.vq st s + F.sp s ≤ 1100 * (n + 1) := by
    unfold FT.vq
    omega
  have hPP := pP_put (st := st) (v := F.vq st s) hW hs hr
  have hadd : ∀ u, addB (F.pP st.1) s u = true ↔ (u = s ∨ F.pP st.1 u = true) := by
    intro u
    unfold addB
    by_cases e : u = s
    · rw [if_pos e]
      exact ⟨fun _ => Or.inl e, fun _ => rfl⟩
    · rw [if_neg e]
      exact ⟨fun z => Or.inr z, fun z => by rcases z with z | z; exact absurd z e; exact z⟩
  refine ⟨fun p => ?_, ?_, fun m i hi => ?_, fun m i j hi hj e => ?_, fun u hu hu2 => ?_, ?_⟩
  · show addN st.1 (F.pc s) (st.1 (F.pc s) + 1) p ≤ F.lc p
    unfold addN
    by_cases e : p = F.pc s
    · rw [if_pos e, e]
      have := (hW.2.2.1.2 s hs).2.2.2.2.1
      omega
    · rw [if_neg e]
      exact h1 p
  · rw [fb_ct_cong hPP, addB_ct hs hP0, h2]
  · have hi2 : i < addN st.2.1 (F.mc s) (st.2.1 (F.mc s) + 1) m := hi
    show (if m = F.mc s ∧ i = st.2.1 (F.mc s) then s else st.2.2.1 m i) < F.ns ∧ F.mc (if m = F.mc s ∧ i = st.2.1 (F.mc s) then s else st.2.2.1 m i) = m ∧ F.pP (F.put st s (F.vq st s)).1 (if m = F.mc s ∧ i = st.2.1 (F.mc s) then s else st.2.2.1 m i) = true
    by_cases e : m = F.mc s ∧ i = st.2.1 (F.mc s)
    · rw [if_pos e]
      exact ⟨hs, e.1.symm, by rw [hPP s hs]; exact (hadd s).mpr (Or.inl rfl)⟩
    · rw [if_neg e]
      have hi3 : i < st.2.1 m := by
        unfold addN at hi2
        by_cases e2 : m = F.mc s
        · rw [if_pos e2] at hi2
          rw [e2]
          omega
        · rw [if_neg e2] at hi2
          exact hi2
      obtain ⟨c1, c2, c3⟩ := h3 m i hi3
      exact ⟨c1, c2, by rw [hPP _ c1]; exact (hadd _).mpr (Or.inr c3)⟩
  · have cut : ∀ i, i < addN st.2.1 (F.mc s) (st.2.1 (F.mc s) + 1) m → ¬ (m = F.mc s ∧ i = st.2.1 (F.mc s)) → i < st.2.1 m := by
      intro i hi e
      unfold addN at hi
      by_cases e2 : m = F.mc s
      · rw [if_pos e2] at hi
        rw [e2]
        omega
      · rw [if_neg e2] at hi
        exact hi
    have e' : (if m = F.mc s ∧ i = st.2.1 (F.mc s) then s else st.2.2.1 m i) = (if m = F.mc s ∧ j = st.2.1 (F.mc s) then s else st.2.2.1 m j) := e
    by_cases z1 : m = F.mc s ∧ i = st.2.1 (F.mc s)
    · by_cases z2 : m = F.mc s ∧ j = st.2.1 (F.mc s)
      · omega
      · rw [if_pos z1, if_neg z2] at e'
        have := (h3 m j (cut j hj z2)).2.2
        rw [← e', hP0] at this
        cases this
    · by_cases z2 : m = F.mc s ∧ j = st.2.1 (F.mc s)
      · rw [if_neg z1, if_pos z2] at e'
        have := (h3 m i (cut i hi z1)).2.2
        rw [e', hP0] at this
        cases this
      · rw [if_neg z1, if_neg z2] at e'
        exact h4 m i j (cut i hi z1) (cut j hj z2) e'
  · rw [hPP u hu] at hu2
    show (∃ i, i < addN st.2.1 (F.mc s) (st.2.1 (F.mc s) + 1) (F.mc u) ∧ (if F.mc u = F.mc s ∧ i = st.2.1 (F.mc s) then s else st.2.2.1 (F.mc u) i) = u) ∧ addN st.2.2.2.1 s (F.vq st s) u + F.sp u ≤ _
    by_cases e : u = s
    · refine ⟨⟨st.2.1 (F.mc s), ?_, ?_⟩, ?_⟩
      · rw [e]
        unfold addN
        rw [if_pos rfl]
        omega
      · rw [e, if_pos ⟨rfl, rfl⟩]
      · rw [e]
        unfold addN
        rw [if_pos rfl]
        exact hvq
    · have hu3 : F.pP st.1 u = true := by
        rcases (hadd u).mp hu2 with z | z
        · exact absurd z e
        · exact z
      obtain ⟨⟨i, c1, c2⟩, c3⟩ := h5 u hu hu3
      refine ⟨⟨i, ?_, ?_⟩, ?_⟩
      · unfold addN
        by_cases e2 : F.mc u = F.mc s
        · rw [if_pos e2, ← e2]
          omega
        · rw [if_neg e2]
          exact c1
      · rw [if_neg (fun z => by rw [z.1] at c1; omega)]
        exact c2
      · unfold addN
        rw [if_neg e]
        omega
  · show max st.2.2.2.2 (F.vq st s + F.sp s) ≤ _
    omega
/-- one is picked as long as one is left -/
theorem RI.some (hW : WF F) (h : RI F st n) (hn : n < F.ns) : ∃ s v r, F.pk k st F.np = some (s, v, r) ∧ s < F.ns ∧ F.rk s = st.1 (F.pc s) ∧ v = F.vq st s := by
  cases e : F.pk k st F.np with
  | none =>
    exfalso
    have h2 := pk_non F.np e
    have : fb_ct (F.pP st.1) F.ns = F.ns := fb_ct_all.mpr (fun s hs => by
      obtain ⟨p1, p2, p3, p4, p5, p6⟩ := hW.2.2.1.2 s hs
      have h3 := h2 _ p1
      unfold FT.pP
      simp
      omega)
    rw [h.2.1] at this
    omega
  | some y =>
    obtain ⟨s, v, r⟩ := y
    obtain ⟨p', a1, a2, a3, a4⟩ := pk_inn h.1 _ _ _ _ e
    obtain ⟨b1, b2, b3, b4⟩ := h.nxt hW a2
    exact ⟨s, v, r, rfl, by rw [a3]; exact b1, by rw [a3, b2, b3], a4⟩
theorem RI.r1 (hW : WF F) (h : RI F st n) (hn : n < F.ns) : RI F (F.r1 k st) (n + 1) := by
  obtain ⟨s, v, r, e1, e2, e3, e4⟩ := h.some (k := k) hW hn
  unfold FT.r1
  rw [e1, e4]
  exact h.put hW e2 e3
theorem rN_ok (hW : WF F) : ∀ n, n ≤ F.ns → RI F (F.rN k n) n
  | 0, _ => ⟨fun p => Nat.zero_le _, fb_ct_zero.mpr (fun s _ => by unfold FT.pP; simp [FT.rN]), fun m i hi => absurd hi (Nat.not_lt_zero i), fun m i j hi => absurd hi (Nat.not_lt_zero i), fun s hs h => by unfold FT.pP at h; simp [FT.rN] at h, Nat.le_refl _⟩
  | n + 1, hn => (rN_ok hW n (by omega)).r1 hW (by omega)
theorem inj_le {c c' : Nat} {r r' : Nat → Nat} (h : ∀ i, i < c → ∃ j, j < c' ∧ r' j = r i) (inj : ∀ i j, i < c → j < c → r i = r j → i = j) : c ≤ c' := by
  have h2 : ∀ i, ∃ j, i < c → j < c' ∧ r' j = r i := fun i => by
    rcases Classical.em (i < c) with z | z
    · obtain ⟨j, hj⟩ := h i z
      exact ⟨j, fun _ => hj⟩
    · exact ⟨0, fun y => absurd y z⟩
  refine fb_holes c' c (fun i => Classical.choose (h2 i)) (fun i hi => (Classical.choose_spec (h2 i) hi).1) (fun i j hij hj e => ?_)
  have h3 := (Classical.choose_spec (h2 i) (by omega)).2
  have h4 := (Classical.choose_spec (h2 j) hj).2
  have e2 : Classical.choose (h2 i) = Classical.choose (h2 j) := e
  rw [e2, h4] at h3
  have := inj j i hj (by omega) h3
  omega
/-- at the end the rows are an order -/
theorem RI.wo (hW : WF F) (h : RI F st F.ns) : WO F st.2.2.1 ∧ ∀ m, st.2.1 m = F.oc m := by
  have hall := fb_ct_all.mp h.2.1
  obtain ⟨-, -, h3, h4, h5, -⟩ := h
  obtain ⟨o1, o2, o3, o4, o5⟩ := hW.2.2.2
  have hc : ∀ m, st.2.1 m = F.oc m := fun m => Nat.le_antisymm
    (inj_le (r := st.2.2.1 m) (r' := F.on m) (fun i hi => by
      obtain ⟨c1, c2, c3⟩ := h3 m i hi
      have := o5 _ c1
      rw [c2] at this
      exact this) (h4 m))
    (inj_le (r := F.on m) (r' := st.2.2.1 m) (fun i hi => by
      obtain ⟨c1, c2⟩ := o3 m i hi
      have := (h5 _ c1 (hall _ c1)).1
      rw [c2] at this
      exact this) (fun i j hi hj e => by
      rcases Nat.lt_trichotomy i j with z | z | z
      · have := o4 m i j z hj
        omega
      · exact z
      · have := o4 m j i z hi
        omega))
  refine ⟨⟨fun m i hi => ?_, fun m i j hi hj e => ?_, fun s hs => ?_⟩, hc⟩
  · rw [← hc m] at hi
    exact ⟨(h3 m i hi).1, (h3 m i hi).2.1⟩
  · rw [← hc m] at hi hj
    exact h4 m i j hi hj e
  · rw [← hc]
    exact (h5 s hs (hall s hs)).1
end RU
