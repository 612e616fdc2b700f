/-! row -/
def FT.fol (F : FT) (od : Nat → Nat → Nat) (b : Nat → Nat) (E s : Nat) : Option Nat → Bool
  | none => false
  | some t => decide (b t = b s + F.sp s) && decide (F.sl od b E t = 0)
def FT.rn (F : FT) (od : Nat → Nat → Nat) (b : Nat → Nat) (E s : Nat) : Option Nat := if F.fol od b E s (F.bh s) = true then F.bh s else if F.fol od b E s (F.nx od s) = true then F.nx od s else none
def FT.it (F : FT) (od : Nat → Nat → Nat) (b : Nat → Nat) (E : Nat) (r : Option Nat) : Nat → Option Nat
  | 0 => r
  | k + 1 => (FT.it F od b E r k).bind (F.rn od b E)
/-- the first of so many -/
def jfst (p : Nat → Bool) (n : Nat) (r : Option Nat) : Prop := (r = none ∧ ∀ s, s < n → p s = false) ∨ ∃ s, r = some s ∧ s < n ∧ p s = true ∧ ∀ t, t < s → p t = false
def FT.rok (F : FT) (od : Nat → Nat → Nat) (b : Nat → Nat) (E s : Nat) : Bool := decide (b s = 0) && decide (F.sl od b E s = 0)
theorem jopt_m1 {x : Option Nat} (h : ∀ t, x = some t → t < 1000) : jopt x = -1 ↔ x = none := by
  cases x with
  | none => exact ⟨fun _ => rfl, fun _ => rfl⟩
  | some t => exact ⟨fun z => absurd z (jnm1 (by have := h t rfl; omega)), fun z => by cases z⟩
theorem jopt_lt {x : Option Nat} (h : ∀ t, x = some t → t < 1000) : jopt x < 0 ↔ x = none := by
  cases x with
  | none => exact ⟨fun _ => rfl, fun _ => by decide⟩
  | some t => exact ⟨fun z => absurd z (jnlt0 (by have := h t rfl; omega)), fun z => by cases z⟩
section RW
variable {M : JMem} {N : Nat} {F : FT} {od : Nat → Nat → Nat} {b : Nat → Nat} {E : Nat}
theorem rn_lt (hW : WF F) (hO : WO F od) {s t : Nat} (hs : s < F.ns) (h : F.rn od b E s = some t) : t < F.ns ∧ b s < b t := by
  have sp1 := (hW.2.2.1.2 s hs).2.2.1
  unfold FT.rn at h
  by_cases e1 : F.fol od b E s (F.bh s) = true
  · rw [if_pos e1] at h
    rw [h] at e1
    simp only [FT.fol, Bool.and_eq_true, decide_eq_true_eq] at e1
    exact ⟨(bh_pre (od := od) hW hs h).1, by omega⟩
  · rw [if_neg e1] at h
    by_cases e2 : F.fol od b E s (F.nx od s) = true
    · rw [if_pos e2] at h
      rw [h] at e2
      simp only [FT.fol, Bool.and_eq_true, decide_eq_true_eq] at e2
      exact ⟨(nx_pre hO hs h).1, by omega⟩
    · rw [if_neg e2] at h
      cases h
theorem it_lt (hW : WF F) (hO : WO F od) {r : Option Nat} (hr : ∀ s, r = some s → s < F.ns) : ∀ k s, F.it od b E r k = some s → s < F.ns
  | 0, s, h => hr s h
  | k + 1, s, h => by
    have h2 : (F.it od b E r k).bind (F.rn od b E) = some s := h
    cases e : F.it od b E r k with
    | none => rw [e] at h2; cases h2
    | some t =>
      rw [e] at h2
      exact (rn_lt hW hO (it_lt hW hO hr k t e) h2).1
theorem it_none {r : Option Nat} {k : Nat} (h : F.it od b E r k = none) : ∀ d, F.it od b E r (k + d) = none
  | 0 => h
  | d + 1 => by
    show (F.it od b E r (k + d)).bind _ = none
    rw [it_none h d]
    rfl
theorem it_up (hW : WF F) (hO : WO F od) {r : Option Nat} (hr : ∀ s, r = some s → s < F.ns) {i s : Nat} (hi : F.it od b E r i = some s) : ∀ d t, F.it od b E r (i + d + 1) = some t → b s < b t
  | 0, t, h => by
    have h2 : (F.it od b E r i).bind (F.rn od b E) = some t := h
    rw [hi] at h2
    exact (rn_lt hW hO (it_lt hW hO hr i s hi) h2).2
  | d + 1, t, h => by
    have h2 : (F.it od b E r (i + d + 1)).bind (F.rn od b E) = some t := h
    cases e : F.it od b E r (i + d + 1) with
    | none => rw [e] at h2; cases h2
    | some u =>
      rw [e] at h2
      have h3 := it_up hW hO hr hi d u e
      have h4 := (rn_lt hW hO (it_lt hW hO hr _ u e) h2).2
      omega
theorem it_len (hW : WF F) (hO : WO F od) {r : Option Nat} (hr : ∀ s, r = some s → s < F.ns) {k s : Nat} (h : F.it od b E r k = some s) : k < F.ns := by
  have hall : ∀ j, j ≤ k → ∃ t, F.it od b E r j = some t := by
    intro j hj
    cases e : F.it od b E r j with
    | some t => exact ⟨t, rfl⟩
    | none =>
      have := it_none e (k - j)
      rw [show j + (k - j) = k by omega, h] at this
      cases this
  have := fb_holes F.ns (k + 1) (fun j => (F.it od b E r j).getD 0) (fun i hi => by
    obtain ⟨t, ht⟩ := hall i (by omega)
    show (F.it od b E r i).getD 0 < F.ns
    rw [ht]
    exact it_lt hW hO hr i t ht) (fun i j hij hj => by
    obtain ⟨t, ht⟩ := hall i (by omega)
    obtain ⟨u, hu⟩ := hall j (by omega)
    show ¬ (F.it od b E r i).getD 0 = (F.it od b E r j).getD 0
    rw [ht, hu]
    show ¬ t = u
    have := it_up hW hO hr ht (j - i - 1) u (by rw [show i + (j - i - 1) + 1 = j by omega]; exact hu)
    intro e
    rw [e] at this
    omega)
  omega
theorem jfolA (hW : WF F) (hA : AF M F) (h : TA M 54 F od b E) (hd : F.dy od b E) {s : Nat} {x : Option Nat} (hs : s < F.ns) (hx : ∀ t, x = some t → t < F.ns) : f_X1_followsInRow M 54 (nI s) (jopt x) = some (if F.fol od b E s x = true then 1 else 0) := by
  have hns := hW.2.2.1.1
  have hE := (dy_le hd hW)
  unfold f_X1_followsInRow
  cases x with
  | none => rfl
  | some t =>
    have ht := hx t rfl
    have h1 := hE.2 s hs
    have h2 := hE.2 t ht
    show (if nI t = -1 then _ else _) = _
    rw [if_neg (jnm1 (by omega)), show jopt (some t) = nI t from rfl, jrd_nI (by omega) (by decide), Option.bind_some, jendA (by omega) (h.2 s hs).1 (hA.2.2.2.2.2.2.2.1 s hs).2.2.1, Option.bind_some, (h.2 t ht).1, jslA hW hA h hd ht, Option.bind_some]
    simp only [FT.fol, Bool.and_eq_true, decide_eq_true_eq]
    by_cases e1 : b t = b s + F.sp s
    · rw [if_pos (by rw [e1])]
      by_cases e2 : F.sl od b E t = 0
      · rw [if_pos e2, if_pos ⟨e1, e2⟩]
      · rw [if_neg e2, if_neg (fun z => e2 z.2)]
    · rw [if_neg (jeqF e1 (by omega) (by omega)), if_neg (fun z => e1 z.1)]
theorem jfolB (hW : WF F) (hB : BF M F) (h : TB M F od b E) (hd : F.dy od b E) {s : Nat} {x : Option Nat} (hs : s < F.ns) (hx : ∀ t, x = some t → t < F.ns) : f_X8_isNext M (jopt x) (nI s) = some (if F.fol od b E s x = true then 1 else 0) := by
  have hns := hW.2.2.1.1
  have hE := (dy_le hd hW)
  unfold f_X8_isNext
  cases x with
  | none => rfl
  | some t =>
    have ht := hx t rfl
    have h1 := hE.2 s hs
    have h2 := hE.2 t ht
    show (if nI t < 0 then _ else _) = _
    rw [if_neg (jnlt0 (by omega)), show jopt (some t) = nI t from rfl, jrd_nI (by omega) (by decide), Option.bind_some, jrd_nI (by omega) (by decide), Option.bind_some, jrd_nI (by omega) (by decide), Option.bind_some, (h.2 s hs).1, (h.2 t ht).1, (hB.2.2.2.2.2.2.2 s hs).2.2.1, nI_add, jslB hW hB h hd ht, Option.bind_some]
    simp only [FT.fol, Bool.and_eq_true, decide_eq_true_eq]
    by_cases e1 : b t = b s + F.sp s
    · rw [if_pos (by rw [e1])]
      by_cases e2 : F.sl od b E t = 0
      · rw [if_pos e2, if_pos ⟨e1, e2⟩]
      · rw [if_neg e2, if_neg (fun z => e2 z.2)]
    · rw [if_neg (jeqF e1 (by omega) (by omega)), if_neg (fun z => e1 z.1)]
theorem jrnA (hW : WF F) (hO : WO F od) (hA : AF M F) (h : TA M 54 F od b E) (hd : F.dy od b E) {s : Nat} (hs : s < F.ns) : f_X1_nextOfRow M 54 (nI s) = some (jopt (F.rn od b E s)) := by
  have hns := hW.2.2.1.1
  have n10 : ¬ (1 : Int32) = 0 := by decide
  unfold f_X1_nextOfRow FT.rn
  rw [jbhA hW hA hs, Option.bind_some, jfolA hW hA h hd hs (fun t ht => (bh_pre (od := od) hW hs ht).1), Option.bind_some]
  by_cases e1 : F.fol od b E s (F.bh s) = true
  · rw [if_pos e1, if_neg n10, if_pos e1]
  · rw [if_neg e1, if_pos rfl, if_neg e1, jrd_nI (by omega) (by decide), Option.bind_some, (h.2 s hs).2.2, jfolA hW hA h hd hs (fun t ht => (nx_pre hO hs ht).1), Option.bind_some]
    by_cases e2 : F.fol od b E s (F.nx od s) = true
    · rw [if_pos e2, if_neg n10, if_pos e2]
    · rw [if_neg e2, if_pos rfl, if_neg e2]
      rfl
theorem jfstA (hW : WF F) (hA : AF M F) (h : TA M 54 F od b E) (hd : F.dy od b E) (hN : 100 ≤ N) : ∃ r, jfst (F.rok od b E) F.ns r ∧ f_X1_firstOfRow N M 54 = some (jopt r) := by
  have hns := hW.2.2.1.1
  have hE := (dy_le hd hW)
  have hl : ∃ x, jLp (σ := Int32) (ρ := (Int32) ⊕ (Unit)) N (fun (z7 : Int32) => (if (M 1 2) ≤ z7 then some (Sum.inr (Sum.inr ())) else (jrd M (54 + 1) 32 z7).bind fun v8 => (jcase (α := (Int32) ⊕ ((Int32) ⊕ (Unit))) (β := Unit) (if v8 = 0 then (f_X1_slack M 54 z7).bind fun v14 => (if v14 = 0 then some (Sum.inl (Sum.inr (Sum.inl z7))) else some (Sum.inr ())) else some (Sum.inr ())) fun _ => some (Sum.inl (z7 + 1))))) 0 = some x ∧ ∃ r, jfst (F.rok od b E) F.ns r ∧ ((r = none ∧ x = Sum.inr ()) ∨ ∃ s, r = some s ∧ x = Sum.inl (nI s)) := by
    refine jLp_tot (fun n z => ∃ k, n + k = F.ns ∧ z = nI k ∧ ∀ s, s < k → F.rok od b E s = false) _ ?_ N F.ns 0 (by omega) ⟨0, by omega, rfl, fun s hs => absurd hs (Nat.not_lt_zero s)⟩
    rintro n z ⟨k, hn, rfl, hk⟩
    rw [hA.2.2.1]
    rcases Nat.eq_zero_or_pos n with en | en
    · rw [if_pos (jleT (by omega) (by omega))]
      exact ⟨_, rfl, Or.inr ⟨_, rfl, none, Or.inl ⟨rfl, fun s hs => hk s (by omega)⟩, Or.inl ⟨rfl, rfl⟩⟩⟩
    · have hks : k < F.ns := by omega
      have hb := hE.2 k hks
      rw [if_neg (jleF (by omega) (by omega)), jrd_nI (by omega) (by decide), Option.bind_some, (h.2 k hks).1, jslA hW hA h hd hks, Option.bind_some]
      have no : F.rok od b E k = false → ∀ s, s < k + 1 → F.rok od b E s = false := by
        intro z s hs
        rcases Nat.lt_succ_iff_lt_or_eq.mp hs with y | y
        · exact hk s y
        · rw [y]
          exact z
      by_cases e1 : b k = 0
      · rw [if_pos (by rw [e1]; rfl)]
        by_cases e2 : F.sl od b E k = 0
        · rw [if_pos e2]
          refine ⟨_, rfl, Or.inr ⟨_, rfl, some k, Or.inr ⟨k, rfl, hks, ?_, hk⟩, Or.inr ⟨k, rfl, rfl⟩⟩⟩
          simp [FT.rok, e1, e2]
        · rw [if_neg e2]
          exact ⟨_, rfl, Or.inl ⟨_, n - 1, rfl, by omega, k + 1, by omega, nI_1 k, no (by simp [FT.rok, e2])⟩⟩
      · rw [if_neg (by rw [jeqL (by omega) (by decide)]; exact e1)]
        exact ⟨_, rfl, Or.inl ⟨_, n - 1, rfl, by omega, k + 1, by omega, nI_1 k, no (by simp [FT.rok, e1])⟩⟩
  obtain ⟨x, e1, r, e2, e3⟩ := hl
  refine ⟨r, e2, ?_⟩
  unfold f_X1_firstOfRow
  rw [e1]
  rcases e3 with ⟨rfl, rfl⟩ | ⟨s, rfl, rfl⟩
  · rfl
  · rfl
theorem jfst_one {p : Nat → Bool} {n : Nat} {r r' : Option Nat} (h : jfst p n r) (h' : jfst p n r') : r = r' := by
  rcases h with ⟨rfl, h⟩ | ⟨s, rfl, h1, h2, h3⟩
  · rcases h' with ⟨rfl, h'⟩ | ⟨s', rfl, h1', h2', h3'⟩
    · rfl
    · rw [h s' h1'] at h2'
      cases h2'
  · rcases h' with ⟨rfl, h'⟩ | ⟨s', rfl, h1', h2', h3'⟩
    · rw [h' s h1] at h2
      cases h2
    · rcases Nat.lt_trichotomy s s' with z | z | z
      · rw [h3' s z] at h2
        cases h2
      · rw [z]
      · rw [h3 s' z] at h2'
        cases h2'
theorem jfstB (hW : WF F) (hB : BF M F) (h : TB M F od b E) (hd : F.dy od b E) (hN : 100 ≤ N) : ∃ x r, jLp (σ := Int32) (ρ := Int32) N (fun (z9 : Int32) => (if (M 221 11) ≤ z9 then some (Sum.inr z9) else (jrd M 237 32 z9).bind fun v11 => (jcase (α := (Int32) ⊕ (Int32)) (β := Unit) (if v11 = 0 then (f_X8_slack M z9).bind fun v17 => (if v17 = 0 then some (Sum.inl (Sum.inr z9)) else some (Sum.inr ())) else some (Sum.inr ())) fun _ => some (Sum.inl (z9 + 1))))) 0 = some x ∧ jfst (F.rok od b E) F.ns r ∧ ((r = none ∧ x = nI F.ns) ∨ ∃ s, r = some s ∧ s < F.ns ∧ x = nI s) := by
  have hns := hW.2.2.1.1
  have hE := (dy_le hd hW)
  have hl : ∃ x, jLp (σ := Int32) (ρ := Int32) N (fun (z9 : Int32) => (if (M 221 11) ≤ z9 then some (Sum.inr z9) else (jrd M 237 32 z9).bind fun v11 => (jcase (α := (Int32) ⊕ (Int32)) (β := Unit) (if v11 = 0 then (f_X8_slack M z9).bind fun v17 => (if v17 = 0 then some (Sum.inl (Sum.inr z9)) else some (Sum.inr ())) else some (Sum.inr ())) fun _ => some (Sum.inl (z9 + 1))))) 0 = some x ∧ ∃ r, jfst (F.rok od b E) F.ns r ∧ ((r = none ∧ x = nI F.ns) ∨ ∃ s, r = some s ∧ s < F.ns ∧ x = nI s) := by
    refine jLp_tot (fun n z => ∃ k, n + k = F.ns ∧ z = nI k ∧ ∀ s, s < k → F.rok od b E s = false) _ ?_ N F.ns 0 (by omega) ⟨0, by omega, rfl, fun s hs => absurd hs (Nat.not_lt_zero s)⟩
    rintro n z ⟨k, hn, rfl, hk⟩
    rw [hB.2.2.1]
    rcases Nat.eq_zero_or_pos n with en | en
    · rw [if_pos (jleT (by omega) (by omega))]
      exact ⟨_, rfl, Or.inr ⟨_, rfl, none, Or.inl ⟨rfl, fun s hs => hk s (by omega)⟩, Or.inl ⟨rfl, by rw [show k = F.ns by omega]⟩⟩⟩
    · have hks : k < F.ns := by omega
      have hb := hE.2 k hks
      rw [if_neg (jleF (by omega) (by omega)), jrd_nI (by omega) (by decide), Option.bind_some, (h.2 k hks).1, jslB hW hB h hd hks, Option.bind_some]
      have no : F.rok od b E k = false → ∀ s, s < k + 1 → F.rok od b E s = false := by
        intro z s hs
        rcases Nat.lt_succ_iff_lt_or_eq.mp hs with y | y
        · exact hk s y
        · rw [y]
          exact z
      by_cases e1 : b k = 0
      · rw [if_pos (by rw [e1]; rfl)]
        by_cases e2 : F.sl od b E k = 0
        · rw [if_pos e2]
          refine ⟨_, rfl, Or.inr ⟨_, rfl, some k, Or.inr ⟨k, rfl, hks, ?_, hk⟩, Or.inr ⟨k, rfl, hks, rfl⟩⟩⟩
          simp [FT.rok, e1, e2]
        · rw [if_neg e2]
          exact ⟨_, rfl, Or.inl ⟨_, n - 1, rfl, by omega, k + 1, by omega, nI_1 k, no (by simp [FT.rok, e2])⟩⟩
      · rw [if_neg (by rw [jeqL (by omega) (by decide)]; exact e1)]
        exact ⟨_, rfl, Or.inl ⟨_, n - 1, rfl, by omega, k + 1, by omega, nI_1 k, no (by simp [FT.rok, e1])⟩⟩
  obtain ⟨x, e1, r, e2, e3⟩ := hl
  exact ⟨x, r, e1, e2, e3⟩
end RW
theorem jst_row_ok : jst_row jInv := by
  rintro M x1 ⟨F, od, S, k, q, hX⟩
  obtain ⟨hW, hO, -⟩ := id hX
  have hns := hW.2.2.1.1
  have n10 : ¬ (1 : Int32) = 0 := by decide
  obtain ⟨M1, hX1, hf1, hc⟩ := jhasTA (N := 100) hX (by omega)
  rcases hc with ⟨c1, c2⟩ | ⟨c1, c2, c3, b, E, hd, ht, hT⟩
  · obtain ⟨M2, d1, hX2, -⟩ := jhasTB0 (N := 100) hX1 c1 (by omega)
    exact ⟨100, M1, M2, -100003, by unfold f_X7_row; rw [c2]; rfl, by unfold f_X8_row; rw [d1]; rfl, F, od, S, k, q, hX2⟩
  · obtain ⟨M2, d1, hX2, hU, -⟩ := jhasTB1 (N := 100) hX1 c1 hd ht (by omega)
    have hA1 := hX1.2.2.1
    have hB2 := hX2.2.2.2.2.1
    obtain ⟨r, r1, r2⟩ := jfstA (N := 100) hW hA1 hT hd (by omega)
    obtain ⟨t10, r', b1, b2, b3⟩ := jfstB (N := 100) hW hB2 hU hd (by omega)
    have er := jfst_one b2 r1
    subst er
    have hr : ∀ s, r' = some s → s < F.ns := by
      intro s e
      rcases b2 with ⟨z, -⟩ | ⟨s', z, z2, -⟩
      · rw [z] at e
        cases e
      · rw [z] at e
        cases e
        exact z2
    have h1000 : ∀ j t, F.it od b E r' j = some t → t < 1000 := fun j t z => by have := it_lt hW hO hr j t z; omega
    have lA : ∀ i, i < F.ns → jLp (σ := Int32 × Int32) (ρ := Int32) 100 (fun ((z11, z12) : Int32 × Int32) => (if nI i ≤ z12 then some (Sum.inr z11) else (if z11 = ((-1)) then some (Sum.inr z11) else (f_X1_nextOfRow M1 54 z11).bind fun v14 => some (Sum.inl (v14, z12 + 1))))) (jopt r', 0) = some (jopt (F.it od b E r' i)) := by
      intro i hi
      have hl : ∃ x, jLp (σ := Int32 × Int32) (ρ := Int32) 100 (fun ((z11, z12) : Int32 × Int32) => (if nI i ≤ z12 then some (Sum.inr z11) else (if z11 = ((-1)) then some (Sum.inr z11) else (f_X1_nextOfRow M1 54 z11).bind fun v14 => some (Sum.inl (v14, z12 + 1))))) (jopt r', 0) = some x ∧ x = jopt (F.it od b E r' i) := by
        refine jLp_tot (fun n z => ∃ j, n + j = i ∧ z.2 = nI j ∧ z.1 = jopt (F.it od b E r' j)) _ ?_ 100 i (jopt r', 0) (by omega) ⟨0, by omega, rfl, rfl⟩
        rintro n ⟨z1, z2⟩ ⟨j, hn, hz, hz1⟩
        dsimp only at hz hz1 ⊢
        subst hz hz1
        rcases Nat.eq_zero_or_pos n with en | en
        · rw [if_pos (jleT (by omega) (by omega))]
          exact ⟨_, rfl, Or.inr ⟨_, rfl, by rw [show j = i by omega]⟩⟩
        · rw [if_neg (jleF (by omega) (by omega))]
          cases e : F.it od b E r' j with
          | none =>
            rw [if_pos (show jopt none = -1 from rfl)]
            refine ⟨_, rfl, Or.inr ⟨_, rfl, ?_⟩⟩
            have := it_none e (i - j)
            rw [show j + (i - j) = i by omega] at this
            rw [this]
          | some s =>
            have hs := it_lt hW hO hr j s e
            show ∃ x, (if nI s = -1 then _ else _) = some x ∧ _
            rw [if_neg (jnm1 (by omega)), show jopt (some s) = nI s from rfl, jrnA hW hO hA1 hT hd hs, Option.bind_some]
            refine ⟨_, rfl, Or.inl ⟨_, n - 1, rfl, by omega, j + 1, by omega, nI_1 j, ?_⟩⟩
            show jopt (F.rn od b E s) = jopt ((F.it od b E r' j).bind (F.rn od b E))
            rw [e]
            rfl
      obtain ⟨x, l1, l2⟩ := hl
      rw [l1, l2]
    have lB : ∀ i, i < 2 ^ 31 → jLp (σ := Int32 × Int32) (ρ := Int32) 100 (fun ((z27, z28) : Int32 × Int32) => (if nI i ≤ z28 then some (Sum.inr z27) else (if z27 < 0 then some (Sum.inr z27) else (f_X8_behind M2 z27).bind fun v30 => (f_X8_next 100 M2 z27).bind fun v31 => (f_X8_isNext M2 v30 z27).bind fun v32 => (((if v32 = 0 then (f_X8_isNext M2 v31 z27).bind fun v38 => (if v38 = 0 then some (((-1))) else some (v31)) else some (v30)) : Option (Int32)).bind fun u41 => some (Sum.inl (u41, z28 + 1)))))) (jopt r', 0) = some (jopt (F.it od b E r' i)) := by
      intro i hi
      have hl : ∃ x, jLp (σ := Int32 × Int32) (ρ := Int32) 100 (fun ((z27, z28) : Int32 × Int32) => (if nI i ≤ z28 then some (Sum.inr z27) else (if z27 < 0 then some (Sum.inr z27) else (f_X8_behind M2 z27).bind fun v30 => (f_X8_next 100 M2 z27).bind fun v31 => (f_X8_isNext M2 v30 z27).bind fun v32 => (((if v32 = 0 then (f_X8_isNext M2 v31 z27).bind fun v38 => (if v38 = 0 then some (((-1))) else some (v31)) else some (v30)) : Option (Int32)).bind fun u41 => some (Sum.inl (u41, z28 + 1)))))) (jopt r', 0) = some x ∧ x = jopt (F.it od b E r' i) := by
        refine jLp_tot (fun n z => ∃ j, n + j = F.ns + 1 ∧ j ≤ i ∧ z.2 = nI j ∧ z.1 = jopt (F.it od b E r' j)) _ ?_ 100 (F.ns + 1) (jopt r', 0) (by omega) ⟨0, by omega, by omega, rfl, rfl⟩
        rintro n ⟨z1, z2⟩ ⟨j, hn, hj, hz, hz1⟩
        dsimp only at hz hz1 ⊢
        subst hz hz1
        by_cases ei : i ≤ j
        · rw [if_pos (jleT ei (by omega))]
          exact ⟨_, rfl, Or.inr ⟨_, rfl, by rw [show j = i by omega]⟩⟩
        · rw [if_neg (jleF (by omega) (by omega))]
          cases e : F.it od b E r' j with
          | none =>
            rw [if_pos (show jopt none < 0 by decide)]
            refine ⟨_, rfl, Or.inr ⟨_, rfl, ?_⟩⟩
            have := it_none e (i - j)
            rw [show j + (i - j) = i by omega] at this
            rw [this]
          | some s =>
            have hs := it_lt hW hO hr j s e
            have hjl := it_len hW hO hr e
            show ∃ x, (if nI s < 0 then _ else _) = some x ∧ _
            rw [if_neg (jnlt0 (by omega)), show jopt (some s) = nI s from rfl, jbhB hW hB2 hs, Option.bind_some, jnxB hX2.eb hs (by omega), Option.bind_some, jfolB hW hB2 hU hd hs (fun t ht => (bh_pre (od := od) hW hs ht).1), Option.bind_some, jfolB hW hB2 hU hd hs (fun t ht => (nx_pre hO hs ht).1), Option.bind_some]
            have hu : ((if (if F.fol od b E s (F.bh s) = true then (1 : Int32) else 0) = 0 then (if (if F.fol od b E s (F.nx od s) = true then (1 : Int32) else 0) = 0 then some (-1) else some (jopt (F.nx od s))) else some (jopt (F.bh s))) : Option Int32) = some (jopt (F.rn od b E s)) := by
              unfold FT.rn
              by_cases e1 : F.fol od b E s (F.bh s) = true
              · rw [if_pos e1, if_neg n10, if_pos e1]
              · rw [if_neg e1, if_pos rfl, if_neg e1]
                by_cases e2 : F.fol od b E s (F.nx od s) = true
                · rw [if_pos e2, if_neg n10, if_pos e2]
                · rw [if_neg e2, if_pos rfl, if_neg e2]
                  rfl
            rw [hu, Option.bind_some]
            refine ⟨_, rfl, Or.inl ⟨_, n - 1, rfl, by omega, j + 1, by omega, by omega, nI_1 j, ?_⟩⟩
            show jopt (F.rn od b E s) = jopt ((F.it od b E r' j).bind (F.rn od b E))
            rw [e]
            rfl
      obtain ⟨x, l1, l2⟩ := hl
      rw [l1, l2]
    have kA : f_X7_row 100 M x1 = (if 0 ≤ x1 ∧ x1 ≤ nI F.ns - 1 then ((jLp (σ := Int32 × Int32) (ρ := Int32) 100 (fun ((z11, z12) : Int32 × Int32) => (if x1 ≤ z12 then some (Sum.inr z11) else (if z11 = ((-1)) then some (Sum.inr z11) else (f_X1_nextOfRow M1 54 z11).bind fun v14 => some (Sum.inl (v14, z12 + 1))))) (jopt r', 0)).bind fun t13 => some (M1, t13)) else some (M1, (-1))) := by
      unfold f_X7_row
      rw [c3, Option.bind_some]
      dsimp only
      rw [if_neg n10, hA1.2.2.1, jisOut, Option.bind_some, r2, Option.bind_some]
      by_cases e : 0 ≤ x1 ∧ x1 ≤ nI F.ns - 1
      · rw [if_pos e, if_pos e, if_pos rfl]
      · rw [if_neg e, if_neg e, if_neg n10]
    have kB : f_X8_row 100 M1 x1 = (if t10 = nI F.ns then (some (M2, (-1)) : Option (JMem × Int32)) else (if 0 ≤ x1 then ((jLp (σ := Int32 × Int32) (ρ := Int32) 100 (fun ((z27, z28) : Int32 × Int32) => (if x1 ≤ z28 then some (Sum.inr z27) else (if z27 < 0 then some (Sum.inr z27) else (f_X8_behind M2 z27).bind fun v30 => (f_X8_next 100 M2 z27).bind fun v31 => (f_X8_isNext M2 v30 z27).bind fun v32 => (((if v32 = 0 then (f_X8_isNext M2 v31 z27).bind fun v38 => (if v38 = 0 then some (((-1))) else some (v31)) else some (v30)) : Option (Int32)).bind fun u41 => some (Sum.inl (u41, z28 + 1)))))) (t10, 0)).bind fun t29 => some (M2, t29)) else some (M2, (-1)))) := by
      unfold f_X8_row
      rw [d1, Option.bind_some]
      dsimp only
      rw [if_neg n10, b1, Option.bind_some, hB2.2.2.1]
    have e0 : (0 : Int32).toInt = 0 := rfl
    -- what the model answers
    have mB : ∀ i, i < 2 ^ 31 → x1 = nI i → f_X8_row 100 M1 x1 = some (M2, jopt (F.it od b E r' i)) := by
      intro i hi hx
      rw [kB, hx]
      rcases b3 with ⟨z1, z2⟩ | ⟨s, z1, z2, z3⟩
      · rw [if_pos z2]
        have := it_none (F := F) (od := od) (b := b) (E := E) (r := r') (k := 0) z1 i
        rw [Nat.zero_add] at this
        rw [this]
        rfl
      · rw [z3, if_neg (jeqF (by omega) (by omega) (by omega)), if_pos (jle0 hi)]
        have := lB i hi
        rw [z1] at this ⊢
        rw [show jopt (some s) = nI s from rfl] at this
        rw [this, Option.bind_some]
    by_cases e : 0 ≤ x1 ∧ x1 ≤ nI F.ns - 1
    · obtain ⟨i, hi, rfl⟩ := (jbelow (by omega)).mp e
      refine ⟨100, M1, M2, jopt (F.it od b E r' i), ?_, mB i (by omega) rfl, F, od, S, k, q, hX2⟩
      rw [kA, if_pos e, lA i hi, Option.bind_some]
    · refine ⟨100, M1, M2, -1, by rw [kA, if_neg e], ?_, F, od, S, k, q, hX2⟩
      by_cases e2 : 0 ≤ x1
      · rw [Int32.le_iff_toInt_le, e0] at e2
        obtain ⟨i, i1, i2⟩ := jnatI e2
        have i3 := Int32.toInt_lt x1
        rw [mB i (by omega) i1]
        cases z : F.it od b E r' i with
        | none => rfl
        | some s =>
          exfalso
          have := it_len hW hO hr z
          exact e ((jbelow (by omega)).mpr ⟨i, this, i1⟩)
      · rw [kB, if_neg e2]
        rcases b3 with ⟨z1, z2⟩ | ⟨s, z1, z2, z3⟩
        · rw [if_pos z2]
        · rw [z3, if_neg (jeqF (by omega) (by omega) (by omega))]
