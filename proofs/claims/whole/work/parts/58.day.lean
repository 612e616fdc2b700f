/-! days: what stands ahead of a step; the equation of a moment -/
def FT.pre (F : FT) (od : Nat → Nat → Nat) (t s : Nat) : Prop := (F.rk s ≠ 0 ∧ t = F.ln (F.pc s) (F.rk s - 1)) ∨ (F.kd (F.mc s) ≠ 1 ∧ ∃ i j, i < F.oc (F.mc s) ∧ od (F.mc s) i = s ∧ j < i ∧ t = od (F.mc s) j)
def FT.vl (F : FT) (od : Nat → Nat → Nat) (fx : Nat → Option Nat) (nb b : Nat → Nat) (s i : Nat) : Nat := match fx s with
  | some v => v
  | none => max (nb (F.mc s)) (max (F.ea b s) (F.fo b (od (F.mc s)) i s))
def FT.eqn (F : FT) (od : Nat → Nat → Nat) (fx : Nat → Option Nat) (nb b : Nat → Nat) (s : Nat) : Prop := ∀ i, i < F.oc (F.mc s) → od (F.mc s) i = s → b s = F.vl od fx nb b s i
theorem pre_lt {F : FT} {od : Nat → Nat → Nat} (hW : WF F) (hO : WO F od) {t s : Nat} (hs : s < F.ns) (h : F.pre od t s) : t < F.ns := by
  rcases h with ⟨h1, rfl⟩ | ⟨-, i, j, hi, -, hj, rfl⟩
  · exact jahead hW hs h1
  · exact (hO.1 _ j (by omega)).1
theorem vl_cong {F : FT} {od : Nat → Nat → Nat} {fx : Nat → Option Nat} {nb b b' : Nat → Nat} {s i : Nat} (hi : i < F.oc (F.mc s)) (hs : od (F.mc s) i = s) (h : ∀ t, F.pre od t s → b t = b' t) : F.vl od fx nb b s i = F.vl od fx nb b' s i := by
  unfold FT.vl
  cases fx s with
  | some v => rfl
  | none =>
    have e1 : F.ea b s = F.ea b' s := by
      unfold FT.ea
      split
      · rfl
      · rename_i z
        rw [h _ (Or.inl ⟨z, rfl⟩)]
    have e2 : F.fo b (od (F.mc s)) i s = F.fo b' (od (F.mc s)) i s := by
      by_cases z : F.kd (F.mc s) = 1 ∨ i = 0
      · rw [fo_a z, fo_a z]
      · have z1 : F.kd (F.mc s) ≠ 1 := fun y => z (Or.inl y)
        have z2 : i ≠ 0 := fun y => z (Or.inr y)
        have hj : ∀ j, j < i → b (od (F.mc s) j) = b' (od (F.mc s) j) := fun j hj => h _ (Or.inr ⟨z1, i, j, hi, hs, hj, rfl⟩)
        by_cases z3 : F.kd (F.mc s) = 3
        · rw [fo_c z2 z3, fo_c z2 z3, hj _ (by omega), tt_cong i (fun k hk => ⟨hj k hk, rfl⟩)]
        · rw [fo_o z2 z1 z3, fo_o z2 z1 z3, hj _ (by omega)]
    show max _ (max _ _) = max _ (max _ _)
    rw [e1, e2]
/-- what is laid, soundly -/
def FT.snd (F : FT) (od : Nat → Nat → Nat) (fx : Nat → Option Nat) (nb : Nat → Nat) (B : Nat) (P : Nat → Bool) (b : Nat → Nat) : Prop := ∀ s, s < F.ns → P s = true → (∀ t, F.pre od t s → P t = true) ∧ F.eqn od fx nb b s ∧ b s + F.sp s ≤ B + 1100 * fb_ct P F.ns ∧ Acc (F.pre od) s
def FT.cpl (F : FT) (od : Nat → Nat → Nat) (P : Nat → Bool) : Prop := ∀ s, s < F.ns → (∀ t, F.pre od t s → P t = true) → P s = true
def FT.mx (F : FT) (P : Nat → Bool) (b : Nat → Nat) (E : Nat) : Prop := (∀ s, s < F.ns → P s = true → b s + F.sp s ≤ E) ∧ (E = 0 ∨ ∃ s, s < F.ns ∧ P s = true ∧ E = b s + F.sp s)
def addB (P : Nat → Bool) (s : Nat) : Nat → Bool := fun k => if k = s then true else P k
def addN (b : Nat → Nat) (s v : Nat) : Nat → Nat := fun k => if k = s then v else b k
theorem addB_ct {P : Nat → Bool} {s n : Nat} (hs : s < n) (h : P s = false) : fb_ct (addB P s) n = fb_ct P n + 1 := by
  have h1 := fb_ct_upd P true hs
  rw [h] at h1
  exact h1
theorem ct_lt {P : Nat → Bool} {s n : Nat} (hs : s < n) (h : P s = false) : fb_ct P n < n := by
  have h1 := fb_ct_le P n
  rcases Nat.lt_or_ge (fb_ct P n) n with h2 | h2
  · exact h2
  · have h3 := (fb_ct_all (p := P) (n := n)).mp (by omega) s hs
    rw [h] at h3
    cases h3
theorem snd_add {F : FT} {od : Nat → Nat → Nat} {fx : Nat → Option Nat} {nb b : Nat → Nat} {B s v : Nat} {P : Nat → Bool} (h : F.snd od fx nb B P b) (hs : s < F.ns) (hP : P s = false) (hr : ∀ t, F.pre od t s → P t = true) (hv : ∀ i, i < F.oc (F.mc s) → od (F.mc s) i = s → v = F.vl od fx nb b s i) (hb : v + F.sp s ≤ B + 1100 * (fb_ct P F.ns + 1)) (hlt : ∀ t, F.pre od t s → t < F.ns) : F.snd od fx nb B (addB P s) (addN b s v) := by
  have hne : ∀ u, P u = true → u ≠ s := fun u z e => by rw [e, hP] at z; cases z
  intro u hu hPu
  rw [addB_ct hs hP]
  by_cases e : u = s
  · subst e
    refine ⟨fun t ht => ?_, fun i hi hoi => ?_, ?_, Acc.intro _ fun t ht => (h t (hlt t ht) (hr t ht)).2.2.2⟩
    · show (if t = u then true else P t) = true
      rw [hr t ht]
      split <;> rfl
    · show (if u = u then v else b u) = _
      rw [if_pos rfl]
      refine (hv i hi hoi).trans (vl_cong hi hoi (fun t ht => ?_))
      show b t = (if t = u then v else b t)
      rw [if_neg (hne t (hr t ht))]
    · show (if u = u then v else b u) + F.sp u ≤ _
      rw [if_pos rfl]
      exact hb
  · have hPu2 : P u = true := by
      have z : (if u = s then true else P u) = true := hPu
      rw [if_neg e] at z
      exact z
    obtain ⟨c1, c2, c3, c4⟩ := h u hu hPu2
    refine ⟨fun t ht => ?_, fun i hi hoi => ?_, ?_, c4⟩
    · show (if t = s then true else P t) = true
      rw [c1 t ht]
      split <;> rfl
    · show (if u = s then v else b u) = _
      rw [if_neg e, c2 i hi hoi]
      refine vl_cong hi hoi (fun t ht => ?_)
      show b t = (if t = s then v else b t)
      rw [if_neg (hne t (c1 t ht))]
    · show (if u = s then v else b u) + F.sp u ≤ _
      rw [if_neg e]
      omega
theorem mx_add {F : FT} {P : Nat → Bool} {b : Nat → Nat} {E s v : Nat} (h : F.mx P b E) (hs : s < F.ns) (hP : P s = false) : F.mx (addB P s) (addN b s v) (max E (v + F.sp s)) := by
  have hne : ∀ u, P u = true → u ≠ s := fun u z e => by rw [e, hP] at z; cases z
  refine ⟨fun u hu hPu => ?_, ?_⟩
  · show (if u = s then v else b u) + F.sp u ≤ _
    by_cases e : u = s
    · rw [if_pos e, e]
      exact Nat.le_max_right _ _
    · rw [if_neg e]
      have z : (if u = s then true else P u) = true := hPu
      rw [if_neg e] at z
      exact Nat.le_trans (h.1 u hu z) (Nat.le_max_left _ _)
  · rcases Nat.lt_or_ge (v + F.sp s) E with e | e
    · rw [Nat.max_eq_left (by omega)]
      rcases h.2 with z | ⟨u, hu, z1, z2⟩
      · exact Or.inl z
      · refine Or.inr ⟨u, hu, ?_, ?_⟩
        · show (if u = s then true else P u) = true
          rw [if_neg (hne u z1)]
          exact z1
        · show E = (if u = s then v else b u) + F.sp u
          rw [if_neg (hne u z1)]
          exact z2
    · rw [Nat.max_eq_right e]
      refine Or.inr ⟨s, hs, ?_, ?_⟩
      · show (if s = s then true else P s) = true
        rw [if_pos rfl]
      · show _ = (if s = s then v else b s) + F.sp s
        rw [if_pos rfl]
/-- two days of the same order are the same -/
theorem jagree1 {F : FT} {od : Nat → Nat → Nat} {fx : Nat → Option Nat} {nb b b' : Nat → Nat} {B B' : Nat} {P P' : Nat → Bool} (hW : WF F) (hO : WO F od) (h : F.snd od fx nb B P b) (h' : F.snd od fx nb B' P' b') (hc' : F.cpl od P') : ∀ s, s < F.ns → P s = true → P' s = true ∧ b s = b' s := by
  have key : ∀ s, Acc (F.pre od) s → s < F.ns → P s = true → P' s = true ∧ b s = b' s := by
    intro s ha
    induction ha with
    | intro s _ ih =>
      intro hs hP
      obtain ⟨c1, c2, c3, c4⟩ := h s hs hP
      have hp : ∀ t, F.pre od t s → P' t = true ∧ b t = b' t := fun t ht => ih t ht (pre_lt hW hO hs ht) (c1 t ht)
      have hP' := hc' s hs (fun t ht => (hp t ht).1)
      refine ⟨hP', ?_⟩
      obtain ⟨i, hi, hoi⟩ := hO.2.2 s hs
      rw [c2 i hi hoi, (h' s hs hP').2.1 i hi hoi]
      exact vl_cong hi hoi (fun t ht => (hp t ht).2)
  exact fun s hs hP => key s (h s hs hP).2.2.2 hs hP
theorem jagree {F : FT} {od : Nat → Nat → Nat} {fx : Nat → Option Nat} {nb b b' : Nat → Nat} {B B' E E' : Nat} {P P' : Nat → Bool} (hW : WF F) (hO : WO F od) (h : F.snd od fx nb B P b) (h' : F.snd od fx nb B' P' b') (hc : F.cpl od P) (hc' : F.cpl od P') (hE : F.mx P b E) (hE' : F.mx P' b' E') : fb_ct P F.ns = fb_ct P' F.ns ∧ E = E' ∧ ∀ s, s < F.ns → P s = P' s ∧ (P s = true → b s = b' s) := by
  have k1 := jagree1 hW hO h h' hc'
  have k2 := jagree1 hW hO h' h hc
  have hP : ∀ s, s < F.ns → P s = P' s := by
    intro s hs
    cases e : P s with
    | true => exact (k1 s hs e).1.symm
    | false =>
      cases e2 : P' s with
      | false => rfl
      | true =>
        have := (k2 s hs e2).1
        rw [e] at this
        cases this
  refine ⟨fb_ct_cong hP, ?_, fun s hs => ⟨hP s hs, fun z => (k1 s hs z).2⟩⟩
  apply Nat.le_antisymm
  · rcases hE.2 with z | ⟨s, hs, z1, z2⟩
    · omega
    · rw [z2, (k1 s hs z1).2]
      exact hE'.1 s hs (k1 s hs z1).1
  · rcases hE'.2 with z | ⟨s, hs, z1, z2⟩
    · omega
    · rw [z2, (k2 s hs z1).2]
      exact hE.1 s hs (k2 s hs z1).1
/-- a step is set -/
theorem jsetA {M : JMem} {o r s v n p m lp lm E w kd prev : Nat} (hs : s < 32) (hn : n < 32) (hp : p < 12) (hm : m < 8) (hlm : lm ≤ 32) (hw : w ≤ 1000) (hv : v ≤ 1000000) (hE : E ≤ 2000000) (ho : r + 10 < o) (hr : 33 ≤ r) (hkd : kd ≤ 3) (h1 : M 20 s = nI m) (h2 : M (o + 8) m = nI lm) (h3 : M 21 s = nI w) (h4 : M o 4 = nI E) (h5 : M 2 m = nI kd) (h6 : M o 6 = nI n) (h7 : M 19 s = nI p) (h8 : M (o + 7) p = nI lp) (h9 : kd = 0 → 0 < lm → prev < 32 ∧ M (r + 1 + 1 + m) (lm - 1) = nI prev) :
    ∃ M', f_X1_set M o r (nI s) (nI v) = some M' ∧ (∀ a j, ¬ ((a = o + 1 ∧ j = s) ∨ (a = o ∧ (j = 4 ∨ j = 6)) ∨ (a = o + 5 ∧ j = n) ∨ a = o + 6 ∨ (a = o + 7 ∧ j = p) ∨ (a = o + 8 ∧ j = m)) → M' a j = M a j) ∧ M' (o + 1) s = nI v ∧ M' o 4 = nI (max E (v + w)) ∧ M' o 6 = nI (n + 1) ∧ M' (o + 5) n = nI s ∧ M' (o + 7) p = nI (lp + 1) ∧ M' (o + 8) m = nI (lm + 1) ∧ ∀ j, M' (o + 6) j = if kd = 0 ∧ 0 < lm ∧ j = prev then nI s else M (o + 6) j := by
  obtain ⟨M3, e3, f3, v3⟩ := jupX M (o + 1) s (nI v)
  obtain ⟨M5, e5, f5, v5⟩ := jupX M3 o 4 (nI (max E (v + w)))
  have hmid : ∃ M17, (((if nI kd = 0 then (if nI lm ≤ 0 then some (M5) else (jrw (r + 1) 8 (nI m)).bind fun w12 => (jrd M5 w12 32 (nI lm - 1)).bind fun v13 => (jwr M5 (o + 6) 32 v13 (nI s)).bind fun M14 => some (M14)) else some (M5)) : Option (JMem))) = some M17 ∧ (∀ a j, a ≠ o + 6 → M17 a j = M5 a j) ∧ ∀ j, M17 (o + 6) j = if kd = 0 ∧ 0 < lm ∧ j = prev then nI s else M5 (o + 6) j := by
    by_cases c1 : kd = 0
    · rw [if_pos (by rw [c1]; rfl)]
      by_cases c2 : lm = 0
      · rw [if_pos (by rw [jleL (by omega) (by decide)]; omega)]
        exact ⟨M5, rfl, fun _ _ _ => rfl, fun j => by rw [if_neg (by omega)]⟩
      · obtain ⟨q1, q2⟩ := h9 c1 (by omega)
        rw [if_neg (by rw [jleL (by omega) (by decide)]; omega), jrw_nI hm (by decide), Option.bind_some, jsub1 (by omega), jrd_nI (show lm - 1 < 32 by omega) (by decide), Option.bind_some, f5 _ _ (by omega), f3 _ _ (by omega), q2, jwr_nI q1 (by decide), Option.bind_some]
        refine ⟨_, rfl, fun a j ha => jup_ne ha ▸ rfl, fun j => ?_⟩
        rw [jup_at]
        by_cases c3 : j = prev
        · rw [if_pos ⟨rfl, c3⟩, if_pos ⟨c1, by omega, c3⟩]
        · rw [if_neg (fun z => c3 z.2), if_neg (fun z => c3 z.2.2)]
    · rw [if_neg (by rw [jeqL (by omega) (by decide)]; exact c1)]
      exact ⟨M5, rfl, fun _ _ _ => rfl, fun j => by rw [if_neg (by omega)]⟩
  obtain ⟨M17, e17, f17, v17⟩ := hmid
  obtain ⟨M18, e18, f18, v18⟩ := jupX M17 (o + 5) n (nI s)
  obtain ⟨M19, e19, f19, v19⟩ := jupX M18 o 6 (nI (n + 1))
  obtain ⟨M22, e22, f22, v22⟩ := jupX M19 (o + 7) p (nI (lp + 1))
  obtain ⟨M24, e24, f24, v24⟩ := jupX M22 (o + 8) m (nI (lm + 1))
  have r3 : M3 21 s = nI w := by rw [f3 _ _ (by omega)]; exact h3
  have r3b : M3 o 4 = nI E := by rw [f3 _ _ (by omega)]; exact h4
  have r5 : M5 2 m = nI kd := by rw [f5 _ _ (by omega), f3 _ _ (by omega)]; exact h5
  have r17 : M17 o 6 = nI n := by rw [f17 _ _ (by omega), f5 _ _ (by omega), f3 _ _ (by omega)]; exact h6
  have r18 : M18 o 6 = nI n := by rw [f18 _ _ (by omega)]; exact r17
  have r19 : M19 19 s = nI p := by rw [f19 _ _ (by omega), f18 _ _ (by omega), f17 _ _ (by omega), f5 _ _ (by omega), f3 _ _ (by omega)]; exact h7
  have r19b : M19 (o + 7) p = nI lp := by rw [f19 _ _ (by omega), f18 _ _ (by omega), f17 _ _ (by omega), f5 _ _ (by omega), f3 _ _ (by omega)]; exact h8
  have r22 : M22 (o + 8) m = nI lm := by rw [f22 _ _ (by omega), f19 _ _ (by omega), f18 _ _ (by omega), f17 _ _ (by omega), f5 _ _ (by omega), f3 _ _ (by omega)]; exact h2
  refine ⟨M24, ?_, fun a j h => ?_, ?_, ?_, ?_, ?_, ?_, v24, fun j => ?_⟩
  · unfold f_X1_set
    rw [jrd_nI hs (by decide), Option.bind_some, h1, jrd_nI hm (by decide), Option.bind_some, h2, jwr_nI hs (by decide), e3, Option.bind_some, jendA hs v3 r3, Option.bind_some, r3b, jmaxN (by omega) (by omega), e5, Option.bind_some, jrd_nI hm (by decide), Option.bind_some, r5, e17, Option.bind_some, r17, jwr_nI hn (by decide), e18, Option.bind_some, r18, nI_1, e19, Option.bind_some, jrd_nI hs (by decide), Option.bind_some, r19, jrd_nI hp (by decide), Option.bind_some, r19b, nI_1, jwr_nI hp (by decide), e22, Option.bind_some, jrd_nI hm (by decide), Option.bind_some, r22, nI_1, jwr_nI hm (by decide), e24, Option.bind_some]
  · rw [f24 _ _ (by omega), f22 _ _ (by omega), f19 _ _ (by omega), f18 _ _ (by omega), f17 _ _ (by omega), f5 _ _ (by omega), f3 _ _ (by omega)]
  · rw [f24 _ _ (by omega), f22 _ _ (by omega), f19 _ _ (by omega), f18 _ _ (by omega), f17 _ _ (by omega), f5 _ _ (by omega)]
    exact v3
  · rw [f24 _ _ (by omega), f22 _ _ (by omega), f19 _ _ (by omega), f18 _ _ (by omega), f17 _ _ (by omega)]
    exact v5
  · rw [f24 _ _ (by omega), f22 _ _ (by omega)]
    exact v19
  · rw [f24 _ _ (by omega), f22 _ _ (by omega), f19 _ _ (by omega)]
    exact v18
  · rw [f24 _ _ (by omega)]
    exact v22
  · rw [f24 _ _ (by omega), f22 _ _ (by omega), f19 _ _ (by omega), f18 _ _ (by omega), v17 j, f5 _ _ (by omega), f3 _ _ (by omega)]
