/-! better: the day of an order, its end; the swap that shortens it most -/
noncomputable def FT.cD (F : FT) (od : Nat → Nat → Nat) : (Nat → Nat) × Nat := @dite _ (∃ x : (Nat → Nat) × Nat, F.dy od x.1 x.2) (Classical.propDecidable _) (fun h => Classical.choose h) (fun _ => (fun _ => 0, 0))
noncomputable def FT.cB (F : FT) (od : Nat → Nat → Nat) : Nat → Nat := (F.cD od).1
noncomputable def FT.cE (F : FT) (od : Nat → Nat → Nat) : Nat := (F.cD od).2
theorem cD_of {F : FT} {od : Nat → Nat → Nat} {b : Nat → Nat} {E : Nat} (hW : WF F) (hO : WO F od) (h : F.dy od b E) : F.dy od (F.cB od) (F.cE od) ∧ E = F.cE od ∧ ∀ s, s < F.ns → b s = F.cB od s := by
  have hx : ∃ x : (Nat → Nat) × Nat, F.dy od x.1 x.2 := ⟨(b, E), h⟩
  have h2 : F.dy od (F.cB od) (F.cE od) := by
    unfold FT.cB FT.cE FT.cD
    rw [dif_pos hx]
    exact Classical.choose_spec hx
  obtain ⟨a1, a2, a3⟩ := jagree hW hO h.1 h2.1 (fun _ _ _ => rfl) (fun _ _ _ => rfl) h.2 h2.2
  exact ⟨h2, a2, fun s hs => (a3 s hs).2 rfl⟩
noncomputable def FT.en (F : FT) (od : Nat → Nat → Nat) : Option Nat := @ite _ (F.day od) (Classical.propDecidable _) (some (F.cE od)) none
theorem en_some {F : FT} {od : Nat → Nat → Nat} (h : F.day od) : F.en od = some (F.cE od) := by
  unfold FT.en
  rw [if_pos h]
theorem en_none {F : FT} {od : Nat → Nat → Nat} (h : ¬ F.day od) : F.en od = none := by
  unfold FT.en
  rw [if_neg h]
theorem en_day {F : FT} {od : Nat → Nat → Nat} {e : Nat} (h : F.en od = some e) : F.day od := by
  rcases Classical.em (F.day od) with z | z
  · exact z
  · rw [en_none z] at h
    cases h
/-- the tails' equation, by the moments -/
theorem tq_dy {F : FT} {od : Nat → Nat → Nat} {b : Nat → Nat} {E : Nat} (hW : WF F) (hO : WO F od) (h : F.dy od b E) : F.tq od := by
  have stab : ∀ n s, s < F.ns → fb_ct (fun u => decide (b s < b u)) F.ns < n → F.tlF od n s = F.tlF od (n + 1) s := by
    intro n
    induction n with
    | zero => intro s hs hn; exact absurd hn (Nat.not_lt_zero _)
    | succ n ih =>
      intro s hs hn
      have key : ∀ x : Option Nat, (∀ t, x = some t → t < F.ns ∧ b s < b t) → F.jlen (F.tlF od n) x = F.jlen (F.tlF od (n + 1)) x := by
        intro x hx
        cases x with
        | none => rfl
        | some t =>
          obtain ⟨h1, h2⟩ := hx t rfl
          have hlt : fb_ct (fun u => decide (b t < b u)) F.ns + 1 ≤ fb_ct (fun u => decide (b s < b u)) F.ns := by
            rw [← addB_ct (P := fun u => decide (b t < b u)) h1 (by simp)]
            refine fb_ct_sub (fun u _ hu => ?_)
            have hu2 : (if u = t then true else decide (b t < b u)) = true := hu
            by_cases e : u = t
            · rw [e]
              simpa using h2
            · rw [if_neg e] at hu2
              simp only [decide_eq_true_eq] at hu2 ⊢
              omega
          show F.sp t + F.tlF od n t = F.sp t + F.tlF od (n + 1) t
          rw [ih t h1 (by omega)]
      have sp1 := (hW.2.2.1.2 s hs).2.2.1
      show max _ _ = max _ _
      rw [key (F.bh s) (fun t ht => by
        have := suc_b (t := t) hW hO h.1 (fun _ _ => rfl) hs (Or.inl ht)
        exact ⟨this.1, by omega⟩), key (F.nx od s) (fun t ht => by
        have := suc_b (t := t) hW hO h.1 (fun _ _ => rfl) hs (Or.inr ht)
        exact ⟨this.1, by omega⟩)]
  intro s hs
  exact stab F.ns s hs (ct_lt (s := s) hs (by simp))
theorem TA.cong {M : JMem} {o : Nat} {F : FT} {od : Nat → Nat → Nat} {b b' : Nat → Nat} {E E' : Nat} (h : TA M o F od b E) (hE : E = E') (hb : ∀ s, s < F.ns → b s = b' s) : TA M o F od b' E' := ⟨by rw [← hE]; exact h.1, fun s hs => ⟨by rw [← hb s hs]; exact (h.2 s hs).1, (h.2 s hs).2⟩⟩
theorem TB.cong {M : JMem} {F : FT} {od : Nat → Nat → Nat} {b b' : Nat → Nat} {E E' : Nat} (h : TB M F od b E) (hE : E = E') (hb : ∀ s, s < F.ns → b s = b' s) : TB M F od b' E' := ⟨by rw [← hE]; exact h.1, fun s hs => ⟨by rw [← hb s hs]; exact (h.2 s hs).1, (h.2 s hs).2⟩⟩
/-- places that may be swapped -/
def FT.tg (F : FT) (od : Nat → Nat → Nat) (b : Nat → Nat) (E k : Nat) : Bool := decide (k / 32 < F.nm) && (decide (F.kd (k / 32) = 0) && (decide (k % 32 + 1 < F.oc (k / 32)) && (decide (F.sl od b E (od (k / 32) (k % 32)) = 0) && (decide (F.sl od b E (od (k / 32) (k % 32 + 1)) = 0) && decide (b (od (k / 32) (k % 32)) + F.sp (od (k / 32) (k % 32)) = b (od (k / 32) (k % 32 + 1)))))))
noncomputable def FT.ps (F : FT) (od : Nat → Nat → Nat) (b : Nat → Nat) (E : Nat) : Nat → Nat × Option Nat
  | 0 => (E, none)
  | k + 1 => if F.tg od b E k = true then (match F.en (odX od (k / 32) (k % 32)) with
    | some e => if e < (FT.ps F od b E k).1 then (e, some k) else FT.ps F od b E k
    | none => FT.ps F od b E k) else FT.ps F od b E k
section PS
variable {F : FT} {od : Nat → Nat → Nat} {b : Nat → Nat} {E k e : Nat}
theorem ps_no (h : F.tg od b E k = false) : F.ps od b E (k + 1) = F.ps od b E k := by
  show (if F.tg od b E k = true then _ else _) = _
  rw [if_neg (by rw [h]; decide)]
theorem ps_nd (h2 : F.en (odX od (k / 32) (k % 32)) = none) : F.ps od b E (k + 1) = F.ps od b E k := by
  show (if F.tg od b E k = true then (match F.en (odX od (k / 32) (k % 32)) with | some e => _ | none => _) else _) = _
  rw [h2]
  split <;> rfl
theorem ps_lt (h : F.tg od b E k = true) (h2 : F.en (odX od (k / 32) (k % 32)) = some e) (h3 : e < (F.ps od b E k).1) : F.ps od b E (k + 1) = (e, some k) := by
  show (if F.tg od b E k = true then (match F.en (odX od (k / 32) (k % 32)) with | some e => _ | none => _) else _) = _
  rw [h2, if_pos h]
  show (if e < (F.ps od b E k).1 then _ else _) = _
  rw [if_pos h3]
theorem ps_ge (h : F.tg od b E k = true) (h2 : F.en (odX od (k / 32) (k % 32)) = some e) (h3 : ¬ e < (F.ps od b E k).1) : F.ps od b E (k + 1) = F.ps od b E k := by
  show (if F.tg od b E k = true then (match F.en (odX od (k / 32) (k % 32)) with | some e => _ | none => _) else _) = _
  rw [h2, if_pos h]
  show (if e < (F.ps od b E k).1 then _ else _) = _
  rw [if_neg h3]
theorem ps_skip (a : Nat) : ∀ d, (∀ k, a ≤ k → k < a + d → F.tg od b E k = false) → F.ps od b E (a + d) = F.ps od b E a
  | 0, _ => rfl
  | d + 1, h => by
    rw [show a + (d + 1) = a + d + 1 by omega, ps_no (h (a + d) (by omega) (by omega)), ps_skip a d (fun k h1 h2 => h k h1 (by omega))]
theorem ps_in : ∀ k, (F.ps od b E k).1 ≤ E ∧ ∀ j, (F.ps od b E k).2 = some j → j < k ∧ F.tg od b E j = true ∧ F.en (odX od (j / 32) (j % 32)) = some (F.ps od b E k).1
  | 0 => ⟨Nat.le_refl _, fun j h => by cases h⟩
  | k + 1 => by
    obtain ⟨i1, i2⟩ := ps_in k
    have old : F.ps od b E (k + 1) = F.ps od b E k → (F.ps od b E (k + 1)).1 ≤ E ∧ ∀ j, (F.ps od b E (k + 1)).2 = some j → j < k + 1 ∧ F.tg od b E j = true ∧ F.en (odX od (j / 32) (j % 32)) = some (F.ps od b E (k + 1)).1 := by
      intro h
      rw [h]
      exact ⟨i1, fun j hj => ⟨by have := (i2 j hj).1; omega, (i2 j hj).2⟩⟩
    cases h1 : F.tg od b E k with
    | false => exact old (ps_no h1)
    | true =>
      cases h2 : F.en (odX od (k / 32) (k % 32)) with
      | none => exact old (ps_nd h2)
      | some e =>
        by_cases h3 : e < (F.ps od b E k).1
        · rw [ps_lt h1 h2 h3]
          refine ⟨by show e ≤ E; omega, fun j hj => ?_⟩
          cases hj
          exact ⟨by omega, h1, h2⟩
        · exact old (ps_ge h1 h2 h3)
theorem tg_in (h : F.tg od b E k = true) : k / 32 < F.nm ∧ F.kd (k / 32) = 0 ∧ k % 32 + 1 < F.oc (k / 32) := by
  unfold FT.tg at h
  simp only [Bool.and_eq_true, decide_eq_true_eq] at h
  exact ⟨h.1, h.2.1, h.2.2.1⟩
end PS
/-- the order behind the best swap -/
noncomputable def FT.nxt (F : FT) (od : Nat → Nat → Nat) : Option (Nat → Nat → Nat) := (F.ps od (F.cB od) (F.cE od) 256).2.map (fun k => odX od (k / 32) (k % 32))
theorem nxt_ok {F : FT} {od od' : Nat → Nat → Nat} (hO : WO F od) (h : F.nxt od = some od') : WO F od' ∧ F.day od' ∧ ∃ k, k < 256 ∧ (F.ps od (F.cB od) (F.cE od) 256).2 = some k ∧ od' = odX od (k / 32) (k % 32) ∧ F.tg od (F.cB od) (F.cE od) k = true := by
  unfold FT.nxt at h
  cases e : (F.ps od (F.cB od) (F.cE od) 256).2 with
  | none => rw [e] at h; cases h
  | some k =>
    rw [e] at h
    cases h
    obtain ⟨h1, h2, h3⟩ := (ps_in 256).2 k e
    exact ⟨odX_wo hO (tg_in h2).2.2, en_day h3, k, h1, rfl, rfl, h2⟩
def AX (M : JMem) (F : FT) (od : Nat → Nat → Nat) : Prop := WF F ∧ WO F od ∧ AF M F ∧ AO M 33 F od ∧ ID M 54 ∧ ID M 64
theorem AX.fr {M M' : JMem} {F : FT} {od : Nat → Nat → Nat} (h : AX M F od) (e : ∀ a i, a ≤ 53 ∨ a = 57 ∨ a = 58 ∨ a = 67 ∨ a = 68 → M' a i = M a i) : AX M' F od :=
  ⟨h.1, h.2.1, h.2.2.1.fr h.1.1.1 (fun a i _ _ => e a i (by omega)), h.2.2.2.1.fr (fun a i _ _ => e a i (by omega)), h.2.2.2.2.1.fr (fun a i z => e a i (by omega)), h.2.2.2.2.2.fr (fun a i z => e a i (by omega))⟩
section BT
variable {M : JMem} {N : Nat} {F : FT} {od : Nat → Nat → Nat}
theorem jhasX (hX : AX M F od) (hs : F.simp) (hd : F.day od) (hN : 100 ≤ N) : ∃ M1, AX M1 F od ∧ (∀ a i, ¬ ((a = 54 ∧ (i = 4 ∨ i = 6)) ∨ a = 55 ∨ a = 56 ∨ (59 ≤ a ∧ a ≤ 63)) → M1 a i = M a i) ∧ f_X7_hasTails N M = some (M1, 1) ∧ F.dy od (F.cB od) (F.cE od) ∧ TA M1 54 F od (F.cB od) (F.cE od) := by
  obtain ⟨hW, hO, hA, hAO, hI, -⟩ := id hX
  have hns := hW.2.2.1.1
  have n10 : ¬ (1 : Int32) = 0 := by decide
  unfold f_X7_hasTails
  rcases jsimpA hW hA hN with ⟨-, e⟩ | ⟨z, e⟩
  · rw [e, Option.bind_some, if_neg n10]
    obtain ⟨M1, qq, P, lp, lm, b, E, e1, e2, e3, hf1⟩ := jworkA (N := N) (EA.of (o := 54) hW hO hA hAO hI (by decide) (by decide)) hN
    rw [e1, Option.bind_some]
    dsimp only
    have ed : fb_ct P F.ns = F.ns := (day_iff hW hO e2.1 e3).mpr hd
    have hP := fb_ct_all.mp ed
    rw [if_pos ed, if_neg n10]
    have hX1 : AX M1 F od := hX.fr (fun a i z => hf1 a i (by omega))
    obtain ⟨d1, d2, d3, d4, d5, d6, d7, d8, d9, d10, d11, d12⟩ := e2
    rw [ed] at d3 d6 d7 d8 d11
    have hnx : ∀ s, s < F.ns → M1 (54 + 6) s = jopt (F.nx od s) := by
      intro s hs
      obtain ⟨hi, hoi⟩ := pl_at hO hs
      rw [d12 s hs _ hi hoi]
      have hm8 : F.mc s < 8 := Nat.lt_of_lt_of_le (hW.2.2.1.2 s hs).2.1 hW.1.1
      unfold FT.nx
      by_cases z : F.kd (F.mc s) = 0
      · obtain ⟨-, -, g⟩ := d11 _ hm8
        obtain ⟨g1, g2⟩ := g (by omega)
        have hl : lm (F.mc s) = F.oc (F.mc s) := by
          have := (g2 (F.oc (F.mc s) - 1) (by omega)).mp (hP _ (hO.1 _ _ (by omega)).1)
          omega
        rw [hl]
        by_cases z2 : F.kd (F.mc s) = 0 ∧ F.pl od s + 1 < F.oc (F.mc s)
        · rw [if_pos z2, if_pos z2]
          rfl
        · rw [if_neg z2, if_neg z2]
          rfl
      · rw [if_neg (fun y => z y.1), if_neg (fun y => z y.1)]
        rfl
    have hq : ∀ k, k < F.ns → M1 (54 + 5) k = nI (qq k) ∧ qq k < F.ns ∧ ∀ t, F.pre od t (qq k) → ∃ j, j < k ∧ qq j = t := fun k hk => ⟨(d6 k hk).1, (d6 k hk).2.1, (d6 k hk).2.2.2⟩
    obtain ⟨M4, t1, t2, t3⟩ := jtailsA (N := N) hW hO hX1.2.2.1 (by omega) d3 hq d7 (fun s hs => d8 s hs (hP s hs)) hnx hN
    rw [t1, Option.bind_some]
    obtain ⟨c1, c2, c3⟩ := cD_of hW hO (show F.dy od b E from ⟨snd_all d1 hP, mx_all d2 hP⟩)
    have hT : TA M4 54 F od b E := ⟨(t3 _ _ (by omega)).trans d4, fun s hs => ⟨(t3 _ _ (by omega)).trans (d5 s hs (hP s hs)), t2 s hs, (t3 _ _ (by omega)).trans (hnx s hs)⟩⟩
    exact ⟨M4, hX1.fr (fun a i z => t3 a i (by omega)), fun a i z => (t3 a i (by omega)).trans (hf1 a i (by omega)), rfl, c1, hT.cong c2 c3⟩
  · exact absurd hs z
theorem jswapA (hX : AX M F od) {m i : Nat} (hm : m < 8) (hi : i + 1 < F.oc m) (hN : 100 ≤ N) : ∃ M1, f_X7_endBySwap N M (nI m) (nI i) = some (M1, jopt (F.en (odX od m i))) ∧ (∀ e, F.en (odX od m i) = some e → e ≤ 40000) ∧ AX M1 F od ∧ ∀ a j, ¬ ((35 ≤ a ∧ a ≤ 42) ∨ (64 ≤ a ∧ a ≤ 65) ∨ (69 ≤ a ∧ a ≤ 73)) → M1 a j = M a j := by
  obtain ⟨hW, hO, hA, hAO, hI, hI2⟩ := id hX
  have hns := hW.2.2.1.1
  have n10 : ¬ (1 : Int32) = 0 := by decide
  obtain ⟨M1, x1, x2, x3⟩ := jexA hW hAO hm hi
  have hO' := odX_wo hO hi
  obtain ⟨M2, qq, P, lp, lm, b, E, e1, e2, e3, hf⟩ := jworkA (N := N) (EA.of (M := M1) (o := 64) hW hO' (hA.fr hW.1.1 (fun a j _ _ => x3 a j (by omega))) x2 (hI2.fr (fun a j _ => x3 a j (by omega))) (by decide) (by decide)) hN
  have hAO2 : AO M2 33 F (odX od m i) := x2.fr (fun a j _ _ => hf a j (by omega))
  obtain ⟨M3, y1, y2, y3⟩ := jexA hW hAO2 hm hi
  rw [odX_twice] at y2
  have fr : ∀ a j, ¬ ((35 ≤ a ∧ a ≤ 42) ∨ (64 ≤ a ∧ a ≤ 65) ∨ (69 ≤ a ∧ a ≤ 73)) → M3 a j = M a j := fun a j z => by rw [y3 a j (by omega), hf a j (by omega), x3 a j (by omega)]
  have hX3 : AX M3 F od := ⟨hW, hO, hA.fr hW.1.1 (fun a j _ _ => fr a j (by omega)), y2, hI.fr (fun a j _ => fr a j (by omega)), hI2.fr (fun a j _ => by rw [y3 a j (by omega), hf a j (by omega), x3 a j (by omega)])⟩
  have hd := day_iff hW hO' e2.1 e3
  unfold f_X7_endBySwap
  rw [x1, Option.bind_some, e1, Option.bind_some]
  dsimp only
  by_cases ed : fb_ct P F.ns = F.ns
  · have hP := fb_ct_all.mp ed
    have hdy : F.dy (odX od m i) b E := ⟨snd_all e2.1 hP, mx_all e2.2.1 hP⟩
    obtain ⟨c1, c2, c3⟩ := cD_of hW hO' hdy
    have hle := (dy_le hdy hW).1
    rw [if_pos ed, if_neg n10, Option.bind_some, y1, Option.bind_some, e2.2.2.2.1, en_some (hd.mp ed), ← c2]
    exact ⟨M3, rfl, fun e he => by cases he; exact hle, hX3, fr⟩
  · rw [if_neg ed, if_pos rfl, Option.bind_some, y1, Option.bind_some, en_none (fun z => ed (hd.mpr z))]
    exact ⟨M3, rfl, fun e he => (by cases he), hX3, fr⟩
theorem jtightA (hW : WF F) (hO : WO F od) (hA : AF M F) (hAO : AO M 33 F od) {b : Nat → Nat} {E : Nat} (hd : F.dy od b E) (hT : TA M 54 F od b E) {m i : Nat} (hm : m < F.nm) (hi : i + 1 < F.oc m) : f_X7_isTight M (nI m) (nI i) = some (if F.tg od b E (32 * m + i) = true then 1 else 0) := by
  have hm8 : m < 8 := Nat.lt_of_lt_of_le hm hW.1.1
  have hns := hW.2.2.1.1
  have hoc := oc_le hW m
  have k1 : (32 * m + i) / 32 = m := by omega
  have k2 : (32 * m + i) % 32 = i := by omega
  obtain ⟨s1, -⟩ := hO.1 m i (by omega)
  obtain ⟨s2, -⟩ := hO.1 m (i + 1) hi
  have hle := dy_le hd hW
  have l1 := hle.2 _ s1
  have l2 := hle.2 _ s2
  have hk := (hW.1.2 m hm).1
  unfold f_X7_isTight FT.tg
  rw [k1, k2, jrd_nI hm8 (by decide), Option.bind_some, (hA.2.2.2.1 m hm).1]
  by_cases e1 : F.kd m = 0
  · rw [if_pos (by rw [e1]; rfl), jrw_nI hm8 (by decide), Option.bind_some, jrd_nI (show i < 32 by omega) (by decide), Option.bind_some, Option.bind_some, nI_1, jrd_nI (show i + 1 < 32 by omega) (by decide), Option.bind_some, show M (34 + 1 + m) i = nI (od m i) from hAO.2 m i hm8 (by omega), show M (34 + 1 + m) (i + 1) = nI (od m (i + 1)) from hAO.2 m (i + 1) hm8 hi, jslA hW hA hT hd s1, Option.bind_some, jslA hW hA hT hd s2, Option.bind_some, jendA (by omega) (hT.2 _ s1).1 (hA.2.2.2.2.2.2.2.1 _ s1).2.2.1, Option.bind_some, jrd_nI (show od m (i + 1) < 32 by omega) (by decide), Option.bind_some, show M 55 (od m (i + 1)) = _ from (hT.2 _ s2).1]
    by_cases e2 : F.sl od b E (od m i) = 0
    · rw [if_pos e2]
      by_cases e3 : F.sl od b E (od m (i + 1)) = 0
      · rw [if_pos e3]
        by_cases e4 : b (od m i) + F.sp (od m i) = b (od m (i + 1))
        · rw [if_pos (by rw [e4]), if_pos (by simp [hm, e1, hi, e2, e3, e4])]
        · rw [if_neg (jeqF e4 (by omega) (by omega)), if_neg (by simp [e4])]
      · rw [if_neg e3, if_neg (by simp [e3])]
    · rw [if_neg e2, if_neg (by simp [e2])]
  · rw [if_neg (by rw [jeqL (by omega) (by decide)]; exact e1), if_neg (by simp [e1])]
/-- the class's state of the pick -/
def jenc (st : Nat × Option Nat) (x y z : Int32) : Prop := x = nI st.1 ∧ match st.2 with
  | none => y = -1 ∧ z = -1
  | some k => y = nI (k / 32) ∧ z = nI (k % 32)
theorem jinA (hd : F.dy od (F.cB od) (F.cE od)) {m : Nat} (hm : m < F.nm) {z9 z10 z11 : Int32} (hX : AX M F od) (hT : TA M 54 F od (F.cB od) (F.cE od)) (he : jenc (F.ps od (F.cB od) (F.cE od) (32 * m)) z9 z10 z11) (hN : 100 ≤ N) :
    ∃ x, jLp (σ := Int32 × Int32 × Int32 × Int32 × JMem) (ρ := Int32 × Int32 × Int32 × JMem) N (fun ((z23, z24, z25, z26, M27) : Int32 × Int32 × Int32 × Int32 × JMem) => (jrd M27 43 8 (nI m)).bind fun v32 => (if v32 ≤ (z26 + 1) then some (Sum.inr (z23, z24, z25, M27)) else (f_X7_isTight M27 (nI m) z26).bind fun v33 => (((if v33 = 0 then some ((z23, z24, z25, M27)) else (f_X7_endBySwap N M27 (nI m) z26).bind fun (M39, v40) => (if v40 = ((-1)) then some ((z23, z24, z25, M39)) else (if z23 ≤ v40 then some ((z23, z24, z25, M39)) else some ((v40, nI m, z26, M39))))) : Option (Int32 × Int32 × Int32 × JMem)).bind fun (u44, u45, u46, M47) => some (Sum.inl (u44, u45, u46, z26 + 1, M47))))) (z9, z10, z11, 0, M) = some x ∧ (jenc (F.ps od (F.cB od) (F.cE od) (32 * (m + 1))) x.1 x.2.1 x.2.2.1 ∧ AX x.2.2.2 F od ∧ TA x.2.2.2 54 F od (F.cB od) (F.cE od) ∧ ∀ a j, ¬ ((35 ≤ a ∧ a ≤ 42) ∨ (64 ≤ a ∧ a ≤ 65) ∨ (69 ≤ a ∧ a ≤ 73)) → x.2.2.2 a j = M a j) := by
  obtain ⟨hW, hO, -⟩ := id hX
  have hm8 : m < 8 := Nat.lt_of_lt_of_le hm hW.1.1
  have hns := hW.2.2.1.1
  have hoc := oc_le hW m
  have hle := dy_le hd hW
  have n10 : ¬ (1 : Int32) = 0 := by decide
  refine jLp_tot (fun n z => ∃ i, n + i = 40 ∧ i ≤ 31 ∧ z.2.2.2.1 = nI i ∧ jenc (F.ps od (F.cB od) (F.cE od) (32 * m + i)) z.1 z.2.1 z.2.2.1 ∧ AX z.2.2.2.2 F od ∧ TA z.2.2.2.2 54 F od (F.cB od) (F.cE od) ∧ ∀ a j, ¬ ((35 ≤ a ∧ a ≤ 42) ∨ (64 ≤ a ∧ a ≤ 65) ∨ (69 ≤ a ∧ a ≤ 73)) → z.2.2.2.2 a j = M a j) _ ?_ N 40 (z9, z10, z11, 0, M) (by omega) ⟨0, by omega, by omega, rfl, he, hX, hT, fun _ _ _ => rfl⟩
  rintro n ⟨z23, z24, z25, z26, M27⟩ ⟨i, hn, hi31, hz, he, hX, hT, hf⟩
  dsimp only at hz he hX hT hf ⊢
  subst hz
  obtain ⟨-, -, hA, hAO, -⟩ := id hX
  rw [jrd_nI hm8 (by decide), Option.bind_some, show M27 43 m = nI (F.oc m) from hAO.1 m hm8, nI_1]
  by_cases ei : i + 1 < F.oc m
  · rw [if_neg (jleF ei (by omega)), jtightA hW hO hA hAO hd hT hm ei, Option.bind_some]
    have k1 : (32 * m + i) / 32 = m := by omega
    have k2 : (32 * m + i) % 32 = i := by omega
    have go : ∀ (x y z : Int32) (M' : JMem), jenc (F.ps od (F.cB od) (F.cE od) (32 * m + i + 1)) x y z → AX M' F od → TA M' 54 F od (F.cB od) (F.cE od) → (∀ a j, ¬ ((35 ≤ a ∧ a ≤ 42) ∨ (64 ≤ a ∧ a ≤ 65) ∨ (69 ≤ a ∧ a ≤ 73)) → M' a j = M a j) → ∃ i', (n - 1) + i' = 40 ∧ i' ≤ 31 ∧ nI (i + 1) = nI i' ∧ jenc (F.ps od (F.cB od) (F.cE od) (32 * m + i')) x y z ∧ AX M' F od ∧ TA M' 54 F od (F.cB od) (F.cE od) ∧ ∀ a j, ¬ ((35 ≤ a ∧ a ≤ 42) ∨ (64 ≤ a ∧ a ≤ 65) ∨ (69 ≤ a ∧ a ≤ 73)) → M' a j = M a j := fun x y z M' h1 h2 h3 h4 => ⟨i + 1, by omega, by omega, rfl, h1, h2, h3, h4⟩
    cases ht : F.tg od (F.cB od) (F.cE od) (32 * m + i) with
    | false =>
      rw [if_neg (show ¬ (false = true) by decide), if_pos rfl, Option.bind_some]
      exact ⟨_, rfl, Or.inl ⟨_, n - 1, rfl, by omega, go _ _ _ _ (by rw [ps_no ht]; exact he) hX hT hf⟩⟩
    | true =>
      obtain ⟨M39, e1, e2, e3, e4⟩ := jswapA (N := N) hX hm8 ei hN
      have hf39 : ∀ a j, ¬ ((35 ≤ a ∧ a ≤ 42) ∨ (64 ≤ a ∧ a ≤ 65) ∨ (69 ≤ a ∧ a ≤ 73)) → M39 a j = M a j := fun a j z => (e4 a j z).trans (hf a j z)
      have hT39 : TA M39 54 F od (F.cB od) (F.cE od) := ⟨(e4 _ _ (by omega)).trans hT.1, fun s hs => ⟨(e4 _ _ (by omega)).trans (hT.2 s hs).1, (e4 _ _ (by omega)).trans (hT.2 s hs).2.1, (e4 _ _ (by omega)).trans (hT.2 s hs).2.2⟩⟩
      rw [if_pos rfl, if_neg n10, e1, Option.bind_some]
      dsimp only
      cases hen : F.en (odX od m i) with
      | none =>
        rw [if_pos (show jopt none = -1 from rfl), Option.bind_some]
        exact ⟨_, rfl, Or.inl ⟨_, n - 1, rfl, by omega, go _ _ _ _ (by rw [ps_nd (by rw [k1, k2]; exact hen)]; exact he) e3 hT39 hf39⟩⟩
      | some e =>
        have he4 := e2 e hen
        have hps := (ps_in (F := F) (od := od) (b := F.cB od) (E := F.cE od) (32 * m + i)).1
        rw [show jopt (some e) = nI e from rfl, if_neg (jnm1 (by omega)), he.1]
        by_cases hl : e < (F.ps od (F.cB od) (F.cE od) (32 * m + i)).1
        · rw [if_neg (jleF hl (by omega)), Option.bind_some]
          refine ⟨_, rfl, Or.inl ⟨_, n - 1, rfl, by omega, go _ _ _ _ ?_ e3 hT39 hf39⟩⟩
          rw [ps_lt ht (by rw [k1, k2]; exact hen) hl]
          exact ⟨rfl, by rw [k1], by rw [k2]⟩
        · rw [if_pos (jleT (by omega) (by omega)), Option.bind_some]
          refine ⟨_, rfl, Or.inl ⟨_, n - 1, rfl, by omega, go _ _ _ _ ?_ e3 hT39 hf39⟩⟩
          rw [ps_ge ht (by rw [k1, k2]; exact hen) hl]
          exact ⟨rfl, he.2⟩
  · rw [if_pos (jleT (by omega) (by omega))]
    refine ⟨_, rfl, Or.inr ⟨_, rfl, ?_, hX, hT, hf⟩⟩
    have := ps_skip (F := F) (od := od) (b := F.cB od) (E := F.cE od) (32 * m + i) (32 - i) (fun k h1 h2 => by
      cases hk : F.tg od (F.cB od) (F.cE od) k with
      | false => rfl
      | true =>
        exfalso
        have h3 := tg_in hk
        have h4 : k / 32 = m := by omega
        rw [h4] at h3
        omega)
    rw [show 32 * m + i + (32 - i) = 32 * (m + 1) by omega] at this
    rw [this]
    exact he
theorem jshortA (hX : AX M F od) (hs : F.simp) (hd : F.day od) (hN : 100 ≤ N) : ∃ M1 v, f_X7_shorten N M = some (M1, v) ∧ ((F.nxt od = none ∧ v = 0 ∧ AX M1 F od) ∨ ∃ od', F.nxt od = some od' ∧ v = 1 ∧ AX M1 F od') ∧ ∀ a j, ¬ ((35 ≤ a ∧ a ≤ 42) ∨ (54 ≤ a ∧ a ≤ 56) ∨ (59 ≤ a ∧ a ≤ 65) ∨ (69 ≤ a ∧ a ≤ 73)) → M1 a j = M a j := by
  obtain ⟨hW, hO, -⟩ := id hX
  have hnm := hW.1.1
  have n10 : ¬ (1 : Int32) = 0 := by decide
  obtain ⟨M1, hX1, hf1, e1, hdy, hT⟩ := jhasX (N := N) hX hs hd hN
  have hle := dy_le hdy hW
  have hl : ∃ x, jLp (σ := Int32 × Int32 × Int32 × Int32 × JMem) (ρ := Int32 × Int32 × JMem) N (fun ((z9, z10, z11, z12, M13) : Int32 × Int32 × Int32 × Int32 × JMem) => (if (M13 1 0) ≤ z12 then some (Sum.inr (z10, z11, M13)) else ((jLp (σ := Int32 × Int32 × Int32 × Int32 × JMem) (ρ := Int32 × Int32 × Int32 × JMem) N (fun ((z23, z24, z25, z26, M27) : Int32 × Int32 × Int32 × Int32 × JMem) => (jrd M27 43 8 z12).bind fun v32 => (if v32 ≤ (z26 + 1) then some (Sum.inr (z23, z24, z25, M27)) else (f_X7_isTight M27 z12 z26).bind fun v33 => (((if v33 = 0 then some ((z23, z24, z25, M27)) else (f_X7_endBySwap N M27 z12 z26).bind fun (M39, v40) => (if v40 = ((-1)) then some ((z23, z24, z25, M39)) else (if z23 ≤ v40 then some ((z23, z24, z25, M39)) else some ((v40, z12, z26, M39))))) : Option (Int32 × Int32 × Int32 × JMem)).bind fun (u44, u45, u46, M47) => some (Sum.inl (u44, u45, u46, z26 + 1, M47))))) (z9, z10, z11, 0, M13)).bind fun (t28, t29, t30, t31) => some (Sum.inl (t28, t29, t30, z12 + 1, t31))))) (M1 54 4, (-1), (-1), 0, M1) = some x ∧ ((∃ w, jenc (F.ps od (F.cB od) (F.cE od) 256) w x.1 x.2.1) ∧ AX x.2.2 F od ∧ ∀ a j, ¬ ((35 ≤ a ∧ a ≤ 42) ∨ (64 ≤ a ∧ a ≤ 65) ∨ (69 ≤ a ∧ a ≤ 73)) → x.2.2 a j = M1 a j) := by
    refine jLp_tot (fun n z => ∃ m, n + m = F.nm ∧ z.2.2.2.1 = nI m ∧ jenc (F.ps od (F.cB od) (F.cE od) (32 * m)) z.1 z.2.1 z.2.2.1 ∧ AX z.2.2.2.2 F od ∧ TA z.2.2.2.2 54 F od (F.cB od) (F.cE od) ∧ ∀ a j, ¬ ((35 ≤ a ∧ a ≤ 42) ∨ (64 ≤ a ∧ a ≤ 65) ∨ (69 ≤ a ∧ a ≤ 73)) → z.2.2.2.2 a j = M1 a j) _ ?_ N F.nm (M1 54 4, (-1), (-1), 0, M1) (by omega) ⟨0, by omega, rfl, ⟨hT.1, rfl, rfl⟩, hX1, hT, fun _ _ _ => rfl⟩
    rintro n ⟨z9, z10, z11, z12, M13⟩ ⟨m, hn, hz, he, hX, hT, hf⟩
    dsimp only at hz he hX hT hf ⊢
    subst hz
    rw [hX.2.2.1.1]
    rcases Nat.eq_zero_or_pos n with en | en
    · rw [if_pos (jleT (by omega) (by omega))]
      refine ⟨_, rfl, Or.inr ⟨_, rfl, ⟨z9, ?_⟩, hX, hf⟩⟩
      have := ps_skip (F := F) (od := od) (b := F.cB od) (E := F.cE od) (32 * m) (256 - 32 * m) (fun k h1 h2 => by
        cases hk : F.tg od (F.cB od) (F.cE od) k with
        | false => rfl
        | true =>
          exfalso
          have h3 := tg_in hk
          omega)
      rw [show 32 * m + (256 - 32 * m) = 256 by omega] at this
      rw [this]
      exact he
    · rw [if_neg (jleF (by omega) (by omega))]
      obtain ⟨⟨x1, x2, x3, x4⟩, g1, g2, g3, g4, g5⟩ := jinA (N := N) hdy (show m < F.nm by omega) hX hT he hN
      dsimp only at g2 g3 g4 g5
      rw [g1, Option.bind_some]
      exact ⟨_, rfl, Or.inl ⟨_, n - 1, rfl, by omega, m + 1, by omega, nI_1 m, g2, g3, g4, fun a j z => (g5 a j z).trans (hf a j z)⟩⟩
  obtain ⟨⟨x1, x2, M3⟩, l1, ⟨w, l2⟩, l3, l4⟩ := hl
  dsimp only at l2 l3 l4
  unfold f_X7_shorten
  rw [e1, Option.bind_some]
  dsimp only
  rw [if_neg n10, l1, Option.bind_some]
  dsimp only
  cases hp : (F.ps od (F.cB od) (F.cE od) 256).2 with
  | none =>
    have l5 := l2.2
    rw [hp] at l5
    rw [l5.1, if_pos rfl]
    exact ⟨M3, 0, rfl, Or.inl ⟨by unfold FT.nxt; rw [hp]; rfl, rfl, l3⟩, fun a j z => (l4 a j (by omega)).trans (hf1 a j (by omega))⟩
  | some k =>
    have l5 := l2.2
    rw [hp] at l5
    obtain ⟨h1, h2, h3⟩ := (ps_in 256).2 k hp
    obtain ⟨t1, t2, t3⟩ := tg_in h2
    obtain ⟨M5, y1, y2, y3⟩ := jexA (m := k / 32) (i := k % 32) hW l3.2.2.2.1 (by omega) t3
    rw [l5.1, l5.2, if_neg (jnm1 (by omega)), y1, Option.bind_some]
    exact ⟨M5, 1, rfl, Or.inr ⟨_, by unfold FT.nxt; rw [hp]; rfl, rfl, hW, odX_wo hO t3, l3.2.2.1.fr hnm (fun a j _ _ => y3 a j (by omega)), y2, l3.2.2.2.2.1.fr (fun a j _ => y3 a j (by omega)), l3.2.2.2.2.2.fr (fun a j _ => y3 a j (by omega))⟩, fun a j z => by rw [y3 a j (by omega), l4 a j (by omega), hf1 a j (by omega)]⟩
end BT
