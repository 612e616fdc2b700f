/-! tails: what comes behind a step; the longest way behind it -/
def jopt : Option Nat → Int32
  | none => -1
  | some t => nI t
def jfnd (f : Nat → Nat) (s : Nat) : Nat → Nat
  | 0 => 0
  | n + 1 => if f n = s then n else jfnd f s n
theorem jfnd_eq {f : Nat → Nat} {s i : Nat} (hs : f i = s) : ∀ n, i < n → (∀ j, j < n → f j = s → j = i) → jfnd f s n = i
  | 0, h, _ => absurd h (Nat.not_lt_zero i)
  | n + 1, h, hu => by
    show (if f n = s then n else jfnd f s n) = i
    by_cases e : f n = s
    · rw [if_pos e]
      exact hu n (by omega) e
    · rw [if_neg e]
      refine jfnd_eq hs n ?_ (fun j hj => hu j (by omega))
      rcases Nat.lt_succ_iff_lt_or_eq.mp h with z | z
      · exact z
      · rw [z] at hs
        exact absurd hs e
/-- a step's place in its row -/
def FT.pl (F : FT) (od : Nat → Nat → Nat) (s : Nat) : Nat := jfnd (od (F.mc s)) s (F.oc (F.mc s))
theorem pl_eq {F : FT} {od : Nat → Nat → Nat} (hO : WO F od) {s i : Nat} (hi : i < F.oc (F.mc s)) (hoi : od (F.mc s) i = s) : F.pl od s = i :=
  jfnd_eq hoi _ hi (fun j hj e => hO.2.1 _ j i hj hi (by rw [e, hoi]))
theorem pl_at {F : FT} {od : Nat → Nat → Nat} (hO : WO F od) {s : Nat} (hs : s < F.ns) : F.pl od s < F.oc (F.mc s) ∧ od (F.mc s) (F.pl od s) = s := by
  obtain ⟨i, hi, hoi⟩ := hO.2.2 s hs
  rw [pl_eq hO hi hoi]
  exact ⟨hi, hoi⟩
def FT.bh (F : FT) (s : Nat) : Option Nat := if F.rk s + 1 < F.lc (F.pc s) then some (F.ln (F.pc s) (F.rk s + 1)) else none
def FT.nx (F : FT) (od : Nat → Nat → Nat) (s : Nat) : Option Nat := if F.kd (F.mc s) = 0 ∧ F.pl od s + 1 < F.oc (F.mc s) then some (od (F.mc s) (F.pl od s + 1)) else none
def FT.jlen (F : FT) (tl : Nat → Nat) : Option Nat → Nat
  | none => 0
  | some t => F.sp t + tl t
def FT.tlF (F : FT) (od : Nat → Nat → Nat) : Nat → Nat → Nat
  | 0, _ => 0
  | n + 1, s => max (F.jlen (FT.tlF F od n) (F.bh s)) (F.jlen (FT.tlF F od n) (F.nx od s))
def FT.tl (F : FT) (od : Nat → Nat → Nat) : Nat → Nat := F.tlF od F.ns
section TL
variable {M : JMem} {N o : Nat} {F : FT} {od : Nat → Nat → Nat} {P : Nat → Bool} {b : Nat → Nat} {E B : Nat} {q lp lm : Nat → Nat}
theorem bh_pre (hW : WF F) {s t : Nat} (hs : s < F.ns) (h : F.bh s = some t) : t < F.ns ∧ F.pre od s t ∧ F.rk t ≠ 0 ∧ F.ln (F.pc t) (F.rk t - 1) = s := by
  unfold FT.bh at h
  by_cases e : F.rk s + 1 < F.lc (F.pc s)
  · rw [if_pos e] at h
    obtain ⟨a1, a2, a3⟩ := hW.2.1.2.2.2 (F.pc s) (F.rk s + 1) e
    have h2 := Option.some.inj h
    rw [h2] at a1 a2 a3
    have h3 : F.ln (F.pc t) (F.rk t - 1) = s := by
      rw [a2, a3, Nat.add_sub_cancel]
      exact (hW.2.2.1.2 s hs).2.2.2.2.2
    exact ⟨a1, Or.inl ⟨by omega, h3.symm⟩, by omega, h3⟩
  · rw [if_neg e] at h
    cases h
theorem nx_pre (hO : WO F od) {s t : Nat} (hs : s < F.ns) (h : F.nx od s = some t) : t < F.ns ∧ F.pre od s t ∧ F.mc t = F.mc s ∧ F.kd (F.mc s) = 0 ∧ F.pl od s + 1 < F.oc (F.mc s) ∧ od (F.mc s) (F.pl od s + 1) = t := by
  unfold FT.nx at h
  by_cases e : F.kd (F.mc s) = 0 ∧ F.pl od s + 1 < F.oc (F.mc s)
  · rw [if_pos e] at h
    obtain ⟨a1, a2⟩ := hO.1 _ _ e.2
    have h2 := Option.some.inj h
    rw [h2] at a1 a2
    refine ⟨a1, Or.inr ⟨by rw [a2]; omega, F.pl od s + 1, F.pl od s, by rw [a2]; exact e.2, by rw [a2]; exact h2, by omega, by rw [a2]; exact (pl_at hO hs).2.symm⟩, a2, e.1, e.2, h2⟩
  · rw [if_neg e] at h
    cases h
theorem tl_le (hW : WF F) (hO : WO F od) : ∀ n s, s < F.ns → F.tlF od n s ≤ 1000 * n
  | 0, _, _ => Nat.le_refl _
  | n + 1, s, hs => by
    have key : ∀ x : Option Nat, (∀ t, x = some t → t < F.ns) → F.jlen (F.tlF od n) x ≤ 1000 * n + 1000 := by
      intro x hx
      cases x with
      | none => exact Nat.zero_le _
      | some t =>
        have h1 := hx t rfl
        have h2 := tl_le hW hO n t h1
        have h3 := (hW.2.2.1.2 t h1).2.2.2.1
        show F.sp t + F.tlF od n t ≤ _
        omega
    show max _ _ ≤ _
    have k1 := key (F.bh s) (fun t ht => (bh_pre (od := od) hW hs ht).1)
    have k2 := key (F.nx od s) (fun t ht => (nx_pre hO hs ht).1)
    omega
theorem tl_stab (hW : WF F) (hO : WO F od) (hq : ∀ k, k < F.ns → q k < F.ns ∧ ∀ t, F.pre od t (q k) → ∃ j, j < k ∧ q j = t) (hqi : ∀ i j, i < F.ns → j < F.ns → q i = q j → i = j) (hqs : ∀ s, s < F.ns → ∃ k, k < F.ns ∧ q k = s) : ∀ n k, k < F.ns → F.ns ≤ n + k → F.tlF od n (q k) = F.tlF od (n + 1) (q k)
  | 0, k, hk, h => absurd hk (by omega)
  | n + 1, k, hk, h => by
    have key : ∀ x : Option Nat, (∀ t, x = some t → t < F.ns ∧ F.pre od (q k) t) → F.jlen (F.tlF od n) x = F.jlen (F.tlF od (n + 1)) x := by
      intro x hx
      cases x with
      | none => rfl
      | some t =>
        obtain ⟨h1, h2⟩ := hx t rfl
        obtain ⟨k', hk', rfl⟩ := hqs t h1
        obtain ⟨j, hj, e⟩ := (hq k' hk').2 _ h2
        have e2 := hqi j k (by omega) hk e
        show F.sp (q k') + F.tlF od n (q k') = F.sp (q k') + F.tlF od (n + 1) (q k')
        rw [tl_stab hW hO hq hqi hqs n k' hk' (by omega)]
    show max _ _ = max _ _
    rw [key (F.bh (q k)) (fun t ht => ⟨(bh_pre (od := od) hW (hq k hk).1 ht).1, (bh_pre hW (hq k hk).1 ht).2.1⟩), key (F.nx od (q k)) (fun t ht => ⟨(nx_pre hO (hq k hk).1 ht).1, (nx_pre hO (hq k hk).1 ht).2.1⟩)]
theorem tl_eqn (hW : WF F) (hO : WO F od) (hq : ∀ k, k < F.ns → q k < F.ns ∧ ∀ t, F.pre od t (q k) → ∃ j, j < k ∧ q j = t) (hqi : ∀ i j, i < F.ns → j < F.ns → q i = q j → i = j) (hqs : ∀ s, s < F.ns → ∃ k, k < F.ns ∧ q k = s) {s : Nat} (hs : s < F.ns) : F.tl od s = max (F.jlen (F.tl od) (F.bh s)) (F.jlen (F.tl od) (F.nx od s)) := by
  obtain ⟨k, hk, rfl⟩ := hqs s hs
  exact tl_stab hW hO hq hqi hqs F.ns k hk (by omega)
theorem jbhA (hW : WF F) (hA : AF M F) {s : Nat} (hs : s < F.ns) : f_X2_behindInPiece M (nI s) = some (jopt (F.bh s)) := by
  obtain ⟨p1, p2, p3, p4, p5, p6⟩ := hW.2.2.1.2 s hs
  obtain ⟨a1, a2, a3, a4⟩ := hA.2.2.2.2.2.2.2.1 s hs
  have hns := hW.2.2.1.1
  have hp12 : F.pc s < 12 := Nat.lt_of_lt_of_le p1 hW.2.1.1
  have hlc := hW.2.1.2.2.1 (F.pc s)
  unfold f_X2_behindInPiece FT.bh
  rw [jrd_nI (by omega) (by decide), Option.bind_some, jrd_nI (by omega) (by decide), Option.bind_some, a1, a4, jrd_nI hp12 (by decide), Option.bind_some, hA.2.2.2.2.2.1 _ hp12, nI_1]
  by_cases e : F.rk s + 1 < F.lc (F.pc s)
  · rw [if_neg (jleF e (by omega)), if_pos e, jrw_nI hp12 (by decide), Option.bind_some, jrd_nI (show F.rk s + 1 < 8 by omega) (by decide), Option.bind_some, hA.2.2.2.2.2.2.1 _ _ hp12 e]
    rfl
  · rw [if_pos (jleT (by omega) (by omega)), if_neg e]
    rfl
theorem jbhB (hW : WF F) (hB : BF M F) {s : Nat} (hs : s < F.ns) : f_X8_behind M (nI s) = some (jopt (F.bh s)) := by
  obtain ⟨p1, p2, p3, p4, p5, p6⟩ := hW.2.2.1.2 s hs
  obtain ⟨a1, a2, a3, a4⟩ := hB.2.2.2.2.2.2.2 s hs
  have hns := hW.2.2.1.1
  have hp12 : F.pc s < 12 := Nat.lt_of_lt_of_le p1 hW.2.1.1
  have hlc := hW.2.1.2.2.1 (F.pc s)
  unfold f_X8_behind FT.bh
  rw [jrd_nI (by omega) (by decide), Option.bind_some, jrd_nI (by omega) (by decide), Option.bind_some, a1, a4, jrd_nI hp12 (by decide), Option.bind_some, hB.2.2.2.2.2.1 _ p1, nI_1]
  by_cases e : F.rk s + 1 < F.lc (F.pc s)
  · rw [if_neg (jeqF (by omega) (by omega) (by omega)), if_pos e, Option.bind_some, Option.bind_some, jmul8, nI_add, nI_1, jrd_nI (show 8 * F.pc s + F.rk s + 1 < 96 by omega) (by decide), Option.bind_some, show 8 * F.pc s + F.rk s + 1 = 8 * F.pc s + (F.rk s + 1) by omega, hB.2.2.2.2.2.2.1 _ _ hp12 e]
    rfl
  · rw [if_pos (by rw [show F.rk s + 1 = F.lc (F.pc s) by omega]), if_neg e]
    rfl
theorem jnxB (hEB : EB M F od) {s : Nat} (hs : s < F.ns) (hN : 100 ≤ N) : f_X8_next N M (nI s) = some (jopt (F.nx od s)) := by
  obtain ⟨hW, hO, hB, hBO⟩ := id hEB
  obtain ⟨p1, p2, p3, p4, p5, p6⟩ := hW.2.2.1.2 s hs
  obtain ⟨a1, a2, a3, a4⟩ := hB.2.2.2.2.2.2.2 s hs
  have hns := hW.2.2.1.1
  have hm8 : F.mc s < 8 := Nat.lt_of_lt_of_le p2 hW.1.1
  obtain ⟨hi, hoi⟩ := pl_at hO hs
  have hoc := oc_le hW (F.mc s)
  have hk := (hW.1.2 _ p2).1
  unfold f_X8_next FT.nx
  rw [jrd_nI (by omega) (by decide), Option.bind_some, a2, hEB.place hs hi hoi hN, Option.bind_some, jrd_nI hm8 (by decide), Option.bind_some, (hB.2.2.2.1 _ p2).1]
  by_cases e1 : F.kd (F.mc s) = 0
  · rw [if_pos (by rw [e1]; rfl), jrd_nI hm8 (by decide), Option.bind_some, hBO.1 _ hm8, nI_1]
    by_cases e2 : F.pl od s + 1 < F.oc (F.mc s)
    · rw [if_neg (jleF e2 (by omega)), if_pos ⟨e1, e2⟩, jmul32, nI_add, nI_1, jrd_nI (show 32 * F.mc s + F.pl od s + 1 < 256 by omega) (by decide), Option.bind_some, show 32 * F.mc s + F.pl od s + 1 = 32 * F.mc s + (F.pl od s + 1) by omega, hBO.2 _ _ hm8 e2]
      rfl
    · rw [if_pos (jleT (by omega) (by omega)), if_neg (fun z => e2 z.2)]
      rfl
  · rw [if_neg (by rw [jeqL (by omega) (by decide)]; exact e1), if_neg (fun z => e1 z.1)]
    rfl
theorem jlenA (hA : AF M F) {tl : Nat → Nat} {x : Option Nat} (hns : F.ns ≤ 32) (h : ∀ t, x = some t → t < F.ns ∧ M (o + 2) t = nI (tl t)) : f_X1_lengthFrom M o (jopt x) = some (nI (F.jlen tl x)) := by
  unfold f_X1_lengthFrom
  cases x with
  | none => rw [if_pos (show jopt none = -1 from rfl)]; rfl
  | some t =>
    obtain ⟨h1, h2⟩ := h t rfl
    show (if nI t = -1 then some 0 else _) = some (nI (F.sp t + tl t))
    rw [if_neg (jnm1 (by omega)), show jopt (some t) = nI t from rfl, jrd_nI (by omega) (by decide), Option.bind_some, jrd_nI (by omega) (by decide), Option.bind_some, (hA.2.2.2.2.2.2.2.1 t h1).2.2.1, h2, nI_add]
/-- the class's tails -/
theorem jtailsA (hW : WF F) (hO : WO F od) (hA : AF M F) (ho : 43 < o) (h6 : M o 6 = nI F.ns) (hq : ∀ k, k < F.ns → M (o + 5) k = nI (q k) ∧ q k < F.ns ∧ ∀ t, F.pre od t (q k) → ∃ j, j < k ∧ q j = t) (hqi : ∀ i j, i < F.ns → j < F.ns → q i = q j → i = j) (hqs : ∀ s, s < F.ns → ∃ k, k < F.ns ∧ q k = s) (hb : ∀ s, s < F.ns → M (o + 6) s = jopt (F.nx od s)) (hN : 100 ≤ N) : ∃ M1, f_X1_findTails N M o = some M1 ∧ (∀ s, s < F.ns → M1 (o + 2) s = nI (F.tl od s)) ∧ ∀ a i, a ≠ o + 2 → M1 a i = M a i := by
  have hns := hW.2.2.1.1
  have heq := fun s (hs : s < F.ns) => tl_eqn hW hO (fun k hk => (hq k hk).2) hqi hqs hs
  have htl := fun s (hs : s < F.ns) => tl_le hW hO F.ns s hs
  have hl : ∃ x, jLp (σ := Int32 × JMem) (ρ := JMem) N (fun ((z7, M8) : Int32 × JMem) => (if z7 < 0 then some (Sum.inr M8) else (jrd M8 (o + 5) 32 z7).bind fun v10 => (f_X2_behindInPiece M8 v10).bind fun v11 => (f_X1_lengthFrom M8 o v11).bind fun v12 => (jrd M8 (o + 6) 32 v10).bind fun v13 => (f_X1_lengthFrom M8 o v13).bind fun v14 => (jwr M8 (o + 2) 32 v10 (jmax v12 v14)).bind fun M15 => some (Sum.inl (z7 + (-1), M15)))) (nI F.ns - 1, M) = some x ∧ ((∀ j, j < F.ns → x (o + 2) (q j) = nI (F.tl od (q j))) ∧ ∀ a i, a ≠ o + 2 → x a i = M a i) := by
    refine jLp_tot (fun (n : Nat) (z : Int32 × JMem) => n ≤ F.ns ∧ z.1 = nI n - 1 ∧ (∀ j, n ≤ j → j < F.ns → z.2 (o + 2) (q j) = nI (F.tl od (q j))) ∧ ∀ a i, a ≠ o + 2 → z.2 a i = M a i) _ ?_ N F.ns (nI F.ns - 1, M) (by omega) ⟨Nat.le_refl _, rfl, fun j h1 h2 => by omega, fun _ _ _ => rfl⟩
    rintro n ⟨z7, M8⟩ ⟨hn, hz, hp, hf⟩
    dsimp only at hz hp hf ⊢
    subst hz
    rcases Nat.eq_zero_or_pos n with en | en
    · rw [if_pos ((jm1lt (by omega)).mpr en)]
      exact ⟨_, rfl, Or.inr ⟨_, rfl, fun j hj => hp j (by omega) hj, hf⟩⟩
    · obtain ⟨c1, c2, c3⟩ := hq (n - 1) (by omega)
      have hA8 : AF M8 F := hA.fr hW.1.1 (fun a i _ _ => hf a i (by omega))
      have suc : ∀ x : Option Nat, (∀ t, x = some t → t < F.ns ∧ F.pre od (q (n - 1)) t) → ∀ t, x = some t → t < F.ns ∧ M8 (o + 2) t = nI (F.tl od t) := by
        intro x hx t ht
        obtain ⟨h1, h2⟩ := hx t ht
        obtain ⟨k', hk', rfl⟩ := hqs t h1
        obtain ⟨j, hj, e⟩ := (hq k' hk').2.2 _ h2
        have e2 := hqi j (n - 1) (by omega) (by omega) e
        exact ⟨h1, hp k' (by omega) hk'⟩
      have l1 := jlenA (o := o) (x := F.bh (q (n - 1))) hA8 hns (suc _ (fun t ht => ⟨(bh_pre (od := od) hW c2 ht).1, (bh_pre hW c2 ht).2.1⟩))
      have l2 := jlenA (o := o) (x := F.nx od (q (n - 1))) hA8 hns (suc _ (fun t ht => ⟨(nx_pre hO c2 ht).1, (nx_pre hO c2 ht).2.1⟩))
      have e0 := heq (q (n - 1)) c2
      have e1 := htl (q (n - 1)) c2
      have e2 : F.tl od (q (n - 1)) = F.tlF od F.ns (q (n - 1)) := rfl
      rw [if_neg (fun z => by have := (jm1lt (by omega)).mp z; omega), jsub1 en, jrd_nI (show n - 1 < 32 by omega) (by decide), Option.bind_some, hf _ _ (by omega), c1, jbhA hW hA8 c2, Option.bind_some, l1, Option.bind_some, jrd_nI (show q (n - 1) < 32 by omega) (by decide), Option.bind_some, hf _ _ (by omega), hb _ c2, l2, Option.bind_some, jmaxN (by omega) (by omega), ← e0, jwr_nI (show q (n - 1) < 32 by omega) (by decide), Option.bind_some]
      refine ⟨_, rfl, Or.inl ⟨_, n - 1, rfl, by omega, by omega, jpm1 en, fun j h1 h2 => ?_, fun a i ha => ?_⟩⟩
      · show jup M8 (o + 2) (q (n - 1)) _ (o + 2) (q j) = _
        rw [jup_at]
        by_cases e : q j = q (n - 1)
        · rw [if_pos ⟨rfl, e⟩, e]
        · rw [if_neg (fun z => e z.2)]
          refine hp j ?_ h2
          rcases Nat.lt_or_ge j n with z | z
          · exact absurd (by rw [show j = n - 1 by omega]) e
          · exact z
      · show jup M8 (o + 2) (q (n - 1)) _ a i = _
        rw [jup_ne ha]
        exact hf a i ha
  obtain ⟨x, e1, e2, e3⟩ := hl
  refine ⟨x, ?_, fun s hs => ?_, e3⟩
  · unfold f_X1_findTails
    rw [h6, e1, Option.bind_some]
  · obtain ⟨k, hk, rfl⟩ := hqs s hs
    exact e2 k hk
/-- what comes behind begins behind its end -/
theorem suc_b (hW : WF F) (hO : WO F od) (h : F.snd od (fun _ => none) (fun _ => 0) B P b) (hP : ∀ s, s < F.ns → P s = true) {s t : Nat} (hs : s < F.ns) (ht : F.bh s = some t ∨ F.nx od s = some t) : t < F.ns ∧ b s + F.sp s ≤ b t := by
  rcases ht with ht | ht
  · obtain ⟨a1, a2, a3, a4⟩ := bh_pre (od := od) hW hs ht
    obtain ⟨i, hi, hoi⟩ := hO.2.2 t a1
    have e := (h t a1 (hP t a1)).2.1 i hi hoi
    refine ⟨a1, ?_⟩
    rw [e]
    show _ ≤ max 0 (max (F.ea b t) _)
    have e2 : F.ea b t = b s + F.sp s := by
      unfold FT.ea
      rw [if_neg a3, a4]
    omega
  · obtain ⟨a1, a2, a3, a4, a5, a6⟩ := nx_pre hO hs ht
    have e := (h t a1 (hP t a1)).2.1 (F.pl od s + 1) (by rw [a3]; exact a5) (by rw [a3]; exact a6)
    refine ⟨a1, ?_⟩
    rw [e]
    show _ ≤ max 0 (max _ (F.fo b (od (F.mc t)) (F.pl od s + 1) t))
    have e2 : F.fo b (od (F.mc t)) (F.pl od s + 1) t = b s + F.sp s + F.gap s t := by
      rw [fo_o (by omega) (by rw [a3]; omega) (by rw [a3]; omega), Nat.add_sub_cancel, a3, (pl_at hO hs).2]
    omega
theorem jlenB (hB : BF M F) {tl : Nat → Nat} {x : Option Nat} (hns : F.ns ≤ 32) (h : ∀ t, x = some t → t < F.ns ∧ M 240 t = nI (tl t)) : ((if 0 ≤ jopt x then (jrd M 229 32 (jopt x)).bind fun v55 => (jrd M 240 32 (jopt x)).bind fun v56 => some ((v55 + v56)) else some (0)) : Option (Int32)) = some (nI (F.jlen tl x)) := by
  cases x with
  | none => rw [if_neg (show ¬ (0 : Int32) ≤ jopt none by decide)]; rfl
  | some t =>
    obtain ⟨h1, h2⟩ := h t rfl
    show (if 0 ≤ nI t then _ else _) = some (nI (F.sp t + tl t))
    rw [if_pos (jle0 (by omega)), show jopt (some t) = nI t from rfl, jrd_nI (by omega) (by decide), Option.bind_some, jrd_nI (by omega) (by decide), Option.bind_some, (hB.2.2.2.2.2.2.2 t h1).2.2.1, h2, nI_add]
/-- the model's tails -/
theorem jtailsB (hEB : EB M F od) (h : F.snd od (fun _ => none) (fun _ => 0) B P b) (hB0 : B ≤ 1000) (hP : ∀ s, s < F.ns → P s = true) (heq : ∀ s, s < F.ns → F.tl od s = max (F.jlen (F.tl od) (F.bh s)) (F.jlen (F.tl od) (F.nx od s))) (hb : ∀ s, s < F.ns → M 237 s = nI (b s)) (hN : 100 ≤ N) : ∃ M1, f_X8_workTails N M = some M1 ∧ (∀ s, s < F.ns → M1 240 s = nI (F.tl od s)) ∧ ∀ a i, ¬ (a = 238 ∨ a = 240) → M1 a i = M a i := by
  obtain ⟨hW, hO, hB, hBO⟩ := id hEB
  have hns := hW.2.2.1.1
  have htl := fun s (hs : s < F.ns) => tl_le hW hO F.ns s hs
  have hbb : ∀ s, s < F.ns → b s ≤ 40000 := fun s hs => by
    have h1 := (h s hs (hP s hs)).2.2.1
    have h2 := fb_ct_le P F.ns
    omega
  obtain ⟨t9, z1, z2, z3⟩ := jzeroB (n := 0) (N := N) hns hB.2.2.1 hN
  have hl : ∃ x, jLp (σ := Int32 × JMem) (ρ := JMem) N (fun ((z18, M19) : Int32 × JMem) => (if (M19 221 11) ≤ z18 then some (Sum.inr M19) else ((jLp (σ := Int32 × Int32) (ρ := Int32) N (fun ((z27, z28) : Int32 × Int32) => (if (M19 221 11) ≤ z28 then some (Sum.inr z27) else (jrd M19 238 32 z28).bind fun v30 => (((if v30 = 0 then (jcase (α := Int32) (β := Unit) (if z27 < 0 then some (Sum.inr ()) else (jrd M19 237 32 z28).bind fun v41 => (jrd M19 237 32 z27).bind fun v42 => (if v41 ≤ v42 then some (Sum.inl (z27)) else some (Sum.inr ()))) fun _ => some (z28)) else some (z27)) : Option (Int32)).bind fun u46 => some (Sum.inl (u46, z28 + 1))))) ((-1), 0)).bind fun t29 => (f_X8_behind M19 t29).bind fun v48 => (f_X8_next N M19 t29).bind fun v49 => (((if 0 ≤ v48 then (jrd M19 229 32 v48).bind fun v55 => (jrd M19 240 32 v48).bind fun v56 => some ((v55 + v56)) else some (0)) : Option (Int32)).bind fun u58 => (((if 0 ≤ v49 then (jrd M19 229 32 v49).bind fun v64 => (jrd M19 240 32 v49).bind fun v65 => some ((v64 + v65)) else some (0)) : Option (Int32)).bind fun u67 => (((if u58 ≤ u67 then some (u67) else some (u58)) : Option (Int32)).bind fun u74 => (jwr M19 240 32 t29 u74).bind fun M75 => (jwr M75 238 32 t29 1).bind fun M76 => some (Sum.inl (z18 + 1, M76)))))))) (0, t9) = some x ∧ ((∀ s, s < F.ns → x 240 s = nI (F.tl od s)) ∧ ∀ a i, ¬ (a = 238 ∨ a = 240) → x a i = M a i) := by
    refine jLp_tot (fun n z => ∃ (k : Nat) (Q : Nat → Bool), n + k = F.ns ∧ z.1 = nI k ∧ fb_ct Q F.ns = k ∧ (∀ s, s < F.ns → z.2 238 s = if Q s = true then 1 else 0) ∧ (∀ s, s < F.ns → Q s = true → z.2 240 s = nI (F.tl od s)) ∧ ∀ a i, ¬ (a = 238 ∨ a = 240) → z.2 a i = M a i) _ ?_ N F.ns (0, t9) (by omega) ⟨0, fun _ => false, by omega, rfl, fb_ct_zero.mpr (fun _ _ => rfl), fun s hs => z2 s hs, fun s hs z => (by cases z), fun a i z => z3 a i (by omega)⟩
    rintro n ⟨z18, M19⟩ ⟨k, Q, hn, hz, hct, hQ, hT, hf⟩
    dsimp only at hz hQ hT hf ⊢
    subst hz
    have hE19 : EB M19 F od := ⟨hW, hO, hB.fr ⟨hf _ _ (by omega), hf _ _ (by omega), hf _ _ (by omega)⟩ (fun a i _ _ => hf a i (by omega)), hBO.fr (fun a i _ _ => hf a i (by omega))⟩
    have e11 : M19 221 11 = nI F.ns := hE19.2.2.1.2.2.1
    rw [e11]
    rcases Nat.eq_zero_or_pos n with en | en
    · rw [if_pos (jleT (by omega) (by omega))]
      exact ⟨_, rfl, Or.inr ⟨_, rfl, fun s hs => hT s hs (fb_ct_all.mp (by omega) s hs), hf⟩⟩
    · rw [if_neg (jleF (by omega) (by omega))]
      have b19 : ∀ s, s < F.ns → M19 237 s = nI (b s) := fun s hs => by rw [hf _ _ (by omega)]; exact hb s hs
      have inner : ∃ x, jLp (σ := Int32 × Int32) (ρ := Int32) N (fun ((z27, z28) : Int32 × Int32) => (if nI F.ns ≤ z28 then some (Sum.inr z27) else (jrd M19 238 32 z28).bind fun v30 => (((if v30 = 0 then (jcase (α := Int32) (β := Unit) (if z27 < 0 then some (Sum.inr ()) else (jrd M19 237 32 z28).bind fun v41 => (jrd M19 237 32 z27).bind fun v42 => (if v41 ≤ v42 then some (Sum.inl (z27)) else some (Sum.inr ()))) fun _ => some (z28)) else some (z27)) : Option (Int32)).bind fun u46 => some (Sum.inl (u46, z28 + 1))))) ((-1), 0) = some x ∧ ∃ s, x = nI s ∧ s < F.ns ∧ Q s = false ∧ ∀ k', k' < F.ns → Q k' = false → b k' ≤ b s := by
        have ex : ∃ s0, s0 < F.ns ∧ Q s0 = false := by
          rcases Classical.em (∃ s0, s0 < F.ns ∧ Q s0 = false) with z | z
          · exact z
          · exfalso
            have : fb_ct Q F.ns = F.ns := fb_ct_all.mpr (fun s hs => by
              cases e : Q s with
              | true => rfl
              | false => exact absurd ⟨s, hs, e⟩ z)
            omega
        obtain ⟨s0, hs0, hQ0⟩ := ex
        refine jLp_tot (fun m z => ∃ j, m + j = F.ns ∧ z.2 = nI j ∧ ((z.1 = -1 ∧ ∀ k', k' < j → Q k' = true) ∨ ∃ s, z.1 = nI s ∧ s < F.ns ∧ Q s = false ∧ ∀ k', k' < j → Q k' = false → b k' ≤ b s)) _ ?_ N F.ns (-1, 0) (by omega) ⟨0, by omega, rfl, Or.inl ⟨rfl, fun k' hk' => absurd hk' (Nat.not_lt_zero k')⟩⟩
        rintro m ⟨y1, y2⟩ ⟨j, hm, hy, hst⟩
        dsimp only at hy hst ⊢
        subst hy
        rcases Nat.eq_zero_or_pos m with em | em
        · rw [if_pos (jleT (by omega) (by omega))]
          refine ⟨_, rfl, Or.inr ⟨_, rfl, ?_⟩⟩
          rcases hst with ⟨-, h2⟩ | ⟨s, h1, h2, h3, h4⟩
          · have := h2 s0 (by omega)
            rw [hQ0] at this
            cases this
          · exact ⟨s, h1, h2, h3, fun k' hk' => h4 k' (by omega)⟩
        · rw [if_neg (jleF (by omega) (by omega)), jrd_nI (show j < 32 by omega) (by decide), Option.bind_some, hQ j (by omega)]
          cases eQ : Q j with
          | true =>
            rw [if_pos rfl, if_neg (show ¬ (1 : Int32) = 0 by decide), Option.bind_some]
            refine ⟨_, rfl, Or.inl ⟨_, m - 1, rfl, by omega, j + 1, by omega, nI_1 j, ?_⟩⟩
            rcases hst with ⟨h1, h2⟩ | ⟨s, h1, h2, h3, h4⟩
            · refine Or.inl ⟨h1, fun k' hk' => ?_⟩
              rcases Nat.lt_succ_iff_lt_or_eq.mp hk' with z | z
              · exact h2 k' z
              · rw [z]
                exact eQ
            · refine Or.inr ⟨s, h1, h2, h3, fun k' hk' z2 => ?_⟩
              rcases Nat.lt_succ_iff_lt_or_eq.mp hk' with z | z
              · exact h4 k' z z2
              · rw [z, eQ] at z2
                cases z2
          | false =>
            rw [if_neg (show ¬ (false = true) by decide), if_pos rfl]
            rcases hst with ⟨rfl, h2⟩ | ⟨s, rfl, h2, h3, h4⟩
            · rw [if_pos (by decide), jcR, Option.bind_some]
              refine ⟨_, rfl, Or.inl ⟨_, m - 1, rfl, by omega, j + 1, by omega, nI_1 j, Or.inr ⟨j, rfl, by omega, eQ, fun k' hk' z2 => ?_⟩⟩⟩
              rcases Nat.lt_succ_iff_lt_or_eq.mp hk' with z | z
              · rw [h2 k' z] at z2
                cases z2
              · rw [z]
                exact Nat.le_refl _
            · have hb1 := hbb s h2
              have hb2 := hbb j (by omega)
              rw [if_neg (jnlt0 (by omega)), jrd_nI (show j < 32 by omega) (by decide), Option.bind_some, jrd_nI (show s < 32 by omega) (by decide), Option.bind_some, b19 j (by omega), b19 s h2]
              by_cases e : b j ≤ b s
              · rw [if_pos (jleT e (by omega)), jcL, Option.bind_some]
                refine ⟨_, rfl, Or.inl ⟨_, m - 1, rfl, by omega, j + 1, by omega, nI_1 j, Or.inr ⟨s, rfl, h2, h3, fun k' hk' z2 => ?_⟩⟩⟩
                rcases Nat.lt_succ_iff_lt_or_eq.mp hk' with z | z
                · exact h4 k' z z2
                · rw [z]
                  exact e
              · rw [if_neg (jleF (by omega) (by omega)), jcR, Option.bind_some]
                refine ⟨_, rfl, Or.inl ⟨_, m - 1, rfl, by omega, j + 1, by omega, nI_1 j, Or.inr ⟨j, rfl, by omega, eQ, fun k' hk' z2 => ?_⟩⟩⟩
                rcases Nat.lt_succ_iff_lt_or_eq.mp hk' with z | z
                · exact Nat.le_trans (h4 k' z z2) (by omega)
                · rw [z]
                  exact Nat.le_refl _
      obtain ⟨x, i1, s, rfl, hs, hQs, hmax⟩ := inner
      have sp1 := (hW.2.2.1.2 s hs).2.2.1
      have suc : ∀ x : Option Nat, (x = F.bh s ∨ x = F.nx od s) → ∀ t, x = some t → t < F.ns ∧ M19 240 t = nI (F.tl od t) := by
        intro x hx t ht
        have h1 := suc_b (t := t) hW hO h hP hs (by rcases hx with rfl | rfl; exact Or.inl ht; exact Or.inr ht)
        refine ⟨h1.1, hT t h1.1 ?_⟩
        cases e : Q t with
        | true => rfl
        | false =>
          have := hmax t h1.1 e
          omega
      have l1 := jlenB hE19.2.2.1 hns (suc (F.bh s) (Or.inl rfl))
      have l2 := jlenB hE19.2.2.1 hns (suc (F.nx od s) (Or.inr rfl))
      have e0 := heq s hs
      have e1 := htl s hs
      have e2 : F.tl od s = F.tlF od F.ns s := rfl
      have s32 : s < 32 := by omega
      have hu : ((if nI (F.jlen (F.tl od) (F.bh s)) ≤ nI (F.jlen (F.tl od) (F.nx od s)) then some (nI (F.jlen (F.tl od) (F.nx od s))) else some (nI (F.jlen (F.tl od) (F.bh s)))) : Option Int32) = some (nI (F.tl od s)) := by
        rw [e0]
        by_cases z : F.jlen (F.tl od) (F.bh s) ≤ F.jlen (F.tl od) (F.nx od s)
        · rw [if_pos (jleT z (by omega)), Nat.max_eq_right z]
        · rw [if_neg (jleF (by omega) (by omega)), Nat.max_eq_left (by omega)]
      rw [i1, Option.bind_some, jbhB hW hE19.2.2.1 hs, Option.bind_some, jnxB hE19 hs hN, Option.bind_some, l1, Option.bind_some, l2, Option.bind_some, hu, Option.bind_some, jwr_nI s32 (by decide), Option.bind_some, jwr_nI s32 (by decide), Option.bind_some]
      refine ⟨_, rfl, Or.inl ⟨_, n - 1, rfl, by omega, k + 1, addB Q s, by omega, nI_1 k, by rw [addB_ct hs hQs, hct], fun u hu => ?_, fun u hu hQu => ?_, fun a i z => ?_⟩⟩
      · show jup (jup M19 240 s (nI (F.tl od s))) 238 s 1 238 u = if (if u = s then true else Q u) = true then 1 else 0
        rw [jup_at]
        by_cases e : u = s
        · rw [if_pos ⟨rfl, e⟩, if_pos e, if_pos rfl]
        · rw [if_neg (fun z => e z.2), if_neg e, jup_ne (by decide)]
          exact hQ u hu
      · show jup (jup M19 240 s (nI (F.tl od s))) 238 s 1 240 u = _
        rw [jup_ne (by decide), jup_at]
        by_cases e : u = s
        · rw [if_pos ⟨rfl, e⟩, e]
        · rw [if_neg (fun z => e z.2)]
          have z1 : (if u = s then true else Q u) = true := hQu
          rw [if_neg e] at z1
          exact hT u hu z1
      · show jup (jup M19 240 s (nI (F.tl od s))) 238 s 1 a i = _
        rw [jup_ne (by omega), jup_ne (by omega)]
        exact hf a i z
  obtain ⟨x, e1, e2, e3⟩ := hl
  refine ⟨x, ?_, e2, e3⟩
  unfold f_X8_workTails
  rw [z1, Option.bind_some, e1, Option.bind_some]
end TL
