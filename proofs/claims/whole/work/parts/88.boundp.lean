/-! bounds, in numbers: the least over all orders; sums; no order ends ahead of the cut -/
def jBIG : Nat := 1000000000
/-- the least over those that are not used -/
def mF (f : Nat → Nat) (u : Nat → Bool) (a : Nat) : Nat → Nat
  | 0 => jBIG
  | m + 1 => if u (a + m) = true then mF f u a m else min (mF f u a m) (f (a + m))
theorem mF_ge {f : Nat → Nat} {u : Nat → Bool} {a B : Nat} (hB : B ≤ jBIG) : ∀ m, (∀ k, a ≤ k → k < a + m → u k = false → B ≤ f k) → B ≤ mF f u a m
  | 0, _ => hB
  | m + 1, h => by
    have ih := mF_ge (f := f) (u := u) (a := a) hB m (fun k h1 h2 => h k h1 (by omega))
    show B ≤ (if u (a + m) = true then mF f u a m else min (mF f u a m) (f (a + m)))
    cases e : u (a + m) with
    | true => rw [if_pos rfl]; exact ih
    | false =>
      rw [if_neg (by decide)]
      have := h (a + m) (by omega) (by omega) e
      omega
theorem mF_le {f : Nat → Nat} {u : Nat → Bool} {a : Nat} : ∀ m k, a ≤ k → k < a + m → u k = false → mF f u a m ≤ f k
  | 0, k, h1, h2, _ => absurd h2 (by omega)
  | m + 1, k, h1, h2, h3 => by
    show (if u (a + m) = true then mF f u a m else min (mF f u a m) (f (a + m))) ≤ f k
    by_cases e : k = a + m
    · rw [← e, h3, if_neg (by decide)]
      omega
    · have ih := mF_le (f := f) (u := u) (a := a) m k h1 (by omega) h3
      split <;> omega
theorem mF_big {f : Nat → Nat} {u : Nat → Bool} {a : Nat} : ∀ m, mF f u a m ≤ jBIG
  | 0 => Nat.le_refl _
  | m + 1 => by
    have ih := mF_big (f := f) (u := u) (a := a) m
    show (if u (a + m) = true then mF f u a m else min (mF f u a m) (f (a + m))) ≤ jBIG
    split <;> omega
theorem mF_hd {f : Nat → Nat} {u : Nat → Bool} (a : Nat) : ∀ m, mF f u a (m + 1) = if u a = true then mF f u (a + 1) m else min (f a) (mF f u (a + 1) m)
  | 0 => by
    show (if u (a + 0) = true then jBIG else min jBIG (f (a + 0))) = if u a = true then jBIG else min (f a) jBIG
    rw [Nat.add_zero, Nat.min_comm]
  | m + 1 => by
    have ih := mF_hd (f := f) (u := u) a m
    have e1 : mF f u a (m + 1 + 1) = if u (a + (m + 1)) = true then mF f u a (m + 1) else min (mF f u a (m + 1)) (f (a + (m + 1))) := rfl
    have e2 : mF f u (a + 1) (m + 1) = if u (a + 1 + m) = true then mF f u (a + 1) m else min (mF f u (a + 1) m) (f (a + 1 + m)) := rfl
    rw [e1, e2, ih, show a + 1 + m = a + (m + 1) by omega]
    by_cases z1 : u a = true <;> by_cases z2 : u (a + (m + 1)) = true
    · simp only [if_pos z1, if_pos z2]
    · simp only [if_pos z1, if_neg z2]
    · simp only [if_neg z1, if_pos z2]
    · simp only [if_neg z1, if_neg z2]
      omega
section JB
variable (n : Nat) (fi la sp : Nat → Nat)
def wE (e k : Nat) : Nat := max e (fi k) + sp k
/-- the least over all orders of those that are left -/
def wv : Nat → (Nat → Bool) → Nat → Nat → Nat
  | 0, _, _, t => t
  | r + 1, u, e, t => mF (fun k => wv r (addB u k) (wE fi sp e k) (max t (wE fi sp e k + la k))) u 0 n
end JB
section JC
variable {n : Nat} {fi la sp : Nat → Nat}
theorem wv_t : ∀ r u e t, min jBIG t ≤ wv n fi la sp r u e t
  | 0, _, _, t => Nat.min_le_right _ _
  | r + 1, u, e, t => by
    refine mF_ge (Nat.min_le_left _ _) n (fun k _ _ _ => ?_)
    have := wv_t r (addB u k) (wE fi sp e k) (max t (wE fi sp e k + la k))
    omega
/-! sums over some -/
def ws (p : Nat → Bool) (w : Nat → Nat) : Nat → Nat
  | 0 => 0
  | k + 1 => ws p w k + (if p k = true then w k else 0)
def remB (p : Nat → Bool) (k : Nat) : Nat → Bool := fun i => if i = k then false else p i
theorem ws_cong {p q : Nat → Bool} {w v : Nat → Nat} : ∀ n, (∀ k, k < n → p k = q k ∧ (p k = true → w k = v k)) → ws p w n = ws q v n
  | 0, _ => rfl
  | n + 1, h => by
    show ws p w n + (if p n = true then w n else 0) = ws q v n + (if q n = true then v n else 0)
    rw [ws_cong n (fun k hk => h k (by omega)), ← (h n (by omega)).1]
    by_cases e : p n = true
    · rw [if_pos e, if_pos e, (h n (by omega)).2 e]
    · rw [if_neg e, if_neg e]
theorem ws_le {p : Nat → Bool} {w v : Nat → Nat} : ∀ n, (∀ k, k < n → p k = true → w k ≤ v k) → ws p w n ≤ ws p v n
  | 0, _ => Nat.le_refl _
  | n + 1, h => by
    have ih := ws_le n (fun k hk => h k (by omega))
    show ws p w n + (if p n = true then w n else 0) ≤ ws p v n + (if p n = true then v n else 0)
    by_cases e : p n = true
    · rw [if_pos e, if_pos e]
      have := h n (by omega) e
      omega
    · rw [if_neg e, if_neg e]
      omega
theorem ws_rem {p : Nat → Bool} {w : Nat → Nat} {k : Nat} : ∀ n, k < n → p k = true → ws p w n = w k + ws (remB p k) w n
  | 0, h, _ => absurd h (Nat.not_lt_zero k)
  | n + 1, h, hp => by
    show ws p w n + (if p n = true then w n else 0) = w k + (ws (remB p k) w n + (if remB p k n = true then w n else 0))
    by_cases e : k = n
    · subst e
      have e1 : ws (remB p k) w k = ws p w k := ws_cong k (fun j hj => ⟨if_neg (by omega), fun _ => rfl⟩)
      have e2 : remB p k k = false := if_pos rfl
      rw [if_pos hp, e1, e2, if_neg (by decide)]
      omega
    · have e2 : remB p k n = p n := if_neg (by omega)
      rw [ws_rem n (by omega) hp, e2]
      omega
theorem ws_B {p : Nat → Bool} {w : Nat → Nat} {B : Nat} : ∀ n, (∀ k, k < n → w k ≤ B) → ws p w n ≤ B * n
  | 0, _ => Nat.zero_le _
  | n + 1, h => by
    have ih := ws_B (p := p) n (fun k hk => h k (by omega))
    have h2 := h n (by omega)
    show ws p w n + (if p n = true then w n else 0) ≤ B * (n + 1)
    rw [Nat.mul_succ]
    split <;> omega
/-- work that begins not ahead of a, each with Q behind it -/
theorem wv_lb {a Q : Nat} (S : Nat → Bool) (hS : ∀ k, k < n → S k = true → a ≤ fi k ∧ Q ≤ la k) : ∀ r u e t, fb_ct u n + r = n → (∃ k, k < n ∧ S k = true ∧ u k = false) → min jBIG (max e a + ws (fun k => S k && !u k) sp n + Q) ≤ wv n fi la sp r u e t
  | 0, u, e, t, hr, ⟨k, hk, h1, h2⟩ => by
    have := fb_ct_all.mp (show fb_ct u n = n by omega) k hk
    rw [h2] at this
    cases this
  | r + 1, u, e, t, hr, hex => by
    refine mF_ge (Nat.min_le_left _ _) n (fun k _ hk hu => ?_)
    have hk : k < n := by omega
    have hct : fb_ct (addB u k) n + r = n := by
      rw [addB_ct hk hu]
      omega
    cases hSk : S k with
    | true =>
      obtain ⟨q1, q2⟩ := hS k hk hSk
      have e1 : ws (fun k => S k && !u k) sp n = sp k + ws (fun j => S j && !addB u k j) sp n := by
        rw [ws_rem (k := k) n hk (by simp [hSk, hu])]
        congr 1
        refine ws_cong n (fun j hj => ⟨?_, fun _ => rfl⟩)
        unfold remB addB
        by_cases z : j = k
        · rw [if_pos z, if_pos z]
          simp
        · rw [if_neg z, if_neg z]
      have hwE : max e a + sp k ≤ wE fi sp e k := by
        unfold wE
        omega
      by_cases hx : ∃ j, j < n ∧ S j = true ∧ addB u k j = false
      · have ih := wv_lb S hS r (addB u k) (wE fi sp e k) (max t (wE fi sp e k + la k)) hct hx
        omega
      · have e2 : ws (fun j => S j && !addB u k j) sp n = 0 := by
          have : ∀ m, m ≤ n → ws (fun j => S j && !addB u k j) sp m = 0 := by
            intro m
            induction m with
            | zero => intro _; rfl
            | succ m ihm =>
              intro hm
              show ws (fun j => S j && !addB u k j) sp m + (if (S m && !addB u k m) = true then sp m else 0) = 0
              rw [ihm (by omega), if_neg (fun z => hx ⟨m, by omega, by simpa using z⟩)]
          exact this n (Nat.le_refl _)
        have := wv_t (n := n) (fi := fi) (la := la) (sp := sp) r (addB u k) (wE fi sp e k) (max t (wE fi sp e k + la k))
        omega
    | false =>
      have e1 : ws (fun j => S j && !addB u k j) sp n = ws (fun k => S k && !u k) sp n := ws_cong n (fun j hj => ⟨by
        unfold addB
        by_cases z : j = k
        · rw [z]
          simp [hSk]
        · rw [if_neg z], fun _ => rfl⟩)
      have hx : ∃ j, j < n ∧ S j = true ∧ addB u k j = false := by
        obtain ⟨j, hj, h1, h2⟩ := hex
        refine ⟨j, hj, h1, ?_⟩
        unfold addB
        rw [if_neg (fun z => by rw [z, hSk] at h1; cases h1)]
        exact h2
      have hwE : e ≤ wE fi sp e k := by
        unfold wE
        omega
      have ih := wv_lb S hS r (addB u k) (wE fi sp e k) (max t (wE fi sp e k + la k)) hct hx
      omega
/-! the cut -/
end JC
section JD
variable (n : Nat) (fi la : Nat → Nat)
/-- the most pressing one, of so many -/
def cPr (left : Nat → Nat) (t : Nat) : Nat → Option Nat
  | 0 => none
  | k + 1 => if 0 < left k ∧ fi k ≤ t then (match cPr left t k with
    | none => some k
    | some j => if la j < la k then some k else some j) else cPr left t k
/-- the next first behind a moment -/
def cNx (t : Nat) : Nat → Option Nat
  | 0 => none
  | k + 1 => if t < fi k then (match cNx t k with
    | none => some (fi k)
    | some v => if fi k < v then some (fi k) else some v) else cNx t k
abbrev CT : Type := Nat × Nat × (Nat → Nat)
def cUn (st : CT) (j : Nat) : Nat := match cNx fi st.1 n with
  | none => st.1 + st.2.2 j
  | some v => min (st.1 + st.2.2 j) v
def cSt (st : CT) : Option CT := match cPr fi la st.2.2 st.1 n with
  | none => (cNx fi st.1 n).map (fun v => (v, st.2.1, st.2.2))
  | some j => some (cUn n fi st j, if st.2.2 j - (cUn n fi st j - st.1) = 0 then max st.2.1 (cUn n fi st j + la j) else st.2.1, addN st.2.2 j (st.2.2 j - (cUn n fi st j - st.1)))
def cR : Nat → CT → CT
  | 0, st => st
  | k + 1, st => match cSt n fi la st with
    | none => st
    | some st' => cR k st'
end JD
section JE
variable {n : Nat} {fi la sp : Nat → Nat}
theorem cPr_n {left : Nat → Nat} {t : Nat} : ∀ k, cPr fi la left t k = none → ∀ i, i < k → ¬ (0 < left i ∧ fi i ≤ t)
  | 0, _, i, hi => absurd hi (Nat.not_lt_zero i)
  | k + 1, h, i, hi => by
    have h2 : (if 0 < left k ∧ fi k ≤ t then (match cPr fi la left t k with | none => some k | some j => if la j < la k then some k else some j) else cPr fi la left t k) = none := h
    by_cases e : 0 < left k ∧ fi k ≤ t
    · rw [if_pos e] at h2
      split at h2
      · cases h2
      · split at h2 <;> cases h2
    · rw [if_neg e] at h2
      rcases Nat.lt_succ_iff_lt_or_eq.mp hi with z | z
      · exact cPr_n k h2 i z
      · rw [z]
        exact e
theorem cPr_s {left : Nat → Nat} {t : Nat} : ∀ k j, cPr fi la left t k = some j → j < k ∧ 0 < left j ∧ fi j ≤ t ∧ ∀ i, i < k → 0 < left i → fi i ≤ t → la i ≤ la j
  | 0, j, h => by cases h
  | k + 1, j, h => by
    have h2 : (if 0 < left k ∧ fi k ≤ t then (match cPr fi la left t k with | none => some k | some j => if la j < la k then some k else some j) else cPr fi la left t k) = some j := h
    have old : cPr fi la left t k = some j → ((0 < left k ∧ fi k ≤ t) → la k ≤ la j) → j < k + 1 ∧ 0 < left j ∧ fi j ≤ t ∧ ∀ i, i < k + 1 → 0 < left i → fi i ≤ t → la i ≤ la j := by
      intro h3 h4
      obtain ⟨a1, a2, a3, a4⟩ := cPr_s k j h3
      refine ⟨by omega, a2, a3, fun i hi x1 x2 => ?_⟩
      rcases Nat.lt_succ_iff_lt_or_eq.mp hi with z | z
      · exact a4 i z x1 x2
      · rw [z] at x1 x2 ⊢
        exact h4 ⟨x1, x2⟩
    by_cases e : 0 < left k ∧ fi k ≤ t
    · rw [if_pos e] at h2
      cases ho : cPr fi la left t k with
      | none =>
        rw [ho] at h2
        cases h2
        refine ⟨by omega, e.1, e.2, fun i hi x1 x2 => ?_⟩
        rcases Nat.lt_succ_iff_lt_or_eq.mp hi with z | z
        · exact absurd ⟨x1, x2⟩ (cPr_n k ho i z)
        · rw [z]
          exact Nat.le_refl _
      | some y =>
        rw [ho] at h2
        dsimp only at h2
        by_cases e2 : la y < la k
        · rw [if_pos e2] at h2
          cases h2
          refine ⟨by omega, e.1, e.2, fun i hi x1 x2 => ?_⟩
          rcases Nat.lt_succ_iff_lt_or_eq.mp hi with z | z
          · have := (cPr_s k y ho).2.2.2 i z x1 x2
            omega
          · rw [z]
            exact Nat.le_refl _
        · rw [if_neg e2] at h2
          cases h2
          exact old ho (fun _ => by omega)
    · rw [if_neg e] at h2
      exact old h2 (fun z => absurd z e)
theorem cNx_n {t : Nat} : ∀ k, cNx fi t k = none → ∀ i, i < k → fi i ≤ t
  | 0, _, i, hi => absurd hi (Nat.not_lt_zero i)
  | k + 1, h, i, hi => by
    have h2 : (if t < fi k then (match cNx fi t k with | none => some (fi k) | some v => if fi k < v then some (fi k) else some v) else cNx fi t k) = none := h
    by_cases e : t < fi k
    · rw [if_pos e] at h2
      split at h2
      · cases h2
      · split at h2 <;> cases h2
    · rw [if_neg e] at h2
      rcases Nat.lt_succ_iff_lt_or_eq.mp hi with z | z
      · exact cNx_n k h2 i z
      · rw [z]
        omega
theorem cNx_s {t : Nat} : ∀ k v, cNx fi t k = some v → t < v ∧ (∃ i, i < k ∧ v = fi i) ∧ ∀ i, i < k → t < fi i → v ≤ fi i
  | 0, v, h => by cases h
  | k + 1, v, h => by
    have h2 : (if t < fi k then (match cNx fi t k with | none => some (fi k) | some v => if fi k < v then some (fi k) else some v) else cNx fi t k) = some v := h
    by_cases e : t < fi k
    · rw [if_pos e] at h2
      cases ho : cNx fi t k with
      | none =>
        rw [ho] at h2
        cases h2
        refine ⟨e, ⟨k, by omega, rfl⟩, fun i hi x => ?_⟩
        rcases Nat.lt_succ_iff_lt_or_eq.mp hi with z | z
        · have := cNx_n k ho i z
          omega
        · rw [z]
          exact Nat.le_refl _
      | some y =>
        obtain ⟨a1, ⟨i0, a2, a3⟩, a4⟩ := cNx_s k y ho
        rw [ho] at h2
        dsimp only at h2
        by_cases e2 : fi k < y
        · rw [if_pos e2] at h2
          cases h2
          refine ⟨e, ⟨k, by omega, rfl⟩, fun i hi x => ?_⟩
          rcases Nat.lt_succ_iff_lt_or_eq.mp hi with z | z
          · have := a4 i z x
            omega
          · rw [z]
            exact Nat.le_refl _
        · rw [if_neg e2] at h2
          cases h2
          refine ⟨a1, ⟨i0, by omega, a3⟩, fun i hi x => ?_⟩
          rcases Nat.lt_succ_iff_lt_or_eq.mp hi with z | z
          · exact a4 i z x
          · rw [z]
            omega
    · rw [if_neg e] at h2
      obtain ⟨a1, ⟨i0, a2, a3⟩, a4⟩ := cNx_s k v h2
      refine ⟨a1, ⟨i0, by omega, a3⟩, fun i hi x => ?_⟩
      rcases Nat.lt_succ_iff_lt_or_eq.mp hi with z | z
      · exact a4 i z x
      · rw [z] at x
        exact absurd x e
/-- jobs -/
def JJ (n : Nat) (fi la sp : Nat → Nat) : Prop := n ≤ 32 ∧ ∀ k, k < n → fi k ≤ 8000 ∧ la k ≤ 8000 ∧ 1 ≤ sp k ∧ sp k ≤ 1000
def cS (fi la : Nat → Nat) (a Q : Nat) : Nat → Bool := fun k => decide (a ≤ fi k) && decide (Q ≤ la k)
def cF (n : Nat) (fi : Nat → Nat) (st : CT) : Nat := fb_ct (fun k => decide (0 < st.2.2 k)) n + fb_ct (fun k => decide (st.1 < fi k)) n
/-- what holds behind so many turns -/
def CI (n : Nat) (fi la sp : Nat → Nat) (j : Nat) (st : CT) : Prop := (∀ k, k < n → st.2.2 k ≤ sp k ∧ (st.1 < fi k → st.2.2 k = sp k)) ∧ st.1 ≤ 8000 + 1000 * j ∧ st.2.1 ≤ 16000 + 1000 * j ∧ cF n fi st + j ≤ 2 * n ∧ (∀ Q, ∃ a, a ≤ st.1 ∧ st.1 ≤ a + ws (cS fi la a Q) (fun k => sp k - st.2.2 k) n ∧ ∀ k, k < n → Q ≤ la k → fi k < a → st.2.2 k = 0) ∧ st.2.1 ≤ wv n fi la sp n (fun _ => false) 0 0
theorem ct_less {p q : Nat → Bool} {k n : Nat} (hk : k < n) (h1 : p k = true) (h2 : q k = false) (h : ∀ i, i < n → q i = true → p i = true) : fb_ct q n + 1 ≤ fb_ct p n := by
  rw [← addB_ct hk h2]
  refine fb_ct_sub (fun i hi z => ?_)
  unfold addB at z
  by_cases e : i = k
  · rw [e]
    exact h1
  · rw [if_neg e] at z
    exact h i hi z
theorem ci_0 (hJ : JJ n fi la sp) : CI n fi la sp 0 (0, 0, sp) := by
  refine ⟨fun k hk => ⟨Nat.le_refl _, fun _ => rfl⟩, Nat.zero_le _, Nat.zero_le _, ?_, fun Q => ⟨0, Nat.le_refl _, Nat.zero_le _, fun k hk _ h => absurd h (Nat.not_lt_zero _)⟩, Nat.zero_le _⟩
  unfold cF
  have h1 := fb_ct_le (fun k => decide (0 < sp k)) n
  have h2 := fb_ct_le (fun k => decide (0 < fi k)) n
  show fb_ct (fun k => decide (0 < sp k)) n + fb_ct (fun k => decide (0 < fi k)) n + 0 ≤ 2 * n
  omega
/-- all is done just when there is no turn -/
theorem cSt_none {st : CT} (h : cSt n fi la st = none) : ∀ k, k < n → st.2.2 k = 0 := by
  intro k hk
  unfold cSt at h
  cases hp : cPr fi la st.2.2 st.1 n with
  | some j => rw [hp] at h; cases h
  | none =>
    rw [hp] at h
    cases hx : cNx fi st.1 n with
    | some v => rw [hx] at h; cases h
    | none =>
      have h1 := cPr_n n hp k hk
      have h2 := cNx_n n hx k hk
      omega
theorem cSt_done {j : Nat} {st : CT} (hJ : JJ n fi la sp) (hI : CI n fi la sp j st) (h : ∀ k, k < n → st.2.2 k = 0) : cSt n fi la st = none := by
  have hp : cPr fi la st.2.2 st.1 n = none := by
    cases hp : cPr fi la st.2.2 st.1 n with
    | none => rfl
    | some i =>
      obtain ⟨a1, a2, -⟩ := cPr_s n i hp
      have := h i a1
      omega
  have hx : cNx fi st.1 n = none := by
    cases hx : cNx fi st.1 n with
    | none => rfl
    | some v =>
      obtain ⟨a1, ⟨i, a2, a3⟩, -⟩ := cNx_s n v hx
      have h1 := (hI.1 i a2).2 (by omega)
      have h2 := h i a2
      have h3 := (hJ.2 i a2).2.2.1
      omega
  unfold cSt
  rw [hp, hx]
  rfl
/-- a turn keeps it -/
theorem ci_st {j : Nat} {st st' : CT} (hJ : JJ n fi la sp) (hI : CI n fi la sp j st) (h : cSt n fi la st = some st') : CI n fi la sp (j + 1) st' := by
  obtain ⟨t, worst, left⟩ := st
  obtain ⟨h1, h2, h3, h4, h5, h6⟩ := hI
  dsimp only at h1 h2 h3 h5 h6
  unfold cSt at h
  dsimp only at h
  cases hp : cPr fi la left t n with
  | none =>
    have hpn := cPr_n n hp
    rw [hp] at h
    cases hx : cNx fi t n with
    | none => rw [hx] at h; cases h
    | some v =>
      rw [hx] at h
      cases h
      obtain ⟨a1, ⟨i0, a2, a3⟩, a4⟩ := cNx_s n v hx
      have hv := (hJ.2 i0 a2).1
      refine ⟨fun k hk => ⟨(h1 k hk).1, fun z => (h1 k hk).2 (by have z2 : v < fi k := z; omega)⟩, by show v ≤ _; omega, by show worst ≤ _; omega, ?_, fun Q => ⟨v, Nat.le_refl _, Nat.le_add_right _ _, fun k hk q1 q2 => ?_⟩, h6⟩
      · unfold cF at h4 ⊢
        have := ct_less (p := fun k => decide (t < fi k)) (q := fun k => decide (v < fi k)) a2 (by simp; omega) (by simp; omega) (fun i hi z => by
          simp at z ⊢
          omega)
        show fb_ct (fun k => decide (0 < left k)) n + fb_ct (fun k => decide (v < fi k)) n + (j + 1) ≤ 2 * n
        dsimp only at h4
        omega
      · show left k = 0
        have hft : fi k ≤ t := by
          rcases Nat.lt_or_ge t (fi k) with z | z
          · have := a4 k hk z
            omega
          · exact z
        have := hpn k hk
        omega
  | some jb =>
    obtain ⟨b1, b2, b3, b4⟩ := cPr_s n jb hp
    rw [hp] at h
    obtain ⟨un, hun⟩ : ∃ un, un = cUn n fi (t, worst, left) jb := ⟨_, rfl⟩
    have h' : st' = (un, if left jb - (un - t) = 0 then max worst (un + la jb) else worst, addN left jb (left jb - (un - t))) := by
      rw [hun]
      exact (Option.some.inj h).symm
    have hb := h1 jb b1
    have hj := hJ.2 jb b1
    -- where the turn ends
    have hu : t < un ∧ un ≤ t + left jb ∧ (∀ k, k < n → t < fi k → un ≤ fi k) ∧ (un = t + left jb ∨ ∃ i, i < n ∧ t < fi i ∧ fi i = un) := by
      rw [hun]
      unfold cUn
      dsimp only
      cases hx : cNx fi t n with
      | none =>
        refine ⟨by dsimp only; omega, Nat.le_refl _, fun k hk z => ?_, Or.inl rfl⟩
        have := cNx_n n hx k hk
        omega
      | some v =>
        obtain ⟨a1, ⟨i0, a2, a3⟩, a4⟩ := cNx_s n v hx
        dsimp only
        refine ⟨by omega, by omega, fun k hk z => ?_, ?_⟩
        · have := a4 k hk z
          omega
        · rcases Nat.lt_or_ge v (t + left jb) with z | z
          · exact Or.inr ⟨i0, a2, by omega, by omega⟩
          · exact Or.inl (by omega)
    obtain ⟨u1, u2, u3, u4⟩ := hu
    have hleft : ∀ k, addN left jb (left jb - (un - t)) k = if k = jb then left jb - (un - t) else left k := fun k => rfl
    subst h'
    have hJK : ∀ Q, ∃ a, a ≤ un ∧ un ≤ a + ws (cS fi la a Q) (fun k => sp k - addN left jb (left jb - (un - t)) k) n ∧ (∀ k, k < n → Q ≤ la k → fi k < a → addN left jb (left jb - (un - t)) k = 0) ∧ (Q ≤ la jb → a ≤ fi jb) := by
      intro Q
      by_cases hQ : Q ≤ la jb
      · obtain ⟨a, c1, c2, c3⟩ := h5 Q
        have hfa : a ≤ fi jb := by
          rcases Nat.lt_or_ge (fi jb) a with z | z
          · have := c3 jb b1 hQ z
            omega
          · exact z
        refine ⟨a, by omega, ?_, fun k hk q1 q2 => ?_, fun _ => hfa⟩
        · have e1 := ws_rem (p := cS fi la a Q) (w := fun k => sp k - left k) n b1 (by simp [cS, hfa, hQ])
          have e2 := ws_rem (p := cS fi la a Q) (w := fun k => sp k - addN left jb (left jb - (un - t)) k) n b1 (by simp [cS, hfa, hQ])
          have e3 : ws (remB (cS fi la a Q) jb) (fun k => sp k - addN left jb (left jb - (un - t)) k) n = ws (remB (cS fi la a Q) jb) (fun k => sp k - left k) n := ws_cong n (fun k hk => ⟨rfl, fun z => by
            rw [hleft, if_neg (fun y => by
              rw [y] at z
              have : remB (cS fi la a Q) jb jb = false := if_pos rfl
              rw [this] at z
              cases z)]⟩)
          have e4 : addN left jb (left jb - (un - t)) jb = left jb - (un - t) := by rw [hleft, if_pos rfl]
          rw [e2, e3, e4]
          omega
        · rw [hleft]
          by_cases z : k = jb
          · rw [z] at q2
            omega
          · rw [if_neg z]
            exact c3 k hk q1 q2
      · refine ⟨un, Nat.le_refl _, Nat.le_add_right _ _, fun k hk q1 q2 => ?_, fun z => absurd z hQ⟩
        have hkj : k ≠ jb := fun z => hQ (by rw [← z]; exact q1)
        rw [hleft, if_neg hkj]
        have hft : fi k ≤ t := by
          rcases Nat.lt_or_ge t (fi k) with z | z
          · have := u3 k hk z
            omega
          · exact z
        rcases Nat.eq_zero_or_pos (left k) with z | z
        · exact z
        · have := b4 k hk z hft
          omega
    refine ⟨fun k hk => ⟨?_, fun z => ?_⟩, ?_, ?_, ?_, fun Q => ?_, ?_⟩
    · show addN left jb (left jb - (un - t)) k ≤ sp k
      rw [hleft]
      by_cases z : k = jb
      · rw [if_pos z, z]
        omega
      · rw [if_neg z]
        exact (h1 k hk).1
    · have z2 : un < fi k := z
      show addN left jb (left jb - (un - t)) k = sp k
      rw [hleft, if_neg (fun y => by rw [y] at z2; omega)]
      exact (h1 k hk).2 (by omega)
    · show un ≤ _
      omega
    · show (if left jb - (un - t) = 0 then max worst (un + la jb) else worst) ≤ _
      split <;> omega
    · unfold cF at h4 ⊢
      show fb_ct (fun k => decide (0 < addN left jb (left jb - (un - t)) k)) n + fb_ct (fun k => decide (un < fi k)) n + (j + 1) ≤ 2 * n
      dsimp only at h4
      have s1 : fb_ct (fun k => decide (0 < addN left jb (left jb - (un - t)) k)) n ≤ fb_ct (fun k => decide (0 < left k)) n := fb_ct_sub (fun i hi z => by
        simp only [hleft, decide_eq_true_eq] at z ⊢
        by_cases y : i = jb
        · rw [y]
          exact b2
        · rw [if_neg y] at z
          exact z)
      have s2 : fb_ct (fun k => decide (un < fi k)) n ≤ fb_ct (fun k => decide (t < fi k)) n := fb_ct_sub (fun i hi z => by
        simp only [decide_eq_true_eq] at z ⊢
        omega)
      rcases u4 with z | ⟨i, hi, z1, z2⟩
      · have := ct_less (p := fun k => decide (0 < left k)) (q := fun k => decide (0 < addN left jb (left jb - (un - t)) k)) b1 (by simp; omega) (by simp [hleft]; omega) (fun i hi z => by
          simp only [hleft, decide_eq_true_eq] at z ⊢
          by_cases y : i = jb
          · rw [y]
            exact b2
          · rw [if_neg y] at z
            exact z)
        omega
      · have := ct_less (p := fun k => decide (t < fi k)) (q := fun k => decide (un < fi k)) hi (by simp; omega) (by simp; omega) (fun i hi z => by
          simp only [decide_eq_true_eq] at z ⊢
          omega)
        omega
    · obtain ⟨a, c1, c2, c3, -⟩ := hJK Q
      exact ⟨a, c1, c2, c3⟩
    · show (if left jb - (un - t) = 0 then max worst (un + la jb) else worst) ≤ _
      split
      · obtain ⟨a, c1, c2, c3, c4⟩ := hJK (la jb)
        have hlb := wv_lb (n := n) (fi := fi) (la := la) (sp := sp) (a := a) (Q := la jb) (cS fi la a (la jb)) (fun k hk z => by simpa [cS] using z) n (fun _ => false) 0 0 (by rw [fb_ct_zero.mpr (fun _ _ => rfl)]; omega) ⟨jb, b1, by simp [cS, c4 (Nat.le_refl _)], rfl⟩
        have e1 : ws (fun k => cS fi la a (la jb) k && !(fun _ => false) k) sp n = ws (cS fi la a (la jb)) sp n := ws_cong n (fun k hk => ⟨by simp, fun _ => rfl⟩)
        have e2 := ws_le (p := cS fi la a (la jb)) (w := fun k => sp k - addN left jb (left jb - (un - t)) k) (v := sp) n (fun k hk _ => Nat.sub_le _ _)
        have e3 := ws_B (p := cS fi la a (la jb)) (w := sp) (B := 1000) n (fun k hk => (hJ.2 k hk).2.2.2)
        have e4 := hJ.1
        rw [e1] at hlb
        have e5 : jBIG = 1000000000 := rfl
        have e6 : a ≤ 100000 := by omega
        omega
      · exact h6
end JE
