/-! THE PURE HALF. Loops to their end; numbers; memory -/
theorem jLp_tot {σ ρ : Type} {body : σ → Option (σ ⊕ ρ)} (I : Nat → σ → Prop) (Post : ρ → Prop) (h : ∀ (n : Nat) (s : σ), I n s → ∃ x, body s = some x ∧ ((∃ s' m, x = .inl s' ∧ m < n ∧ I m s') ∨ (∃ r, x = .inr r ∧ Post r))) : ∀ (N n : Nat) (s : σ), n < N → I n s → ∃ r, jLp N body s = some r ∧ Post r
  | 0, n, s, hn, _ => absurd hn (Nat.not_lt_zero n)
  | N + 1, n, s, hn, hI => by
    obtain ⟨x, e, hx⟩ := h n s hI
    rcases hx with ⟨s', m, rfl, hm, hI'⟩ | ⟨r, rfl, hr⟩
    · obtain ⟨r, e2, hr⟩ := jLp_tot I Post h N m s' (by omega) hI'
      refine ⟨r, ?_, hr⟩
      show (body s).bind _ = some r
      rw [e]
      exact e2
    · refine ⟨r, ?_, hr⟩
      show (body s).bind _ = some r
      rw [e]
      rfl
theorem jLp_for {σ ρ : Type} {body : σ → Option (σ ⊕ ρ)} (st : Nat → σ) {r : ρ} : ∀ (k i N : Nat), k < N → (∀ j, i ≤ j → j < i + k → body (st j) = some (.inl (st (j + 1)))) → body (st (i + k)) = some (.inr r) → jLp N body (st i) = some r
  | 0, i, 0, hN, _, _ => absurd hN (Nat.not_lt_zero 0)
  | 0, i, N + 1, _, _, h => by
    show (body (st i)).bind _ = some r
    rw [show body (st i) = some (.inr r) from h]
    rfl
  | k + 1, i, 0, hN, _, _ => absurd hN (Nat.not_lt_zero _)
  | k + 1, i, N + 1, hN, h1, h2 => by
    show (body (st i)).bind _ = some r
    rw [h1 i (Nat.le_refl i) (by omega)]
    exact jLp_for st k (i + 1) N (by omega) (fun j a b => h1 j (by omega) (by omega)) (by rw [show i + 1 + k = i + (k + 1) by omega]; exact h2)
theorem jinb_nI {i n : Nat} (h : i < n) (hn : n ≤ 100000) : jinb (nI i) n = true := by
  have := vp_in_nI h (show n < 2 ^ 31 by omega)
  unfold vp_in at this
  unfold jinb
  simpa using this
theorem jrd_nI {M : JMem} {a n i : Nat} (h : i < n) (hn : n ≤ 100000) : jrd M a n (nI i) = some (M a i) := by
  unfold jrd
  rw [if_pos (jinb_nI h hn), nI_clamp (by omega)]
theorem jwr_nI {M : JMem} {a n i : Nat} {v : Int32} (h : i < n) (hn : n ≤ 100000) : jwr M a n (nI i) v = some (jup M a i v) := by
  unfold jwr
  rw [if_pos (jinb_nI h hn), nI_clamp (by omega)]
theorem jrw_nI {a n i : Nat} (h : i < n) (hn : n ≤ 100000) : jrw a n (nI i) = some (a + 1 + i) := by
  unfold jrw
  rw [if_pos (jinb_nI h hn), nI_clamp (by omega)]
theorem jup_eq {M : JMem} {a i : Nat} {v : Int32} : jup M a i v a i = v := by simp [jup, upd]
theorem jup_ne {M : JMem} {a i b : Nat} {v : Int32} (h : b ≠ a) : jup M a i v b = M b := by simp [jup, h]
theorem jup_ni {M : JMem} {a i b j : Nat} {v : Int32} (h : j ≠ i) : jup M a i v b j = M b j := by
  unfold jup
  by_cases hb : b = a
  · rw [if_pos hb]
    simp [upd, h]
  · rw [if_neg hb]
theorem jup_at {M : JMem} {a i b j : Nat} {v : Int32} : jup M a i v b j = if b = a ∧ j = i then v else M b j := by
  by_cases hb : b = a
  · subst hb
    by_cases hj : j = i
    · subst hj
      simp [jup_eq]
    · simp [jup_ni hj, hj]
  · simp [jup_ne hb, hb]
/-! comparisons with a literal -/
theorem jlit (n : Nat) : (OfNat.ofNat n : Int32) = nI n := rfl
theorem jeqL {k n : Nat} (hk : k < 2 ^ 31) (hn : n < 2 ^ 31) : (nI k = (OfNat.ofNat n : Int32)) ↔ k = (OfNat.ofNat n : Nat) := by rw [jlit]; exact nI_eq hk hn
theorem jLeq {k n : Nat} (hk : k < 2 ^ 31) (hn : n < 2 ^ 31) : ((OfNat.ofNat n : Int32) = nI k) ↔ (OfNat.ofNat n : Nat) = k := by rw [jlit]; exact nI_eq hn hk
theorem jleL {k n : Nat} (hk : k < 2 ^ 31) (hn : n < 2 ^ 31) : (nI k ≤ (OfNat.ofNat n : Int32)) ↔ k ≤ (OfNat.ofNat n : Nat) := by rw [jlit]; exact nI_leI hk hn
theorem jLle {k n : Nat} (hk : k < 2 ^ 31) (hn : n < 2 ^ 31) : ((OfNat.ofNat n : Int32) ≤ nI k) ↔ (OfNat.ofNat n : Nat) ≤ k := by rw [jlit]; exact nI_leI hn hk
theorem jltL {k n : Nat} (hk : k < 2 ^ 31) (hn : n < 2 ^ 31) : (nI k < (OfNat.ofNat n : Int32)) ↔ k < (OfNat.ofNat n : Nat) := by rw [jlit]; exact nI_ltI hk hn
theorem jLlt {k n : Nat} (hk : k < 2 ^ 31) (hn : n < 2 ^ 31) : ((OfNat.ofNat n : Int32) < nI k) ↔ (OfNat.ofNat n : Nat) < k := by rw [jlit]; exact nI_ltI hn hk
theorem jaddL {k n : Nat} : nI k + (OfNat.ofNat n : Int32) = nI (k + (OfNat.ofNat n : Nat)) := by rw [jlit]; exact nI_add k n
theorem jmulL {k n : Nat} : (OfNat.ofNat n : Int32) * nI k = nI ((OfNat.ofNat n : Nat) * k) := by rw [jlit]; exact pk_mul n k
theorem jsub1 {k : Nat} (h : 1 ≤ k) : nI k - 1 = nI (k - 1) := pk_sub h
theorem jmul8 {k : Nat} : (8 : Int32) * nI k = nI (8 * k) := pk_mul 8 k
theorem jmul32 {k : Nat} : (32 : Int32) * nI k = nI (32 * k) := pk_mul 32 k
theorem jmul40 {k : Nat} : (40 : Int32) * nI k = nI (40 * k) := pk_mul 40 k
theorem jmul2 {k : Nat} : (2 : Int32) * nI k = nI (2 * k) := pk_mul 2 k
theorem jsubL {k n : Nat} (h : n ≤ k) : nI k - (OfNat.ofNat n : Int32) = nI (k - (OfNat.ofNat n : Nat)) := by rw [jlit]; exact pk_sub h
theorem jsubN {k n : Nat} (h : n ≤ k) : nI k - nI n = nI (k - n) := pk_sub h
theorem jnm1 {k : Nat} (hk : k < 2 ^ 31) : ¬ nI k = -1 := by
  intro h
  have h2 := congrArg Int32.toInt h
  rw [nI_toInt hk] at h2
  have h3 : (-1 : Int32).toInt = -1 := by decide
  rw [h3] at h2
  omega
theorem jnlt0 {k : Nat} (hk : k < 2 ^ 31) : ¬ nI k < 0 := nI_pos hk
theorem jle0 {k : Nat} (hk : k < 2 ^ 31) : 0 ≤ nI k := nI_pos' hk
theorem jmaxN {a b : Nat} (ha : a < 2 ^ 31) (hb : b < 2 ^ 31) : jmax (nI a) (nI b) = nI (max a b) := by
  unfold jmax
  by_cases h : a < b
  · rw [if_pos ((nI_ltI ha hb).mpr h), Nat.max_eq_right (Nat.le_of_lt h)]
  · rw [if_neg (fun q => h ((nI_ltI ha hb).mp q)), Nat.max_eq_left (Nat.not_lt.mp h)]
theorem jminN {a b : Nat} (ha : a < 2 ^ 31) (hb : b < 2 ^ 31) : jmin (nI a) (nI b) = nI (min a b) := by
  unfold jmin
  by_cases h : b < a
  · rw [if_pos ((nI_ltI hb ha).mpr h), Nat.min_eq_right (Nat.le_of_lt h)]
  · rw [if_neg (fun q => h ((nI_ltI hb ha).mp q)), Nat.min_eq_left (Nat.not_lt.mp h)]
/-! Model.in over ints -/
theorem jw_le (a b : Int32) : a.toInt64 ≤ b.toInt64 ↔ a ≤ b := by rw [Int64.le_iff_toInt_le, Int32.le_iff_toInt_le, Int32.toInt_toInt64, Int32.toInt_toInt64]
theorem jin3_i (x a b : Int32) : jin3 x.toInt64 a.toInt64 b.toInt64 = if a ≤ x ∧ x ≤ b then 1 else 0 := by
  unfold jin3
  simp only [jw_le]
theorem jcmp_gt (x a : Int32) : ¬ x < a ↔ a ≤ x := by rw [Int32.lt_iff_toInt_lt, Int32.le_iff_toInt_le]; omega
theorem jcmp_le (x a : Int32) : ¬ x ≤ a ↔ a < x := by rw [Int32.lt_iff_toInt_lt, Int32.le_iff_toInt_le]; omega
/-- an int within small bounds is a number -/
theorem jnat {x : Int32} {lo hi : Nat} (h1 : nI lo ≤ x) (h2 : x ≤ nI hi) (hhi : hi < 2 ^ 31) (hlo : lo < 2 ^ 31) : ∃ k, lo ≤ k ∧ k ≤ hi ∧ x = nI k := by
  rw [Int32.le_iff_toInt_le, nI_toInt hlo] at h1
  rw [Int32.le_iff_toInt_le, nI_toInt hhi] at h2
  refine ⟨x.toInt.toNat, by omega, by omega, ?_⟩
  apply Int32.toInt_inj.mp
  rw [nI_toInt (by omega)]
  omega
theorem jm1 : (-1 : Int32).toInt = -1 := by decide
/-- the last one of so many -/
theorem jpred_toInt {k : Nat} (hk : k < 2 ^ 30) : (nI k - 1).toInt = (k : Int) - 1 := by
  have := pk_sub_toInt (a := k) (b := 1) hk (by decide)
  exact this
