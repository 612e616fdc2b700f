/-! sums of spans along a piece -/
def sR (f : Nat → Nat) (a : Nat) : Nat → Nat
  | 0 => 0
  | n + 1 => sR f a n + f (a + n)
theorem sR_hd (f : Nat → Nat) (a : Nat) : ∀ n, sR f a (n + 1) = f a + sR f (a + 1) n
  | 0 => by
    show 0 + f (a + 0) = f a + 0
    rw [Nat.add_zero, Nat.zero_add, Nat.add_zero]
  | n + 1 => by
    show sR f a (n + 1) + f (a + (n + 1)) = f a + (sR f (a + 1) n + f (a + 1 + n))
    rw [sR_hd f a n, show a + (n + 1) = a + 1 + n by omega]
    omega
theorem sR_le {f : Nat → Nat} {a B : Nat} : ∀ n, (∀ k, k < n → f (a + k) ≤ B) → sR f a n ≤ B * n
  | 0, _ => Nat.zero_le _
  | n + 1, h => by
    have h1 := sR_le n (fun k hk => h k (by omega))
    have h2 := h n (by omega)
    show sR f a n + f (a + n) ≤ B * (n + 1)
    rw [Nat.mul_succ]
    omega
/-- spans ahead of a step, behind it, in its piece -/
def FT.sa (F : FT) (s : Nat) : Nat := sR (fun j => F.sp (F.ln (F.pc s) j)) 0 (F.rk s)
def FT.sb (F : FT) (s : Nat) : Nat := sR (fun j => F.sp (F.ln (F.pc s) j)) (F.rk s + 1) (F.lc (F.pc s) - (F.rk s + 1))
section SM
variable {M : JMem} {N : Nat} {F : FT}
theorem sp_ln (hW : WF F) {p j : Nat} (hj : j < F.lc p) : F.ln p j < F.ns ∧ F.sp (F.ln p j) ≤ 1000 := by
  obtain ⟨a1, a2, a3⟩ := hW.2.1.2.2.2 p j hj
  exact ⟨a1, (hW.2.2.1.2 _ a1).2.2.2.1⟩
theorem sa_le (hW : WF F) {s : Nat} (hs : s < F.ns) : F.sa s ≤ 8000 := by
  have h1 := (hW.2.2.1.2 s hs).2.2.2.2.1
  have h2 := hW.2.1.2.2.1 (F.pc s)
  have := sR_le (f := fun j => F.sp (F.ln (F.pc s) j)) (a := 0) (B := 1000) (F.rk s) (fun k hk => (sp_ln hW (show 0 + k < F.lc (F.pc s) by omega)).2)
  unfold FT.sa
  omega
theorem sb_le (hW : WF F) {s : Nat} (hs : s < F.ns) : F.sb s ≤ 8000 := by
  have h1 := (hW.2.2.1.2 s hs).2.2.2.2.1
  have h2 := hW.2.1.2.2.1 (F.pc s)
  have := sR_le (f := fun j => F.sp (F.ln (F.pc s) j)) (a := F.rk s + 1) (B := 1000) (F.lc (F.pc s) - (F.rk s + 1)) (fun k hk => (sp_ln hW (show F.rk s + 1 + k < F.lc (F.pc s) by omega)).2)
  unfold FT.sb
  omega
theorem rest_eq (hW : WF F) {s : Nat} (hs : s < F.ns) : sR (fun j => F.sp (F.ln (F.pc s) j)) (F.rk s) (F.lc (F.pc s) - F.rk s) = F.sp s + F.sb s := by
  have h1 := hW.2.2.1.2 s hs
  rw [show F.lc (F.pc s) - F.rk s = F.lc (F.pc s) - (F.rk s + 1) + 1 by have := h1.2.2.2.2.1; omega, sR_hd]
  show F.sp (F.ln (F.pc s) (F.rk s)) + _ = _
  rw [h1.2.2.2.2.2]
  rfl
/-- the class's loop over a piece -/
theorem jsumA (hW : WF F) (hA : AF M F) {p a c : Nat} (hp : p < 12) (hc : a + c ≤ F.lc p) (hN : 100 ≤ N) {g : Int32 × Int32 → Option ((Int32 × Int32) ⊕ Int32)} (hg : ∀ z : Int32 × Int32, g z = if nI (a + c) ≤ z.2 then some (Sum.inr z.1) else (jrw 5 12 (nI p)).bind fun w => (jrd M w 8 z.2).bind fun v => (jrd M 21 32 v).bind fun x => some (Sum.inl (z.1 + x, z.2 + 1))) : jLp (σ := Int32 × Int32) (ρ := Int32) N g (0, nI a) = some (nI (sR (fun j => F.sp (F.ln p j)) a c)) := by
  have hlc := hW.2.1.2.2.1 p
  have hns := hW.2.2.1.1
  have hl : ∃ x, jLp (σ := Int32 × Int32) (ρ := Int32) N g (0, nI a) = some x ∧ x = nI (sR (fun j => F.sp (F.ln p j)) a c) := by
    refine jLp_tot (fun n z => ∃ k, n + k = c ∧ z.2 = nI (a + k) ∧ z.1 = nI (sR (fun j => F.sp (F.ln p j)) a k)) _ ?_ N c (0, nI a) (by omega) ⟨0, by omega, rfl, rfl⟩
    rintro n ⟨z1, z2⟩ ⟨k, hn, hz, hz1⟩
    dsimp only at hz hz1
    subst hz hz1
    rw [hg]
    dsimp only
    rcases Nat.eq_zero_or_pos n with en | en
    · rw [if_pos (jleT (by omega) (by omega))]
      exact ⟨_, rfl, Or.inr ⟨_, rfl, by rw [show k = c by omega]⟩⟩
    · obtain ⟨b1, b2⟩ := sp_ln hW (show a + k < F.lc p by omega)
      rw [if_neg (jleF (by omega) (by omega)), jrw_nI hp (by decide), Option.bind_some, jrd_nI (show a + k < 8 by omega) (by decide), Option.bind_some, hA.2.2.2.2.2.2.1 p _ hp (by omega), jrd_nI (show F.ln p (a + k) < 32 by omega) (by decide), Option.bind_some, (hA.2.2.2.2.2.2.2.1 _ b1).2.2.1]
      exact ⟨_, rfl, Or.inl ⟨_, n - 1, rfl, by omega, k + 1, by omega, nI_1 (a + k), nI_add _ _⟩⟩
  obtain ⟨x, e1, e2⟩ := hl
  rw [e1, e2]
theorem jsumA0 (hW : WF F) (hA : AF M F) {p c : Nat} (hp : p < 12) (hc : c ≤ F.lc p) (hN : 100 ≤ N) {g : Int32 × Int32 → Option ((Int32 × Int32) ⊕ Int32)} (hg : ∀ z : Int32 × Int32, g z = if nI c ≤ z.2 then some (Sum.inr z.1) else (jrw 5 12 (nI p)).bind fun w => (jrd M w 8 z.2).bind fun v => (jrd M 21 32 v).bind fun x => some (Sum.inl (z.1 + x, z.2 + 1))) : jLp (σ := Int32 × Int32) (ρ := Int32) N g (0, 0) = some (nI (sR (fun j => F.sp (F.ln p j)) 0 c)) :=
  jsumA (a := 0) hW hA hp (by omega) hN (by rw [Nat.zero_add]; exact hg)
theorem jsaA (hW : WF F) (hA : AF M F) {s : Nat} (hs : s < F.ns) (hN : 100 ≤ N) : f_X2_spansAhead N M (nI s) = some (nI (F.sa s)) := by
  obtain ⟨p1, p2, p3, p4, p5, p6⟩ := hW.2.2.1.2 s hs
  obtain ⟨a1, a2, a3, a4⟩ := hA.2.2.2.2.2.2.2.1 s hs
  have hns := hW.2.2.1.1
  have hnp := hW.2.1.1
  unfold f_X2_spansAhead
  rw [jrd_nI (by omega) (by decide), Option.bind_some, a1]
  rw [jsumA0 (c := F.rk s) (p := F.pc s) hW hA (by omega) (by omega) hN (fun ⟨z1, z2⟩ => by
    dsimp only
    rw [jrd_nI (by omega) (by decide), Option.bind_some, a4]), Option.bind_some]
  rfl
theorem jsbA (hW : WF F) (hA : AF M F) {s : Nat} (hs : s < F.ns) (hN : 100 ≤ N) : f_X2_spansBehind N M (nI s) = some (nI (F.sb s)) := by
  obtain ⟨p1, p2, p3, p4, p5, p6⟩ := hW.2.2.1.2 s hs
  obtain ⟨a1, a2, a3, a4⟩ := hA.2.2.2.2.2.2.2.1 s hs
  have hns := hW.2.2.1.1
  have hnp := hW.2.1.1
  unfold f_X2_spansBehind
  rw [jrd_nI (by omega) (by decide), Option.bind_some, a1, jrd_nI (by omega) (by decide), Option.bind_some, a4, nI_1]
  rw [jsumA (a := F.rk s + 1) (c := F.lc (F.pc s) - (F.rk s + 1)) (p := F.pc s) hW hA (by omega) (by omega) hN (fun ⟨z1, z2⟩ => by
    dsimp only
    rw [jrd_nI (by omega) (by decide), Option.bind_some, hA.2.2.2.2.2.1 _ (by omega), show F.rk s + 1 + (F.lc (F.pc s) - (F.rk s + 1)) = F.lc (F.pc s) by omega]), Option.bind_some]
  rfl
/-- the model's -/
theorem jsumB (hW : WF F) (hB : BF M F) {p a c : Nat} (hp : p < 12) (hc : a + c ≤ F.lc p) (hN : 100 ≤ N) {g : Int32 × Int32 → Option ((Int32 × Int32) ⊕ Int32)} (hg : ∀ z : Int32 × Int32, g z = if nI (a + c) ≤ z.2 then some (Sum.inr z.1) else (jrd M 226 96 ((8 * nI p) + z.2)).bind fun v => (jrd M 229 32 v).bind fun x => some (Sum.inl (z.1 + x, z.2 + 1))) : jLp (σ := Int32 × Int32) (ρ := Int32) N g (0, nI a) = some (nI (sR (fun j => F.sp (F.ln p j)) a c)) := by
  have hlc := hW.2.1.2.2.1 p
  have hns := hW.2.2.1.1
  have hl : ∃ x, jLp (σ := Int32 × Int32) (ρ := Int32) N g (0, nI a) = some x ∧ x = nI (sR (fun j => F.sp (F.ln p j)) a c) := by
    refine jLp_tot (fun n z => ∃ k, n + k = c ∧ z.2 = nI (a + k) ∧ z.1 = nI (sR (fun j => F.sp (F.ln p j)) a k)) _ ?_ N c (0, nI a) (by omega) ⟨0, by omega, rfl, rfl⟩
    rintro n ⟨z1, z2⟩ ⟨k, hn, hz, hz1⟩
    dsimp only at hz hz1
    subst hz hz1
    rw [hg]
    dsimp only
    rcases Nat.eq_zero_or_pos n with en | en
    · rw [if_pos (jleT (by omega) (by omega))]
      exact ⟨_, rfl, Or.inr ⟨_, rfl, by rw [show k = c by omega]⟩⟩
    · obtain ⟨b1, b2⟩ := sp_ln hW (show a + k < F.lc p by omega)
      rw [if_neg (jleF (by omega) (by omega)), jmul8, nI_add, jrd_nI (show 8 * p + (a + k) < 96 by omega) (by decide), Option.bind_some, hB.2.2.2.2.2.2.1 p _ hp (by omega), jrd_nI (show F.ln p (a + k) < 32 by omega) (by decide), Option.bind_some, (hB.2.2.2.2.2.2.2 _ b1).2.2.1]
      exact ⟨_, rfl, Or.inl ⟨_, n - 1, rfl, by omega, k + 1, by omega, nI_1 (a + k), nI_add _ _⟩⟩
  obtain ⟨x, e1, e2⟩ := hl
  rw [e1, e2]
theorem jrestB (hW : WF F) (hB : BF M F) {s : Nat} (hs : s < F.ns) (hN : 100 ≤ N) : f_X8_rest N M (nI s) = some (nI (F.sp s + F.sb s)) := by
  obtain ⟨p1, p2, p3, p4, p5, p6⟩ := hW.2.2.1.2 s hs
  obtain ⟨a1, a2, a3, a4⟩ := hB.2.2.2.2.2.2.2 s hs
  have hns := hW.2.2.1.1
  have hnp := hW.2.1.1
  unfold f_X8_rest
  rw [jrd_nI (by omega) (by decide), Option.bind_some, a4]
  rw [jsumB (a := F.rk s) (c := F.lc (F.pc s) - F.rk s) (p := F.pc s) hW hB (by omega) (by omega) hN (fun ⟨z1, z2⟩ => by
    dsimp only
    rw [jrd_nI (by omega) (by decide), Option.bind_some, a1, jrd_nI (show F.pc s < 12 by omega) (by decide), Option.bind_some, hB.2.2.2.2.2.1 _ p1, Option.bind_some, show F.rk s + (F.lc (F.pc s) - F.rk s) = F.lc (F.pc s) by omega]), Option.bind_some, rest_eq hW hs]
end SM
