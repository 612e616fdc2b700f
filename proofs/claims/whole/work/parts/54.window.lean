/-! how many bits: bytewise -/
theorem jand (a b : Nat) : nI a &&& nI b = nI (a &&& b) := by
  apply Int32.toBitVec_inj.1
  show BitVec.ofNat 32 a &&& BitVec.ofNat 32 b = BitVec.ofNat 32 (a &&& b)
  apply BitVec.eq_of_getLsbD_eq
  intro i hi
  simp [hi]
theorem jof32 (x : Int32) : ∃ n, n < 2 ^ 32 ∧ x = nI n := ⟨x.toBitVec.toNat, x.toBitVec.isLt, Int32.toBitVec_inj.mp (by show _ = BitVec.ofNat 32 _; simp)⟩
theorem bt_nI (n : Nat) {i : Nat} (hi : i < 32) : bt (nI n) i = n.testBit i := by
  unfold bt
  show (BitVec.ofNat 32 n).getLsbD i = _
  rw [BitVec.getLsbD_ofNat, decide_eq_true hi, Bool.true_and]
theorem jsh {n k : Nat} (hn : n < 2 ^ 32) (hk : k < 32) : jushr (nI n) (nI k) = nI (n / 2 ^ k) := by
  apply b_ext
  intro i hi
  rw [b_ushr k hk, bt_nI _ hi, Nat.testBit_div_two_pow]
  rcases Nat.lt_or_ge (k + i) 32 with h | h
  · rw [bt_nI _ h, Nat.add_comm]
  · rw [b_big h]
    symm
    apply Nat.testBit_lt_two_pow
    exact Nat.lt_of_lt_of_le hn (Nat.pow_le_pow_right (by decide) (by omega))
theorem jland {u0 u1 v0 v1 : Nat} (hu : u0 < 256) (hv : v0 < 256) : (u0 + 256 * u1) &&& (v0 + 256 * v1) = (u0 &&& v0) + 256 * (u1 &&& v1) := by
  have h1 : ((u0 + 256 * u1) &&& (v0 + 256 * v1)) % 2 ^ 8 = u0 &&& v0 := by
    rw [Nat.and_mod_two_pow, show (u0 + 256 * u1) % 2 ^ 8 = u0 by omega, show (v0 + 256 * v1) % 2 ^ 8 = v0 by omega]
  have h2 : ((u0 + 256 * u1) &&& (v0 + 256 * v1)) / 2 ^ 8 = u1 &&& v1 := by
    rw [Nat.and_div_two_pow, show (u0 + 256 * u1) / 2 ^ 8 = u1 by omega, show (v0 + 256 * v1) / 2 ^ 8 = v1 by omega]
  omega
theorem jland4 {a b c d w : Nat} (ha : a < 256) (hb : b < 256) (hc : c < 256) (hd : d < 256) (hw : w < 256) : (a + 256 * (b + 256 * (c + 256 * d))) &&& (w + 256 * (w + 256 * (w + 256 * w))) = (a &&& w) + 256 * ((b &&& w) + 256 * ((c &&& w) + 256 * (d &&& w))) := by
  rw [jland ha hw, jland hb hw, jland hc hw]
def jp1 (b : Nat) : Nat := b - (b / 2 &&& 85)
def jp2' (a : Nat) : Nat := (a &&& 51) + (a / 4 &&& 51)
def jp3' (a : Nat) : Nat := (a + a / 16) &&& 15
theorem jp1_a : ∀ b, b < 256 → ∀ c, c < 2 → (b / 2 + 128 * c) &&& 85 = b / 2 &&& 85 := by decide +kernel
theorem jp1_b : ∀ b, b < 256 → (b / 2 &&& 85) ≤ b ∧ jp1 b < 256 := by decide +kernel
theorem jp2_a : ∀ b, b < 256 → ∀ c, c < 4 → (b / 4 + 64 * c) &&& 51 = b / 4 &&& 51 := by decide +kernel
theorem jp2_b : ∀ b, b < 256 → jp2' (jp1 b) % 16 ≤ 4 ∧ jp2' (jp1 b) / 16 ≤ 4 := by decide +kernel
theorem jp3_a : ∀ b, b < 256 → ∀ c, c < 5 → (jp2' (jp1 b) + jp2' (jp1 b) / 16 + 16 * c) &&& 15 = jp3' (jp2' (jp1 b)) := by decide +kernel
theorem jp3_b : ∀ b, b < 256 → jp3' (jp2' (jp1 b)) = fb_ct (fun i => b.testBit i) 8 := by decide +kernel
theorem jm16 {c : Nat} (h1 : c % 16 ≤ 4) (h2 : c / 16 ≤ 4) : jp3' c ≤ 8 := by
  unfold jp3'
  rw [show (15 : Nat) = 2 ^ 4 - 1 from rfl, Nat.and_two_pow_sub_one_eq_mod, show c + c / 16 = 2 ^ 4 * (c / 16) + (c % 16 + c / 16) by omega, Nat.mul_add_mod]
  omega
theorem jbitsN {b0 b1 b2 b3 : Nat} (h0 : b0 < 256) (h1 : b1 < 256) (h2 : b2 < 256) (h3 : b3 < 256) : jbits (nI (b0 + 256 * (b1 + 256 * (b2 + 256 * b3)))) = nI (jp3' (jp2' (jp1 b0)) + jp3' (jp2' (jp1 b1)) + jp3' (jp2' (jp1 b2)) + jp3' (jp2' (jp1 b3))) := by
  unfold jbits
  have l1 := jp1_b b0 h0
  have l2 := jp1_b b1 h1
  have l3 := jp1_b b2 h2
  have l4 := jp1_b b3 h3
  have e1 : nI (b0 + 256 * (b1 + 256 * (b2 + 256 * b3))) - (jushr (nI (b0 + 256 * (b1 + 256 * (b2 + 256 * b3)))) 1 &&& 1431655765) = nI (jp1 b0 + 256 * (jp1 b1 + 256 * (jp1 b2 + 256 * jp1 b3))) := by
    rw [show (1 : Int32) = nI 1 from rfl, jsh (by omega) (by decide), show (1431655765 : Int32) = nI (85 + 256 * (85 + 256 * (85 + 256 * 85))) from by decide +kernel, jand, show (b0 + 256 * (b1 + 256 * (b2 + 256 * b3))) / 2 ^ 1 = (b0 / 2 + 128 * (b1 % 2)) + 256 * ((b1 / 2 + 128 * (b2 % 2)) + 256 * ((b2 / 2 + 128 * (b3 % 2)) + 256 * (b3 / 2 + 128 * 0))) by omega, jland4 (by omega) (by omega) (by omega) (by omega) (by omega), jp1_a b0 h0 _ (by omega), jp1_a b1 h1 _ (by omega), jp1_a b2 h2 _ (by omega), jp1_a b3 h3 _ (by omega), jsubN (by omega)]
    congr 1
    unfold jp1
    omega
  obtain ⟨a0, g0⟩ : ∃ a, a = jp1 b0 := ⟨_, rfl⟩
  obtain ⟨a1, g1⟩ : ∃ a, a = jp1 b1 := ⟨_, rfl⟩
  obtain ⟨a2, g2⟩ : ∃ a, a = jp1 b2 := ⟨_, rfl⟩
  obtain ⟨a3, g3⟩ : ∃ a, a = jp1 b3 := ⟨_, rfl⟩
  have q0 := jp2_b b0 h0
  have q1 := jp2_b b1 h1
  have q2 := jp2_b b2 h2
  have q3 := jp2_b b3 h3
  have r0 := fun c hc => jp3_a b0 h0 c hc
  have r1 := fun c hc => jp3_a b1 h1 c hc
  have r2 := fun c hc => jp3_a b2 h2 c hc
  have r3 := fun c hc => jp3_a b3 h3 c hc
  dsimp only
  rw [e1]
  rw [← g0] at l1 q0 r0 ⊢
  rw [← g1] at l2 q1 r1 ⊢
  rw [← g2] at l3 q2 r2 ⊢
  rw [← g3] at l4 q3 r3 ⊢
  have e2 : (nI (a0 + 256 * (a1 + 256 * (a2 + 256 * a3))) &&& 858993459) + (jushr (nI (a0 + 256 * (a1 + 256 * (a2 + 256 * a3)))) 2 &&& 858993459) = nI (jp2' a0 + 256 * (jp2' a1 + 256 * (jp2' a2 + 256 * jp2' a3))) := by
    rw [show (2 : Int32) = nI 2 from rfl, jsh (by omega) (by decide), show (858993459 : Int32) = nI (51 + 256 * (51 + 256 * (51 + 256 * 51))) from by decide +kernel, jand, jand, show (a0 + 256 * (a1 + 256 * (a2 + 256 * a3))) / 2 ^ 2 = (a0 / 4 + 64 * (a1 % 4)) + 256 * ((a1 / 4 + 64 * (a2 % 4)) + 256 * ((a2 / 4 + 64 * (a3 % 4)) + 256 * (a3 / 4 + 64 * 0))) by omega, jland4 (by omega) (by omega) (by omega) (by omega) (by omega), jland4 (by omega) (by omega) (by omega) (by omega) (by omega), jp2_a a0 l1.2 _ (by omega), jp2_a a1 l2.2 _ (by omega), jp2_a a2 l3.2 _ (by omega), jp2_a a3 l4.2 _ (by omega), nI_add]
    congr 1
    unfold jp2'
    omega
  rw [e2]
  generalize jp2' a0 = c0 at *
  generalize jp2' a1 = c1 at *
  generalize jp2' a2 = c2 at *
  generalize jp2' a3 = c3 at *
  have e3 : (nI (c0 + 256 * (c1 + 256 * (c2 + 256 * c3))) + jushr (nI (c0 + 256 * (c1 + 256 * (c2 + 256 * c3)))) 4) &&& 252645135 = nI (jp3' c0 + 256 * (jp3' c1 + 256 * (jp3' c2 + 256 * jp3' c3))) := by
    rw [show (4 : Int32) = nI 4 from rfl, jsh (by omega) (by decide), show (252645135 : Int32) = nI (15 + 256 * (15 + 256 * (15 + 256 * 15))) from by decide +kernel, nI_add, jand, show (c0 + 256 * (c1 + 256 * (c2 + 256 * c3))) + (c0 + 256 * (c1 + 256 * (c2 + 256 * c3))) / 2 ^ 4 = (c0 + c0 / 16 + 16 * (c1 % 16)) + 256 * ((c1 + c1 / 16 + 16 * (c2 % 16)) + 256 * ((c2 + c2 / 16 + 16 * (c3 % 16)) + 256 * (c3 + c3 / 16 + 16 * 0))) by omega, jland4 (by omega) (by omega) (by omega) (by omega) (by omega), r0 _ (by omega), r1 _ (by omega), r2 _ (by omega), r3 _ (by omega)]
  rw [e3]
  have t0 : jp3' c0 ≤ 8 := jm16 q0.1 q0.2
  have t1 : jp3' c1 ≤ 8 := jm16 q1.1 q1.2
  have t2 : jp3' c2 ≤ 8 := jm16 q2.1 q2.2
  have t3 : jp3' c3 ≤ 8 := jm16 q3.1 q3.2
  generalize jp3' c0 = d0 at *
  generalize jp3' c1 = d1 at *
  generalize jp3' c2 = d2 at *
  generalize jp3' c3 = d3 at *
  rw [show (8 : Int32) = nI 8 from rfl, jsh (by omega) (by decide), nI_add, show (16 : Int32) = nI 16 from rfl, jsh (by omega) (by decide), nI_add, show (63 : Int32) = nI 63 from rfl, jand, show (63 : Nat) = 2 ^ 6 - 1 from rfl, Nat.and_two_pow_sub_one_eq_mod]
  congr 1
  have z1 : (d0 + 256 * (d1 + 256 * (d2 + 256 * d3))) / 2 ^ 8 = d1 + 256 * (d2 + 256 * d3) := by omega
  rw [z1]
  have z2 : (d0 + 256 * (d1 + 256 * (d2 + 256 * d3)) + (d1 + 256 * (d2 + 256 * d3))) / 2 ^ 16 = (d2 + d3) + 256 * d3 := by omega
  rw [z2]
  omega
theorem jbits_ct (x : Int32) : jbits x = nI (fb_ct (bt x) 32) := by
  obtain ⟨n, hn, rfl⟩ := jof32 x
  have e : n = n % 256 + 256 * (n / 256 % 256 + 256 * (n / 65536 % 256 + 256 * (n / 16777216 % 256))) := by omega
  have eq : fb_ct (bt (nI n)) 32 = fb_ct (fun i => (n % 256).testBit i) 8 + fb_ct (fun i => (n / 256 % 256).testBit i) 8 + fb_ct (fun i => (n / 65536 % 256).testBit i) 8 + fb_ct (fun i => (n / 16777216 % 256).testBit i) 8 := by
    have c : ∀ k, k < 4 → fb_ct (fun i => bt (nI n) (8 * k + i)) 8 = fb_ct (fun i => (n / 2 ^ (8 * k) % 2 ^ 8).testBit i) 8 := by
      intro k hk
      apply fb_ct_cong
      intro i hi
      show bt (nI n) (8 * k + i) = (n / 2 ^ (8 * k) % 2 ^ 8).testBit i
      rw [bt_nI _ (by omega), Nat.testBit_mod_two_pow, decide_eq_true hi, Bool.true_and, Nat.testBit_div_two_pow, Nat.add_comm]
    have c0 := c 0 (by omega)
    have c1 := c 1 (by omega)
    have c2 := c 2 (by omega)
    have c3 := c 3 (by omega)
    have z : fb_ct (bt (nI n)) 32 = fb_ct (fun i => bt (nI n) (8 * 0 + i)) 8 + fb_ct (fun i => bt (nI n) (8 * 1 + i)) 8 + fb_ct (fun i => bt (nI n) (8 * 2 + i)) 8 + fb_ct (fun i => bt (nI n) (8 * 3 + i)) 8 := by
      rw [show (32 : Nat) = 8 + 8 + 8 + 8 from rfl, fb_ct_split, fb_ct_split, fb_ct_split]
      simp only [Nat.mul_zero, Nat.zero_add, Nat.mul_one]
    rw [z, c0, c1, c2, c3]
    simp only [Nat.mul_zero, Nat.pow_zero, Nat.div_one, Nat.mul_one]
  rw [eq]
  conv => lhs; rw [e]
  rw [jbitsN (by omega) (by omega) (by omega) (by omega), jp3_b _ (by omega), jp3_b _ (by omega), jp3_b _ (by omega), jp3_b _ (by omega)]
theorem fb_ct_hi {p : Nat → Bool} {k : Nat} : ∀ d, (∀ i, k ≤ i → i < k + d → p i = false) → fb_ct p (k + d) = fb_ct p k
  | 0, _ => rfl
  | d + 1, h => by
    show fb_ct p (k + d) + (if p (k + d) = true then 1 else 0) = _
    rw [fb_ct_hi d (fun i a b => h i a (by omega)), h (k + d) (by omega) (by omega)]
    rfl
theorem jst_window_ok : jst_window jInv := by
  rintro M x1 x2 ⟨F, od, S, k, q, hX⟩
  obtain ⟨hW, hO, hA, hAO, hB, hBO, hS, hIA, -⟩ := id hX
  have hI : jInv M := ⟨F, od, S, k, q, hX⟩
  have hns := hW.2.2.1.1
  have eA := hA.2.2.1
  have eB := hB.2.2.1
  rcases jem (0 ≤ x1 ∧ x1 ≤ nI F.ns - 1) with h1 | h1
  · exact ⟨0, -100001, by simp [f_X7_window, jisStep, eA, h1], by simp [f_X8_window, jisStepB, eB, h1], hI⟩
  rcases jem (0 ≤ x2 ∧ x2 ≤ 2) with h2 | h2
  · exact ⟨0, -100002, by simp [f_X7_window, jisStep, eA, h1, jisOut, h2], by simp [f_X8_window, jisStepB, eB, h1, jin_0_2, h2], hI⟩
  obtain ⟨s, hs, rfl⟩ := (jbelow (by omega)).mp h1
  obtain ⟨a1, a2, a3, a4, a5⟩ := hIA
  have s32 : s < 32 := by omega
  have n10 : ¬ (1 : Int32) = 0 := by decide
  have hh : (32 : Nat) ≤ 100000 := by decide
  rcases jem (s < k) with e | e
  · refine ⟨0, -1, ?_, ?_, hI⟩
    · unfold f_X7_window
      rw [jisStep, eA, if_pos h1, Option.bind_some, if_neg n10, jisOut, if_pos h2, Option.bind_some, if_pos rfl, a2, if_neg (jltF (by omega) (by omega))]
    · unfold f_X8_window
      rw [jisStepB, eB, if_pos h1, Option.bind_some, if_neg n10, jin_0_2, if_pos h2, if_neg n10]
      rcases a3 with ⟨c1, c2⟩ | ⟨c1, c2⟩
      · rw [c1, if_pos rfl]
      · rw [c1, if_neg n10, c2, if_neg (jltF (by omega) (by omega))]
  rcases a3 with ⟨c1, c2⟩ | ⟨c1, c2⟩
  · omega
  have hl : jLp (σ := Int32 × Int32) (ρ := Int32) 100 (fun ((z8, z9) : Int32 × Int32) => (if (M 221 31) ≤ z9 then some (Sum.inr z8) else (jrd M 247 32 (nI s)).bind fun v11 => some (Sum.inl (z8 + ((jushr v11 z9) &&& 1), z9 + 1)))) (0, 0) = some (nI (fb_ct (bt (M 247 s)) k)) := by
    refine jLp_for (fun j => (nI (fb_ct (bt (M 247 s)) j), nI j)) k 0 100 (by omega) (fun j _ hj => ?_) ?_
    · show (if (M 221 31) ≤ nI j then some (Sum.inr (nI (fb_ct (bt (M 247 s)) j))) else (jrd M 247 32 (nI s)).bind fun v11 => some (Sum.inl (nI (fb_ct (bt (M 247 s)) j) + ((jushr v11 (nI j)) &&& 1), nI j + 1))) = _
      rw [c2, if_neg (jleF (by omega) (by omega)), jrd_nI s32 hh, Option.bind_some, jb1 _ (show j < 32 by omega), nI_1, fb_ct_succ]
      by_cases eb : bt (M 247 s) j = true
      · rw [if_pos eb, if_pos eb, nI_1]
      · rw [if_neg eb, if_neg eb, Nat.add_zero, show (0 : Int32) = nI 0 from rfl, nI_add, Nat.add_zero]
    · show (if (M 221 31) ≤ nI (0 + k) then some (Sum.inr (nI (fb_ct (bt (M 247 s)) (0 + k)))) else _) = _
      rw [c2, if_pos (jleT (by omega) (by omega)), Nat.zero_add]
  obtain ⟨d1, d2, d3⟩ := a4 s e
  have hc : jbits (M 77 s) = nI (fb_ct (bt (M 247 s)) k) := by
    rw [jbits_ct, d3]
    congr 1
    obtain ⟨d, hd⟩ : ∃ d, 32 = k + d := ⟨32 - k, by omega⟩
    rw [hd]
    apply fb_ct_hi
    intro i h3 h4
    cases hb : bt (M 247 s) i with
    | false => rfl
    | true =>
      rw [← d3] at hb
      have := (a5 s i s32 hb).2
      omega
  have e2 : f_X8_window 100 M (nI s) x2 = some (if x2 = 0 then M 245 s else if x2 = 1 then M 246 s else nI (fb_ct (bt (M 247 s)) k)) := by
    unfold f_X8_window
    rw [jisStepB, eB, if_pos h1, Option.bind_some, if_neg n10, jin_0_2, if_pos h2, if_neg n10, c1, if_neg n10]
    rw [hl]
    rw [c2, if_pos (jltT e (by omega)), Option.bind_some, jrd_nI s32 hh, jrd_nI s32 hh, Option.bind_some, Option.bind_some]
    by_cases e0 : x2 = 0
    · rw [if_pos e0, if_pos e0]
    · rw [if_neg e0, if_neg e0]
      by_cases e1 : x2 = 1
      · rw [if_pos e1, if_pos e1]
      · rw [if_neg e1, if_neg e1]
  refine ⟨100, _, ?_, e2, hI⟩
  unfold f_X7_window
  rw [jisStep, eA, if_pos h1, Option.bind_some, if_neg n10, jisOut, if_pos h2, Option.bind_some, if_pos rfl, a2, if_pos (jltT e (by omega)), jrd_nI s32 hh, jrd_nI s32 hh, jrd_nI s32 hh, Option.bind_some, Option.bind_some, Option.bind_some, hc, d1, d2]
  by_cases e0 : x2 = 0
  · rw [if_pos e0, if_pos e0]
  · rw [if_neg e0, if_neg e0]
    by_cases e1 : x2 = 1
    · rw [if_pos e1, if_pos e1]
    · rw [if_neg e1, if_neg e1]
