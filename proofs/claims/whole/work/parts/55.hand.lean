/-! the latest ends, in their order -/
def insF (e : Nat) (T : Nat → Nat) : Nat → Nat := fun j => if j = 0 then max e (T 0) else max (T j) (min e (T (j - 1)))
def FT.tt (F : FT) (b row : Nat → Nat) : Nat → Nat → Nat
  | 0 => fun _ => 0
  | i + 1 => insF (b (row i) + F.sp (row i)) (FT.tt F b row i)
theorem insF_desc {e : Nat} {T : Nat → Nat} (h : ∀ j, T (j + 1) ≤ T j) : ∀ j, insF e T (j + 1) ≤ insF e T j := by
  intro j
  have h1 := h j
  unfold insF
  rw [if_neg (show ¬ j + 1 = 0 by omega), Nat.add_sub_cancel]
  by_cases e0 : j = 0
  · subst e0
    rw [if_pos rfl]
    omega
  · rw [if_neg e0]
    have h2 := h (j - 1)
    rw [Nat.sub_add_cancel (by omega)] at h2
    omega
theorem tt_desc (F : FT) (b row : Nat → Nat) : ∀ i j, F.tt b row i (j + 1) ≤ F.tt b row i j
  | 0, _ => Nat.le_refl _
  | i + 1, j => insF_desc (tt_desc F b row i) j
theorem tt_zero (F : FT) (b row : Nat → Nat) : ∀ i j, i ≤ j → F.tt b row i j = 0
  | 0, _, _ => rfl
  | i + 1, j, h => by
    show insF _ (F.tt b row i) j = 0
    unfold insF
    rw [if_neg (by omega), tt_zero F b row i j (by omega), tt_zero F b row i (j - 1) (by omega)]
    omega
theorem tt_le {F : FT} {b row : Nat → Nat} {B : Nat} : ∀ i j, (∀ k, k < i → b (row k) + F.sp (row k) ≤ B) → F.tt b row i j ≤ B
  | 0, _, _ => Nat.zero_le _
  | i + 1, j, h => by
    show insF _ (F.tt b row i) j ≤ B
    have h1 := h i (by omega)
    have h2 := tt_le (B := B) i j (fun k hk => h k (by omega))
    have h3 := tt_le (B := B) i 0 (fun k hk => h k (by omega))
    unfold insF
    split
    · omega
    · omega
theorem tt_cong {F : FT} {b b' row row' : Nat → Nat} : ∀ i, (∀ k, k < i → b (row k) = b' (row' k) ∧ row k = row' k) → F.tt b row i = F.tt b' row' i
  | 0, _ => rfl
  | i + 1, h => by
    show insF _ (F.tt b row i) = insF _ (F.tt b' row' i)
    rw [tt_cong i (fun k hk => h k (by omega)), (h i (by omega)).1, (h i (by omega)).2]
theorem jkeep {M : JMem} {o e N : Nat} {T : Nat → Nat} (hm : ∀ j, j < 4 → M (o + 9) j = nI (T j)) (hd : ∀ j, T (j + 1) ≤ T j) (hT : T 0 < 2 ^ 31) (he : e < 2 ^ 31) (hN : 100 ≤ N) : ∃ M', f_X1_keepLatest N M o (nI e) = some M' ∧ (∀ j, j < 4 → M' (o + 9) j = nI (insF e T j)) ∧ ∀ a i, a ≠ o + 9 → M' a i = M a i := by
  have hT2 : ∀ j, T j ≤ T 0 := by
    intro j
    induction j with
    | zero => exact Nat.le_refl _
    | succ j ih => exact Nat.le_trans (hd j) ih
  have hl : ∃ r, jLp (σ := Int32 × Int32 × JMem) (ρ := JMem) N (fun ((z7, z8, M9) : Int32 × Int32 × JMem) => (if 4 ≤ z8 then some (Sum.inr M9) else (jrd M9 (o + 9) 4 z8).bind fun v11 => (((if z7 ≤ v11 then some ((z7, M9)) else (jrd M9 (o + 9) 4 z8).bind fun v17 => (jwr M9 (o + 9) 4 z8 z7).bind fun M18 => some ((v17, M18))) : Option (Int32 × JMem)).bind fun (u20, M21) => some (Sum.inl (u20, z8 + 1, M21))))) (nI e, 0, M) = some r ∧ ((∀ j, j < 4 → r (o + 9) j = nI (insF e T j)) ∧ ∀ a i, a ≠ o + 9 → r a i = M a i) := by
    refine jLp_tot (fun n z => ∃ h, n + h = 4 ∧ z.2.1 = nI h ∧ z.1 = nI (if h = 0 then e else min e (T (h - 1))) ∧ (∀ j, j < 4 → z.2.2 (o + 9) j = nI (if j < h then insF e T j else T j)) ∧ ∀ a i, a ≠ o + 9 → z.2.2 a i = M a i) _ ?_ N 4 (nI e, 0, M) (by omega) ⟨0, by omega, rfl, rfl, fun j hj => ?_, fun a i _ => rfl⟩
    · rintro n ⟨z7, z8, M9⟩ ⟨h, hn, hz, hy, hx, hf⟩
      dsimp only at hz hy hx hf ⊢
      subst hz
      obtain ⟨w, hw⟩ : ∃ w, w = (if h = 0 then e else min e (T (h - 1))) := ⟨_, rfl⟩
      have hw2 : w < 2 ^ 31 := by
        rw [hw]
        split
        · exact he
        · omega
      rw [← hw] at hy
      subst hy
      rcases Nat.eq_zero_or_pos n with en | en
      · rw [if_pos (by rw [jLle (by omega) (by decide)]; omega)]
        refine ⟨_, rfl, Or.inr ⟨_, rfl, fun j hj => ?_, hf⟩⟩
        rw [hx j hj, if_pos (by omega)]
      · have h4 : h < 4 := by omega
        have hTh := hT2 h
        have hins : insF e T h = max (T h) w := by
          unfold insF
          rw [hw]
          by_cases e0 : h = 0
          · rw [if_pos e0, if_pos e0, e0]
            omega
          · rw [if_neg e0, if_neg e0]
        have hnext : min w (T h) = min e (T h) := by
          rw [hw]
          split
          · rfl
          · have h9 := hd (h - 1)
            rw [Nat.sub_add_cancel (by omega)] at h9
            omega
        rw [if_neg (by rw [jLle (by omega) (by decide)]; omega), jrd_nI h4 (by decide), Option.bind_some, hx h h4, if_neg (Nat.lt_irrefl h)]
        by_cases e1 : w ≤ T h
        · rw [if_pos (jleT e1 (by omega)), Option.bind_some]
          refine ⟨_, rfl, Or.inl ⟨_, n - 1, rfl, by omega, h + 1, by omega, nI_1 h, ?_, fun j hj => ?_, hf⟩⟩
          · rw [if_neg (by omega), Nat.add_sub_cancel, ← hnext, Nat.min_eq_left e1]
          · show M9 (o + 9) j = _
            rw [hx j hj]
            by_cases ej : j = h
            · rw [if_neg (by omega), if_pos (by omega), ej, hins]
              congr 1
              omega
            · by_cases ej2 : j < h
              · rw [if_pos ej2, if_pos (by omega)]
              · rw [if_neg ej2, if_neg (by omega)]
        · rw [if_neg (jleF (by omega) hw2), Option.bind_some, jwr_nI h4 (by decide), Option.bind_some, Option.bind_some]
          refine ⟨_, rfl, Or.inl ⟨_, n - 1, rfl, by omega, h + 1, by omega, nI_1 h, ?_, fun j hj => ?_, fun a i ha => ?_⟩⟩
          · show nI (T h) = _
            rw [if_neg (by omega), Nat.add_sub_cancel, ← hnext, Nat.min_eq_right (by omega)]
          · show jup M9 (o + 9) h (nI w) (o + 9) j = _
            rw [jup_at]
            by_cases ej : j = h
            · rw [if_pos ⟨rfl, ej⟩, if_pos (by omega), ej, hins]
              congr 1
              omega
            · rw [if_neg (fun z => ej z.2), hx j hj]
              by_cases ej2 : j < h
              · rw [if_pos ej2, if_pos (by omega)]
              · rw [if_neg ej2, if_neg (by omega)]
          · show jup M9 (o + 9) h (nI w) a i = _
            rw [jup_ne ha]
            exact hf a i ha
    · rw [if_neg (Nat.not_lt_zero j)]
      exact hm j hj
  obtain ⟨r, e1, h1, h2⟩ := hl
  refine ⟨r, ?_, h1, h2⟩
  unfold f_X1_keepLatest
  rw [e1]
  rfl
theorem jendA {M : JMem} {o s v w : Nat} (hs : s < 32) (h1 : M (o + 1) s = nI v) (h2 : M 21 s = nI w) : f_X1_endOf M o (nI s) = some (nI (v + w)) := by
  unfold f_X1_endOf
  rw [jrd_nI hs (by decide), Option.bind_some, jrd_nI hs (by decide), Option.bind_some, h1, h2, nI_add]
theorem jfreeA {M : JMem} {o r m i h N : Nat} {F : FT} {b row : Nat → Nat} (hm : m < 8) (hi : i ≤ 32) (ho : r + 10 < o) (hr : 33 ≤ r) (h1 : M (o + 8) m = nI i) (h2 : ∀ j, j < i → row j < 32 ∧ M (r + 1 + 1 + m) j = nI (row j) ∧ M (o + 1) (row j) = nI (b (row j)) ∧ M 21 (row j) = nI (F.sp (row j)) ∧ b (row j) + F.sp (row j) ≤ 1000000) (hh : 1 ≤ h ∧ h ≤ 4) (h3 : M 3 m = nI h) (hN : 100 ≤ N) : ∃ M', f_X1_freeHand N M o r (nI m) = some (M', nI (F.tt b row i (h - 1))) ∧ ∀ a j, a ≠ o + 9 → M' a j = M a j := by
  have hf0 : ∀ a j, a ≠ o + 9 → jfill M (o + 9) 4 0 a j = M a j := by
    intro a j ha
    unfold jfill jrow
    rw [if_neg ha]
  have hl : ∃ t, jLp (σ := Int32 × JMem) (ρ := JMem) N (fun ((z8, M9) : Int32 × JMem) => (jrd M9 (o + 8) 8 (nI m)).bind fun v11 => (if v11 ≤ z8 then some (Sum.inr M9) else (jrw (r + 1) 8 (nI m)).bind fun w12 => (jrd M9 w12 32 z8).bind fun v13 => (f_X1_endOf M9 o v13).bind fun v14 => (f_X1_keepLatest N M9 o v14).bind fun M15 => some (Sum.inl (z8 + 1, M15)))) (0, jfill M (o + 9) 4 0) = some t ∧ ((∀ j, j < 4 → t (o + 9) j = nI (F.tt b row i j)) ∧ ∀ a j, a ≠ o + 9 → t a j = M a j) := by
    refine jLp_tot (fun n z => ∃ k, n + k = i ∧ z.1 = nI k ∧ (∀ j, j < 4 → z.2 (o + 9) j = nI (F.tt b row k j)) ∧ ∀ a j, a ≠ o + 9 → z.2 a j = M a j) _ ?_ N i (0, jfill M (o + 9) 4 0) (by omega) ⟨0, by omega, rfl, fun j hj => ?_, hf0⟩
    · rintro n ⟨z8, M9⟩ ⟨k, hn, hz, hx, hf⟩
      dsimp only at hz hx hf ⊢
      subst hz
      rw [jrd_nI hm (by decide), Option.bind_some, hf _ _ (by omega), h1]
      rcases Nat.eq_zero_or_pos n with en | en
      · have ek : k = i := by omega
        rw [if_pos (jleT (by omega) (by omega))]
        exact ⟨_, rfl, Or.inr ⟨_, rfl, by rw [← ek]; exact hx, hf⟩⟩
      · obtain ⟨a1, a2, a3, a4, a5⟩ := h2 k (by omega)
        rw [if_neg (jleF (by omega) (by omega)), jrw_nI hm (by decide), Option.bind_some, jrd_nI (by omega) (by decide), Option.bind_some, hf _ _ (by omega), a2, jendA a1 ((hf _ _ (by omega)).trans a3) ((hf _ _ (by omega)).trans a4), Option.bind_some]
        have hb : F.tt b row k 0 ≤ 1000000 := tt_le k 0 (fun j hj => (h2 j (by omega)).2.2.2.2)
        obtain ⟨M', e1, e2, e3⟩ := jkeep (e := b (row k) + F.sp (row k)) hx (tt_desc F b row k) (by omega) (by omega) hN
        rw [e1, Option.bind_some]
        exact ⟨_, rfl, Or.inl ⟨_, n - 1, rfl, by omega, k + 1, by omega, nI_1 k, e2, fun a j ha => (e3 a j ha).trans (hf a j ha)⟩⟩
    · show jfill M (o + 9) 4 0 (o + 9) j = nI 0
      unfold jfill jrow
      rw [if_pos rfl, if_pos hj]
      rfl
  obtain ⟨t, e1, g1, g2⟩ := hl
  refine ⟨t, ?_, g2⟩
  unfold f_X1_freeHand
  rw [Option.bind_some, e1, Option.bind_some, jrd_nI hm (by decide), Option.bind_some, g2 _ _ (by omega), h3, jsub1 hh.1, jrd_nI (show h - 1 < 4 by omega) (by decide), Option.bind_some, g1 _ (by omega)]
