/-! bounds: the class tries the rest -/
section KB
variable {M : JMem} {N n : Nat} {fi la sp : Nat → Nat}
theorem wv_ub (hJ : JJ n fi la sp) : ∀ r d u e t, fb_ct u n = d → d + r = n → e ≤ 8000 + 1000 * d → t ≤ 16000 + 1000 * d → wv n fi la sp r u e t ≤ 16000 + 1000 * n
  | 0, d, u, e, t, _, hr, _, ht => by
    show t ≤ _
    have : d = n := by omega
    rw [this] at ht
    exact ht
  | r + 1, d, u, e, t, hu, hr, he, ht => by
    have ex : ∃ k, k < n ∧ u k = false := by
      rcases Classical.em (∃ k, k < n ∧ u k = false) with z | z
      · exact z
      · exfalso
        have : fb_ct u n = n := fb_ct_all.mpr (fun s hs => by
          cases e : u s with
          | true => rfl
          | false => exact absurd ⟨s, hs, e⟩ z)
        omega
    obtain ⟨k, hk, hku⟩ := ex
    obtain ⟨b1, b2, b3, b4⟩ := hJ.2 k hk
    have h1 := mF_le (f := fun k => wv n fi la sp r (addB u k) (wE fi sp e k) (max t (wE fi sp e k + la k))) (u := u) (a := 0) n k (by omega) (by omega) hku
    have hwE : wE fi sp e k ≤ 8000 + 1000 * (d + 1) := by
      unfold wE
      omega
    have h2 := wv_ub hJ r (d + 1) (addB u k) (wE fi sp e k) (max t (wE fi sp e k + la k)) (by rw [addB_ct hk hku, hu]) (by omega) hwE (by omega)
    exact Nat.le_trans h1 h2
theorem mF_anti {f : Nat → Nat} {u : Nat → Bool} {a : Nat} : ∀ d m, mF f u a (m + d) ≤ mF f u a m
  | 0, m => Nat.le_refl _
  | d + 1, m => by
    have ih := mF_anti (f := f) (u := u) (a := a) d m
    show (if u (a + (m + d)) = true then mF f u a (m + d) else min (mF f u a (m + d)) (f (a + (m + d)))) ≤ _
    split <;> omega
theorem jrestA (hJ : JJ n fi la sp) (h : JA M n fi la sp) {c : Nat} (hN : 100 ≤ N) : ∀ q d (bits : Int32) u e t best, d ≤ n → n < q + d → (∀ k, k < n → bt bits k = u k) → fb_ct u n = d → e ≤ 8000 + 1000 * d → t ≤ 16000 + 1000 * d → best ≤ 1000000 → c ≤ best → c ≤ wv n fi la sp (n - d) u e t → f_X0_tryRest N q M bits (nI e) (nI t) (nI best) (nI c) (nI d) = some (nI (min best (wv n fi la sp (n - d) u e t)))
  | 0, d, bits, u, e, t, best, hd, hq, _, _, _, _, _, _, _ => absurd hq (by omega)
  | q + 1, d, bits, u, e, t, best, hd, hq, hb, hu, he, ht, hbe, hcb, hcv => by
    have hn := hJ.1
    have hB : jBIG = 1000000000 := rfl
    show (if nI t < nI best then _ else _) = _
    by_cases e1 : t < best
    · rw [if_pos (show nI t < nI best from jltT e1 (by omega)), h.1]
      by_cases e2 : d < n
      · rw [if_pos (show nI d < nI n from jltT e2 (by omega))]
        obtain ⟨r, hr⟩ : ∃ r, n - d = r + 1 := ⟨n - d - 1, by omega⟩
        rw [hr] at hcv ⊢
        have hwv : wv n fi la sp (r + 1) u e t = mF (fun k => wv n fi la sp r (addB u k) (wE fi sp e k) (max t (wE fi sp e k + la k))) u 0 n := rfl
        rw [hwv] at hcv ⊢
        generalize hch : (fun k => wv n fi la sp r (addB u k) (wE fi sp e k) (max t (wE fi sp e k + la k))) = ch at *
        have hl : ∃ x, jLp (σ := Int32 × Int32) (ρ := Int32) N (fun ((z7, z8) : Int32 × Int32) => (if nI n ≤ z8 then some (Sum.inr z7) else (if z7 ≤ nI c then some (Sum.inr z7) else (((if ((jushr bits z8) &&& 1) = 0 then (jrd M 79 32 z8).bind fun v15 => (jrd M 81 32 z8).bind fun v16 => (jrd M 80 32 z8).bind fun v17 => (f_X0_tryRest N q M (bits ||| (jshl 1 z8)) ((jmax (nI e) v15) + v16) (jmax (nI t) (((jmax (nI e) v15) + v16) + v17)) z7 (nI c) (nI d + 1)).bind fun v18 => some (v18) else some (z7)) : Option (Int32)).bind fun u20 => some (Sum.inl (u20, z8 + 1)))))) (nI best, 0) = some x ∧ x = nI (min best (mF ch u 0 n)) := by
          refine jLp_tot (fun cc (z : Int32 × Int32) => ∃ k, cc + k = n ∧ z.2 = nI k ∧ z.1 = nI (min best (mF ch u 0 k))) _ ?_ N n (nI best, 0) (by omega) ⟨0, by omega, rfl, by
            show nI best = nI (min best jBIG)
            rw [Nat.min_eq_left (by omega)]⟩
          rintro cc ⟨z7, z8⟩ ⟨k, hk, hz1, hz2⟩
          dsimp only at hz1 hz2 ⊢
          subst hz1 hz2
          rcases Nat.eq_zero_or_pos cc with en | en
          · rw [if_pos (show nI n ≤ nI k from jleT (by omega) (by omega))]
            exact ⟨_, rfl, Or.inr ⟨_, rfl, by rw [show k = n by omega]⟩⟩
          · rw [if_neg (show ¬ nI n ≤ nI k from jleF (by omega) (by omega))]
            have hkn : k < n := by omega
            by_cases e3 : min best (mF ch u 0 k) ≤ c
            · rw [if_pos (show nI (min best (mF ch u 0 k)) ≤ nI c from jleT e3 (by omega))]
              refine ⟨_, rfl, Or.inr ⟨_, rfl, ?_⟩⟩
              have ha := mF_anti (f := ch) (u := u) (a := 0) (n - k) k
              rw [show k + (n - k) = n by omega] at ha
              congr 1
              omega
            · rw [if_neg (show ¬ nI (min best (mF ch u 0 k)) ≤ nI c from jleF (by omega) (by omega)), jb1 _ (show k < 32 by omega), hb k hkn]
              have hmF : mF ch u 0 (k + 1) = if u (0 + k) = true then mF ch u 0 k else min (mF ch u 0 k) (ch (0 + k)) := rfl
              rw [Nat.zero_add] at hmF
              cases hku : u k with
              | true =>
                rw [if_pos rfl, if_neg (show ¬ (1 : Int32) = 0 by decide), Option.bind_some]
                refine ⟨_, rfl, Or.inl ⟨_, cc - 1, rfl, by omega, k + 1, by omega, nI_1 k, ?_⟩⟩
                rw [hmF, if_pos hku]
              | false =>
                obtain ⟨g1, g2, g3⟩ := h.2 k hkn
                obtain ⟨b1, b2, b3, b4⟩ := hJ.2 k hkn
                have hwE : wE fi sp e k = max e (fi k) + sp k := rfl
                have hle : c ≤ ch k := Nat.le_trans hcv (mF_le n k (by omega) (by omega) hku)
                have hchk : ch k = wv n fi la sp r (addB u k) (wE fi sp e k) (max t (wE fi sp e k + la k)) := by rw [← hch]
                have ih := jrestA hJ h (c := c) hN q (d + 1) (bits ||| jshl 1 (nI k)) (addB u k) (wE fi sp e k) (max t (wE fi sp e k + la k)) (min best (mF ch u 0 k)) (by omega) (by omega) (fun i hi => by
                  rw [b_or, b_bit (show k < 32 by omega), hb i hi]
                  unfold addB
                  by_cases z : i = k
                  · rw [if_pos z, decide_eq_true z, Bool.or_true]
                  · rw [if_neg z, decide_eq_false z, Bool.or_false]) (by rw [addB_ct hkn hku, hu]) (by rw [hwE]; omega) (by rw [hwE]; omega) (by omega) (by omega) (by rw [show n - (d + 1) = r by omega, ← hchk]; exact hle)
                rw [show n - (d + 1) = r by omega, ← hchk] at ih
                rw [if_neg (show ¬ (false = true) by decide), if_pos rfl, jrd_nI (show k < 32 by omega) (by decide), Option.bind_some, jrd_nI (show k < 32 by omega) (by decide), Option.bind_some, jrd_nI (show k < 32 by omega) (by decide), Option.bind_some, g1, g2, g3, jmaxN (by omega) (by omega), nI_add, nI_add, jmaxN (by omega) (by omega), nI_1, ← hwE, ih, Option.bind_some, Option.bind_some]
                refine ⟨_, rfl, Or.inl ⟨_, cc - 1, rfl, by omega, k + 1, by omega, nI_1 k, ?_⟩⟩
                show nI (min (min best (mF ch u 0 k)) (ch k)) = nI (min best (mF ch u 0 (k + 1)))
                rw [hmF, if_neg (by rw [hku]; decide)]
                congr 1
                omega
        obtain ⟨x, e5, e6⟩ := hl
        rw [e5, e6, Option.bind_some]
      · rw [if_neg (show ¬ nI d < nI n from jltF (by omega) (by omega))]
        have : n - d = 0 := by omega
        rw [this]
        show some (nI t) = some (nI (min best t))
        rw [Nat.min_eq_right (by omega)]
    · rw [if_neg (show ¬ nI t < nI best from jltF (by omega) (by omega))]
      have := wv_t (n := n) (fi := fi) (la := la) (sp := sp) (n - d) u e t
      rw [Nat.min_eq_left (show best ≤ wv n fi la sp (n - d) u e t by omega)]
theorem jwholeA (hJ : JJ n fi la sp) (h : JA M n fi la sp) (h8 : n ≤ 8) {c : Nat} (hc : c ≤ wv n fi la sp n (fun _ => false) 0 0) (hN : 100 ≤ N) : f_X0_wholeBound N M (nI c) = some (if n = 0 then 0 else nI (wv n fi la sp n (fun _ => false) 0 0)) := by
  have hub := wv_ub hJ n 0 (fun _ => false) 0 0 (fb_ct_zero.mpr (fun _ _ => rfl)) (by omega) (by omega) (by omega)
  unfold f_X0_wholeBound
  rw [h.1]
  by_cases e : n = 0
  · rw [if_pos (show nI n = 0 by rw [e]; rfl), jcR, if_pos e]
  · have hr := jrestA hJ h (c := c) hN 14 0 0 (fun _ => false) 0 0 1000000 (by omega) (by omega) (fun k _ => b_0 k) (fb_ct_zero.mpr (fun _ _ => rfl)) (by omega) (by omega) (by omega) (by omega) (by rw [Nat.sub_zero]; exact hc)
    rw [Nat.sub_zero, Nat.min_eq_right (by omega)] at hr
    have hr2 : f_X0_tryRest N 14 M 0 0 0 1000000 (nI c) 0 = some (nI (wv n fi la sp n (fun _ => false) 0 0)) := hr
    rw [if_neg (show ¬ nI n = 0 by rw [jeqL (by omega) (by decide)]; exact e), if_pos (show nI n ≤ 8 by rw [jleL (by omega) (by decide)]; exact h8), hr2, Option.bind_some, jcL, if_neg e]
end KB
