/-! bounds: the model tries the orders -/
abbrev WP : Type := (Nat → Bool) × Nat × Nat
section KT
variable (n : Nat) (fi la sp : Nat → Nat)
def wS (p : WP) (k : Nat) : WP := (addB p.1 k, wE fi sp p.2.1 k, max p.2.2 (wE fi sp p.2.1 k + la k))
def wC (r : Nat) (p : WP) (k : Nat) : Nat := wv n fi la sp r (addB p.1 k) (wE fi sp p.2.1 k) (max p.2.2 (wE fi sp p.2.1 k + la k))
def wT (n : Nat) : Nat → Nat
  | 0 => 1
  | r + 1 => n * (1 + wT n r) + 1
def wM (d : Nat) (p : WP) (t : Nat) : Nat := mF (wC n fi la sp (n - d - 1) p) p.1 t (n - t)
/-- what stands below a node: the least that is left there, and how long it takes -/
def WS (M : JMem) : Nat → WP → Nat → Nat → Prop
  | 0, p, rb, fu => p = (fun _ => false, 0, 0) ∧ rb = jBIG ∧ fu = 0
  | d + 1, p, rb, fu => ∃ p' t rb' fu', t < n ∧ p'.1 t = false ∧ p = wS fi la sp p' t ∧ M 252 d = nI t ∧ M 253 d = nI p'.2.1 ∧ M 254 d = nI p'.2.2 ∧ WS M d p' rb' fu' ∧ rb = min rb' (wM n fi la sp d p' (t + 1)) ∧ fu = fu' + ((n - (t + 1)) * (1 + wT n (n - d - 1)) + 1)
def WN (M : JMem) (d : Nat) (p : WP) (t : Nat) (bits : Int32) (best V c : Nat) : Prop := d ≤ n ∧ t ≤ n ∧ ∃ rb fu, WS n fi la sp M d p rb fu ∧ M 253 d = nI p.2.1 ∧ M 254 d = nI p.2.2 ∧ ((t = 0 ∧ M 252 d = -1 ∧ ∀ k, k < n → bt bits k = p.1 k) ∨ ∃ v, t = v + 1 ∧ d < n ∧ v < n ∧ p.1 v = false ∧ M 252 d = nI v ∧ ∀ k, k < n → k ≠ v → bt bits k = p.1 k) ∧ min best (min rb (if d = n then p.2.2 else wM n fi la sp d p t)) = V ∧ c = fu + (if d = n then 1 else (n - t) * (1 + wT n (n - d - 1)) + 1)
end KT
section KU
variable {n : Nat} {fi la sp : Nat → Nat} {M M' : JMem} {N : Nat}
theorem ws_fr : ∀ {d p rb fu}, (∀ a i, 252 ≤ a → a ≤ 254 → i < d → M' a i = M a i) → WS n fi la sp M d p rb fu → WS n fi la sp M' d p rb fu
  | 0, _, _, _, _, h => h
  | d + 1, p, rb, fu, e, ⟨p', t, rb', fu', h1, h2, h3, h4, h5, h6, h7, h8, h9⟩ => ⟨p', t, rb', fu', h1, h2, h3, (e _ _ (by omega) (by omega) (by omega)).trans h4, (e _ _ (by omega) (by omega) (by omega)).trans h5, (e _ _ (by omega) (by omega) (by omega)).trans h6, ws_fr (fun a i z1 z2 z3 => e a i z1 z2 (by omega)) h7, h8, h9⟩
theorem ws_b (hJ : JJ n fi la sp) : ∀ {d p rb fu}, WS n fi la sp M d p rb fu → p.2.1 ≤ 8000 + 1000 * d ∧ p.2.2 ≤ 16000 + 1000 * d
  | 0, p, rb, fu, h => by
    obtain ⟨rfl, -⟩ := h
    exact ⟨Nat.zero_le _, Nat.zero_le _⟩
  | d + 1, p, rb, fu, ⟨p', t, rb', fu', h1, h2, h3, h4, h5, h6, h7, h8, h9⟩ => by
    obtain ⟨i1, i2⟩ := ws_b hJ h7
    obtain ⟨b1, b2, b3, b4⟩ := hJ.2 t h1
    subst h3
    show max p'.2.1 (fi t) + sp t ≤ _ ∧ max p'.2.2 (max p'.2.1 (fi t) + sp t + la t) ≤ _
    omega
theorem ws_pop {d p rb fu best V} {bits : Int32} (h : WS n fi la sp M d p rb fu) (hd : d ≤ n) (hb : best ≤ jBIG) (hv : min best rb = V) (hbt : ∀ k, k < n → bt bits k = p.1 k) : (d = 0 ∧ best = V) ∨ ∃ d' p' t, d = d' + 1 ∧ WN n fi la sp M d' p' t bits best V fu := by
  cases d with
  | zero =>
    obtain ⟨-, rfl, -⟩ := h
    exact Or.inl ⟨rfl, by rw [← hv, Nat.min_eq_left hb]⟩
  | succ d =>
    obtain ⟨p', t, rb', fu', h1, h2, h3, h4, h5, h6, h7, h8, h9⟩ := h
    refine Or.inr ⟨d, p', t + 1, rfl, by omega, by omega, rb', fu', h7, h5, h6, Or.inr ⟨t, rfl, by omega, h1, h2, h4, fun k hk hkt => ?_⟩, ?_, ?_⟩
    · rw [hbt k hk, h3]
      exact if_neg hkt
    · rw [if_neg (by omega), ← h8]
      exact hv
    · rw [if_neg (by omega)]
      exact h9
theorem wT_s (hn : 0 < n) {d : Nat} (hd : d < n) : (if d + 1 = n then 1 else (n - 0) * (1 + wT n (n - (d + 1) - 1)) + 1) = wT n (n - d - 1) := by
  by_cases e : d + 1 = n
  · rw [if_pos e, show n - d - 1 = 0 by omega]
    rfl
  · rw [if_neg e]
    obtain ⟨r, hr⟩ : ∃ r, n - d - 1 = r + 1 := ⟨n - d - 2, by omega⟩
    rw [hr, show n - (d + 1) - 1 = r by omega, Nat.sub_zero]
    rfl
theorem wM_s {d : Nat} (hd : d < n) (p : WP) (k : Nat) : (if d + 1 = n then (wS fi la sp p k).2.2 else wM n fi la sp (d + 1) (wS fi la sp p k) 0) = wC n fi la sp (n - d - 1) p k := by
  by_cases e : d + 1 = n
  · rw [if_pos e, show n - d - 1 = 0 by omega]
    rfl
  · rw [if_neg e]
    obtain ⟨r, hr⟩ : ∃ r, n - d - 1 = r + 1 := ⟨n - d - 2, by omega⟩
    unfold wM
    rw [hr, show n - (d + 1) - 1 = r by omega, Nat.sub_zero]
    rfl
theorem jwholeB {on : Nat → Nat} (hJ : JJ n fi la sp) (h : JM M n on fi la sp) (h8 : n ≤ 8) (hn : 0 < n) (hN : wT n n + 100 ≤ N) : ∃ x, f_X8_wholeBound N M = some x ∧ (x.2 = nI (wv n fi la sp n (fun _ => false) 0 0) ∧ ∀ a i, ¬ (252 ≤ a ∧ a ≤ 254) → x.1 a i = M a i) := by
  have hub := wv_ub hJ n 0 (fun _ => false) 0 0 (fb_ct_zero.mpr (fun _ _ => rfl)) (by omega) (by omega) (by omega)
  have hB : jBIG = 1000000000 := rfl
  obtain ⟨V, hV⟩ : ∃ V, V = wv n fi la sp n (fun _ => false) 0 0 := ⟨_, rfl⟩
  rw [← hV] at hub ⊢
  obtain ⟨M1, u1, f1, v1⟩ := jupX M 252 0 (-1)
  obtain ⟨M2, u2, f2, v2⟩ := jupX M1 253 0 0
  obtain ⟨M3, u3, f3, v3⟩ := jupX M2 254 0 0
  have w0 : ∀ (M : JMem) (a : Nat) (v : Int32), jwr M a 9 0 v = some (jup M a 0 v) := fun M a v => jwr_nI (i := 0) (by decide) (by decide)
  unfold f_X8_wholeBound
  rw [w0, u1, Option.bind_some, w0, u2, Option.bind_some, w0, u3, Option.bind_some]
  refine jB (jLp_tot (fun c (z : Int32 × Int32 × Int32 × JMem) => ∃ best, z.1 = nI best ∧ best ≤ jBIG ∧ (∀ a i, ¬ (252 ≤ a ∧ a ≤ 254) → z.2.2.2 a i = M a i) ∧ ((z.2.1 = -1 ∧ best = V) ∨ ∃ d p t, z.2.1 = nI d ∧ WN n fi la sp z.2.2.2 d p t z.2.2.1 best V c)) (fun x => x.1 = nI V ∧ ∀ a i, ¬ (252 ≤ a ∧ a ≤ 254) → x.2 a i = M a i) ?_ N (wT n n) (1000000000, 0, 0, M3) (by omega) ⟨jBIG, rfl, Nat.le_refl _, fun a i z => by
    show M3 a i = _
    rw [f3 _ _ (by omega), f2 _ _ (by omega), f1 _ _ (by omega)], Or.inr ⟨0, (fun _ => false, 0, 0), 0, rfl, Nat.zero_le _, Nat.zero_le _, jBIG, 0, ⟨rfl, rfl, rfl⟩, ?_, ?_, Or.inl ⟨rfl, ?_, fun k _ => b_0 k⟩, ?_, ?_⟩⟩) (fun x hx => ⟨_, rfl, hx⟩)
  · rintro c ⟨z10, z11, z12, M13⟩ ⟨best, hz1, hbb, hf, hc⟩
    dsimp only at hz1 hf hc ⊢
    subst hz1
    rcases hc with ⟨hz2, hbv⟩ | ⟨d, p, t, hz2, hd, ht, rb, fu, hS, h53, h54, hq, hv, hcc⟩
    · subst hz2
      rw [if_pos (show (-1 : Int32) < 0 by decide), hbv]
      exact ⟨_, rfl, Or.inr ⟨_, rfl, rfl, hf⟩⟩
    · subst hz2
      have h36 : M13 221 36 = nI n := by rw [hf _ _ (by omega)]; exact h.1
      obtain ⟨pb1, pb2⟩ := ws_b hJ hS
      rw [if_neg (show ¬ nI d < 0 by rw [jltL (by omega) (by decide)]; omega)]
      have d9 : d < 9 := by omega
      by_cases e1 : d = n
      · rw [if_pos (show nI d = M13 221 36 by rw [h36, e1]), jrd_nI d9 (by decide), Option.bind_some, Option.bind_some, h54]
        rw [if_pos e1] at hv hcc
        have hu : ((if nI best ≤ nI p.2.2 then some (nI best) else some (nI p.2.2)) : Option Int32) = some (nI (min best p.2.2)) := by
          by_cases y : best ≤ p.2.2
          · rw [if_pos (jleT y (by omega)), Nat.min_eq_left y]
          · rw [if_neg (jleF (by omega) (by omega)), Nat.min_eq_right (by omega)]
        rw [hu, Option.bind_some]
        have hbt : ∀ k, k < n → bt z12 k = p.1 k := by
          rcases hq with ⟨-, -, q⟩ | ⟨v, -, q, -⟩
          · exact q
          · omega
        rcases ws_pop (best := min best p.2.2) (V := V) hS hd (by omega) (by rw [← hv]; omega) hbt with ⟨e2, e3⟩ | ⟨d', p', t', e2, e3⟩
        · exact ⟨_, rfl, Or.inl ⟨_, fu, rfl, by omega, min best p.2.2, rfl, by omega, hf, Or.inl ⟨by rw [e2]; rfl, e3⟩⟩⟩
        · exact ⟨_, rfl, Or.inl ⟨_, fu, rfl, by omega, min best p.2.2, rfl, by omega, hf, Or.inr ⟨d', p', t', by rw [e2, jdec1 (by omega)]; rfl, e3⟩⟩⟩
      · rw [if_neg (show ¬ nI d = M13 221 36 by rw [h36]; exact jeqF e1 (by omega) (by omega)), jrd_nI d9 (by decide), Option.bind_some, Option.bind_some]
        rw [if_neg e1] at hv hcc
        have hdn : d < n := by omega
        have hu24 : ∃ u, (if M13 252 d < 0 then some z12 else some (z12 &&& (jshl 1 (M13 252 d) ^^^ (-1)))) = some u ∧ M13 252 d + 1 = nI t ∧ ∀ k, k < n → bt u k = p.1 k := by
          rcases hq with ⟨q1, q2, q3⟩ | ⟨v, q1, q2, q3, q4, q5, q6⟩
          · rw [q2, if_pos (show (-1 : Int32) < 0 by decide), q1]
            exact ⟨_, rfl, rfl, q3⟩
          · rw [q5, if_neg (show ¬ nI v < 0 by rw [jltL (by omega) (by decide)]; omega), q1]
            refine ⟨_, rfl, nI_1 v, fun k hk => ?_⟩
            rw [b_and, b_xor, b_bit (show v < 32 by omega), b_m1 k (by omega)]
            by_cases e : k = v
            · rw [e, q4]
              simp
            · rw [decide_eq_false e, q6 k hk e]
              simp
        obtain ⟨u24, hu1, hu2, hu3⟩ := hu24
        refine jB (P := fun x => x = u24) ⟨u24, hu1, rfl⟩ (fun x hx => ?_)
        subst hx
        rw [Option.bind_some, hu2]
        refine jB (jLp_tot (fun cc (z : Int32) => ∃ k, cc + k = n ∧ z = nI k ∧ t ≤ k ∧ wM n fi la sp d p t = wM n fi la sp d p k) (fun x => ∃ k, x = nI k ∧ t ≤ k ∧ k ≤ n ∧ (k < n → p.1 k = false) ∧ wM n fi la sp d p t = wM n fi la sp d p k) ?_ N (n - t) (nI t) (by omega) ⟨t, by omega, rfl, Nat.le_refl _, rfl⟩) ?_
        · rintro cc z ⟨k, hk, rfl, htk, hm⟩
          rcases Nat.eq_zero_or_pos cc with en | en
          · rw [if_pos (show M13 221 36 ≤ nI k by rw [h36]; exact jleT (by omega) (by omega))]
            exact ⟨_, rfl, Or.inr ⟨_, rfl, k, rfl, htk, by omega, fun z => absurd z (by omega), hm⟩⟩
          · rw [if_neg (show ¬ M13 221 36 ≤ nI k by rw [h36]; exact jleF (by omega) (by omega)), jb1 _ (show k < 32 by omega), hu3 k (by omega)]
            cases hpk : p.1 k with
            | true =>
              rw [if_pos rfl, if_pos rfl]
              refine ⟨_, rfl, Or.inl ⟨_, cc - 1, rfl, by omega, k + 1, by omega, nI_1 k, by omega, ?_⟩⟩
              rw [hm]
              unfold wM
              rw [show n - k = (n - (k + 1)) + 1 by omega, mF_hd, if_pos hpk]
            | false =>
              rw [if_neg (show ¬ (false = true) by decide), if_neg (show ¬ (0 : Int32) = 1 by decide)]
              exact ⟨_, rfl, Or.inr ⟨_, rfl, k, rfl, htk, by omega, fun _ => hpk, hm⟩⟩
        · rintro _ ⟨k, rfl, htk, hkn, hpk, hm⟩
          rw [hm] at hv
          have hmul : (n - k) * (1 + wT n (n - d - 1)) ≤ (n - t) * (1 + wT n (n - d - 1)) := Nat.mul_le_mul_right _ (by omega)
          by_cases e2 : k < n
          · have hpk := hpk e2
            obtain ⟨g1, g2, g3, g4, g5⟩ := h.2.1 k e2
            obtain ⟨b1, b2, b3, b4⟩ := hJ.2 k e2
            obtain ⟨M36, u36, f36, v36⟩ := jupX M13 252 d (nI k)
            have fr36 : ∀ a i, ¬ (252 ≤ a ∧ a ≤ 254) → M36 a i = M a i := fun a i z => by rw [f36 a i (by omega)]; exact hf a i z
            have hwE : wE fi sp p.2.1 k = max p.2.1 (fi k) + sp k := rfl
            have hmk : wM n fi la sp d p k = min (wC n fi la sp (n - d - 1) p k) (wM n fi la sp d p (k + 1)) := by
              unfold wM
              rw [show n - k = (n - (k + 1)) + 1 by omega, mF_hd, if_neg (by rw [hpk]; decide)]
            rw [hmk] at hv
            have hu48 : ((if nI p.2.1 ≤ nI (fi k) then some (nI (fi k)) else some (nI p.2.1)) : Option Int32) = some (nI (max p.2.1 (fi k))) := by
              by_cases y : p.2.1 ≤ fi k
              · rw [if_pos (jleT y (by omega)), Nat.max_eq_right y]
              · rw [if_neg (jleF (by omega) (by omega)), Nat.max_eq_left (by omega)]
            have hu60 : ((if nI (wE fi sp p.2.1 k + la k) ≤ nI p.2.2 then some (nI p.2.2) else some (nI (wE fi sp p.2.1 k + la k))) : Option Int32) = some (nI (max p.2.2 (wE fi sp p.2.1 k + la k))) := by
              by_cases y : wE fi sp p.2.1 k + la k ≤ p.2.2
              · rw [if_pos (jleT y (by omega)), Nat.max_eq_left y]
              · rw [if_neg (jleF (by omega) (by omega)), Nat.max_eq_right (by omega)]
            rw [if_pos (show nI k < M13 221 36 by rw [h36]; exact jltT e2 (by omega)), jwr_nI d9 (by decide), u36, Option.bind_some, jrd_nI (show k < 32 by omega) (by decide), Option.bind_some, fr36 248 k (by omega), g2, jrd_nI d9 (by decide), Option.bind_some, jrd_nI g1 (by decide), Option.bind_some, Option.bind_some, Option.bind_some, f36 253 d (by omega), h53, fr36 249 (on k) (by omega), g3, hu48, Option.bind_some, jrd_nI g1 (by decide), Option.bind_some, jrd_nI g1 (by decide), Option.bind_some, jrd_nI d9 (by decide), Option.bind_some, Option.bind_some, Option.bind_some, fr36 229 (on k) (by omega), g5, fr36 250 (on k) (by omega), g4, f36 254 d (by omega), h54, nI_add, ← hwE, nI_add, hu60, Option.bind_some]
            have hmul2 : (n - k) * (1 + wT n (n - d - 1)) = (n - (k + 1)) * (1 + wT n (n - d - 1)) + (1 + wT n (n - d - 1)) := by
              rw [show n - k = (n - (k + 1)) + 1 by omega, Nat.succ_mul]
            by_cases e3 : best ≤ max p.2.2 (wE fi sp p.2.1 k + la k)
            · have hge := wv_t (n := n) (fi := fi) (la := la) (sp := sp) (n - d - 1) (addB p.1 k) (wE fi sp p.2.1 k) (max p.2.2 (wE fi sp p.2.1 k + la k))
              have hge2 : min jBIG (max p.2.2 (wE fi sp p.2.1 k + la k)) ≤ wC n fi la sp (n - d - 1) p k := hge
              rw [if_pos (jleT e3 (by omega)), Option.bind_some]
              refine ⟨_, rfl, Or.inl ⟨_, fu + ((n - (k + 1)) * (1 + wT n (n - d - 1)) + 1), rfl, by omega, best, rfl, hbb, fr36, Or.inr ⟨d, p, k + 1, rfl, hd, by omega, rb, fu, ws_fr (fun a i _ _ z => f36 a i (by omega)) hS, ?_, ?_, Or.inr ⟨k, rfl, hdn, e2, hpk, v36, fun i hi _ => hu3 i hi⟩, ?_, ?_⟩⟩⟩
              · show M36 253 d = _
                rw [f36 _ _ (by omega)]
                exact h53
              · show M36 254 d = _
                rw [f36 _ _ (by omega)]
                exact h54
              · rw [if_neg e1, ← hv]
                omega
              · rw [if_neg e1]
            · obtain ⟨M66, u66, f66, v66⟩ := jupX M36 252 (d + 1) (-1)
              obtain ⟨M67, u67, f67, v67⟩ := jupX M66 253 (d + 1) (nI (wE fi sp p.2.1 k))
              obtain ⟨M68, u68, f68, v68⟩ := jupX M67 254 (d + 1) (nI (max p.2.2 (wE fi sp p.2.1 k + la k)))
              have fr68 : ∀ a i, i ≠ d + 1 → M68 a i = M36 a i := fun a i z => by rw [f68 a i (by omega), f67 a i (by omega), f66 a i (by omega)]
              have ft := wT_s (n := n) hn hdn
              rw [if_neg (jleF (by omega) (by omega)), nI_1, jwr_nI (show d + 1 < 9 by omega) (by decide), u66, Option.bind_some, jwr_nI (show d + 1 < 9 by omega) (by decide), u67, Option.bind_some, jwr_nI (show d + 1 < 9 by omega) (by decide), u68, Option.bind_some, Option.bind_some]
              refine ⟨_, rfl, Or.inl ⟨_, fu + ((n - (k + 1)) * (1 + wT n (n - d - 1)) + 1) + wT n (n - d - 1), rfl, by omega, best, rfl, hbb, fun a i z => ?_, Or.inr ⟨d + 1, wS fi la sp p k, 0, rfl, by omega, by omega, _, _, ⟨p, k, rb, fu, e2, hpk, rfl, ?_, ?_, ?_, ws_fr (fun a i _ _ z => ?_) hS, rfl, rfl⟩, ?_, v68, Or.inl ⟨rfl, ?_, fun i hi => ?_⟩, ?_, ?_⟩⟩⟩
              · show M68 a i = _
                rw [f68 a i (by omega), f67 a i (by omega), f66 a i (by omega)]
                exact fr36 a i z
              · show M68 252 d = _
                rw [fr68 _ _ (by omega)]
                exact v36
              · show M68 253 d = _
                rw [fr68 _ _ (by omega), f36 _ _ (by omega)]
                exact h53
              · show M68 254 d = _
                rw [fr68 _ _ (by omega), f36 _ _ (by omega)]
                exact h54
              · show M68 a i = _
                rw [fr68 _ _ (by omega), f36 _ _ (by omega)]
              · show M68 253 (d + 1) = _
                rw [f68 _ _ (by omega)]
                exact v67
              · show M68 252 (d + 1) = _
                rw [f68 _ _ (by omega), f67 _ _ (by omega)]
                exact v66
              · show bt (_ ||| jshl 1 (nI k)) i = addB p.1 k i
                rw [b_or, b_bit (show k < 32 by omega), hu3 i hi]
                unfold addB
                by_cases z : i = k
                · rw [if_pos z, decide_eq_true z, Bool.or_true]
                · rw [if_neg z, decide_eq_false z, Bool.or_false]
              · rw [wM_s hdn, ← hv]
                omega
              · rw [ft]
          · have ek : k = n := by omega
            subst ek
            have hz : wM k fi la sp d p k = jBIG := by
              unfold wM
              rw [Nat.sub_self]
              rfl
            rw [hz] at hv
            rw [if_neg (show ¬ nI k < M13 221 36 by rw [h36]; exact jltF (Nat.le_refl _) (by omega))]
            rcases ws_pop (best := best) (V := V) hS hd hbb (by rw [← hv]; omega) hu3 with ⟨e2, e3⟩ | ⟨d', p', t', e2, e3⟩
            · exact ⟨_, rfl, Or.inl ⟨_, fu, rfl, by omega, best, rfl, hbb, hf, Or.inl ⟨by rw [e2]; rfl, e3⟩⟩⟩
            · exact ⟨_, rfl, Or.inl ⟨_, fu, rfl, by omega, best, rfl, hbb, hf, Or.inr ⟨d', p', t', by rw [e2, jdec1 (by omega)]; rfl, e3⟩⟩⟩
  · show M3 253 0 = nI 0
    rw [f3 _ _ (by omega), v2]
    rfl
  · exact v3
  · show M3 252 0 = -1
    rw [f3 _ _ (by omega), f2 _ _ (by omega)]
    exact v1
  · rw [if_neg (by omega)]
    have e : wM n fi la sp 0 (fun _ => false, 0, 0) 0 = V := by
      rw [hV]
      obtain ⟨r, hr⟩ : ∃ r, n = r + 1 := ⟨n - 1, by omega⟩
      unfold wM
      have e1 : n - 0 - 1 = r := by omega
      rw [e1, Nat.sub_zero]
      conv => rhs; arg 5; rw [hr]
      rfl
    rw [e]
    omega
  · rw [if_neg (by omega), Nat.zero_add]
    obtain ⟨r, hr⟩ : ∃ r, n = r + 1 := ⟨n - 1, by omega⟩
    have e1 : n - 0 - 1 = r := by omega
    rw [e1, Nat.sub_zero]
    conv => lhs; arg 2; rw [hr]
    rfl
end KU
