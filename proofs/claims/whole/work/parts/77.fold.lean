/-! folds, and loops that are folds -/
def fF {σ : Type} (f : Nat → σ → σ) (a : Nat) : Nat → σ → σ
  | 0, w => w
  | n + 1, w => f (a + n) (fF f a n w)
def fD {σ : Type} (f : Nat → σ → σ) : Nat → σ → σ
  | 0, w => w
  | n + 1, w => fD f n (f n w)
theorem fF_hd {σ : Type} (f : Nat → σ → σ) (a : Nat) : ∀ n w, fF f a (n + 1) w = fF f (a + 1) n (f a w)
  | 0, w => rfl
  | n + 1, w => by
    show f (a + (n + 1)) (fF f a (n + 1) w) = f (a + 1 + n) (fF f (a + 1) n (f a w))
    rw [fF_hd f a n w, show a + (n + 1) = a + 1 + n by omega]
theorem fF_inv {σ : Type} {f : Nat → σ → σ} {a : Nat} (I : σ → Prop) : ∀ n w, (∀ i w, a ≤ i → i < a + n → I w → I (f i w)) → I w → I (fF f a n w)
  | 0, _, _, hw => hw
  | n + 1, w, h, hw => h (a + n) _ (by omega) (by omega) (fF_inv I n w (fun i w h1 h2 => h i w h1 (by omega)) hw)
theorem fD_inv {σ : Type} {f : Nat → σ → σ} (I : σ → Prop) : ∀ n w, (∀ i w, i < n → I w → I (f i w)) → I w → I (fD f n w)
  | 0, _, _, hw => hw
  | n + 1, w, h, hw => fD_inv I n _ (fun i w h1 => h i w (by omega)) (h n w (by omega) hw)
theorem fF_cong {σ : Type} {f g : Nat → σ → σ} {a : Nat} : ∀ n w, (∀ i w, a ≤ i → i < a + n → f i w = g i w) → fF f a n w = fF g a n w
  | 0, _, _ => rfl
  | n + 1, w, h => by
    show f (a + n) _ = g (a + n) _
    rw [fF_cong n w (fun i w h1 h2 => h i w h1 (by omega)), h _ _ (by omega) (by omega)]
theorem fF_id {σ : Type} {f : Nat → σ → σ} {a : Nat} {w : σ} : ∀ n, (∀ i, a ≤ i → i < a + n → f i w = w) → fF f a n w = w
  | 0, _ => rfl
  | n + 1, h => by
    show f (a + n) _ = w
    rw [fF_id n (fun i h1 h2 => h i h1 (by omega)), h _ (by omega) (by omega)]
theorem jLp_ll {σ ρ : Type} {body : σ → Option (σ ⊕ ρ)} {s s' : σ} {K : Nat} (hK : 0 < K) (h : body s = some (.inl s')) : jLp K body s = jLp (K - 1) body s' := by
  obtain ⟨k, rfl⟩ : ∃ k, K = k + 1 := ⟨K - 1, by omega⟩
  exact jLp_l h
theorem jLp_rr {σ ρ : Type} {body : σ → Option (σ ⊕ ρ)} {s : σ} {r : ρ} {K : Nat} (hK : 0 < K) (h : body s = some (.inr r)) : jLp K body s = some r := by
  obtain ⟨k, rfl⟩ : ∃ k, K = k + 1 := ⟨K - 1, by omega⟩
  exact jLp_r h
/-- a loop over numbers that may end early where nothing more is done -/
theorem jlpF {σ : Type} {body : Int32 × JMem → Option ((Int32 × JMem) ⊕ JMem)} (R : σ → JMem → Prop) (f : Nat → σ → σ) : ∀ (n a N : Nat) (w : σ) (M : JMem), n < N → R w M → (∀ w M, R w M → body (nI (a + n), M) = some (.inr M)) → (∀ i w M, a ≤ i → i < a + n → R w M → (∃ M', body (nI i, M) = some (.inl (nI (i + 1), M')) ∧ R (f i w) M') ∨ (body (nI i, M) = some (.inr M) ∧ ∀ j, i ≤ j → j < a + n → f j w = w)) → ∃ M', jLp N body (nI a, M) = some M' ∧ R (fF f a n w) M'
  | 0, a, N, w, M, hN, hR, he, _ => ⟨M, jLp_rr (by omega) (he w M hR), hR⟩
  | n + 1, a, N, w, M, hN, hR, he, hs => by
    rcases hs a w M (by omega) (by omega) hR with ⟨M', h1, h2⟩ | ⟨h1, h2⟩
    · obtain ⟨M2, i1, i2⟩ := jlpF R f n (a + 1) (N - 1) (f a w) M' (by omega) h2 (fun w M hR => by rw [show a + 1 + n = a + (n + 1) by omega]; exact he w M hR) (fun i w M h3 h4 hR => by
        rcases hs i w M (by omega) (by omega) hR with z | ⟨z1, z2⟩
        · exact Or.inl z
        · exact Or.inr ⟨z1, fun j h5 h6 => z2 j h5 (by omega)⟩)
      exact ⟨M2, by rw [jLp_ll (by omega) h1]; exact i1, by rw [fF_hd]; exact i2⟩
    · exact ⟨M, jLp_rr (by omega) h1, by rw [fF_id (n + 1) (fun i h3 h4 => h2 i h3 h4)]; exact hR⟩
/-- the same downwards: the counter is one below -/
theorem jlpD {σ : Type} {body : Int32 × JMem → Option ((Int32 × JMem) ⊕ JMem)} (R : σ → JMem → Prop) (f : Nat → σ → σ) (cn : Nat → Int32) : ∀ (n N : Nat) (w : σ) (M : JMem), n < N → R w M → (∀ w M, R w M → body (cn 0, M) = some (.inr M)) → (∀ i w M, i < n → R w M → ∃ M', body (cn (i + 1), M) = some (.inl (cn i, M')) ∧ R (f i w) M') → ∃ M', jLp N body (cn n, M) = some M' ∧ R (fD f n w) M'
  | 0, N, w, M, hN, hR, he, _ => ⟨M, jLp_rr (by omega) (he w M hR), hR⟩
  | n + 1, N, w, M, hN, hR, he, hs => by
    obtain ⟨M', h1, h2⟩ := hs n w M (by omega) hR
    obtain ⟨M2, i1, i2⟩ := jlpD R f cn n (N - 1) (f n w) M' (by omega) h2 he (fun i w M h3 hR => hs i w M (by omega) hR)
    exact ⟨M2, by rw [jLp_ll (by omega) h1]; exact i1, i2⟩
/-- over a machine's steps by number, or over all with a sieve -/
theorem fF_on {σ : Type} {F : FT} (hW : WF F) (m : Nat) (h : Nat → σ → σ) : ∀ (d g i : Nat) (w : σ), g + d = F.ns → i ≤ F.oc m → (∀ j, j < i → F.on m j < g) → (∀ j, i ≤ j → j < F.oc m → g ≤ F.on m j) → fF (fun j => h (F.on m j)) i (F.oc m - i) w = fF (fun s w => if F.mc s = m then h s w else w) g d w
  | 0, g, i, w, hg, hi, h1, h2 => by
    obtain ⟨o1, o2, o3, o4, o5⟩ := hW.2.2.2
    have : F.oc m - i = 0 := by
      rcases Nat.lt_or_ge i (F.oc m) with z | z
      · have z1 := h2 i (Nat.le_refl _) z
        have z2 := (o3 m i z).1
        omega
      · omega
    rw [this]
    rfl
  | d + 1, g, i, w, hg, hi, h1, h2 => by
    obtain ⟨o1, o2, o3, o4, o5⟩ := id hW.2.2.2
    rw [fF_hd (fun s w => if F.mc s = m then h s w else w)]
    by_cases e : F.mc g = m
    · obtain ⟨j, hj, ej⟩ := o5 g (by omega)
      rw [e] at hj ej
      have hij : i = j := by
        rcases Nat.lt_trichotomy i j with z | z | z
        · have z1 := h2 i (Nat.le_refl _) (by omega)
          have z2 := o4 m i j z hj
          omega
        · exact z
        · have z1 := h1 j z
          omega
      subst hij
      rw [show F.oc m - i = F.oc m - (i + 1) + 1 by omega, fF_hd (fun j => h (F.on m j))]
      show fF _ (i + 1) _ (h (F.on m i) w) = fF _ (g + 1) d (if F.mc g = m then h g w else w)
      rw [ej, if_pos e]
      exact fF_on hW m h d (g + 1) (i + 1) _ (by omega) hj (fun k hk => by
        rcases Nat.lt_succ_iff_lt_or_eq.mp hk with z | z
        · have := h1 k z
          omega
        · rw [z, ej]
          omega) (fun k hk1 hk2 => by
        have := o4 m i k (by omega) hk2
        omega)
    · show _ = fF _ (g + 1) d (if F.mc g = m then h g w else w)
      rw [if_neg e]
      exact fF_on hW m h d (g + 1) i w (by omega) hi (fun k hk => by have := h1 k hk; omega) (fun k hk1 hk2 => by
        have z1 := h2 k hk1 hk2
        have z2 := (o3 m k hk2).2
        rcases Nat.lt_or_ge g (F.on m k) with z | z
        · omega
        · exfalso
          have : F.on m k = g := by omega
          rw [this] at z2
          exact e z2)
/-! windows in numbers -/
abbrev WT : Type := (Nat → Int32) × (Nat → Int32) × (Nat → Int32) × Bool × Bool
def b2i : Bool → Int32
  | true => 1
  | false => 0
theorem b2i_0 (b : Bool) : b2i b = 0 ↔ b = false := by cases b <;> decide
def wRaise (w : WT) (s : Nat) (v : Int32) : WT := if v ≤ w.1 s then w else (upd w.1 s v, w.2.1, w.2.2.1, true, w.2.2.2.2)
def wLower (w : WT) (s : Nat) (v : Int32) : WT := if w.2.1 s ≤ v then w else (w.1, upd w.2.1 s v, w.2.2.1, true, w.2.2.2.2)
def wTell (w : WT) (f g : Nat) : WT := (w.1, w.2.1, upd w.2.2.1 f (w.2.2.1 f ||| jshl 1 (nI g)), true, w.2.2.2.2)
def wBurst (w : WT) : WT := (w.1, w.2.1, w.2.2.1, w.2.2.2.1, true)
def FT.wP (F : FT) (p : Nat) (w : WT) : WT := fD (fun i w => wLower w (F.ln p i) (w.2.1 (F.ln p (i + 1)) - nI (F.sp (F.ln p (i + 1))))) (F.lc p - 1) (fF (fun k w => wRaise w (F.ln p k) (w.1 (F.ln p (k - 1)) + nI (F.sp (F.ln p (k - 1))))) 1 (F.lc p - 1) w)
def FT.wPs (F : FT) (w : WT) : WT := fF F.wP 0 F.np w
def FT.wL1 (F : FT) (s : Nat) (w : WT) : WT := if nI (F.sp s) ≤ w.2.1 s - w.1 s then w else wBurst w
def FT.wL (F : FT) (w : WT) : WT := fF F.wL1 0 F.ns w
def FT.wA2 (F : FT) (f g : Nat) (w : WT) : WT := if bt (w.2.2.1 f) g = true then wLower (wRaise w g (w.1 f + nI (F.sp f))) f ((wRaise w g (w.1 f + nI (F.sp f))).2.1 g - nI (F.sp g)) else w
def FT.wA (F : FT) (w : WT) : WT := fF (fun f w => fF (fun g w => F.wA2 f g w) 0 F.ns w) 0 F.ns w
def FT.wT1 (F : FT) (f g : Nat) (w : WT) : WT := if w.2.2.2.2 = true then w else if bt (w.2.2.1 f) g = true then w else if bt (w.2.2.1 g) f = true then w else
  if w.1 f + (nI (F.sp f) + nI (F.sp g)) ≤ w.2.1 g then (if w.1 g + (nI (F.sp f) + nI (F.sp g)) ≤ w.2.1 f then w else wTell w f g) else (if w.1 g + (nI (F.sp f) + nI (F.sp g)) ≤ w.2.1 f then wTell w g f else wBurst w)
def FT.wTm (F : FT) (m : Nat) (w : WT) : WT := fF (fun f w => if F.mc f = m then fF (fun g w => if F.mc g = m then F.wT1 f g w else w) (f + 1) (F.ns - (f + 1)) w else w) 0 F.ns w
def FT.wT (F : FT) (w : WT) : WT := fF (fun m w => if F.kd m = 0 then F.wTm m w else w) 0 F.nm w
def FT.wK1 (F : FT) (from_ to_ : Int32) (hd dd : Nat → Int32) (s : Nat) (z : Int32 × Int32) : Int32 × Int32 := if hd s < from_ then z else if to_ < dd s then z else (z.1 ||| jshl 1 (nI s), z.2 + nI (F.sp s))
def FT.wK (F : FT) (m : Nat) (from_ to_ : Int32) (hd dd : Nat → Int32) : Int32 × Int32 := fF (fun s z => if F.mc s = m then F.wK1 from_ to_ hd dd s z else z) 0 F.ns (0, 0)
def FT.wO1 (F : FT) (from_ to_ sum : Int32) (k : Nat) (w : WT) : WT := if (jmin (w.1 k) from_ + sum) + nI (F.sp k) ≤ to_ then w else wRaise w k (from_ + sum)
def FT.wO (F : FT) (from_ to_ sum : Int32) (k : Nat) (w : WT) : WT := if (from_ + sum) + nI (F.sp k) ≤ jmax to_ ((F.wO1 from_ to_ sum k w).2.1 k) then F.wO1 from_ to_ sum k w else wLower (F.wO1 from_ to_ sum k w) k (to_ - sum)
def FT.wS2 (F : FT) (m : Nat) (from_ to_ : Int32) (w : WT) : WT := if (F.wK m from_ to_ w.1 w.2.1).1 = 0 then w else if (F.wK m from_ to_ w.1 w.2.1).2 ≤ to_ - from_ then fF (fun k v => if F.mc k = m then (if bt (F.wK m from_ to_ w.1 w.2.1).1 k = true then v else F.wO from_ to_ (F.wK m from_ to_ w.1 w.2.1).2 k v) else v) 0 F.ns w else wBurst w
def FT.wS1 (F : FT) (m f g : Nat) (w : WT) : WT := if w.2.2.2.2 = true then w else F.wS2 m (w.1 f) (w.2.1 g) w
def FT.wSm (F : FT) (m : Nat) (w : WT) : WT := fF (fun f w => if F.mc f = m then fF (fun g w => if F.mc g = m then F.wS1 m f g w else w) 0 F.ns w else w) 0 F.ns w
def FT.wS (F : FT) (w : WT) : WT := fF (fun m w => if F.kd m = 0 then F.wSm m w else w) 0 F.nm w
def FT.wR1 (F : FT) (w : WT) : WT := F.wL (F.wPs (w.1, w.2.1, w.2.2.1, false, w.2.2.2.2))
def FT.wR2 (F : FT) (w : WT) : WT := if w.2.2.2.2 = true then w else F.wL (F.wA w)
def FT.wR3 (F : FT) (w : WT) : WT := if w.2.2.2.2 = true then w else F.wT w
def FT.wR4 (F : FT) (w : WT) : WT := if w.2.2.2.2 = true then w else F.wL (F.wS w)
def FT.wR (F : FT) (w : WT) : WT := F.wR4 (F.wR3 (F.wR2 (F.wR1 w)))
def FT.wN (F : FT) : Nat → WT → WT
  | 0, w => w
  | n + 1, w => if w.2.2.2.1 = false then w else if w.2.2.2.2 = true then w else FT.wN F n (F.wR w)
/-- the windows for a time, with what is told ahead -/
def FT.win (F : FT) (t : Int32) (ah : Nat → Int32) : WT := F.wN 20 (fun _ => 0, fun _ => t, ah, true, false)
