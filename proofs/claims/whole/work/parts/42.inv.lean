/-! what stands on the floor, in numbers -/
abbrev FT : Type := Nat × Nat × Nat × (Nat → Nat) × (Nat → Int32) × (Nat → Int32) × (Nat → Nat) × (Nat → Nat → Nat) × (Nat → Nat) × (Nat → Nat) × (Nat → Nat) × (Nat → Nat) × (Nat → Nat) × (Nat → Nat → Nat)
/-- machines, pieces, steps -/
def FT.nm (F : FT) : Nat := F.1
def FT.np (F : FT) : Nat := F.2.1
def FT.ns (F : FT) : Nat := F.2.2.1
/-- of a machine: its kind, its gap or hands -/
def FT.kd (F : FT) : Nat → Nat := F.2.2.2.1
def FT.wi (F : FT) : Nat → Int32 := F.2.2.2.2.1
/-- of a piece: its sort, how many steps, which -/
def FT.so (F : FT) : Nat → Int32 := F.2.2.2.2.2.1
def FT.lc (F : FT) : Nat → Nat := F.2.2.2.2.2.2.1
def FT.ln (F : FT) : Nat → Nat → Nat := F.2.2.2.2.2.2.2.1
/-- of a step: its piece, its machine, its span, which of its piece -/
def FT.pc (F : FT) : Nat → Nat := F.2.2.2.2.2.2.2.2.1
def FT.mc (F : FT) : Nat → Nat := F.2.2.2.2.2.2.2.2.2.1
def FT.sp (F : FT) : Nat → Nat := F.2.2.2.2.2.2.2.2.2.2.1
def FT.rk (F : FT) : Nat → Nat := F.2.2.2.2.2.2.2.2.2.2.2.1
/-- the steps of a machine by number -/
def FT.oc (F : FT) : Nat → Nat := F.2.2.2.2.2.2.2.2.2.2.2.2.1
def FT.on (F : FT) : Nat → Nat → Nat := F.2.2.2.2.2.2.2.2.2.2.2.2.2
def WFm (F : FT) : Prop := F.nm ≤ 8 ∧ ∀ m, m < F.nm → F.kd m ≤ 3 ∧ (F.kd m = 2 → ∃ g, g ≤ 100 ∧ F.wi m = nI g) ∧ (F.kd m = 3 → ∃ h, 1 ≤ h ∧ h ≤ 4 ∧ F.wi m = nI h)
def WFp (F : FT) : Prop := F.np ≤ 12 ∧ (∀ p, F.np ≤ p → F.lc p = 0) ∧ (∀ p, F.lc p ≤ 8) ∧ ∀ p i, i < F.lc p → F.ln p i < F.ns ∧ F.pc (F.ln p i) = p ∧ F.rk (F.ln p i) = i
def WFs (F : FT) : Prop := F.ns ≤ 32 ∧ ∀ s, s < F.ns → F.pc s < F.np ∧ F.mc s < F.nm ∧ 1 ≤ F.sp s ∧ F.sp s ≤ 1000 ∧ F.rk s < F.lc (F.pc s) ∧ F.ln (F.pc s) (F.rk s) = s
def WFo (F : FT) : Prop := (∀ m, F.nm ≤ m → F.oc m = 0) ∧ (∀ m, F.oc m ≤ 32) ∧ (∀ m i, i < F.oc m → F.on m i < F.ns ∧ F.mc (F.on m i) = m) ∧ (∀ m i j, i < j → j < F.oc m → F.on m i < F.on m j) ∧ ∀ s, s < F.ns → ∃ i, i < F.oc (F.mc s) ∧ F.on (F.mc s) i = s
def WF (F : FT) : Prop := WFm F ∧ WFp F ∧ WFs F ∧ WFo F
/-- an order: each machine's row holds its steps, each once -/
def WO (F : FT) (od : Nat → Nat → Nat) : Prop := (∀ m i, i < F.oc m → od m i < F.ns ∧ F.mc (od m i) = m) ∧ (∀ m i j, i < F.oc m → j < F.oc m → od m i = od m j → i = j) ∧ ∀ s, s < F.ns → ∃ i, i < F.oc (F.mc s) ∧ od (F.mc s) i = s
/-- the class's floor -/
def AF (M : JMem) (F : FT) : Prop := M 1 0 = nI F.nm ∧ M 1 1 = nI F.np ∧ M 1 2 = nI F.ns ∧ (∀ m, m < F.nm → M 2 m = nI (F.kd m) ∧ M 3 m = F.wi m) ∧ (∀ p, p < F.np → M 4 p = F.so p) ∧ (∀ p, p < 12 → M 18 p = nI (F.lc p)) ∧ (∀ p i, p < 12 → i < F.lc p → M (5 + 1 + p) i = nI (F.ln p i)) ∧
  (∀ s, s < F.ns → M 19 s = nI (F.pc s) ∧ M 20 s = nI (F.mc s) ∧ M 21 s = nI (F.sp s) ∧ M 22 s = nI (F.rk s)) ∧ (∀ m, m < 8 → M 32 m = nI (F.oc m)) ∧ ∀ m i, m < 8 → i < F.oc m → M (23 + 1 + m) i = nI (F.on m i)
def AO (M : JMem) (r : Nat) (F : FT) (od : Nat → Nat → Nat) : Prop := (∀ m, m < 8 → M (r + 10) m = nI (F.oc m)) ∧ ∀ m i, m < 8 → i < F.oc m → M (r + 1 + 1 + m) i = nI (od m i)
/-- the model's floor -/
def BF (M : JMem) (F : FT) : Prop := M 221 2 = nI F.nm ∧ M 221 6 = nI F.np ∧ M 221 11 = nI F.ns ∧ (∀ m, m < F.nm → M 222 m = nI (F.kd m) ∧ M 223 m = F.wi m) ∧ (∀ p, p < F.np → M 224 p = F.so p) ∧ (∀ p, p < F.np → M 225 p = nI (F.lc p)) ∧ (∀ p i, p < 12 → i < F.lc p → M 226 (8 * p + i) = nI (F.ln p i)) ∧
  ∀ s, s < F.ns → M 227 s = nI (F.pc s) ∧ M 228 s = nI (F.mc s) ∧ M 229 s = nI (F.sp s) ∧ M 230 s = nI (F.rk s)
def BO (M : JMem) (F : FT) (od : Nat → Nat → Nat) : Prop := (∀ m, m < 8 → M 232 m = nI (F.oc m)) ∧ ∀ m i, m < 8 → i < F.oc m → M 231 (32 * m + i) = nI (od m i)
/-- the sheets: a form, a size, what stands in its places -/
abbrev ST : Type := Nat → Option (Nat × Nat × (Nat → Int32))
def IS1 (M : JMem) (s : Nat) (x : Option (Nat × Nat × (Nat → Int32))) : Prop := match x with
  | none => M 45 s = -1 ∧ M 233 s = -1
  | some (f, n, c) => f ≤ 2 ∧ n ≤ 40 ∧ M 45 s = nI f ∧ M 46 s = nI n ∧ M 233 s = nI n ∧ M 234 s = nI f ∧ ∀ k, k < n → M (47 + 1 + s) k = c k ∧ M 235 (40 * s + k) = c k
def IS (M : JMem) (S : ST) : Prop := (∀ s, s < 6 → IS1 M s (S s)) ∧ M 44 3 = M 221 14
/-- the windows that were asked for -/
def jbit (x : Int32) (g : Nat) : Bool := x.toBitVec.getLsbD g
def IA (M : JMem) (F : FT) (k : Nat) : Prop := k ≤ F.ns ∧ M 74 3 = nI k ∧ ((M 221 30 = 0 ∧ k = 0) ∨ (M 221 30 = 1 ∧ M 221 31 = nI k)) ∧ (∀ s, s < k → M 75 s = M 245 s ∧ M 76 s = M 246 s ∧ M 77 s = M 247 s) ∧ ∀ s g, s < 32 → jbit (M 77 s) g = true → s < k ∧ g < k
def IQ (M : JMem) : Prop := M 83 0 = M 221 45 ∧ M 83 1 = M 221 46 ∧ M 83 2 = M 221 47
/-- the mended day -/
def IR (M : JMem) (F : FT) (k : Nat) : Prop := k ≤ F.ns ∧ M 0 9 = nI k ∧ ((M 221 49 = 0 ∧ k = 0) ∨ (M 221 49 = 1 ∧ M 221 50 = nI k)) ∧ ∀ s, s < k → M 212 s = M 257 s ∧ (M 214 s = -1 ↔ M 258 s = 0)
/-- days that are not mended -/
def ID (M : JMem) (o : Nat) : Prop := (∀ s, s < 32 → M (o + 3) s = -1) ∧ ∀ m, m < 8 → M (o + 4) m = 0
def IX (M : JMem) (F : FT) (od : Nat → Nat → Nat) (S : ST) (k q : Nat) : Prop := WF F ∧ WO F od ∧ AF M F ∧ AO M 33 F od ∧ BF M F ∧ BO M F od ∧ IS M S ∧ IA M F k ∧ IQ M ∧ IR M F q ∧ ID M 54 ∧ ID M 64 ∧ ID M 201
def jInv (M : JMem) : Prop := ∃ (F : FT) (od : Nat → Nat → Nat) (S : ST) (k q : Nat), IX M F od S k q
/-- the places that the invariant speaks of -/
def jcore (a i : Nat) : Prop := a ≤ 53 ∨ a = 57 ∨ a = 58 ∨ a = 67 ∨ a = 68 ∨ a = 204 ∨ a = 205 ∨ (74 ≤ a ∧ a ≤ 77) ∨ (a = 83 ∧ i ≤ 2) ∨ a = 212 ∨ a = 214 ∨ (a = 221 ∧ (i = 2 ∨ i = 6 ∨ i = 11 ∨ i = 14 ∨ i = 30 ∨ i = 31 ∨ i = 45 ∨ i = 46 ∨ i = 47 ∨ i = 49 ∨ i = 50)) ∨ (222 ≤ a ∧ a ≤ 235) ∨ (245 ≤ a ∧ a ≤ 247) ∨ a = 257 ∨ a = 258
theorem AF.fr {M M' : JMem} {F : FT} (h : AF M F) (hm : F.nm ≤ 8) (e : ∀ a i, 1 ≤ a → a ≤ 32 → M' a i = M a i) : AF M' F := by
  obtain ⟨h1, h2, h3, h4, h5, h6, h7, h8, h9, h10⟩ := h
  refine ⟨(e 1 0 (by omega) (by omega)).trans h1, (e 1 1 (by omega) (by omega)).trans h2, (e 1 2 (by omega) (by omega)).trans h3, fun m q => ⟨(e 2 m (by omega) (by omega)).trans (h4 m q).1, (e 3 m (by omega) (by omega)).trans (h4 m q).2⟩, fun p q => (e 4 p (by omega) (by omega)).trans (h5 p q), fun p q => (e 18 p (by omega) (by omega)).trans (h6 p q), fun p i q r => (e _ i (by omega) (by omega)).trans (h7 p i q r), fun s q => ⟨(e 19 s (by omega) (by omega)).trans (h8 s q).1, (e 20 s (by omega) (by omega)).trans (h8 s q).2.1, (e 21 s (by omega) (by omega)).trans (h8 s q).2.2.1, (e 22 s (by omega) (by omega)).trans (h8 s q).2.2.2⟩, fun m q => (e 32 m (by omega) (by omega)).trans (h9 m q), fun m i q r => (e _ i (by omega) (by omega)).trans (h10 m i q r)⟩
theorem AO.fr {M M' : JMem} {r : Nat} {F : FT} {od : Nat → Nat → Nat} (h : AO M r F od) (e : ∀ a i, r + 2 ≤ a → a ≤ r + 10 → M' a i = M a i) : AO M' r F od :=
  ⟨fun m q => (e _ m (by omega) (by omega)).trans (h.1 m q), fun m i q t => (e _ i (by omega) (by omega)).trans (h.2 m i q t)⟩
theorem BF.fr {M M' : JMem} {F : FT} (h : BF M F) (e1 : M' 221 2 = M 221 2 ∧ M' 221 6 = M 221 6 ∧ M' 221 11 = M 221 11) (e : ∀ a i, 222 ≤ a → a ≤ 230 → M' a i = M a i) : BF M' F := by
  obtain ⟨h1, h2, h3, h4, h5, h6, h7, h8⟩ := h
  refine ⟨e1.1.trans h1, e1.2.1.trans h2, e1.2.2.trans h3, fun m q => ⟨(e 222 m (by omega) (by omega)).trans (h4 m q).1, (e 223 m (by omega) (by omega)).trans (h4 m q).2⟩, fun p q => (e 224 p (by omega) (by omega)).trans (h5 p q), fun p q => (e 225 p (by omega) (by omega)).trans (h6 p q), fun p i q r => (e 226 _ (by omega) (by omega)).trans (h7 p i q r), fun s q => ⟨(e 227 s (by omega) (by omega)).trans (h8 s q).1, (e 228 s (by omega) (by omega)).trans (h8 s q).2.1, (e 229 s (by omega) (by omega)).trans (h8 s q).2.2.1, (e 230 s (by omega) (by omega)).trans (h8 s q).2.2.2⟩⟩
theorem BO.fr {M M' : JMem} {F : FT} {od : Nat → Nat → Nat} (h : BO M F od) (e : ∀ a i, 231 ≤ a → a ≤ 232 → M' a i = M a i) : BO M' F od :=
  ⟨fun m q => (e 232 m (by omega) (by omega)).trans (h.1 m q), fun m i q t => (e 231 _ (by omega) (by omega)).trans (h.2 m i q t)⟩
theorem IS.fr {M M' : JMem} {S : ST} (h : IS M S) (e1 : M' 44 3 = M 44 3 ∧ M' 221 14 = M 221 14) (e : ∀ a i, (45 ≤ a ∧ a ≤ 53) ∨ (233 ≤ a ∧ a ≤ 235) → M' a i = M a i) : IS M' S := by
  refine ⟨fun s hs => ?_, by rw [e1.1, e1.2]; exact h.2⟩
  have h1 := h.1 s hs
  cases hS : S s with
  | none =>
    rw [hS] at h1
    exact ⟨(e 45 s (by omega)).trans h1.1, (e 233 s (by omega)).trans h1.2⟩
  | some x =>
    obtain ⟨f, n, c⟩ := x
    rw [hS] at h1
    obtain ⟨a1, a2, a3, a4, a5, a6, a7⟩ := h1
    exact ⟨a1, a2, (e 45 s (by omega)).trans a3, (e 46 s (by omega)).trans a4, (e 233 s (by omega)).trans a5, (e 234 s (by omega)).trans a6, fun k hk => ⟨(e _ k (by omega)).trans (a7 k hk).1, (e 235 _ (by omega)).trans (a7 k hk).2⟩⟩
theorem IA.fr {M M' : JMem} {F : FT} {k : Nat} (h : IA M F k) (e1 : M' 74 3 = M 74 3 ∧ M' 221 30 = M 221 30 ∧ M' 221 31 = M 221 31) (e : ∀ a i, (75 ≤ a ∧ a ≤ 77) ∨ (245 ≤ a ∧ a ≤ 247) → M' a i = M a i) : IA M' F k := by
  obtain ⟨h1, h2, h3, h4, h5⟩ := h
  refine ⟨h1, e1.1.trans h2, by rw [e1.2.1, e1.2.2]; exact h3, fun s hs => ?_, fun s g hs hb => h5 s g hs (by rw [← e 77 s (by omega)]; exact hb)⟩
  obtain ⟨q1, q2, q3⟩ := h4 s hs
  exact ⟨(e 75 s (by omega)).trans (q1.trans (e 245 s (by omega)).symm), (e 76 s (by omega)).trans (q2.trans (e 246 s (by omega)).symm), (e 77 s (by omega)).trans (q3.trans (e 247 s (by omega)).symm)⟩
theorem IR.fr {M M' : JMem} {F : FT} {k : Nat} (h : IR M F k) (e1 : M' 0 9 = M 0 9 ∧ M' 221 49 = M 221 49 ∧ M' 221 50 = M 221 50) (e : ∀ a i, a = 212 ∨ a = 214 ∨ a = 257 ∨ a = 258 → M' a i = M a i) : IR M' F k := by
  obtain ⟨h1, h2, h3, h4⟩ := h
  refine ⟨h1, e1.1.trans h2, by rw [e1.2.1, e1.2.2]; exact h3, fun s hs => ?_⟩
  rw [e 212 s (by omega), e 214 s (by omega), e 257 s (by omega), e 258 s (by omega)]
  exact h4 s hs
theorem ID.fr {M M' : JMem} {o : Nat} (h : ID M o) (e : ∀ a i, a = o + 3 ∨ a = o + 4 → M' a i = M a i) : ID M' o :=
  ⟨fun s hs => (e _ s (by omega)).trans (h.1 s hs), fun m hm => (e _ m (by omega)).trans (h.2 m hm)⟩
/-- what leaves those places alone leaves the invariant -/
theorem IX.core {M M' : JMem} {F : FT} {od : Nat → Nat → Nat} {S : ST} {k q : Nat} (h : IX M F od S k q) (e : ∀ a i, jcore a i → M' a i = M a i) : IX M' F od S k q := by
  obtain ⟨h1, h2, h3, h4, h5, h6, h7, h8, h9, h10, h11, h12, h13⟩ := h
  have q9 : IQ M' := ⟨by rw [e 83 0 (by unfold jcore; omega), e 221 45 (by unfold jcore; omega)]; exact h9.1, by rw [e 83 1 (by unfold jcore; omega), e 221 46 (by unfold jcore; omega)]; exact h9.2.1, by rw [e 83 2 (by unfold jcore; omega), e 221 47 (by unfold jcore; omega)]; exact h9.2.2⟩
  refine ⟨h1, h2, h3.fr h1.1.1 (fun a i q r => e a i ?_), h4.fr (fun a i q r => e a i ?_), h5.fr ⟨e _ _ ?_, e _ _ ?_, e _ _ ?_⟩ (fun a i q r => e a i ?_), h6.fr (fun a i q r => e a i ?_), h7.fr ⟨e _ _ ?_, e _ _ ?_⟩ (fun a i q => e a i ?_), h8.fr ⟨e _ _ ?_, e _ _ ?_, e _ _ ?_⟩ (fun a i q => e a i ?_), q9, h10.fr ⟨e _ _ ?_, e _ _ ?_, e _ _ ?_⟩ (fun a i q => e a i ?_), h11.fr (fun a i q => e a i ?_), h12.fr (fun a i q => e a i ?_), h13.fr (fun a i q => e a i ?_)⟩
  all_goals (unfold jcore; omega)
theorem jInv.core {M M' : JMem} (h : jInv M) (e : ∀ a i, jcore a i → M' a i = M a i) : jInv M' := by
  obtain ⟨F, od, S, k, q, hX⟩ := h
  exact ⟨F, od, S, k, q, hX.core e⟩
/-! the start -/
def jF0 : FT := (0, 0, 0, fun _ => 0, fun _ => 0, fun _ => 0, fun _ => 0, fun _ _ => 0, fun _ => 0, fun _ => 0, fun _ => 0, fun _ => 0, fun _ => 0, fun _ _ => 0)
theorem jF0_wf : WF jF0 := ⟨⟨Nat.zero_le _, fun m h => absurd h (Nat.not_lt_zero m)⟩, ⟨Nat.zero_le _, fun _ _ => rfl, fun _ => Nat.zero_le _, fun _ i h => absurd h (Nat.not_lt_zero i)⟩, ⟨Nat.zero_le _, fun s h => absurd h (Nat.not_lt_zero s)⟩, ⟨fun _ _ => rfl, fun _ => Nat.zero_le _, fun _ i h => absurd h (Nat.not_lt_zero i), fun _ _ j _ h => absurd h (Nat.not_lt_zero j), fun s h => absurd h (Nat.not_lt_zero s)⟩⟩
set_option maxRecDepth 100000 in
theorem jM0_18 (p : Nat) : jM0 18 p = 0 := rfl
set_option maxRecDepth 100000 in
theorem jM0_32 (p : Nat) : jM0 32 p = 0 := rfl
set_option maxRecDepth 100000 in
theorem jM0_43 (p : Nat) : jM0 43 p = 0 := rfl
set_option maxRecDepth 100000 in
theorem jM0_232 (p : Nat) : jM0 232 p = 0 := rfl
set_option maxRecDepth 100000 in
theorem jM0_77 (p : Nat) : jM0 77 p = 0 := rfl
set_option maxRecDepth 100000 in
theorem jM0_45 (p : Nat) : jM0 45 p = if p < 6 then -1 else 0 := rfl
set_option maxRecDepth 100000 in
theorem jM0_233 (p : Nat) : jM0 233 p = upd (upd (upd (upd (upd (upd (fun _ => 0) 0 (-1)) 1 (-1)) 2 (-1)) 3 (-1)) 4 (-1)) 5 (-1) p := rfl
set_option maxRecDepth 100000 in
theorem jM0_57 (p : Nat) : jM0 57 p = if p < 32 then -1 else 0 := rfl
set_option maxRecDepth 100000 in
theorem jM0_67 (p : Nat) : jM0 67 p = if p < 32 then -1 else 0 := rfl
set_option maxRecDepth 100000 in
theorem jM0_204 (p : Nat) : jM0 204 p = if p < 32 then -1 else 0 := rfl
set_option maxRecDepth 100000 in
theorem jM0_58 (p : Nat) : jM0 58 p = 0 ∧ jM0 68 p = 0 ∧ jM0 205 p = 0 := ⟨rfl, rfl, rfl⟩
set_option maxRecDepth 100000 in
theorem jM0_f : jM0 1 0 = 0 ∧ jM0 1 1 = 0 ∧ jM0 1 2 = 0 ∧ jM0 221 2 = 0 ∧ jM0 221 6 = 0 ∧ jM0 221 11 = 0 ∧ jM0 44 3 = 0 ∧ jM0 221 14 = 0 ∧ jM0 74 3 = 0 ∧ jM0 221 30 = 0 ∧ jM0 0 9 = 0 ∧ jM0 221 49 = 0 ∧ jM0 83 0 = 0 ∧ jM0 83 1 = 0 ∧ jM0 83 2 = 0 ∧ jM0 221 45 = 0 ∧ jM0 221 46 = 0 ∧ jM0 221 47 = 0 := ⟨rfl, rfl, rfl, rfl, rfl, rfl, rfl, rfl, rfl, rfl, rfl, rfl, rfl, rfl, rfl, rfl, rfl, rfl⟩
theorem jInv0 : jInv jM0 := by
  obtain ⟨a1, a2, a3, a4, a5, a6, a7, a8, a9, a10, a11, a12, a13, a14, a15, a16, a17, a18⟩ := jM0_f
  refine ⟨jF0, fun _ _ => 0, fun _ => none, 0, 0, jF0_wf, ⟨fun _ i h => absurd h (Nat.not_lt_zero i), fun _ i _ h => absurd h (Nat.not_lt_zero i), fun s h => absurd h (Nat.not_lt_zero s)⟩, ?_, ?_, ?_, ?_, ?_, ?_, ?_, ?_, ?_, ?_, ?_⟩
  · exact ⟨a1, a2, a3, fun m h => absurd h (Nat.not_lt_zero m), fun m h => absurd h (Nat.not_lt_zero m), fun p _ => jM0_18 p, fun _ i _ h => absurd h (Nat.not_lt_zero i), fun m h => absurd h (Nat.not_lt_zero m), fun m _ => jM0_32 m, fun _ i _ h => absurd h (Nat.not_lt_zero i)⟩
  · exact ⟨fun m _ => jM0_43 m, fun _ i _ h => absurd h (Nat.not_lt_zero i)⟩
  · exact ⟨a4, a5, a6, fun m h => absurd h (Nat.not_lt_zero m), fun m h => absurd h (Nat.not_lt_zero m), fun m h => absurd h (Nat.not_lt_zero m), fun _ i _ h => absurd h (Nat.not_lt_zero i), fun m h => absurd h (Nat.not_lt_zero m)⟩
  · exact ⟨fun m _ => jM0_232 m, fun _ i _ h => absurd h (Nat.not_lt_zero i)⟩
  · refine ⟨fun s hs => ⟨by rw [jM0_45, if_pos hs], ?_⟩, by rw [a7, a8]⟩
    rw [jM0_233]
    rcases (show s = 0 ∨ s = 1 ∨ s = 2 ∨ s = 3 ∨ s = 4 ∨ s = 5 by omega) with rfl | rfl | rfl | rfl | rfl | rfl <;> rfl
  · exact ⟨Nat.zero_le _, a9, Or.inl ⟨a10, rfl⟩, fun s h => absurd h (Nat.not_lt_zero s), fun s g _ h => by rw [jM0_77] at h; simp [jbit] at h⟩
  · exact ⟨by rw [a13, a16], by rw [a14, a17], by rw [a15, a18]⟩
  · exact ⟨Nat.zero_le _, a11, Or.inl ⟨a12, rfl⟩, fun s h => absurd h (Nat.not_lt_zero s)⟩
  · exact ⟨fun s hs => by rw [jM0_57, if_pos hs], fun m _ => (jM0_58 m).1⟩
  · exact ⟨fun s hs => by rw [jM0_67, if_pos hs], fun m _ => (jM0_58 m).2.1⟩
  · exact ⟨fun s hs => by rw [jM0_204, if_pos hs], fun m _ => (jM0_58 m).2.2⟩
/-! calls that only look -/
theorem jisOut (M : JMem) (x a b : Int32) : f_X7_isOut M x a b = some (if a ≤ x ∧ x ≤ b then 0 else 1) := by
  unfold f_X7_isOut jcase
  by_cases h1 : x < a
  · rw [if_pos h1, if_neg (fun q => absurd h1 ((jcmp_gt x a).mpr q.1))]
    rfl
  · rw [if_neg h1]
    by_cases h2 : x ≤ b
    · rw [if_pos h2, if_pos ⟨(jcmp_gt x a).mp h1, h2⟩]
      rfl
    · rw [if_neg h2, if_neg (fun q => h2 q.2)]
      rfl
theorem jisStep (M : JMem) (x : Int32) : f_X7_isStep M x = some (if 0 ≤ x ∧ x ≤ M 1 2 - 1 then 1 else 0) := by
  unfold f_X7_isStep
  rw [jisOut]
  by_cases h : 0 ≤ x ∧ x ≤ M 1 2 - 1
  · rw [if_pos h, if_pos h]
    rfl
  · rw [if_neg h, if_neg h]
    rfl
theorem jisMachine (M : JMem) (x : Int32) : f_X7_isMachine M x = some (if 0 ≤ x ∧ x ≤ M 1 0 - 1 then 1 else 0) := by
  unfold f_X7_isMachine
  rw [jisOut]
  by_cases h : 0 ≤ x ∧ x ≤ M 1 0 - 1
  · rw [if_pos h, if_pos h]
    rfl
  · rw [if_neg h, if_neg h]
    rfl
theorem jisStepB (M : JMem) (x : Int32) : f_X8_isStep M x = some (if 0 ≤ x ∧ x ≤ M 221 11 - 1 then 1 else 0) := by
  unfold f_X8_isStep
  rw [show (0 : Int64) = (0 : Int32).toInt64 from rfl, jin3_i]
/-- a number of so many -/
theorem jbelow {x : Int32} {n : Nat} (hn : n ≤ 1000) : (0 ≤ x ∧ x ≤ nI n - 1) ↔ ∃ k, k < n ∧ x = nI k := by
  constructor
  · rintro ⟨h1, h2⟩
    rw [Int32.le_iff_toInt_le, jpred_toInt (by omega)] at h2
    rw [Int32.le_iff_toInt_le] at h1
    have e0 : (0 : Int32).toInt = 0 := rfl
    refine ⟨x.toInt.toNat, by omega, ?_⟩
    apply Int32.toInt_inj.mp
    rw [nI_toInt (by omega)]
    omega
  · rintro ⟨k, hk, rfl⟩
    refine ⟨jle0 (by omega), ?_⟩
    rw [Int32.le_iff_toInt_le, jpred_toInt (by omega), nI_toInt (by omega)]
    omega
theorem jst_code_ok : jst_code jInv := by
  rintro M ⟨F, od, S, k, q, hX⟩
  refine ⟨M 44 3, rfl, ?_, ⟨F, od, S, k, q, hX⟩⟩
  show some (M 221 14) = _
  rw [hX.2.2.2.2.2.2.1.2]
theorem jst_found_ok : jst_found jInv := by
  rintro M x ⟨F, od, S, k, q, hX⟩
  have h9 := hX.2.2.2.2.2.2.2.2.1
  refine ⟨if x = 0 then M 83 0 else if x = 1 then M 83 1 else if x = 2 then M 83 2 else -100002, ?_, ?_, ⟨F, od, S, k, q, hX⟩⟩
  · unfold f_X7_found
    repeat' split
    all_goals rfl
  · unfold f_X8_found
    rw [← h9.1, ← h9.2.1, ← h9.2.2]
    repeat' split
    all_goals rfl
