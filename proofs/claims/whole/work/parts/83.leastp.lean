/-! the least day, in numbers -/
/-- how many are ahead of a step -/
def FT.ao (F : FT) (ah : Nat → Int32) (s : Nat) : Nat := fF (fun f (c : Nat) => if bt (ah f) s = true then c + 1 else c) 0 F.ns 0
theorem ao_le {F : FT} {ah : Nat → Int32} {s : Nat} : F.ao ah s ≤ F.ns := by
  have : ∀ n, fF (fun f (c : Nat) => if bt (ah f) s = true then c + 1 else c) 0 n 0 ≤ n := by
    intro n
    induction n with
    | zero => exact Nat.le_refl _
    | succ n ih =>
      show (if bt (ah (0 + n)) s = true then fF (fun f (c : Nat) => if bt (ah f) s = true then c + 1 else c) 0 n 0 + 1 else fF (fun f (c : Nat) => if bt (ah f) s = true then c + 1 else c) 0 n 0) ≤ n + 1
      split <;> omega
  exact this F.ns
/-- over the machine's own steps it is the same -/
theorem ao_on {F : FT} (hW : WF F) {ah : Nat → Int32} (h : AHI F ah) {s : Nat} : fF (fun a (c : Nat) => if bt (ah (F.on (F.mc s) a)) s = true then c + 1 else c) 0 (F.oc (F.mc s)) 0 = F.ao ah s := by
  have hns := hW.2.2.1.1
  have e := fF_on hW (F.mc s) (fun f (c : Nat) => if bt (ah f) s = true then c + 1 else c) F.ns 0 0 0 (by omega) (by omega) (fun j hj => absurd hj (Nat.not_lt_zero j)) (fun j _ _ => Nat.zero_le _)
  refine e.trans (fF_cong _ _ (fun f c h1 h2 => ?_))
  by_cases z : F.mc f = F.mc s
  · rw [if_pos z]
  · rw [if_neg z]
    cases hb : bt (ah f) s with
    | false => rw [if_neg (by decide)]
    | true => exact absurd (h f s (by omega) hb).2.2.1 z
/-- where a step goes among those that stand -/
def insP (key : Nat → Nat) (row : Nat → Nat) (s : Nat) : Nat → Nat
  | 0 => 0
  | k + 1 => if key s < key (row k) then insP key row s k else k + 1
theorem insP_le {key row : Nat → Nat} {s : Nat} : ∀ n, insP key row s n ≤ n
  | 0 => Nat.le_refl _
  | k + 1 => by
    show (if key s < key (row k) then insP key row s k else k + 1) ≤ k + 1
    have := insP_le (key := key) (row := row) (s := s) k
    split <;> omega
def insR (row : Nat → Nat) (p n s : Nat) : Nat → Nat := fun i => if i < p then row i else if i = p then s else if i ≤ n then row (i - 1) else row i
def ins1 (key : Nat → Nat) (s : Nat) (z : Nat × (Nat → Nat)) : Nat × (Nat → Nat) := (z.1 + 1, insR z.2 (insP key z.2 s z.1) z.1 s)
def FT.srt (F : FT) (ah : Nat → Int32) (m : Nat) (row : Nat → Nat) : Nat × (Nat → Nat) := fF (fun s z => if F.mc s = m then ins1 (F.ao ah) s z else z) 0 F.ns (0, row)
theorem srt_on {F : FT} (hW : WF F) (ah : Nat → Int32) (m : Nat) (row : Nat → Nat) : fF (fun a z => ins1 (F.ao ah) (F.on m a) z) 0 (F.oc m) (0, row) = F.srt ah m row :=
  fF_on hW m (fun s z => ins1 (F.ao ah) s z) F.ns 0 0 (0, row) (by omega) (by omega) (fun j hj => absurd hj (Nat.not_lt_zero j)) (fun j _ _ => Nat.zero_le _)
def FT.arr (F : FT) (ah : Nat → Int32) (od : Nat → Nat → Nat) : Nat → Nat → Nat := fun m => if m < F.nm ∧ F.kd m = 0 then (F.srt ah m (od m)).2 else od m
/-- what stands is what came -/
theorem ins_ok {f : Nat → Nat} {key : Nat → Nat} : ∀ n row, (∀ i j, i < j → j < n → f i ≠ f j) → (fF (fun a z => ins1 key (f a) z) 0 n (0, row)).1 = n ∧ (∀ i, i < n → ∃ j, j < n ∧ (fF (fun a z => ins1 key (f a) z) 0 n (0, row)).2 i = f j) ∧ (∀ j, j < n → ∃ i, i < n ∧ (fF (fun a z => ins1 key (f a) z) 0 n (0, row)).2 i = f j) ∧ ∀ i j, i < n → j < n → (fF (fun a z => ins1 key (f a) z) 0 n (0, row)).2 i = (fF (fun a z => ins1 key (f a) z) 0 n (0, row)).2 j → i = j
  | 0, row, _ => ⟨rfl, fun i hi => absurd hi (Nat.not_lt_zero i), fun i hi => absurd hi (Nat.not_lt_zero i), fun i j hi => absurd hi (Nat.not_lt_zero i)⟩
  | n + 1, row, hf => by
    obtain ⟨i1, i2, i3, i4⟩ := ins_ok (f := f) (key := key) n row (fun i j h1 h2 => hf i j h1 (by omega))
    have e : fF (fun a z => ins1 key (f a) z) 0 (n + 1) (0, row) = ins1 key (f n) (fF (fun a z => ins1 key (f a) z) 0 n (0, row)) := by
      show ins1 key (f (0 + n)) _ = _
      rw [Nat.zero_add]
    rw [e]
    generalize fF (fun a z => ins1 key (f a) z) 0 n (0, row) = z at *
    obtain ⟨c, r⟩ := z
    dsimp only at i1 i2 i3 i4
    subst i1
    have hp := insP_le (key := key) (row := r) (s := f c) c
    unfold ins1
    dsimp only
    generalize insP key r (f c) c = p at *
    -- of each place what stands there
    have at_ : ∀ i, i < c + 1 → (i < p ∧ insR r p c (f c) i = r i) ∨ (i = p ∧ insR r p c (f c) i = f c) ∨ (p < i ∧ insR r p c (f c) i = r (i - 1)) := by
      intro i hi
      unfold insR
      by_cases z1 : i < p
      · exact Or.inl ⟨z1, if_pos z1⟩
      · rw [if_neg z1]
        by_cases z2 : i = p
        · exact Or.inr (Or.inl ⟨z2, if_pos z2⟩)
        · rw [if_neg z2, if_pos (by omega)]
          exact Or.inr (Or.inr ⟨by omega, rfl⟩)
    have ne : ∀ i, i < c → r i ≠ f c := fun i hi z => by
      obtain ⟨j, hj, ej⟩ := i2 i hi
      rw [ej] at z
      exact hf j c hj (by omega) z
    refine ⟨rfl, fun i hi => ?_, fun j hj => ?_, fun i j hi hj z => ?_⟩
    · rcases at_ i hi with ⟨z1, z2⟩ | ⟨z1, z2⟩ | ⟨z1, z2⟩
      · obtain ⟨j, hj, ej⟩ := i2 i (by omega)
        exact ⟨j, by omega, by rw [z2, ej]⟩
      · exact ⟨c, by omega, z2⟩
      · obtain ⟨j, hj, ej⟩ := i2 (i - 1) (by omega)
        exact ⟨j, by omega, by rw [z2, ej]⟩
    · rcases Nat.lt_succ_iff_lt_or_eq.mp hj with y | y
      · obtain ⟨i, hi, ei⟩ := i3 j y
        by_cases z1 : i < p
        · rcases at_ i (by omega) with ⟨-, z2⟩ | ⟨z2, -⟩ | ⟨z2, -⟩
          · exact ⟨i, by omega, by rw [z2, ei]⟩
          · omega
          · omega
        · rcases at_ (i + 1) (by omega) with ⟨z2, -⟩ | ⟨z2, -⟩ | ⟨-, z2⟩
          · omega
          · omega
          · exact ⟨i + 1, by omega, by rw [z2, Nat.add_sub_cancel, ei]⟩
      · rcases at_ p (by omega) with ⟨z2, -⟩ | ⟨-, z2⟩ | ⟨z2, -⟩
        · omega
        · exact ⟨p, by omega, by rw [z2, y]⟩
        · omega
    · rcases at_ i hi with ⟨a1, a2⟩ | ⟨a1, a2⟩ | ⟨a1, a2⟩ <;> rcases at_ j hj with ⟨b1, b2⟩ | ⟨b1, b2⟩ | ⟨b1, b2⟩ <;> rw [a2, b2] at z
      · exact i4 i j (by omega) (by omega) z
      · exact absurd z (ne i (by omega))
      · have := i4 i (j - 1) (by omega) (by omega) z
        omega
      · exact absurd z.symm (ne j (by omega))
      · omega
      · exact absurd z.symm (ne (j - 1) (by omega))
      · have := i4 (i - 1) j (by omega) (by omega) z
        omega
      · exact absurd z (ne (i - 1) (by omega))
      · have := i4 (i - 1) (j - 1) (by omega) (by omega) z
        omega
theorem arr_wo {F : FT} (hW : WF F) (ah : Nat → Int32) {od : Nat → Nat → Nat} (hO : WO F od) : WO F (F.arr ah od) := by
  obtain ⟨o1, o2, o3, o4, o5⟩ := id hW.2.2.2
  have key : ∀ m, m < F.nm ∧ F.kd m = 0 → (∀ i, i < F.oc m → ∃ j, j < F.oc m ∧ F.arr ah od m i = F.on m j) ∧ (∀ j, j < F.oc m → ∃ i, i < F.oc m ∧ F.arr ah od m i = F.on m j) ∧ ∀ i j, i < F.oc m → j < F.oc m → F.arr ah od m i = F.arr ah od m j → i = j := by
    intro m hm
    obtain ⟨i1, i2, i3, i4⟩ := ins_ok (f := F.on m) (key := F.ao ah) (F.oc m) (od m) (fun i j h1 h2 z => by have := o4 m i j h1 h2; omega)
    have e : F.arr ah od m = (fF (fun a z => ins1 (F.ao ah) (F.on m a) z) 0 (F.oc m) (0, od m)).2 := by
      rw [srt_on hW]
      exact if_pos hm
    rw [e]
    exact ⟨i2, i3, i4⟩
  refine ⟨fun m i hi => ?_, fun m i j hi hj z => ?_, fun s hs => ?_⟩
  · by_cases hm : m < F.nm ∧ F.kd m = 0
    · obtain ⟨j, hj, e⟩ := (key m hm).1 i hi
      rw [e]
      exact o3 m j hj
    · have e : F.arr ah od m = od m := if_neg hm
      rw [e]
      exact hO.1 m i hi
  · by_cases hm : m < F.nm ∧ F.kd m = 0
    · exact (key m hm).2.2 i j hi hj z
    · have e : F.arr ah od m = od m := if_neg hm
      rw [e] at z
      exact hO.2.1 m i j hi hj z
  · by_cases hm : F.mc s < F.nm ∧ F.kd (F.mc s) = 0
    · obtain ⟨j, hj, e⟩ := o5 s hs
      obtain ⟨i, hi, e2⟩ := (key _ hm).2.1 j hj
      exact ⟨i, hi, by rw [e2, e]⟩
    · have e : F.arr ah od (F.mc s) = od (F.mc s) := if_neg hm
      rw [e]
      exact hO.2.2 s hs
/-- the first open pair -/
def FT.op (F : FT) (ah : Nat → Int32) (f g : Nat) : Bool := decide (F.mc f = F.mc g) && (decide (F.kd (F.mc f) = 0) && (!bt (ah f) g && !bt (ah g) f))
def FPR (F : FT) (ah : Nat → Int32) (r : Option (Nat × Nat)) : Prop := (r = none ∧ ∀ f g, f < g → g < F.ns → F.op ah f g = false) ∨ ∃ f g, r = some (f, g) ∧ f < g ∧ g < F.ns ∧ F.op ah f g = true ∧ ∀ f' g', f' < g' → g' < F.ns → (f' < f ∨ (f' = f ∧ g' < g)) → F.op ah f' g' = false
theorem fpr_one {F : FT} {ah : Nat → Int32} {r r' : Option (Nat × Nat)} (h : FPR F ah r) (h' : FPR F ah r') : r = r' := by
  rcases h with ⟨rfl, h⟩ | ⟨f, g, rfl, h1, h2, h3, h4⟩
  · rcases h' with ⟨rfl, h'⟩ | ⟨f', g', rfl, h1', h2', h3', h4'⟩
    · rfl
    · rw [h f' g' h1' h2'] at h3'
      cases h3'
  · rcases h' with ⟨rfl, h'⟩ | ⟨f', g', rfl, h1', h2', h3', h4'⟩
    · rw [h' f g h1 h2] at h3
      cases h3
    · rcases Nat.lt_trichotomy f f' with z | z | z
      · rw [h4' f g h1 h2 (Or.inl z)] at h3
        cases h3
      · subst z
        rcases Nat.lt_trichotomy g g' with y | y | y
        · rw [h4' f g h1 h2 (Or.inr ⟨rfl, y⟩)] at h3
          cases h3
        · rw [y]
        · rw [h4 f g' h1' h2' (Or.inr ⟨rfl, y⟩)] at h3'
          cases h3'
      · rw [h4 f' g' h1' h2' (Or.inl z)] at h3'
        cases h3'
noncomputable def FT.fp (F : FT) (ah : Nat → Int32) : Option (Nat × Nat) := @dite _ (∃ r, FPR F ah r) (Classical.propDecidable _) (fun h => Classical.choose h) (fun _ => none)
theorem fp_eq {F : FT} {ah : Nat → Int32} {r : Option (Nat × Nat)} (h : FPR F ah r) : F.fp ah = r := by
  unfold FT.fp
  rw [dif_pos ⟨r, h⟩]
  exact fpr_one (Classical.choose_spec ⟨r, h⟩) h
/-- best, cases, finds, waiting, what waits, the orders -/
abbrev LT : Type := Nat × Nat × Nat × Nat × (Nat → Nat → Int32) × (Nat → Nat → Nat)
def updS (stk : Nat → Nat → Int32) (k : Nat) (x : Nat → Int32) : Nat → Nat → Int32 := fun i => if i = k then x else stk i
def FT.bit (ah : Nat → Int32) (f g : Nat) : Nat → Int32 := upd ah f (ah f ||| jshl 1 (nI g))
/-- no pair is open: the orders tried -/
noncomputable def FT.lT (F : FT) (ah : Nat → Int32) (st : LT) : LT := match F.en (F.arr ah st.2.2.2.2.2) with
  | some e => if e < st.1 then (e, st.2.1, st.2.2.1 + 1, st.2.2.2.1, st.2.2.2.2.1, F.arr ah st.2.2.2.2.2) else st
  | none => st
noncomputable def FT.lW (F : FT) (w : WT) (st : LT) : LT := if w.2.2.2.2 = true then st else match F.fp w.2.2.1 with
  | some (f, g) => (st.1, st.2.1, st.2.2.1, st.2.2.2.1 + 2, updS (updS st.2.2.2.2.1 st.2.2.2.1 (FT.bit w.2.2.1 g f)) (st.2.2.2.1 + 1) (FT.bit w.2.2.1 f g), st.2.2.2.2.2)
  | none => F.lT w.2.2.1 st
noncomputable def FT.lS (F : FT) (st : LT) : LT := F.lW (F.win (nI st.1 - 1) (st.2.2.2.2.1 (st.2.2.2.1 - 1))) (st.1, st.2.1 + 1, st.2.2.1, st.2.2.2.1 - 1, st.2.2.2.2.1, st.2.2.2.2.2)
noncomputable def FT.lR (F : FT) (n : Nat) : Nat → LT → LT
  | 0, st => st
  | k + 1, st => if st.2.2.2.1 = 0 then st else if n ≤ st.2.1 then st else FT.lR F n k (F.lS st)
def LI (F : FT) (n : Nat) (st : LT) : Prop := st.1 ≤ 40000 ∧ st.2.1 ≤ n ∧ st.2.2.1 ≤ st.2.1 ∧ st.2.2.2.1 ≤ st.2.1 + 1 ∧ (∀ i, i < st.2.2.2.1 → AHI F (st.2.2.2.2.1 i)) ∧ WO F st.2.2.2.2.2
theorem en_le {F : FT} {od : Nat → Nat → Nat} (hW : WF F) (hO : WO F od) {e : Nat} (h : F.en od = some e) (hdy : ∃ b E, F.dy od b E) : e ≤ 40000 := by
  have hd := en_day h
  rw [en_some hd] at h
  cases h
  obtain ⟨b, E, hb⟩ := hdy
  obtain ⟨c1, c2, c3⟩ := cD_of hW hO hb
  rw [← c2]
  exact (dy_le hb hW).1
