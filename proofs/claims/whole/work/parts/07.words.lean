/-! the words of the mirrored functions: loops, regions with early ends -/
def jLp {σ ρ : Type} : Nat → (σ → Option (σ ⊕ ρ)) → σ → Option ρ
  | 0, _, _ => none
  | n + 1, b, s => (b s).bind fun x => match x with
    | .inl s' => jLp n b s'
    | .inr r => some r
/-- behind a region that may end the frame (inl) or come to its join (inr) -/
def jk {α β : Type} (k : β → Option α) (x : α ⊕ β) : Option α := match x with
  | .inl a => some a
  | .inr b => k b
def jcase {α β : Type} (x : Option (α ⊕ β)) (k : β → Option α) : Option α := x.bind (jk k)
theorem job {α β : Type} {x : Option α} {f : α → Option β} {r : β} (h : x.bind f = some r) : ∃ a, x = some a ∧ f a = some r := by
  cases x with
  | none => cases h
  | some a => exact ⟨a, rfl, h⟩
theorem jcb {α β : Type} {x : Option (α ⊕ β)} {k : β → Option α} {r : α} (h : jcase x k = some r) : ∃ a, x = some a ∧ jk k a = some r := job h
theorem jLp_ind {σ ρ : Type} {body : σ → Option (σ ⊕ ρ)} {P : σ → Prop} {r : ρ} (h : ∀ (s : σ) (x : σ ⊕ ρ), body s = some x → (∀ s', x = .inl s' → P s') → (∀ r', x = .inr r' → r' = r) → P s) : ∀ (n : Nat) (s : σ), jLp n body s = some r → P s
  | 0, s, e => by cases e
  | n + 1, s, e => by
    obtain ⟨x, e1, e2⟩ := job (x := body s) e
    cases x with
    | inl s' => exact h s _ e1 (fun s'' q => by cases q; exact jLp_ind h n s' e2) (fun r' q => by cases q)
    | inr r0 => exact h s _ e1 (fun s'' q => by cases q) (fun r' q => by cases q; exact Option.some.inj e2)
def jsub : List (Option Value) → List (Option Value) → Prop
  | [], _ => True
  | none :: a, b => jsub a b.tail
  | some v :: a, b => b.head? = some (some v) ∧ jsub a b.tail
theorem jsub_at : ∀ (a b : List (Option Value)), jsub a b → ∀ (i : Nat) (v : Value), a[i]? = some (some v) → b[i]? = some (some v)
  | [], _, _, _, _, h => by simp at h
  | none :: a, b, hs, 0, v, h => by simp at h
  | none :: a, b, hs, i + 1, v, h => by
    have := jsub_at a b.tail hs i v (by simpa using h)
    rw [List.getElem?_tail] at this
    exact this
  | some u :: a, b, hs, 0, v, h => by
    have e : u = v := by simpa using h
    subst e
    have := hs.1
    rwa [List.head?_eq_getElem?] at this
  | some u :: a, b, hs, i + 1, v, h => by
    have := jsub_at a b.tail hs.2 i v (by simpa using h)
    rw [List.getElem?_tail] at this
    exact this
section JR5
variable {μ : JMd} {d pc : Nat} {lv lv' : List (Option Value)} {st : List Value} {M M1 : JMem} {Q : JMem → Option Value → Prop}
theorem g_weak (hs : jsub lv' lv) (k : jGG μ d pc lv' st M Q) : jGG μ d pc lv st M Q := by
  intro w p l e s m args below meth c H locs ls F hP hS hl
  exact k w p l e s m args below meth c H locs ls F hP hS ⟨hl.1, hl.2.1, fun i v h => hl.2.2 i v (jsub_at _ _ hs i v h)⟩
theorem g_max {idx : Nat} {x y : Int32} (st : List Value) (hd : decode μ.2.1 pc = .ok (.invokestatic idx, 3)) (hl : Cond.methodLink μ.1 idx yJ9_max_7cf53 ∈ jtb) (hdd : 1 ≤ d) (hst : (st.map fun v => v.category).sum + 13 ≤ 40) (k : jGG μ d (pc + 3) lv (.int (jmax x y) :: st) M Q) : jGG μ d pc lv (.int y :: .int x :: st) M Q := by
  intro w p l e s m args below meth c H locs ls F hP hS hlv
  have hts := F.2.2.2.2.1
  exact va_mmax F.1 F.2.1 (F.2.2.1.trans hlv.1.symm) F.2.2.2.1 (hts _ hl) (hts _ cs_J9_max_7cf53) (hts _ ck_J9_max_7cf53.2.1) (hts _ ck_J9_max_7cf53.1) hdd (by rw [jcat_map]; show _ ≤ 40 * d; omega) (Nat.le_refl _) (Nat.le_refl _) hd (k w p l e s m args below meth c H locs ls F hP hS hlv)
theorem g_min {idx : Nat} {x y : Int32} (st : List Value) (hd : decode μ.2.1 pc = .ok (.invokestatic idx, 3)) (hl : Cond.methodLink μ.1 idx yJ9_min_7cf53 ∈ jtb) (hdd : 1 ≤ d) (hst : (st.map fun v => v.category).sum + 13 ≤ 40) (k : jGG μ d (pc + 3) lv (.int (jmin x y) :: st) M Q) : jGG μ d pc lv (.int y :: .int x :: st) M Q := by
  intro w p l e s m args below meth c H locs ls F hP hS hlv
  have hts := F.2.2.2.2.1
  exact va_mmin F.1 F.2.1 (F.2.2.1.trans hlv.1.symm) F.2.2.2.1 (hts _ hl) (hts _ cs_J9_min_7cf53) (hts _ ck_J9_min_7cf53.2.1) (hts _ ck_J9_min_7cf53.1) hdd (by rw [jcat_map]; show _ ≤ 40 * d; omega) (Nat.le_refl _) (Nat.le_refl _) hd (k w p l e s m args below meth c H locs ls F hP hS hlv)
/-- System.arraycopy between int rows -/
def jcpy (M : JMem) (a na : Nat) (sp : Int32) (b nb : Nat) (dp n : Int32) : Option JMem :=
  if ¬ sp < 0 ∧ ¬ dp < 0 ∧ ¬ n < 0 ∧ sp.toNatClampNeg + n.toNatClampNeg ≤ na ∧ dp.toNatClampNeg + n.toNatClampNeg ≤ nb then some (jrow M b (va_cpy (M a) (M b) sp.toNatClampNeg dp.toNatClampNeg n.toNatClampNeg)) else none
end JR5
def jb01 (x : Int32) : Bool := x == 0 || x == 1
theorem jb01_of {x : Int32} (h : jb01 x = true) : x = 0 ∨ x = 1 := by
  unfold jb01 at h
  simpa using h
