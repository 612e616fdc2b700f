theorem g_tswEq {μ : JMd} {d pc : Nat} {lv : List (Option Value)} {st : List Value} {M : JMem} {Q : JMem → Option Value → Prop} {dflt lo hi off : Int} {offs : Array Int} {len : Nat} {x : Int32} (v : Int32) (tgt : Nat) (hd : decode μ.2.1 pc = .ok (.tableswitch dflt lo hi offs, len)) (hx : x = v) (h1 : ¬ v.toInt < lo) (h2 : ¬ hi < v.toInt) (ho : offs[(v.toInt - lo).toNat]? = some off) (ht : (pc : Int) + off = (tgt : Int)) (k : jGG μ d tgt lv st M Q) : jGG μ d pc lv (.int x :: st) M Q := by
  subst hx
  exact g_tswIn tgt hd h1 h2 ho ht k
theorem g_weakK {μ : JMd} {d pc : Nat} {lv lv' : List (Option Value)} {st : List Value} {M : JMem} {Q : JMem → Option Value → Prop} (k : jGG μ d pc lv' st M Q) (hs : jsub lv' lv) : jGG μ d pc lv st M Q := g_weak hs k
theorem jifp {c : Prop} [Decidable c] {α : Type} {a b : Option α} {r : α} (hc : c) (h : (if c then a else b) = some r) : a = some r := by
  rw [if_pos hc] at h
  exact h
theorem jifn {c : Prop} [Decidable c] {α : Type} {a b : Option α} {r : α} (hc : ¬ c) (h : (if c then a else b) = some r) : b = some r := by
  rw [if_neg hc] at h
  exact h
theorem jgd {c : Prop} [Decidable c] {u : Unit} (h : (if c then some () else none) = some u) : c := by
  by_cases hc : c
  · exact hc
  · rw [if_neg hc] at h
    cases h
theorem jp2 {α β : Type} {a a' : α} {b b' : β} (h : (a, b) = (a', b')) : a = a' ∧ b = b' := Prod.mk.inj h
theorem jp3 {α β γ : Type} {a a' : α} {b b' : β} {c c' : γ} (h : (a, b, c) = (a', b', c')) : a = a' ∧ b = b' ∧ c = c' := by cases h; exact ⟨rfl, rfl, rfl⟩
theorem jp4 {α β γ δ : Type} {a a' : α} {b b' : β} {c c' : γ} {d d' : δ} (h : (a, b, c, d) = (a', b', c', d')) : a = a' ∧ b = b' ∧ c = c' ∧ d = d' := by cases h; exact ⟨rfl, rfl, rfl, rfl⟩
theorem jp5 {α β γ δ ε : Type} {a a' : α} {b b' : β} {c c' : γ} {d d' : δ} {e e' : ε} (h : (a, b, c, d, e) = (a', b', c', d', e')) : a = a' ∧ b = b' ∧ c = c' ∧ d = d' ∧ e = e' := by cases h; exact ⟨rfl, rfl, rfl, rfl, rfl⟩
theorem jp6 {α β γ δ ε ζ : Type} {a a' : α} {b b' : β} {c c' : γ} {d d' : δ} {e e' : ε} {f f' : ζ} (h : (a, b, c, d, e, f) = (a', b', c', d', e', f')) : a = a' ∧ b = b' ∧ c = c' ∧ d = d' ∧ e = e' ∧ f = f' := by cases h; exact ⟨rfl, rfl, rfl, rfl, rfl, rfl⟩
theorem fa_swI (x : Int32) (n : Nat) (hn : n < 2 ^ 31) : x.toInt = n → x = nI n := by
  intro h
  apply Int32.toInt_inj.mp
  rw [h, nI_toInt hn]
theorem jsw5 {x : Int32} (h0 : ¬ x = 0) (h1 : ¬ x = 1) (h2 : ¬ x = 2) (h3 : ¬ x = 3) (h4 : ¬ x = 4) : x.toInt < 0 ∨ 4 < x.toInt := by
  rcases Int.lt_or_le x.toInt 0 with h | h
  · exact Or.inl h
  · rcases Int.lt_or_le 4 x.toInt with k | k
    · exact Or.inr k
    · exfalso
      rcases (show x.toInt = 0 ∨ x.toInt = 1 ∨ x.toInt = 2 ∨ x.toInt = 3 ∨ x.toInt = 4 by omega) with e | e | e | e | e
      · exact h0 (fa_swI x 0 (by decide) e)
      · exact h1 (fa_swI x 1 (by decide) e)
      · exact h2 (fa_swI x 2 (by decide) e)
      · exact h3 (fa_swI x 3 (by decide) e)
      · exact h4 (fa_swI x 4 (by decide) e)
theorem jsw3 {x : Int32} (h0 : ¬ x = 0) (h1 : ¬ x = 1) (h2 : ¬ x = 2) : x.toInt < 0 ∨ 2 < x.toInt := by
  rcases Int.lt_or_le x.toInt 0 with h | h
  · exact Or.inl h
  · rcases Int.lt_or_le 2 x.toInt with k | k
    · exact Or.inr k
    · exfalso
      rcases (show x.toInt = 0 ∨ x.toInt = 1 ∨ x.toInt = 2 by omega) with e | e | e
      · exact h0 (fa_swI x 0 (by decide) e)
      · exact h1 (fa_swI x 1 (by decide) e)
      · exact h2 (fa_swI x 2 (by decide) e)
/-! Arrays.fill, Integer.bitCount, Model.in, System.arraycopy -/
def jfill (M : JMem) (a n : Nat) (v : Int32) : JMem := jrow M a (fun j => if j < n then v else M a j)
set_option maxHeartbeats 4000000 in
theorem c_fill {M : JMem} {a n : Nat} {fs : List (Option Nat)} {v : Int32} (hs : jSh a (1, n, fs)) (hn : n < 2 ^ 31) : jCo yJ7_fill_53178 μ_J7_fill_53178 1 M [.ref a, .int v] (jfill M a n v) none := by
  refine jCt_of (by decide +kernel) rfl (by simp [Value.category]) (Nat.le_of_ble_eq_true rfl) ?_
  show jGG μ_J7_fill_53178 1 0 [some (.ref a), some (.int v), none, none] [] M _
  refine g_iconst (pc := 0) 0 dJ7_fill_53178_0 rfl ?_
  refine g_istore_n (pc := 1) (lv' := [some (.ref a), some (.int v), some (.int 0), none]) dJ7_fill_53178_1 rfl (by decide) rfl ?_
  refine g_aload_n (pc := 2) dJ7_fill_53178_2 rfl rfl ?_
  refine g_alenI (pc := 3) (nI n) dJ7_fill_53178_3 hs rfl ?_
  refine g_istore_n (pc := 4) (lv' := [some (.ref a), some (.int v), some (.int 0), some (.int (nI n))]) dJ7_fill_53178_4 rfl (by decide) rfl ?_
  have key : ∀ k i : Nat, i + k = n → jGG μ_J7_fill_53178 1 5 [some (.ref a), some (.int v), some (.int (nI i)), some (.int (nI n))] [] (jrow M a (fun j => if j < i then v else M a j)) (fun M' r' => M' = jfill M a n v ∧ r' = none) := by
    intro k
    induction k with
    | zero =>
      intro i hi
      have e : i = n := by omega
      subst e
      refine g_iload_n (pc := 5) dJ7_fill_53178_5 rfl rfl ?_
      refine g_iload_n (pc := 6) dJ7_fill_53178_6 rfl rfl ?_
      refine g_icmp_ge (pc := 7) 20 dJ7_fill_53178_7 rfl (fun _ => ?_) (fun h => absurd (nI_le (Nat.le_refl i) hn) h)
      exact g_vret (pc := 20) dJ7_fill_53178_20 rfl ⟨rfl, rfl⟩
    | succ k ih =>
      intro i hi
      have hlt : i < n := by omega
      refine g_iload_n (pc := 5) dJ7_fill_53178_5 rfl rfl ?_
      refine g_iload_n (pc := 6) dJ7_fill_53178_6 rfl rfl ?_
      refine g_icmp_ge (pc := 7) 20 dJ7_fill_53178_7 rfl (fun h => absurd h (nI_ge hlt hn)) (fun _ => ?_)
      refine g_aload_n (pc := 10) dJ7_fill_53178_10 rfl rfl ?_
      refine g_iload_n (pc := 11) dJ7_fill_53178_11 rfl rfl ?_
      refine g_iload_n (pc := 12) dJ7_fill_53178_12 rfl rfl ?_
      have hw : jwr (jrow M a (fun j => if j < i then v else M a j)) a n (nI i) v = some (jrow M a (fun j => if j < i + 1 then v else M a j)) := by
        have hb : jinb (nI i) n = true := by
          have := vp_in_nI hlt hn
          unfold vp_in at this
          unfold jinb
          simpa using this
        unfold jwr
        rw [if_pos hb, nI_clamp (by omega)]
        congr 1
        funext b
        by_cases hb2 : b = a
        · subst hb2
          simp only [jup, jrow, if_true]
          funext j
          by_cases hj : j = i
          · subst hj
            simp [upd]
          · by_cases hj2 : j < i
            · simp [upd, hj, hj2, Nat.lt_succ_of_lt hj2]
            · simp [upd, hj, hj2, show ¬ j < i + 1 by omega]
        · simp [jup, jrow, hb2]
      refine g_iast (pc := 13) dJ7_fill_53178_13 hs hw ?_
      refine g_iinc (pc := 14) (lv' := [some (.ref a), some (.int v), some (.int (nI (i + 1))), some (.int (nI n))]) (nI (i + 1)) dJ7_fill_53178_14 rfl (nI_1 i) (by decide) rfl ?_
      refine g_goto (pc := 17) 5 dJ7_fill_53178_17 rfl ?_
      exact ih (i + 1) (by omega)
  have h0 := key n 0 (by omega)
  have e0 : jrow M a (fun j => if j < 0 then v else M a j) = M := by
    funext b
    by_cases hb : b = a
    · subst hb
      simp [jrow]
    · simp [jrow, hb]
  rw [e0] at h0
  exact h0
/-- Integer.bitCount, as its code has it -/
def jbits (x : Int32) : Int32 :=
  let a := x - (jushr x 1 &&& 1431655765)
  let b := (a &&& 858993459) + (jushr a 2 &&& 858993459)
  let c := (b + jushr b 4) &&& 252645135
  let e := c + jushr c 8
  let f := e + jushr e 16
  f &&& 63
set_option maxHeartbeats 4000000 in
theorem c_bitCount {M : JMem} {x : Int32} : jCo yJ6_bitCount_0f7a4 μ_J6_bitCount_0f7a4 1 M [.int x] M (some (.int (jbits x))) := by
  refine jCt_of (by decide +kernel) rfl (by simp [Value.category]) (Nat.le_of_ble_eq_true rfl) ?_
  show jGG μ_J6_bitCount_0f7a4 1 0 [some (.int x)] [] M _
  refine g_iload_n (pc := 0) dJ6_bitCount_0f7a4_0 rfl rfl ?_
  refine g_iload_n (pc := 1) dJ6_bitCount_0f7a4_1 rfl rfl ?_
  refine g_iconst (pc := 2) 1 dJ6_bitCount_0f7a4_2 rfl ?_
  refine g_iushr (pc := 3) dJ6_bitCount_0f7a4_3 ?_
  refine g_ldcw (pc := 4) 1431655765 dJ6_bitCount_0f7a4_4 lc_J6_265 ?_
  refine g_iand (pc := 7) dJ6_bitCount_0f7a4_7 ?_
  refine g_isub (pc := 8) dJ6_bitCount_0f7a4_8 ?_
  obtain ⟨a, ha⟩ : ∃ a, a = x - (jushr x 1 &&& 1431655765) := ⟨_, rfl⟩
  rw [← ha]
  refine g_istore_n (pc := 9) (lv' := [some (.int a)]) dJ6_bitCount_0f7a4_9 rfl (by decide) rfl ?_
  refine g_iload_n (pc := 10) dJ6_bitCount_0f7a4_10 rfl rfl ?_
  refine g_ldcw (pc := 11) 858993459 dJ6_bitCount_0f7a4_11 lc_J6_266 ?_
  refine g_iand (pc := 14) dJ6_bitCount_0f7a4_14 ?_
  refine g_iload_n (pc := 15) dJ6_bitCount_0f7a4_15 rfl rfl ?_
  refine g_iconst (pc := 16) 2 dJ6_bitCount_0f7a4_16 rfl ?_
  refine g_iushr (pc := 17) dJ6_bitCount_0f7a4_17 ?_
  refine g_ldcw (pc := 18) 858993459 dJ6_bitCount_0f7a4_18 lc_J6_266 ?_
  refine g_iand (pc := 21) dJ6_bitCount_0f7a4_21 ?_
  refine g_iadd (pc := 22) dJ6_bitCount_0f7a4_22 ?_
  obtain ⟨b, hb⟩ : ∃ b, b = (a &&& 858993459) + (jushr a 2 &&& 858993459) := ⟨_, rfl⟩
  rw [← hb]
  refine g_istore_n (pc := 23) (lv' := [some (.int b)]) dJ6_bitCount_0f7a4_23 rfl (by decide) rfl ?_
  refine g_iload_n (pc := 24) dJ6_bitCount_0f7a4_24 rfl rfl ?_
  refine g_iload_n (pc := 25) dJ6_bitCount_0f7a4_25 rfl rfl ?_
  refine g_iconst (pc := 26) 4 dJ6_bitCount_0f7a4_26 rfl ?_
  refine g_iushr (pc := 27) dJ6_bitCount_0f7a4_27 ?_
  refine g_iadd (pc := 28) dJ6_bitCount_0f7a4_28 ?_
  refine g_ldcw (pc := 29) 252645135 dJ6_bitCount_0f7a4_29 lc_J6_267 ?_
  refine g_iand (pc := 32) dJ6_bitCount_0f7a4_32 ?_
  obtain ⟨c, hc⟩ : ∃ c, c = (b + jushr b 4) &&& 252645135 := ⟨_, rfl⟩
  rw [← hc]
  refine g_istore_n (pc := 33) (lv' := [some (.int c)]) dJ6_bitCount_0f7a4_33 rfl (by decide) rfl ?_
  refine g_iload_n (pc := 34) dJ6_bitCount_0f7a4_34 rfl rfl ?_
  refine g_iload_n (pc := 35) dJ6_bitCount_0f7a4_35 rfl rfl ?_
  refine g_bipush (pc := 36) 8 dJ6_bitCount_0f7a4_36 rfl ?_
  refine g_iushr (pc := 38) dJ6_bitCount_0f7a4_38 ?_
  refine g_iadd (pc := 39) dJ6_bitCount_0f7a4_39 ?_
  obtain ⟨e, he⟩ : ∃ e, e = c + jushr c 8 := ⟨_, rfl⟩
  rw [← he]
  refine g_istore_n (pc := 40) (lv' := [some (.int e)]) dJ6_bitCount_0f7a4_40 rfl (by decide) rfl ?_
  refine g_iload_n (pc := 41) dJ6_bitCount_0f7a4_41 rfl rfl ?_
  refine g_iload_n (pc := 42) dJ6_bitCount_0f7a4_42 rfl rfl ?_
  refine g_bipush (pc := 43) 16 dJ6_bitCount_0f7a4_43 rfl ?_
  refine g_iushr (pc := 45) dJ6_bitCount_0f7a4_45 ?_
  refine g_iadd (pc := 46) dJ6_bitCount_0f7a4_46 ?_
  obtain ⟨f, hf⟩ : ∃ f, f = e + jushr e 16 := ⟨_, rfl⟩
  rw [← hf]
  refine g_istore_n (pc := 47) (lv' := [some (.int f)]) dJ6_bitCount_0f7a4_47 rfl (by decide) rfl ?_
  refine g_iload_n (pc := 48) dJ6_bitCount_0f7a4_48 rfl rfl ?_
  refine g_bipush (pc := 49) 63 dJ6_bitCount_0f7a4_49 rfl ?_
  refine g_iand (pc := 51) dJ6_bitCount_0f7a4_51 ?_
  exact g_iret (pc := 52) dJ6_bitCount_0f7a4_52 rfl ⟨rfl, by rw [hf, he, hc, hb, ha]; rfl⟩
/-- Model.in -/
def jin3 (a b c : Int64) : Int32 := if b ≤ a ∧ a ≤ c then 1 else 0
theorem jin3_b (a b c : Int64) : jin3 a b c = 0 ∨ jin3 a b c = 1 := by
  unfold jin3
  by_cases h : b ≤ a ∧ a ≤ c
  · rw [if_pos h]
    exact Or.inr rfl
  · rw [if_neg h]
    exact Or.inl rfl
set_option maxHeartbeats 4000000 in
theorem c_in {M : JMem} {a b c : Int64} : jCo yX8_in μ_X8_in 1 M [.long a, .long b, .long c] M (some (.int (jin3 a b c))) := by
  intro w l
  refine Met.ofW (cc := cX8_in) (maxL := 6) (ret := some .boolean) (by decide +kernel) rfl ?_
  intro p e s m args below meth cd s₁ B hml hv
  obtain ⟨rfl, hP, hK, hD⟩ := hv
  have hx := B.exec
  have hb := B.bytes
  have hr := B.returns
  have hlocks := B.notSynchronized
  have hl := lv_entry ([.long a, .long b, .long c]) (n := 6) (Nat.le_of_ble_eq_true rfl)
  rw [show (List.map (jtr w.1) [Value.long a, .long b, .long c]).toArray = [Value.long a, .long b, .long c].toArray from rfl]
  rw [lg_entry_eq]
  generalize (lg_sl ([.long a, .long b, .long c]) ++ List.replicate (6 - (lg_sl ([.long a, .long b, .long c])).length) Slot.unset).toArray = ls at hl ⊢
  have hl : lv_has ls 6 [(0, .long a), (2, .long b), (4, .long c)] := hl
  have hS : va_S (jin w) s.heap s.heap [] := va_S.rf
  have fin : ∀ v : Int32, (v = 0 ∨ v = 1) → v = jin3 a b c → W p l e (headSpec (.code yX8_in cX8_in 6 (some .boolean) :: jtb) (jrm 1)).room s m ([Value.long a, .long b, .long c].toArray) below meth cd s.heap [] 0 0 (MQ below (jQ w (fun M' r' => M' = M ∧ r' = some (.int (jin3 a b c)))) ([Value.long a, .long b, .long c].toArray) s 0 0 (jin w)) (F0 m 18 ls [.int v]) := by
    intro v h01 hv
    exact W.zret (ty := .boolean) hx hb hr (jbool_nar h01).1 (fun t ht _ => ⟨⟨M, some (.int v), rfl, ⟨rfl, by rw [hv]⟩, by rw [ht]; exact hP⟩, hS.F ht⟩) hS.2.2 dX8_in_18
  refine lv_lload_n hx hb dX8_in_0 rfl (lv_at hl 0 rfl) ?_
  refine lv_lload_n hx hb dX8_in_1 rfl (lv_at hl 1 rfl) ?_
  refine W.lcmp hx hb dX8_in_2 ?_
  refine lv_if_lt (tgt := 17) hx hb dX8_in_3 (by decide) (fun h => ?_) (fun h => ?_)
  · refine lv_iconst (v := 0) hx hb dX8_in_17 (by decide) ?_
    refine fin 0 (Or.inl rfl) ?_
    unfold jin3
    rw [if_neg (fun q => absurd q.1 (by rw [Int64.le_iff_toInt_le, Int.not_le, ← Int64.lt_iff_toInt_lt]; exact (lg_cmp_lt a b).mp h))]
  · refine lv_lload_n hx hb dX8_in_6 rfl (lv_at hl 0 rfl) ?_
    refine lv_lload hx hb dX8_in_7 (lv_at hl 2 rfl) ?_
    refine W.lcmp hx hb dX8_in_9 ?_
    have hge : b ≤ a := by
      rw [lg_cmp_lt, Int64.lt_iff_toInt_lt, Int.not_lt, ← Int64.le_iff_toInt_le] at h
      exact h
    refine lv_if_gt (tgt := 17) hx hb dX8_in_10 (by decide) (fun h2 => ?_) (fun h2 => ?_)
    · refine lv_iconst (v := 0) hx hb dX8_in_17 (by decide) ?_
      refine fin 0 (Or.inl rfl) ?_
      unfold jin3
      rw [if_neg (fun q => absurd q.2 (by rw [Int64.le_iff_toInt_le, Int.not_le, ← Int64.lt_iff_toInt_lt]; exact (lg_cmp_gt a c).mp h2))]
    · refine lv_iconst (v := 1) hx hb dX8_in_13 (by decide) ?_
      refine lv_goto (tgt := 18) hx hb dX8_in_14 (by decide) ?_
      refine fin 1 (Or.inr rfl) ?_
      have hle : a ≤ c := by
        rw [lg_cmp_gt, Int64.lt_iff_toInt_lt, Int.not_lt, ← Int64.le_iff_toInt_le] at h2
        exact h2
      unfold jin3
      rw [if_pos ⟨hge, hle⟩]
theorem jna_ini : Cond.initialized "java/lang/System" ∈ jtb := jmem 90 (by decide +kernel) rfl
theorem ml_X7_164 : Cond.methodLink RX7 164 arraycopyName ∈ jtb := jmem 529 (by decide +kernel) rfl
theorem jna_st : Cond.static arraycopyName ∈ jtb := jmem 530 (by decide +kernel) rfl
theorem jna_nat : Cond.native arraycopyName ∈ jtb := jmem 531 (by decide +kernel) rfl
theorem ml_X0_45 : Cond.methodLink RX0 45 arraycopyName ∈ jtb := jmem 806 (by decide +kernel) rfl
theorem ml_X4_57 : Cond.methodLink RX4 57 arraycopyName ∈ jtb := jmem 835 (by decide +kernel) rfl
theorem ml_X3_30 : Cond.methodLink RX3 30 arraycopyName ∈ jtb := jmem 854 (by decide +kernel) rfl
theorem jfits_int (x : Int32) : fits .int (.int x) = true := rfl
theorem g_copy {μ : JMd} {d pc : Nat} {lv : List (Option Value)} {M M1 : JMem} {Q : JMem → Option Value → Prop} {idx a na b nb : Nat} {fs fs' : List (Option Nat)} {sp dp n : Int32} (st : List Value) (hd : decode μ.2.1 pc = .ok (.invokestatic idx, 3)) (hl : Cond.methodLink μ.1 idx arraycopyName ∈ jtb) (hdd : 1 ≤ d) (hst : (st.map fun v => v.category).sum + 18 ≤ 40) (ha : jSh a (1, na, fs)) (hb : jSh b (1, nb, fs')) (h : jcpy M a na sp b nb dp n = some M1) (k : jGG μ d (pc + 3) lv st M1 Q) : jGG μ d pc lv (.int n :: .int dp :: .ref b :: .int sp :: .ref a :: st) M Q := by
  intro w p l e s m args below meth c H locs ls F hP hS hlv
  have hts := F.2.2.2.2.1
  unfold jcpy at h
  by_cases hc : ¬ sp < 0 ∧ ¬ dp < 0 ∧ ¬ n < 0 ∧ sp.toNatClampNeg + n.toNatClampNeg ≤ na ∧ dp.toNatClampNeg + n.toNatClampNeg ≤ nb
  · rw [if_pos hc] at h
    obtain rfl := Option.some.inj h
    obtain ⟨h1, h2, h3, h4, h5⟩ := hc
    refine va_copyi (ty := .int) F.1 F.2.1 (F.2.2.1.trans hlv.1.symm) F.2.2.2.1 (hts _ hl) (hts _ jna_nat) (hts _ jna_st) (hts _ jna_ini) F.2.2.2.2.2.2.2.1 hP (F.2.2.2.2.2.2.2.2 M) hS a b 0 0 (jget_int w M ha) (jget_int w M hb) rfl rfl rfl h1 h2 h3 h4 h5 (fun _ _ => rfl) hdd ?_ hd (fun H1 locs1 hP1 _ hS1 => ?_)
    · rw [jcat_map]
      show (st.map fun v => v.category).sum + (7 + 11) ≤ 40 * d
      omega
    · rw [jset_int w M hb] at hP1
      exact k w p l e s m args below meth c H1 locs1 ls F hP1 hS1 hlv
  · rw [if_neg hc] at h
    cases h
def jisrow (m : Nat) (x : Option JShp) : Bool := match x with
  | some (1, k, []) => k == m
  | _ => false
theorem jisrow_of {m : Nat} {x : Option JShp} (h : jisrow m x = true) : x = some (1, m, []) := by
  unfold jisrow at h
  split at h
  · rw [eq_of_beq h]
  · cases h
theorem jrows {a n m j : Nat} (h : (List.range n).all (fun j => jisrow m (jtopo[a + 1 + j]?)) = true) (hj : j < n) : jSh (a + 1 + j) (1, m, []) := jisrow_of (List.all_eq_true.mp h j (List.mem_range.mpr hj))
def isX3 (o : Nat) : Prop := jSh o (0, 3, [some (o + 1), some (o + 10)]) ∧ jSh (o + 1) (3, 8, []) ∧ (∀ j, j < 8 → jSh (o + 1 + 1 + j) (1, 32, [])) ∧ jSh (o + 10) (1, 8, [])
set_option maxRecDepth 20000 in
theorem isX3_33 : isX3 33 := ⟨rfl, rfl, fun j hj => jrows (a := 34) (n := 8) (m := 32) rfl hj, rfl⟩
set_option maxRecDepth 20000 in
theorem isX3_190 : isX3 190 := ⟨rfl, rfl, fun j hj => jrows (a := 191) (n := 8) (m := 32) rfl hj, rfl⟩
def isX1 (o : Nat) : Prop := jSh o (0, 1, [some (o + 1), some (o + 2), some (o + 3), some (o + 4), none, some (o + 5), none, some (o + 6), some (o + 7), some (o + 8), some (o + 9)]) ∧ jSh (o + 1) (1, 32, []) ∧ jSh (o + 2) (1, 32, []) ∧ jSh (o + 3) (1, 32, []) ∧ jSh (o + 4) (1, 8, []) ∧ jSh (o + 5) (1, 32, []) ∧ jSh (o + 6) (1, 32, []) ∧ jSh (o + 7) (1, 12, []) ∧ jSh (o + 8) (1, 8, []) ∧ jSh (o + 9) (1, 4, [])
set_option maxRecDepth 20000 in
theorem isX1_54 : isX1 54 := ⟨rfl, rfl, rfl, rfl, rfl, rfl, rfl, rfl, rfl, rfl⟩
set_option maxRecDepth 20000 in
theorem isX1_64 : isX1 64 := ⟨rfl, rfl, rfl, rfl, rfl, rfl, rfl, rfl, rfl, rfl⟩
set_option maxRecDepth 20000 in
theorem isX1_201 : isX1 201 := ⟨rfl, rfl, rfl, rfl, rfl, rfl, rfl, rfl, rfl, rfl⟩
set_option maxRecDepth 20000 in
theorem isX1_211 : isX1 211 := ⟨rfl, rfl, rfl, rfl, rfl, rfl, rfl, rfl, rfl, rfl⟩
def isX6 (o : Nat) : Prop := jSh o (0, 6, [some (o + 1), some (o + 2), some (o + 3), none, none, none]) ∧ jSh (o + 1) (1, 32, []) ∧ jSh (o + 2) (1, 32, []) ∧ jSh (o + 3) (1, 32, [])
set_option maxRecDepth 20000 in
theorem isX6_74 : isX6 74 := ⟨rfl, rfl, rfl, rfl⟩
set_option maxRecDepth 20000 in
theorem isX6_186 : isX6 186 := ⟨rfl, rfl, rfl, rfl⟩
set_option maxRecDepth 20000 in
theorem sh_0 : jSh 0 (0, 7, [some 1, some 33, some 44, some 54, some 64, some 74, some 78, some 83, some 211, none]) := rfl
set_option maxRecDepth 20000 in
theorem sh_1 : jSh 1 (0, 2, [none, none, none, some 2, some 3, some 4, some 5, some 18, some 19, some 20, some 21, some 22, some 23, some 32]) := rfl
set_option maxRecDepth 20000 in
theorem sh_2 : jSh 2 (1, 8, []) := rfl
set_option maxRecDepth 20000 in
theorem sh_3 : jSh 3 (1, 8, []) := rfl
set_option maxRecDepth 20000 in
theorem sh_4 : jSh 4 (1, 12, []) := rfl
set_option maxRecDepth 20000 in
theorem sh_5 : jSh 5 (3, 12, []) := rfl
set_option maxRecDepth 20000 in
theorem gr_5 : ∀ j, j < 12 → jSh (5 + 1 + j) (1, 8, []) := fun j hj => jrows (a := 5) (n := 12) (m := 8) rfl hj
set_option maxRecDepth 20000 in
theorem sh_18 : jSh 18 (1, 12, []) := rfl
set_option maxRecDepth 20000 in
theorem sh_19 : jSh 19 (1, 32, []) := rfl
set_option maxRecDepth 20000 in
theorem sh_20 : jSh 20 (1, 32, []) := rfl
set_option maxRecDepth 20000 in
theorem sh_21 : jSh 21 (1, 32, []) := rfl
set_option maxRecDepth 20000 in
theorem sh_22 : jSh 22 (1, 32, []) := rfl
set_option maxRecDepth 20000 in
theorem sh_23 : jSh 23 (3, 8, []) := rfl
set_option maxRecDepth 20000 in
theorem gr_23 : ∀ j, j < 8 → jSh (23 + 1 + j) (1, 32, []) := fun j hj => jrows (a := 23) (n := 8) (m := 32) rfl hj
set_option maxRecDepth 20000 in
theorem sh_32 : jSh 32 (1, 8, []) := rfl
set_option maxRecDepth 20000 in
theorem sh_33 : jSh 33 (0, 3, [some 34, some 43]) := rfl
set_option maxRecDepth 20000 in
theorem sh_34 : jSh 34 (3, 8, []) := rfl
set_option maxRecDepth 20000 in
theorem gr_34 : ∀ j, j < 8 → jSh (34 + 1 + j) (1, 32, []) := fun j hj => jrows (a := 34) (n := 8) (m := 32) rfl hj
set_option maxRecDepth 20000 in
theorem sh_43 : jSh 43 (1, 8, []) := rfl
set_option maxRecDepth 20000 in
theorem sh_44 : jSh 44 (0, 5, [some 45, some 46, some 47, none]) := rfl
set_option maxRecDepth 20000 in
theorem sh_45 : jSh 45 (1, 6, []) := rfl
set_option maxRecDepth 20000 in
theorem sh_46 : jSh 46 (1, 6, []) := rfl
set_option maxRecDepth 20000 in
theorem sh_47 : jSh 47 (3, 6, []) := rfl
set_option maxRecDepth 20000 in
theorem gr_47 : ∀ j, j < 6 → jSh (47 + 1 + j) (1, 40, []) := fun j hj => jrows (a := 47) (n := 6) (m := 40) rfl hj
set_option maxRecDepth 20000 in
theorem sh_54 : jSh 54 (0, 1, [some 55, some 56, some 57, some 58, none, some 59, none, some 60, some 61, some 62, some 63]) := rfl
set_option maxRecDepth 20000 in
theorem sh_55 : jSh 55 (1, 32, []) := rfl
set_option maxRecDepth 20000 in
theorem sh_56 : jSh 56 (1, 32, []) := rfl
set_option maxRecDepth 20000 in
theorem sh_57 : jSh 57 (1, 32, []) := rfl
set_option maxRecDepth 20000 in
theorem sh_58 : jSh 58 (1, 8, []) := rfl
set_option maxRecDepth 20000 in
theorem sh_59 : jSh 59 (1, 32, []) := rfl
set_option maxRecDepth 20000 in
theorem sh_60 : jSh 60 (1, 32, []) := rfl
set_option maxRecDepth 20000 in
theorem sh_61 : jSh 61 (1, 12, []) := rfl
set_option maxRecDepth 20000 in
theorem sh_62 : jSh 62 (1, 8, []) := rfl
set_option maxRecDepth 20000 in
theorem sh_63 : jSh 63 (1, 4, []) := rfl
set_option maxRecDepth 20000 in
theorem sh_64 : jSh 64 (0, 1, [some 65, some 66, some 67, some 68, none, some 69, none, some 70, some 71, some 72, some 73]) := rfl
set_option maxRecDepth 20000 in
theorem sh_65 : jSh 65 (1, 32, []) := rfl
set_option maxRecDepth 20000 in
theorem sh_66 : jSh 66 (1, 32, []) := rfl
set_option maxRecDepth 20000 in
theorem sh_67 : jSh 67 (1, 32, []) := rfl
set_option maxRecDepth 20000 in
theorem sh_68 : jSh 68 (1, 8, []) := rfl
set_option maxRecDepth 20000 in
theorem sh_69 : jSh 69 (1, 32, []) := rfl
set_option maxRecDepth 20000 in
theorem sh_70 : jSh 70 (1, 32, []) := rfl
set_option maxRecDepth 20000 in
theorem sh_71 : jSh 71 (1, 12, []) := rfl
set_option maxRecDepth 20000 in
theorem sh_72 : jSh 72 (1, 8, []) := rfl
set_option maxRecDepth 20000 in
theorem sh_73 : jSh 73 (1, 4, []) := rfl
set_option maxRecDepth 20000 in
theorem sh_74 : jSh 74 (0, 6, [some 75, some 76, some 77, none, none, none]) := rfl
set_option maxRecDepth 20000 in
theorem sh_75 : jSh 75 (1, 32, []) := rfl
set_option maxRecDepth 20000 in
theorem sh_76 : jSh 76 (1, 32, []) := rfl
set_option maxRecDepth 20000 in
theorem sh_77 : jSh 77 (1, 32, []) := rfl
set_option maxRecDepth 20000 in
theorem sh_78 : jSh 78 (0, 0, [some 79, some 80, some 81, some 82, none]) := rfl
set_option maxRecDepth 20000 in
theorem sh_79 : jSh 79 (1, 32, []) := rfl
set_option maxRecDepth 20000 in
theorem sh_80 : jSh 80 (1, 32, []) := rfl
set_option maxRecDepth 20000 in
theorem sh_81 : jSh 81 (1, 32, []) := rfl
set_option maxRecDepth 20000 in
theorem sh_82 : jSh 82 (1, 32, []) := rfl
set_option maxRecDepth 20000 in
theorem sh_83 : jSh 83 (0, 4, [none, none, none, none, some 84, some 186, some 190, some 201]) := rfl
set_option maxRecDepth 20000 in
theorem sh_84 : jSh 84 (3, 101, []) := rfl
set_option maxRecDepth 20000 in
theorem gr_84 : ∀ j, j < 101 → jSh (84 + 1 + j) (1, 32, []) := fun j hj => jrows (a := 84) (n := 101) (m := 32) rfl hj
set_option maxRecDepth 20000 in
theorem sh_186 : jSh 186 (0, 6, [some 187, some 188, some 189, none, none, none]) := rfl
set_option maxRecDepth 20000 in
theorem sh_187 : jSh 187 (1, 32, []) := rfl
set_option maxRecDepth 20000 in
theorem sh_188 : jSh 188 (1, 32, []) := rfl
set_option maxRecDepth 20000 in
theorem sh_189 : jSh 189 (1, 32, []) := rfl
set_option maxRecDepth 20000 in
theorem sh_190 : jSh 190 (0, 3, [some 191, some 200]) := rfl
set_option maxRecDepth 20000 in
theorem sh_191 : jSh 191 (3, 8, []) := rfl
set_option maxRecDepth 20000 in
theorem gr_191 : ∀ j, j < 8 → jSh (191 + 1 + j) (1, 32, []) := fun j hj => jrows (a := 191) (n := 8) (m := 32) rfl hj
set_option maxRecDepth 20000 in
theorem sh_200 : jSh 200 (1, 8, []) := rfl
set_option maxRecDepth 20000 in
theorem sh_201 : jSh 201 (0, 1, [some 202, some 203, some 204, some 205, none, some 206, none, some 207, some 208, some 209, some 210]) := rfl
set_option maxRecDepth 20000 in
theorem sh_202 : jSh 202 (1, 32, []) := rfl
set_option maxRecDepth 20000 in
theorem sh_203 : jSh 203 (1, 32, []) := rfl
set_option maxRecDepth 20000 in
theorem sh_204 : jSh 204 (1, 32, []) := rfl
set_option maxRecDepth 20000 in
theorem sh_205 : jSh 205 (1, 8, []) := rfl
set_option maxRecDepth 20000 in
theorem sh_206 : jSh 206 (1, 32, []) := rfl
set_option maxRecDepth 20000 in
theorem sh_207 : jSh 207 (1, 32, []) := rfl
set_option maxRecDepth 20000 in
theorem sh_208 : jSh 208 (1, 12, []) := rfl
set_option maxRecDepth 20000 in
theorem sh_209 : jSh 209 (1, 8, []) := rfl
set_option maxRecDepth 20000 in
theorem sh_210 : jSh 210 (1, 4, []) := rfl
set_option maxRecDepth 20000 in
theorem sh_211 : jSh 211 (0, 1, [some 212, some 213, some 214, some 215, none, some 216, none, some 217, some 218, some 219, some 220]) := rfl
set_option maxRecDepth 20000 in
theorem sh_212 : jSh 212 (1, 32, []) := rfl
set_option maxRecDepth 20000 in
theorem sh_213 : jSh 213 (1, 32, []) := rfl
set_option maxRecDepth 20000 in
theorem sh_214 : jSh 214 (1, 32, []) := rfl
set_option maxRecDepth 20000 in
theorem sh_215 : jSh 215 (1, 8, []) := rfl
set_option maxRecDepth 20000 in
theorem sh_216 : jSh 216 (1, 32, []) := rfl
set_option maxRecDepth 20000 in
theorem sh_217 : jSh 217 (1, 32, []) := rfl
set_option maxRecDepth 20000 in
theorem sh_218 : jSh 218 (1, 12, []) := rfl
set_option maxRecDepth 20000 in
theorem sh_219 : jSh 219 (1, 8, []) := rfl
set_option maxRecDepth 20000 in
theorem sh_220 : jSh 220 (1, 4, []) := rfl
set_option maxRecDepth 20000 in
theorem sh_221 : jSh 221 (0, 8, [some 222, some 223, none, some 224, some 225, some 226, none, some 227, some 228, some 229, some 230, none, some 231, some 232, none, some 233, some 234, some 235, some 236, some 237, some 238, none, some 239, some 240, some 241, some 242, some 243, some 244, none, none, none, none, some 245, some 246, some 247, some 248, none, some 249, some 250, some 251, some 252, some 253, some 254, some 255, none, none, none, none, some 256, none, none, some 257, some 258]) := rfl
set_option maxRecDepth 20000 in
theorem sh_222 : jSh 222 (1, 8, []) := rfl
set_option maxRecDepth 20000 in
theorem sh_223 : jSh 223 (1, 8, []) := rfl
set_option maxRecDepth 20000 in
theorem sh_224 : jSh 224 (1, 12, []) := rfl
set_option maxRecDepth 20000 in
theorem sh_225 : jSh 225 (1, 12, []) := rfl
set_option maxRecDepth 20000 in
theorem sh_226 : jSh 226 (1, 96, []) := rfl
set_option maxRecDepth 20000 in
theorem sh_227 : jSh 227 (1, 32, []) := rfl
set_option maxRecDepth 20000 in
theorem sh_228 : jSh 228 (1, 32, []) := rfl
set_option maxRecDepth 20000 in
theorem sh_229 : jSh 229 (1, 32, []) := rfl
set_option maxRecDepth 20000 in
theorem sh_230 : jSh 230 (1, 32, []) := rfl
set_option maxRecDepth 20000 in
theorem sh_231 : jSh 231 (1, 256, []) := rfl
set_option maxRecDepth 20000 in
theorem sh_232 : jSh 232 (1, 8, []) := rfl
set_option maxRecDepth 20000 in
theorem sh_233 : jSh 233 (1, 6, []) := rfl
set_option maxRecDepth 20000 in
theorem sh_234 : jSh 234 (1, 6, []) := rfl
set_option maxRecDepth 20000 in
theorem sh_235 : jSh 235 (1, 240, []) := rfl
set_option maxRecDepth 20000 in
theorem sh_236 : jSh 236 (1, 40, []) := rfl
set_option maxRecDepth 20000 in
theorem sh_237 : jSh 237 (1, 32, []) := rfl
set_option maxRecDepth 20000 in
theorem sh_238 : jSh 238 (2, 32, []) := rfl
set_option maxRecDepth 20000 in
theorem sh_239 : jSh 239 (1, 32, []) := rfl
set_option maxRecDepth 20000 in
theorem sh_240 : jSh 240 (1, 32, []) := rfl
set_option maxRecDepth 20000 in
theorem sh_241 : jSh 241 (2, 256, []) := rfl
set_option maxRecDepth 20000 in
theorem sh_242 : jSh 242 (1, 32, []) := rfl
set_option maxRecDepth 20000 in
theorem sh_243 : jSh 243 (1, 32, []) := rfl
set_option maxRecDepth 20000 in
theorem sh_244 : jSh 244 (1, 32, []) := rfl
set_option maxRecDepth 20000 in
theorem sh_245 : jSh 245 (1, 32, []) := rfl
set_option maxRecDepth 20000 in
theorem sh_246 : jSh 246 (1, 32, []) := rfl
set_option maxRecDepth 20000 in
theorem sh_247 : jSh 247 (1, 32, []) := rfl
set_option maxRecDepth 20000 in
theorem sh_248 : jSh 248 (1, 32, []) := rfl
set_option maxRecDepth 20000 in
theorem sh_249 : jSh 249 (1, 32, []) := rfl
set_option maxRecDepth 20000 in
theorem sh_250 : jSh 250 (1, 32, []) := rfl
set_option maxRecDepth 20000 in
theorem sh_251 : jSh 251 (1, 32, []) := rfl
set_option maxRecDepth 20000 in
theorem sh_252 : jSh 252 (1, 9, []) := rfl
set_option maxRecDepth 20000 in
theorem sh_253 : jSh 253 (1, 9, []) := rfl
set_option maxRecDepth 20000 in
theorem sh_254 : jSh 254 (1, 9, []) := rfl
set_option maxRecDepth 20000 in
theorem sh_255 : jSh 255 (1, 6720, []) := rfl
set_option maxRecDepth 20000 in
theorem sh_256 : jSh 256 (1, 256, []) := rfl
set_option maxRecDepth 20000 in
theorem sh_257 : jSh 257 (1, 32, []) := rfl
set_option maxRecDepth 20000 in
theorem sh_258 : jSh 258 (2, 32, []) := rfl
