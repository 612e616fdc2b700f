/-! the model's day -/
def EB (M : JMem) (F : FT) (od : Nat → Nat → Nat) : Prop := WF F ∧ WO F od ∧ BF M F ∧ BO M F od
def DB (M : JMem) (F : FT) (od : Nat → Nat → Nat) (P : Nat → Bool) (b : Nat → Nat) (E : Nat) : Prop :=
  F.snd od (fun _ => none) (fun _ => 0) 0 P b ∧ F.mx P b E ∧ (∀ s, s < F.ns → M 238 s = if P s = true then 1 else 0) ∧ (∀ s, s < F.ns → P s = true → M 237 s = nI (b s)) ∧ M 221 21 = nI E
theorem EB.fr {M M' : JMem} {F : FT} {od : Nat → Nat → Nat} (h : EB M F od) (e : ∀ a i, ¬ ((a = 221 ∧ i = 21) ∨ (237 ≤ a ∧ a ≤ 240)) → M' a i = M a i) : EB M' F od :=
  ⟨h.1, h.2.1, h.2.2.1.fr ⟨e _ _ (by omega), e _ _ (by omega), e _ _ (by omega)⟩ (fun a i _ _ => e a i (by omega)), h.2.2.2.fr (fun a i _ _ => e a i (by omega))⟩
section WB
variable {M : JMem} {N : Nat} {F : FT} {od : Nat → Nat → Nat} {P : Nat → Bool} {b : Nat → Nat} {E : Nat}
theorem EB.place (h : EB M F od) {s i : Nat} (hs : s < F.ns) (hi : i < F.oc (F.mc s)) (hoi : od (F.mc s) i = s) (hN : 100 ≤ N) : f_X8_placeOf N M (nI s) = some (nI i) := by
  obtain ⟨hW, hO, hB, hBO⟩ := h
  have hns := hW.2.2.1.1
  have hnm := hW.1.1
  have hm := (hW.2.2.1.2 s hs).2.1
  have hoc := oc_le hW (F.mc s)
  exact jplB (c := F.oc (F.mc s)) (m := F.mc s) (row := od (F.mc s)) (by omega) (by omega) (fun j hj => hBO.2 _ j (by omega) hj) (fun j hj => by have := (hO.1 _ j hj).1; omega) hi hoi (by omega) (fun j hj e => hO.2.1 _ j i hj hi (by rw [e, hoi])) (hB.2.2.2.2.2.2.2 s hs).2.1 hN
theorem jm1lt {n : Nat} (hn : n ≤ 1000) : (nI n - 1 < 0) ↔ n = 0 := by
  have e0 : (0 : Int32).toInt = 0 := rfl
  rw [Int32.lt_iff_toInt_lt, jpred_toInt (by omega), e0]
  omega
theorem jpm1 {n : Nat} (hn : 1 ≤ n) : nI (n - 1) + -1 = nI (n - 1) - 1 := by rw [Int32.sub_eq_add_neg]
theorem jreadyB (hEB : EB M F od) (h8 : ∀ s, s < F.ns → M 238 s = if P s = true then 1 else 0) {s : Nat} (hs : s < F.ns) (hN : 100 ≤ N) : ((∀ t, F.pre od t s → P t = true) ∧ f_X8_isReady N M (nI s) = some 1) ∨ ((¬ ∀ t, F.pre od t s → P t = true) ∧ f_X8_isReady N M (nI s) = some 0) := by
  obtain ⟨hW, hO, hB, hBO⟩ := id hEB
  have hns := hW.2.2.1.1
  have hnm := hW.1.1
  obtain ⟨p1, p2, p3, p4, p5, p6⟩ := hW.2.2.1.2 s hs
  obtain ⟨i, hi, hoi⟩ := hO.2.2 s hs
  have hoc := oc_le hW (F.mc s)
  have hm8 : F.mc s < 8 := by omega
  have hk := hW.1.2 _ p2
  have n10 : ¬ (1 : Int32) = 0 := by decide
  unfold f_X8_isReady
  rw [jaheadB hW hB hs, Option.bind_some]
  by_cases hR : F.rk s ≠ 0 → P (F.ln (F.pc s) (F.rk s - 1)) = true
  · -- ahead in the piece is laid
    have c0 : (if (if F.rk s = 0 then -1 else nI (F.ln (F.pc s) (F.rk s - 1))) < 0 then some (Sum.inr ()) else (jrd M 238 32 (if F.rk s = 0 then -1 else nI (F.ln (F.pc s) (F.rk s - 1)))).bind fun v7 => (if v7 = 0 then some (Sum.inl 0) else some (Sum.inr ())) : Option (Int32 ⊕ Unit)) = some (Sum.inr ()) := by
      by_cases e : F.rk s = 0
      · rw [if_pos e, if_pos (by decide)]
      · have h1 := jahead hW hs e
        rw [if_neg e, if_neg (jnlt0 (by omega)), jrd_nI (by omega) (by decide), Option.bind_some, h8 _ h1, if_pos (hR e), if_neg n10]
    rw [c0, jcR, jrd_nI (by omega) (by decide), Option.bind_some, (hB.2.2.2.2.2.2.2 s hs).2.1, hEB.place hs hi hoi hN, Option.bind_some]
    have hl : ∃ x, jLp (σ := Int32 × Int32) (ρ := Int32) N (fun ((z18, z19) : Int32 × Int32) => (if z19 < 0 then some (Sum.inr z18) else (if z18 = 0 then some (Sum.inr z18) else (jrd M 222 8 (nI (F.mc s))).bind fun v21 => (if v21 = 1 then some (Sum.inr z18) else (jrd M 231 256 ((32 * nI (F.mc s)) + z19)).bind fun v22 => (jrd M 238 32 v22).bind fun v23 => some (Sum.inl (v23, z19 + (-1))))))) (1, nI i - 1) = some x ∧ ((x = 1 ∧ (F.kd (F.mc s) = 1 ∨ ∀ j, j < i → P (od (F.mc s) j) = true)) ∨ (x = 0 ∧ F.kd (F.mc s) ≠ 1 ∧ ∃ j, j < i ∧ ¬ P (od (F.mc s) j) = true)) := by
      refine jLp_tot (fun n z => n ≤ i ∧ z.2 = nI n - 1 ∧ ((z.1 = 1 ∧ ∀ j, n ≤ j → j < i → P (od (F.mc s) j) = true) ∨ (z.1 = 0 ∧ F.kd (F.mc s) ≠ 1 ∧ ∃ j, j < i ∧ ¬ P (od (F.mc s) j) = true))) _ ?_ N i (1, nI i - 1) (by omega) ⟨Nat.le_refl _, rfl, Or.inl ⟨rfl, fun j h1 h2 => by omega⟩⟩
      rintro n ⟨z18, z19⟩ ⟨hn, hz, hst⟩
      dsimp only at hz hst ⊢
      subst hz
      rcases Nat.eq_zero_or_pos n with en | en
      · rw [if_pos ((jm1lt (by omega)).mpr en)]
        refine ⟨_, rfl, Or.inr ⟨_, rfl, ?_⟩⟩
        rcases hst with ⟨e1, e2⟩ | e1
        · exact Or.inl ⟨e1, Or.inr (fun j hj => e2 j (by omega) hj)⟩
        · exact Or.inr e1
      · rw [if_neg (fun z => by have := (jm1lt (by omega)).mp z; omega)]
        rcases hst with ⟨rfl, e2⟩ | ⟨rfl, e2⟩
        · rw [if_neg n10, jrd_nI hm8 (by decide), Option.bind_some, (hB.2.2.2.1 _ p2).1]
          by_cases e3 : F.kd (F.mc s) = 1
          · rw [if_pos (by rw [e3]; rfl)]
            exact ⟨_, rfl, Or.inr ⟨_, rfl, Or.inl ⟨rfl, Or.inl e3⟩⟩⟩
          · have h1 := (hO.1 (F.mc s) (n - 1) (by omega)).1
            rw [if_neg (by rw [jeqL (by omega) (by decide)]; exact e3), jsub1 en, jmul32, nI_add, jrd_nI (show 32 * F.mc s + (n - 1) < 256 by omega) (by decide), Option.bind_some, hBO.2 _ _ hm8 (by omega), jrd_nI (show od (F.mc s) (n - 1) < 32 by omega) (by decide), Option.bind_some, h8 _ h1]
            refine ⟨_, rfl, Or.inl ⟨_, n - 1, rfl, by omega, by omega, jpm1 en, ?_⟩⟩
            by_cases e4 : P (od (F.mc s) (n - 1)) = true
            · refine Or.inl ⟨if_pos e4, fun j h2 h3 => ?_⟩
              by_cases e5 : j = n - 1
              · rw [e5]
                exact e4
              · exact e2 j (by omega) h3
            · exact Or.inr ⟨if_neg e4, e3, n - 1, by omega, e4⟩
        · rw [if_pos rfl]
          exact ⟨_, rfl, Or.inr ⟨_, rfl, Or.inr ⟨rfl, e2⟩⟩⟩
    obtain ⟨x, e1, e2⟩ := hl
    rw [e1, Option.bind_some]
    rcases e2 with ⟨rfl, e2⟩ | ⟨rfl, e2, j, hj, e3⟩
    · refine Or.inl ⟨fun t ht => ?_, rfl⟩
      rcases ht with ⟨h1, rfl⟩ | ⟨h1, i', j, hi', hoi', hj, rfl⟩
      · exact hR h1
      · rcases e2 with e2 | e2
        · exact absurd e2 h1
        · have := hO.2.1 _ i' i hi' hi (by rw [hoi', hoi])
          exact e2 j (by omega)
    · exact Or.inr ⟨fun z => e3 (z _ (Or.inr ⟨e2, i, j, hi, hoi, hj, rfl⟩)), rfl⟩
  · have e : F.rk s ≠ 0 := fun z => hR (fun y => absurd z y)
    have hR2 : ¬ P (F.ln (F.pc s) (F.rk s - 1)) = true := fun z => hR (fun _ => z)
    have h1 := jahead hW hs e
    refine Or.inr ⟨fun z => hR2 (z _ (Or.inl ⟨e, rfl⟩)), ?_⟩
    rw [if_neg e, if_neg (jnlt0 (by omega)), jrd_nI (by omega) (by decide), Option.bind_some, h8 _ h1, if_neg hR2, if_pos rfl, jcL]
theorem jb_up {M : JMem} {a i : Nat} {v : Int32} : ∀ b j, b ≠ a → jup M a i v b j = M b j := fun b j h => by rw [jup_ne h]
/-- one step, looked at -/
theorem joneB (hEB : EB M F od) (hD : DB M F od P b E) {s : Nat} (hs : s < F.ns) (hN : 100 ≤ N) (z31 : Int32) :
    ∃ y, ((jrd M 238 32 (nI s)).bind fun v37 => (((if v37 = 0 then (f_X8_isReady N M (nI s)).bind fun v43 => (if v43 = 0 then some ((nI (fb_ct P F.ns), z31, M)) else (f_X8_ahead M (nI s)).bind fun v44 => (((if 0 ≤ v44 then (jrd M 237 32 v44).bind fun v50 => (jrd M 229 32 v44).bind fun v51 => some ((v50 + v51)) else some (0)) : Option (Int32)).bind fun u53 => (jrd M 228 32 (nI s)).bind fun v54 => (f_X8_placeOf N M (nI s)).bind fun v55 => (f_X8_fromOrder N M v54 v55 (nI s)).bind fun (M56, v57) => (((if u53 ≤ v57 then some (v57) else some (u53)) : Option (Int32)).bind fun u64 => (jwr M56 237 32 (nI s) u64).bind fun M65 => (jwr M65 238 32 (nI s) 1).bind fun M66 => (jrd M66 237 32 (nI s)).bind fun v67 => (jrd M66 229 32 (nI s)).bind fun v68 => (((if (v67 + v68) ≤ (M66 221 21) then some ((M66 221 21)) else (jrd M66 237 32 (nI s)).bind fun v74 => (jrd M66 229 32 (nI s)).bind fun v75 => some ((v74 + v75))) : Option (Int32)).bind fun u77 => (some (jup M66 221 21 u77)).bind fun M78 => some ((nI (fb_ct P F.ns) + 1, 1, M78)))))) else some ((nI (fb_ct P F.ns), z31, M))) : Option (Int32 × Int32 × JMem)).bind fun (u81, u82, M83) => some (Sum.inl (u81, u82, nI s + 1, M83)))) = some (.inl y : (Int32 × Int32 × Int32 × JMem) ⊕ (Int32 × Int32 × JMem)) ∧ y.2.2.1 = nI (s + 1) ∧ ((y.1 = nI (fb_ct P F.ns) ∧ y.2.1 = z31 ∧ y.2.2.2 = M ∧ (P s = true ∨ ¬ ∀ t, F.pre od t s → P t = true)) ∨ (y.2.1 = 1 ∧ (∀ a i, ¬ ((a = 221 ∧ i = 21) ∨ (237 ≤ a ∧ a ≤ 239)) → y.2.2.2 a i = M a i) ∧ ∃ P2 b2 E2, DB y.2.2.2 F od P2 b2 E2 ∧ y.1 = nI (fb_ct P2 F.ns) ∧ fb_ct P F.ns < fb_ct P2 F.ns)) := by
  obtain ⟨hW, hO, hB, hBO⟩ := id hEB
  obtain ⟨h1, h2, h3, h4, h5⟩ := id hD
  have hns := hW.2.2.1.1
  have hnm := hW.1.1
  have n10 : ¬ (1 : Int32) = 0 := by decide
  obtain ⟨p1, p2, p3, p4, p5, p6⟩ := hW.2.2.1.2 s hs
  have s32 : s < 32 := by omega
  rw [jrd_nI s32 (by decide), Option.bind_some, h3 s hs]
  cases hP : P s with
  | true =>
    rw [if_pos rfl, if_neg n10, Option.bind_some]
    exact ⟨_, rfl, nI_1 s, Or.inl ⟨rfl, rfl, rfl, Or.inl rfl⟩⟩
  | false =>
    rw [if_neg (show ¬ (false = true) by decide), if_pos rfl]
    rcases jreadyB (N := N) hEB h3 hs hN with ⟨hr, e⟩ | ⟨hr, e⟩
    · rw [e, Option.bind_some, if_neg n10]
      obtain ⟨i, hi, hoi⟩ := hO.2.2 s hs
      have hoc := oc_le hW (F.mc s)
      have hlt : ∀ t, F.pre od t s → t < F.ns := fun t ht => pre_lt hW hO hs ht
      have hct := ct_lt hs hP
      have hbd : ∀ t, F.pre od t s → M 237 t = nI (b t) ∧ b t + F.sp t ≤ 0 + 1100 * fb_ct P F.ns := fun t ht => ⟨h4 t (hlt t ht) (hr t ht), (h1 t (hlt t ht) (hr t ht)).2.2.1⟩
      obtain ⟨M56, f1, f2⟩ := jfromB (M := M) (s := s) (i := i) (N := N) (F := F) (b := b) (row := od (F.mc s)) hW hB hs (by omega) (fun z j hj => by
        have z2 := hbd _ (Or.inr ⟨z, i, j, hi, hoi, hj, rfl⟩)
        exact ⟨(hO.1 _ j (by omega)).1, hBO.2 _ j (by omega) (by omega), z2.1, by omega⟩) hN
      have hu : ((if 0 ≤ (if F.rk s = 0 then -1 else nI (F.ln (F.pc s) (F.rk s - 1))) then (jrd M 237 32 (if F.rk s = 0 then -1 else nI (F.ln (F.pc s) (F.rk s - 1)))).bind fun v50 => (jrd M 229 32 (if F.rk s = 0 then -1 else nI (F.ln (F.pc s) (F.rk s - 1)))).bind fun v51 => some ((v50 + v51)) else some (0)) : Option (Int32)) = some (nI (F.ea b s)) := by
        unfold FT.ea
        by_cases z : F.rk s = 0
        · rw [if_pos z, if_neg (by decide), if_pos z]
          rfl
        · have h6 := jahead hW hs z
          rw [if_neg z, if_pos (jle0 (by omega)), jrd_nI (by omega) (by decide), Option.bind_some, jrd_nI (by omega) (by decide), Option.bind_some, (hbd _ (Or.inl ⟨z, rfl⟩)).1, (hB.2.2.2.2.2.2.2 _ h6).2.2.1, nI_add, if_neg z]
      have b1 : F.ea b s ≤ 1100 * fb_ct P F.ns := by
        unfold FT.ea
        split
        · omega
        · rename_i z
          have := (hbd _ (Or.inl ⟨z, rfl⟩)).2
          omega
      have b2 : F.fo b (od (F.mc s)) i s ≤ 1100 * fb_ct P F.ns + 100 := by
        by_cases z : F.kd (F.mc s) = 1 ∨ i = 0
        · rw [fo_a z]
          omega
        · have z1 : F.kd (F.mc s) ≠ 1 := fun y => z (Or.inl y)
          have z2 : i ≠ 0 := fun y => z (Or.inr y)
          have hj : ∀ j, j < i → b (od (F.mc s) j) + F.sp (od (F.mc s) j) ≤ 1100 * fb_ct P F.ns := fun j hj => by
            have := (hbd _ (Or.inr ⟨z1, i, j, hi, hoi, hj, rfl⟩)).2
            omega
          have hj1 := hj (i - 1) (by omega)
          by_cases z3 : F.kd (F.mc s) = 3
          · rw [fo_c z2 z3]
            have := tt_le (F := F) (b := b) (row := od (F.mc s)) i ((F.wi (F.mc s)).toNatClampNeg - 1) hj
            omega
          · rw [fo_o z2 z1 z3]
            have := gap_le hW (p := od (F.mc s) (i - 1)) hs
            omega
      obtain ⟨v, hv⟩ : ∃ v, v = max (F.ea b s) (F.fo b (od (F.mc s)) i s) := ⟨_, rfl⟩
      have hu2 : ((if nI (F.ea b s) ≤ nI (F.fo b (od (F.mc s)) i s) then some (nI (F.fo b (od (F.mc s)) i s)) else some (nI (F.ea b s))) : Option Int32) = some (nI v) := by
        rw [hv]
        by_cases z : F.ea b s ≤ F.fo b (od (F.mc s)) i s
        · rw [if_pos (jleT z (by omega)), Nat.max_eq_right z]
        · rw [if_neg (jleF (by omega) (by omega)), Nat.max_eq_left (by omega)]
      have hE : E ≤ 40000 := by
        rcases h2.2 with z | ⟨u, hu, z1, z2⟩
        · omega
        · have := (h1 u hu z1).2.2.1
          have := fb_ct_le P F.ns
          omega
      obtain ⟨M65, e5, f5, v5⟩ := jupX M56 237 s (nI v)
      obtain ⟨M66, e6, f6, v6⟩ := jupX M65 238 s 1
      obtain ⟨M78, e8, f8, v8⟩ := jupX M66 221 21 (nI (max E (v + F.sp s)))
      have r1 : M66 237 s = nI v := by rw [f6 _ _ (by omega)]; exact v5
      have r2 : M66 229 s = nI (F.sp s) := by rw [f6 _ _ (by omega), f5 _ _ (by omega), f2 _ _ (by omega)]; exact (hB.2.2.2.2.2.2.2 s hs).2.2.1
      have r3 : M66 221 21 = nI E := by rw [f6 _ _ (by omega), f5 _ _ (by omega), f2 _ _ (by omega)]; exact h5
      have hu3 : ((if (nI v + nI (F.sp s)) ≤ (M66 221 21) then some ((M66 221 21)) else (jrd M66 237 32 (nI s)).bind fun v74 => (jrd M66 229 32 (nI s)).bind fun v75 => some ((v74 + v75))) : Option (Int32)) = some (nI (max E (v + F.sp s))) := by
        rw [r3, jrd_nI s32 (by decide), Option.bind_some, jrd_nI s32 (by decide), Option.bind_some, r1, r2, nI_add]
        by_cases z : v + F.sp s ≤ E
        · rw [if_pos (jleT z (by omega)), Nat.max_eq_left z]
        · rw [if_neg (jleF (by omega) (by omega)), Nat.max_eq_right (by omega)]
      rw [jaheadB hW hB hs, Option.bind_some, hu, Option.bind_some, jrd_nI s32 (by decide), Option.bind_some, (hB.2.2.2.2.2.2.2 s hs).2.1, hEB.place hs hi hoi hN, Option.bind_some, f1, Option.bind_some]
      dsimp only
      rw [hu2, Option.bind_some, jwr_nI s32 (by decide), e5, Option.bind_some, jwr_nI s32 (by decide), e6, Option.bind_some, jrd_nI s32 (by decide), Option.bind_some, r1]
      rw [show jrd M66 229 32 (nI s) = some (nI (F.sp s)) by rw [jrd_nI s32 (by decide), r2]] at hu3 ⊢
      rw [show jrd M66 237 32 (nI s) = some (nI v) by rw [jrd_nI s32 (by decide), r1]] at hu3
      simp only [Option.bind_some] at hu3 ⊢
      rw [hu3]
      simp only [Option.bind_some]
      rw [e8]
      have hiu : ∀ j, j < F.oc (F.mc s) → od (F.mc s) j = s → j = i := fun j hj e => hO.2.1 _ j i hj hi (by rw [e, hoi])
      refine ⟨_, rfl, nI_1 s, Or.inr ⟨rfl, fun a j z => ?_, addB P s, addN b s v, max E (v + F.sp s), ⟨snd_add h1 hs hP hr (fun j hj hoj => ?_) (by omega) hlt, mx_add h2 hs hP, fun u hu => ?_, fun u hu hPu => ?_, v8⟩, ?_, ?_⟩⟩
      · show M78 a j = M a j
        rw [f8 _ _ (by omega), f6 _ _ (by omega), f5 _ _ (by omega), f2 _ _ (by omega)]
      · rw [hiu j hj hoj, hv]
        show _ = max 0 _
        rw [Nat.max_eq_right (Nat.zero_le _)]
      · show M78 238 u = if (if u = s then true else P u) = true then 1 else 0
        rw [f8 _ _ (by omega)]
        by_cases z : u = s
        · rw [if_pos z, if_pos rfl, z]
          exact v6
        · rw [if_neg z, f6 _ _ (by omega), f5 _ _ (by omega), f2 _ _ (by omega)]
          exact h3 u hu
      · show M78 237 u = nI (if u = s then v else b u)
        rw [f8 _ _ (by omega), f6 _ _ (by omega)]
        by_cases z : u = s
        · rw [if_pos z, z]
          exact v5
        · have z1 : (if u = s then true else P u) = true := hPu
          rw [if_neg z] at z1
          rw [if_neg z, f5 _ _ (by omega), f2 _ _ (by omega)]
          exact h4 u hu z1
      · show nI (fb_ct P F.ns) + 1 = _
        rw [addB_ct hs hP, nI_1]
      · rw [addB_ct hs hP]
        omega
    · rw [e, Option.bind_some, if_pos rfl, Option.bind_some]
      exact ⟨_, rfl, nI_1 s, Or.inl ⟨rfl, rfl, rfl, Or.inr hr⟩⟩
end WB
