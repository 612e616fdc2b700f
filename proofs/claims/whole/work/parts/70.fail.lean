/-! fail: the mended day -/
def FT.sndW (F : FT) (od : Nat → Nat → Nat) (fx : Nat → Option Nat) (nb : Nat → Nat) (B : Nat) (P : Nat → Bool) (b : Nat → Nat) : Prop := ∀ s, s < F.ns → P s = true → (fx s = none → ∀ t, F.pre od t s → P t = true) ∧ F.eqn od fx nb b s ∧ b s + F.sp s ≤ B + 1100 * fb_ct P F.ns
theorem vl_fix {F : FT} {od : Nat → Nat → Nat} {fx : Nat → Option Nat} {nb b : Nat → Nat} {s i v : Nat} (h : fx s = some v) : F.vl od fx nb b s i = v := by
  unfold FT.vl
  rw [h]
theorem sndW_add {F : FT} {od : Nat → Nat → Nat} {fx : Nat → Option Nat} {nb b : Nat → Nat} {B s v : Nat} {P : Nat → Bool} (h : F.sndW od fx nb B P b) (hs : s < F.ns) (hP : P s = false) (hr : ∀ t, F.pre od t s → P t = true) (hv : ∀ i, i < F.oc (F.mc s) → od (F.mc s) i = s → v = F.vl od fx nb b s i) (hb : v + F.sp s ≤ B + 1100 * (fb_ct P F.ns + 1)) : F.sndW od fx nb B (addB P s) (addN b s v) := by
  have hne : ∀ u, P u = true → u ≠ s := fun u z e => by rw [e, hP] at z; cases z
  intro u hu hPu
  rw [addB_ct hs hP]
  by_cases e : u = s
  · subst e
    refine ⟨fun _ t ht => ?_, fun i hi hoi => ?_, ?_⟩
    · show (if t = u then true else P t) = true
      rw [hr t ht]
      split <;> rfl
    · show (if u = u then v else b u) = _
      rw [if_pos rfl]
      refine (hv i hi hoi).trans (vl_cong hi hoi (fun t ht => ?_))
      show b t = (if t = u then v else b t)
      rw [if_neg (hne t (hr t ht))]
    · show (if u = u then v else b u) + F.sp u ≤ _
      rw [if_pos rfl]
      exact hb
  · have hPu2 : P u = true := by
      have z : (if u = s then true else P u) = true := hPu
      rw [if_neg e] at z
      exact z
    obtain ⟨c1, c2, c3⟩ := h u hu hPu2
    refine ⟨fun hf t ht => ?_, fun i hi hoi => ?_, ?_⟩
    · show (if t = s then true else P t) = true
      rw [c1 hf t ht]
      split <;> rfl
    · show (if u = s then v else b u) = _
      rw [if_neg e, c2 i hi hoi]
      cases hf : fx u with
      | some w => rw [vl_fix hf, vl_fix hf]
      | none =>
        refine vl_cong hi hoi (fun t ht => ?_)
        show b t = (if t = s then v else b t)
        rw [if_neg (hne t (c1 hf t ht))]
    · show (if u = s then v else b u) + F.sp u ≤ _
      rw [if_neg e]
      omega
def DM (M : JMem) (F : FT) (od : Nat → Nat → Nat) (fx : Nat → Option Nat) (nb : Nat → Nat) (B : Nat) (P : Nat → Bool) (b : Nat → Nat) : Prop :=
  F.sndW od fx nb B P b ∧ (∀ s, s < F.ns → M 238 s = if P s = true then 1 else 0) ∧ (∀ s, s < F.ns → P s = true → M 237 s = nI (b s)) ∧ ∀ s, s < F.ns → P s = false → fx s = none
def jnb (m t d : Nat) : Nat → Nat := fun x => if x = m then t + d else t
section FM
variable {M : JMem} {N : Nat} {F : FT} {od : Nat → Nat → Nat} {fx : Nat → Option Nat} {m t d B : Nat} {P : Nat → Bool} {b : Nat → Nat}
theorem jisOn (hW : WF F) (hB : BF M F) {s : Nat} (hs : s < F.ns) (hm : m < 8) : f_X8_isOn M (nI s) (nI m) = some (if F.mc s = m then 1 else 0) := by
  have hns := hW.2.2.1.1
  have hmc : F.mc s < 8 := Nat.lt_of_lt_of_le (hW.2.2.1.2 s hs).2.1 hW.1.1
  unfold f_X8_isOn
  rw [jrd_nI (by omega) (by decide), Option.bind_some, (hB.2.2.2.2.2.2.2 s hs).2.1]
  by_cases e : F.mc s = m
  · rw [if_pos (by rw [e]), if_pos e]
  · rw [if_neg (jeqF e (by omega) (by omega)), if_neg e]
theorem joneM (hEB : EB M F od) (hD : DM M F od fx (jnb m t d) B P b) {s : Nat} (hs : s < F.ns) (hm : m < 8) (hB1 : t + d ≤ B) (hB2 : B ≤ 300000) (hN : 100 ≤ N) (z55 : Int32) :
    ∃ y, ((jrd M 238 32 (nI s)).bind fun v60 => (((if v60 = 0 then (f_X8_isReady N M (nI s)).bind fun v66 => (if v66 = 0 then some ((z55, M)) else (f_X8_ahead M (nI s)).bind fun v67 => (((if 0 ≤ v67 then (jrd M 237 32 v67).bind fun v73 => (jrd M 229 32 v67).bind fun v74 => some ((v73 + v74)) else some (0)) : Option (Int32)).bind fun u76 => (jrd M 228 32 (nI s)).bind fun v77 => (f_X8_placeOf N M (nI s)).bind fun v78 => (f_X8_fromOrder N M v77 v78 (nI s)).bind fun (M79, v80) => (((if u76 ≤ v80 then some (v80) else some (u76)) : Option (Int32)).bind fun u87 => (f_X8_isOn M79 (nI s) (nI m)).bind fun v88 => (((if v88 = 0 then some (nI t) else some ((nI t + nI d))) : Option (Int32)).bind fun u95 => (((if u87 ≤ u95 then some (u95) else some (u87)) : Option (Int32)).bind fun u102 => (jwr M79 237 32 (nI s) u102).bind fun M103 => (jwr M103 238 32 (nI s) 1).bind fun M104 => some ((1, M104))))))) else some ((z55, M))) : Option (Int32 × JMem)).bind fun (u107, M108) => some (Sum.inl (u107, nI s + 1, M108)))) = some (.inl y : (Int32 × Int32 × JMem) ⊕ (Int32 × JMem)) ∧ y.2.1 = nI (s + 1) ∧ ((y.1 = z55 ∧ y.2.2 = M ∧ (P s = true ∨ ¬ ∀ t, F.pre od t s → P t = true)) ∨ (y.1 = 1 ∧ (∀ a i, ¬ (237 ≤ a ∧ a ≤ 239) → y.2.2 a i = M a i) ∧ ∃ P2 b2, DM y.2.2 F od fx (jnb m t d) B P2 b2 ∧ fb_ct P F.ns < fb_ct P2 F.ns)) := by
  obtain ⟨hW, hO, hB, hBO⟩ := id hEB
  obtain ⟨h1, h3, h4, h5⟩ := id hD
  have hns := hW.2.2.1.1
  have hnm := hW.1.1
  have n10 : ¬ (1 : Int32) = 0 := by decide
  obtain ⟨p1, p2, p3, p4, p5, p6⟩ := hW.2.2.1.2 s hs
  have s32 : s < 32 := by omega
  rw [jrd_nI s32 (by decide), Option.bind_some, h3 s hs]
  cases hP : P s with
  | true =>
    rw [if_pos rfl, if_neg n10, Option.bind_some]
    exact ⟨_, rfl, nI_1 s, Or.inl ⟨rfl, rfl, Or.inl rfl⟩⟩
  | false =>
    rw [if_neg (show ¬ (false = true) by decide), if_pos rfl]
    rcases jreadyB (N := N) hEB h3 hs hN with ⟨hr, e⟩ | ⟨hr, e⟩
    · rw [e, Option.bind_some, if_neg n10]
      obtain ⟨i, hi, hoi⟩ := hO.2.2 s hs
      have hoc := oc_le hW (F.mc s)
      have hlt : ∀ t, F.pre od t s → t < F.ns := fun t ht => pre_lt hW hO hs ht
      have hct := ct_lt hs hP
      have hbd : ∀ t, F.pre od t s → M 237 t = nI (b t) ∧ b t + F.sp t ≤ B + 1100 * fb_ct P F.ns := fun t ht => ⟨h4 t (hlt t ht) (hr t ht), (h1 t (hlt t ht) (hr t ht)).2.2⟩
      obtain ⟨M56, f1, f2⟩ := jfromB (M := M) (s := s) (i := i) (N := N) (F := F) (b := b) (row := od (F.mc s)) hW hB hs (by omega) (fun z j hj => by
        have z2 := hbd _ (Or.inr ⟨z, i, j, hi, hoi, hj, rfl⟩)
        exact ⟨(hO.1 _ j (by omega)).1, hBO.2 _ j (by omega) (by omega), z2.1, by omega⟩) hN
      have hu : ((if 0 ≤ (if F.rk s = 0 then -1 else nI (F.ln (F.pc s) (F.rk s - 1))) then (jrd M 237 32 (if F.rk s = 0 then -1 else nI (F.ln (F.pc s) (F.rk s - 1)))).bind fun v50 => (jrd M 229 32 (if F.rk s = 0 then -1 else nI (F.ln (F.pc s) (F.rk s - 1)))).bind fun v51 => some ((v50 + v51)) else some (0)) : Option (Int32)) = some (nI (F.ea b s)) := by
        unfold FT.ea
        by_cases z : F.rk s = 0
        · rw [if_pos z, if_neg (by decide), if_pos z]
          rfl
        · have h6 := jahead hW hs z
          rw [if_neg z, if_pos (jle0 (by omega)), jrd_nI (by omega) (by decide), Option.bind_some, jrd_nI (by omega) (by decide), Option.bind_some, (hbd _ (Or.inl ⟨z, rfl⟩)).1, (hB.2.2.2.2.2.2.2 _ h6).2.2.1, nI_add, if_neg z]
      have b1 : F.ea b s ≤ B + 1100 * fb_ct P F.ns := by
        unfold FT.ea
        split
        · omega
        · rename_i z
          have := (hbd _ (Or.inl ⟨z, rfl⟩)).2
          omega
      have b2 : F.fo b (od (F.mc s)) i s ≤ B + 1100 * fb_ct P F.ns + 100 := by
        by_cases z : F.kd (F.mc s) = 1 ∨ i = 0
        · rw [fo_a z]
          omega
        · have z1 : F.kd (F.mc s) ≠ 1 := fun y => z (Or.inl y)
          have z2 : i ≠ 0 := fun y => z (Or.inr y)
          have hj : ∀ j, j < i → b (od (F.mc s) j) + F.sp (od (F.mc s) j) ≤ B + 1100 * fb_ct P F.ns := fun j hj => by
            have := (hbd _ (Or.inr ⟨z1, i, j, hi, hoi, hj, rfl⟩)).2
            omega
          have hj1 := hj (i - 1) (by omega)
          by_cases z3 : F.kd (F.mc s) = 3
          · rw [fo_c z2 z3]
            have := tt_le (F := F) (b := b) (row := od (F.mc s)) i ((F.wi (F.mc s)).toNatClampNeg - 1) hj
            omega
          · rw [fo_o z2 z1 z3]
            have := gap_le hW (p := od (F.mc s) (i - 1)) hs
            omega
      obtain ⟨v, hv⟩ : ∃ v, v = max (F.ea b s) (F.fo b (od (F.mc s)) i s) := ⟨_, rfl⟩
      have hu2 : ((if nI (F.ea b s) ≤ nI (F.fo b (od (F.mc s)) i s) then some (nI (F.fo b (od (F.mc s)) i s)) else some (nI (F.ea b s))) : Option Int32) = some (nI v) := by
        rw [hv]
        by_cases z : F.ea b s ≤ F.fo b (od (F.mc s)) i s
        · rw [if_pos (jleT z (by omega)), Nat.max_eq_right z]
        · rw [if_neg (jleF (by omega) (by omega)), Nat.max_eq_left (by omega)]
      have hB56 : BF M56 F := hB.fr ⟨f2 _ _ (by omega), f2 _ _ (by omega), f2 _ _ (by omega)⟩ (fun a j _ _ => f2 a j (by omega))
      have hu3 : ((if (if F.mc s = m then (1 : Int32) else 0) = 0 then some (nI t) else some (nI t + nI d)) : Option Int32) = some (nI (jnb m t d (F.mc s))) := by
        unfold jnb
        by_cases z : F.mc s = m
        · rw [if_pos z, if_neg n10, if_pos z, nI_add]
        · rw [if_neg z, if_pos rfl, if_neg z]
      have hnb : jnb m t d (F.mc s) ≤ B := by
        unfold jnb
        split <;> omega
      obtain ⟨w, hw⟩ : ∃ w, w = max (jnb m t d (F.mc s)) v := ⟨_, rfl⟩
      have hu4 : ((if nI v ≤ nI (jnb m t d (F.mc s)) then some (nI (jnb m t d (F.mc s))) else some (nI v)) : Option Int32) = some (nI w) := by
        rw [hw]
        by_cases z : v ≤ jnb m t d (F.mc s)
        · rw [if_pos (jleT z (by omega)), Nat.max_eq_left z]
        · rw [if_neg (jleF (by omega) (by omega)), Nat.max_eq_right (by omega)]
      obtain ⟨M65, e5, f5, v5⟩ := jupX M56 237 s (nI w)
      obtain ⟨M66, e6, f6, v6⟩ := jupX M65 238 s 1
      rw [jaheadB hW hB hs, Option.bind_some, hu, Option.bind_some, jrd_nI s32 (by decide), Option.bind_some, (hB.2.2.2.2.2.2.2 s hs).2.1, hEB.place hs hi hoi hN, Option.bind_some, f1, Option.bind_some]
      dsimp only
      rw [hu2, Option.bind_some, jisOn hW hB56 hs hm, Option.bind_some, hu3, Option.bind_some, hu4, Option.bind_some, jwr_nI s32 (by decide), e5, Option.bind_some, jwr_nI s32 (by decide), e6, Option.bind_some, Option.bind_some]
      have hiu : ∀ j, j < F.oc (F.mc s) → od (F.mc s) j = s → j = i := fun j hj e => hO.2.1 _ j i hj hi (by rw [e, hoi])
      refine ⟨_, rfl, nI_1 s, Or.inr ⟨rfl, fun a j z => ?_, addB P s, addN b s w, ⟨sndW_add h1 hs hP hr (fun j hj hoj => ?_) (by omega), fun u hu => ?_, fun u hu hPu => ?_, fun u hu hPu => ?_⟩, ?_⟩⟩
      · show M66 a j = M a j
        rw [f6 _ _ (by omega), f5 _ _ (by omega), f2 _ _ (by omega)]
      · unfold FT.vl
        rw [hiu j hj hoj, h5 s hs hP, hw, hv]
      · show M66 238 u = if (if u = s then true else P u) = true then 1 else 0
        by_cases z : u = s
        · rw [if_pos z, if_pos rfl, z]
          exact v6
        · rw [if_neg z, f6 _ _ (by omega), f5 _ _ (by omega), f2 _ _ (by omega)]
          exact h3 u hu
      · show M66 237 u = nI (if u = s then w else b u)
        rw [f6 _ _ (by omega)]
        by_cases z : u = s
        · rw [if_pos z, z]
          exact v5
        · have z1 : (if u = s then true else P u) = true := hPu
          rw [if_neg z] at z1
          rw [if_neg z, f5 _ _ (by omega), f2 _ _ (by omega)]
          exact h4 u hu z1
      · have z1 : (if u = s then true else P u) = false := hPu
        by_cases z : u = s
        · rw [if_pos z] at z1
          cases z1
        · rw [if_neg z] at z1
          exact h5 u hu z1
      · rw [addB_ct hs hP]
        omega
    · rw [e, Option.bind_some, if_pos rfl, Option.bind_some]
      exact ⟨_, rfl, nI_1 s, Or.inl ⟨rfl, rfl, Or.inr hr⟩⟩
theorem jpassM (hEB : EB M F od) (hD : DM M F od fx (jnb m t d) B P b) (hm : m < 8) (hB1 : t + d ≤ B) (hB2 : B ≤ 300000) (hN : 100 ≤ N) :
    ∃ x, jLp (σ := Int32 × Int32 × JMem) (ρ := Int32 × JMem) N (fun ((z55, z56, M57) : Int32 × Int32 × JMem) => (if (M57 221 11) ≤ z56 then some (Sum.inr (z55, M57)) else (jrd M57 238 32 z56).bind fun v60 => (((if v60 = 0 then (f_X8_isReady N M57 z56).bind fun v66 => (if v66 = 0 then some ((z55, M57)) else (f_X8_ahead M57 z56).bind fun v67 => (((if 0 ≤ v67 then (jrd M57 237 32 v67).bind fun v73 => (jrd M57 229 32 v67).bind fun v74 => some ((v73 + v74)) else some (0)) : Option (Int32)).bind fun u76 => (jrd M57 228 32 z56).bind fun v77 => (f_X8_placeOf N M57 z56).bind fun v78 => (f_X8_fromOrder N M57 v77 v78 z56).bind fun (M79, v80) => (((if u76 ≤ v80 then some (v80) else some (u76)) : Option (Int32)).bind fun u87 => (f_X8_isOn M79 z56 (nI m)).bind fun v88 => (((if v88 = 0 then some (nI t) else some ((nI t + nI d))) : Option (Int32)).bind fun u95 => (((if u87 ≤ u95 then some (u95) else some (u87)) : Option (Int32)).bind fun u102 => (jwr M79 237 32 z56 u102).bind fun M103 => (jwr M103 238 32 z56 1).bind fun M104 => some ((1, M104))))))) else some ((z55, M57))) : Option (Int32 × JMem)).bind fun (u107, M108) => some (Sum.inl (u107, z56 + 1, M108))))) (0, 0, M) = some x ∧
    ((∀ a i, ¬ (237 ≤ a ∧ a ≤ 239) → x.2 a i = M a i) ∧ ((x.1 = 0 ∧ x.2 = M ∧ F.cpl od P) ∨ (x.1 = 1 ∧ ∃ P' b', DM x.2 F od fx (jnb m t d) B P' b' ∧ fb_ct P F.ns < fb_ct P' F.ns))) := by
  have hns := hEB.1.2.2.1.1
  refine jLp_tot (fun n z => ∃ s, n + s = F.ns ∧ z.2.1 = nI s ∧ (∀ a i, ¬ (237 ≤ a ∧ a ≤ 239) → z.2.2 a i = M a i) ∧ ((z.1 = 0 ∧ z.2.2 = M ∧ ∀ u, u < s → P u = true ∨ ¬ ∀ t, F.pre od t u → P t = true) ∨ (z.1 = 1 ∧ ∃ P' b', DM z.2.2 F od fx (jnb m t d) B P' b' ∧ fb_ct P F.ns < fb_ct P' F.ns))) _ ?_ N F.ns (0, 0, M) (by omega) ⟨0, by omega, rfl, fun _ _ _ => rfl, Or.inl ⟨rfl, rfl, fun u hu => absurd hu (Nat.not_lt_zero u)⟩⟩
  rintro n ⟨z55, z56, M57⟩ ⟨s, hn, hz, hf, hst⟩
  dsimp only at hz hf hst ⊢
  subst hz
  have hEB2 : EB M57 F od := hEB.fr (fun a i _ => hf a i (by omega))
  rw [hEB2.2.2.1.2.2.1]
  rcases Nat.eq_zero_or_pos n with en | en
  · rw [if_pos (jleT (by omega) (by omega))]
    refine ⟨_, rfl, Or.inr ⟨_, rfl, hf, ?_⟩⟩
    rcases hst with ⟨e1, e3, e4⟩ | e1
    · refine Or.inl ⟨e1, e3, fun u hu hpre => ?_⟩
      rcases e4 u (by omega) with z | z
      · exact z
      · exact absurd hpre z
    · exact Or.inr e1
  · rw [if_neg (jleF (by omega) (by omega))]
    rcases hst with ⟨e1, e3, e4⟩ | ⟨e1, P', b', e2, e4⟩
    · subst e1 e3
      obtain ⟨⟨y1, y2, y4⟩, f1, f2, f3⟩ := joneM (s := s) hEB2 hD (by omega) hm hB1 hB2 hN 0
      dsimp only at f2 f3
      rw [f1]
      refine ⟨_, rfl, Or.inl ⟨_, n - 1, rfl, by omega, s + 1, by omega, f2, ?_⟩⟩
      rcases f3 with ⟨g1, g3, g4⟩ | ⟨g1, g2, P2, b2, g3, g5⟩
      · refine ⟨fun a i z => by show y4 a i = _; rw [g3], Or.inl ⟨g1, g3, fun u hu => ?_⟩⟩
        rcases Nat.lt_succ_iff_lt_or_eq.mp hu with z | z
        · exact e4 u z
        · rw [z]
          exact g4
      · exact ⟨fun a i z => g2 a i z, Or.inr ⟨g1, P2, b2, g3, g5⟩⟩
    · subst e1
      obtain ⟨⟨y1, y2, y4⟩, f1, f2, f3⟩ := joneM (s := s) hEB2 e2 (by omega) hm hB1 hB2 hN 1
      dsimp only at f2 f3
      rw [f1]
      refine ⟨_, rfl, Or.inl ⟨_, n - 1, rfl, by omega, s + 1, by omega, f2, ?_⟩⟩
      rcases f3 with ⟨g1, g3, g4⟩ | ⟨g1, g2, P2, b2, g3, g5⟩
      · exact ⟨fun a i z => by show y4 a i = _; rw [g3]; exact hf a i z, Or.inr ⟨g1, P', b', by show DM y4 F od fx (jnb m t d) B P' b'; rw [g3]; exact e2, e4⟩⟩
      · exact ⟨fun a i z => (g2 a i z).trans (hf a i z), Or.inr ⟨g1, P2, b2, g3, by omega⟩⟩
theorem jloopM (hEB : EB M F od) (hD : DM M F od fx (jnb m t d) B P b) (hm : m < 8) (hB1 : t + d ≤ B) (hB2 : B ≤ 300000) (hN : 100 ≤ N) :
    ∃ x, jLp (σ := Int32 × JMem) (ρ := JMem) N (fun ((z46, M47) : Int32 × JMem) => (if z46 = 0 then some (Sum.inr M47) else ((jLp (σ := Int32 × Int32 × JMem) (ρ := Int32 × JMem) N (fun ((z55, z56, M57) : Int32 × Int32 × JMem) => (if (M57 221 11) ≤ z56 then some (Sum.inr (z55, M57)) else (jrd M57 238 32 z56).bind fun v60 => (((if v60 = 0 then (f_X8_isReady N M57 z56).bind fun v66 => (if v66 = 0 then some ((z55, M57)) else (f_X8_ahead M57 z56).bind fun v67 => (((if 0 ≤ v67 then (jrd M57 237 32 v67).bind fun v73 => (jrd M57 229 32 v67).bind fun v74 => some ((v73 + v74)) else some (0)) : Option (Int32)).bind fun u76 => (jrd M57 228 32 z56).bind fun v77 => (f_X8_placeOf N M57 z56).bind fun v78 => (f_X8_fromOrder N M57 v77 v78 z56).bind fun (M79, v80) => (((if u76 ≤ v80 then some (v80) else some (u76)) : Option (Int32)).bind fun u87 => (f_X8_isOn M79 z56 (nI m)).bind fun v88 => (((if v88 = 0 then some (nI t) else some ((nI t + nI d))) : Option (Int32)).bind fun u95 => (((if u87 ≤ u95 then some (u95) else some (u87)) : Option (Int32)).bind fun u102 => (jwr M79 237 32 z56 u102).bind fun M103 => (jwr M103 238 32 z56 1).bind fun M104 => some ((1, M104))))))) else some ((z55, M57))) : Option (Int32 × JMem)).bind fun (u107, M108) => some (Sum.inl (u107, z56 + 1, M108))))) (0, 0, M47)).bind fun (t58, t59) => some (Sum.inl (t58, t59))))) (1, M) = some x ∧ ((∀ a i, ¬ (237 ≤ a ∧ a ≤ 239) → x a i = M a i) ∧ ∃ P' b', DM x F od fx (jnb m t d) B P' b' ∧ F.cpl od P') := by
  have hns := hEB.1.2.2.1.1
  have hle0 := fb_ct_le P F.ns
  refine jLp_tot (fun n z => (∀ a i, ¬ (237 ≤ a ∧ a ≤ 239) → z.2 a i = M a i) ∧ ∃ P b, DM z.2 F od fx (jnb m t d) B P b ∧ ((z.1 = 1 ∧ n + fb_ct P F.ns = F.ns + 1) ∨ (z.1 = 0 ∧ F.cpl od P))) _ ?_ N (F.ns + 1 - fb_ct P F.ns) (1, M) (by omega) ⟨fun _ _ _ => rfl, P, b, hD, Or.inl ⟨rfl, by omega⟩⟩
  rintro n ⟨z46, M47⟩ ⟨hf, P, b, hD, hst⟩
  dsimp only at hf hD hst ⊢
  have hEB2 : EB M47 F od := hEB.fr (fun a i _ => hf a i (by omega))
  rcases hst with ⟨rfl, h2⟩ | ⟨rfl, h2⟩
  · rw [if_neg (show ¬ (1 : Int32) = 0 by decide)]
    obtain ⟨⟨x1, x3⟩, d1, d2, d3⟩ := jpassM (N := N) hEB2 hD hm hB1 hB2 hN
    dsimp only at d2 d3
    rw [d1, Option.bind_some]
    have hle := fb_ct_le P F.ns
    rcases d3 with ⟨g1, g3, g4⟩ | ⟨g1, P2, b2, g2, g4⟩
    · exact ⟨_, rfl, Or.inl ⟨_, n - 1, rfl, by omega, fun a i z => (d2 a i z).trans (hf a i z), P, b, by show DM x3 F od fx (jnb m t d) B P b; rw [g3]; exact hD, Or.inr ⟨g1, g4⟩⟩⟩
    · have hle2 := fb_ct_le P2 F.ns
      exact ⟨_, rfl, Or.inl ⟨_, F.ns + 1 - fb_ct P2 F.ns, rfl, by omega, fun a i z => (d2 a i z).trans (hf a i z), P2, b2, g2, Or.inl ⟨g1, by omega⟩⟩⟩
  · rw [if_pos rfl]
    exact ⟨_, rfl, Or.inr ⟨_, rfl, hf, P, b, hD, h2⟩⟩
/-- with a day all are laid -/
theorem cpl_all (hW : WF F) (hO : WO F od) (hd : F.day od) (hc : F.cpl od P) : ∀ s, s < F.ns → P s = true := by
  have key : ∀ s, Acc (F.pre od) s → s < F.ns → P s = true := by
    intro s ha
    induction ha with
    | intro s _ ih =>
      intro hs
      exact hc s hs (fun t ht => ih t ht (pre_lt hW hO hs ht))
  exact fun s hs => key s (hd s hs) hs
end FM
def FT.sty (F : FT) (b : Nat → Nat) (m t s : Nat) : Bool := decide (b s + F.sp s ≤ t) || (decide (b s < t) && !decide (F.mc s = m))
theorem jstyA {M : JMem} {F : FT} {b : Nat → Nat} {m t s : Nat} (hW : WF F) (hA : AF M F) (hs : s < F.ns) (hb : M 55 s = nI (b s)) (hbb : b s + F.sp s ≤ 100000) (ht : t ≤ 100000) (hm : m < 8) : f_X7_stays M (nI s) (nI m) (nI t) = some (if F.sty b m t s = true then 1 else 0) := by
  have hns := hW.2.2.1.1
  have hmc : F.mc s < 8 := Nat.lt_of_lt_of_le (hW.2.2.1.2 s hs).2.1 hW.1.1
  obtain ⟨g1, g2, g3, g4⟩ := hA.2.2.2.2.2.2.2.1 s hs
  unfold f_X7_stays FT.sty
  rw [jendA (by omega) hb g3, Option.bind_some]
  by_cases e1 : b s + F.sp s ≤ t
  · rw [if_neg (jltF e1 (by omega)), if_pos (by simp [e1])]
  · rw [if_pos (jltT (by omega) (by omega)), jrd_nI (by omega) (by decide), Option.bind_some, hb]
    by_cases e2 : b s < t
    · rw [if_neg (jleF e2 (by omega)), jrd_nI (by omega) (by decide), Option.bind_some, g2]
      by_cases e3 : F.mc s = m
      · rw [if_pos (by rw [e3]), if_neg (by simp [e1, e3])]
      · rw [if_neg (jeqF e3 (by omega) (by omega)), if_pos (by simp [e2, e3])]
    · rw [if_pos (jleT (by omega) (by omega)), if_neg (by simp [e1, e2])]
theorem IX.mend {M M2 : JMem} {F : FT} {od : Nat → Nat → Nat} {S : ST} {k q q' : Nat} (h : IX M F od S k q) (e : ∀ a i, jcore a i → ¬ ((a = 0 ∧ i = 9) ∨ a = 212 ∨ a = 214 ∨ (a = 221 ∧ (i = 49 ∨ i = 50)) ∨ a = 257 ∨ a = 258) → M2 a i = M a i) (hR : IR M2 F q') : IX M2 F od S k q' := by
  obtain ⟨h1, h2, h3, h4, h5, h6, h7, h8, h9, -, h11, h12, h13⟩ := h
  have q9 : IQ M2 := ⟨by rw [e 83 0 (by unfold jcore; omega) (by omega), e 221 45 (by unfold jcore; omega) (by omega)]; exact h9.1, by rw [e 83 1 (by unfold jcore; omega) (by omega), e 221 46 (by unfold jcore; omega) (by omega)]; exact h9.2.1, by rw [e 83 2 (by unfold jcore; omega) (by omega), e 221 47 (by unfold jcore; omega) (by omega)]; exact h9.2.2⟩
  refine ⟨h1, h2, h3.fr h1.1.1 (fun a i _ _ => e a i ?_ ?_), h4.fr (fun a i _ _ => e a i ?_ ?_), h5.fr ⟨e _ _ ?_ ?_, e _ _ ?_ ?_, e _ _ ?_ ?_⟩ (fun a i _ _ => e a i ?_ ?_), h6.fr (fun a i _ _ => e a i ?_ ?_), h7.fr ⟨e _ _ ?_ ?_, e _ _ ?_ ?_⟩ (fun a i _ => e a i ?_ ?_), h8.fr ⟨e _ _ ?_ ?_, e _ _ ?_ ?_, e _ _ ?_ ?_⟩ (fun a i _ => e a i ?_ ?_), q9, hR, h11.fr (fun a i _ => e a i ?_ ?_), h12.fr (fun a i _ => e a i ?_ ?_), h13.fr (fun a i _ => e a i ?_ ?_)⟩
  all_goals (first | omega | (unfold jcore; omega))
theorem jst_fail_ok : jst_fail jInv := by
  rintro M x1 x2 x3 ⟨F, od, S, k, q, hX⟩
  have hI : jInv M := ⟨F, od, S, k, q, hX⟩
  obtain ⟨hW, hO, hA, hAO, hB, hBO, -⟩ := id hX
  have hns := hW.2.2.1.1
  have hnm := hW.1.1
  have n10 : ¬ (1 : Int32) = 0 := by decide
  have a0 := hA.1
  have b0' := hB.1
  have jt : ∀ x : Int32, jin3 x.toInt64 0 100000 = if 0 ≤ x ∧ x ≤ 100000 then 1 else 0 := fun x => jin3_i x 0 100000
  have jd : ∀ x : Int32, jin3 x.toInt64 0 10000 = if 0 ≤ x ∧ x ≤ 10000 then 1 else 0 := fun x => jin3_i x 0 10000
  rcases jem (0 ≤ x1 ∧ x1 ≤ nI F.nm - 1) with h1 | h1
  · exact ⟨0, M, M, -100001, by unfold f_X7_fail; rw [jisMachine, a0, if_neg h1, Option.bind_some, if_pos rfl], by unfold f_X8_fail; rw [b0', jin_0_v, if_neg h1, if_pos rfl], hI⟩
  rcases jem (0 ≤ x2 ∧ x2 ≤ 100000) with h2 | h2
  · exact ⟨0, M, M, -100002, by unfold f_X7_fail; rw [jisMachine, a0, if_pos h1, Option.bind_some, if_neg n10, jisOut, if_neg h2, Option.bind_some, if_neg n10], by unfold f_X8_fail; rw [b0', jin_0_v, if_pos h1, if_neg n10, jt, if_neg h2, if_pos rfl], hI⟩
  rcases jem (0 ≤ x3 ∧ x3 ≤ 10000) with h3 | h3
  · exact ⟨0, M, M, -100002, by unfold f_X7_fail; rw [jisMachine, a0, if_pos h1, Option.bind_some, if_neg n10, jisOut, if_pos h2, Option.bind_some, if_pos rfl, jisOut, if_neg h3, Option.bind_some, if_neg n10], by unfold f_X8_fail; rw [b0', jin_0_v, if_pos h1, if_neg n10, jt, if_pos h2, if_neg n10, jd, if_neg h3, if_pos rfl], hI⟩
  obtain ⟨m, hm, rfl⟩ := (jbelow (by omega)).mp h1
  obtain ⟨t, -, ht, rfl⟩ := jnat (lo := 0) (hi := 100000) h2.1 h2.2 (by decide) (by decide)
  obtain ⟨d, -, hd, rfl⟩ := jnat (lo := 0) (hi := 10000) h3.1 h3.2 (by decide) (by decide)
  have hm8 : m < 8 := by omega
  obtain ⟨M4, qq, P, lp, lm, b, E, e1, e2, e3, hX4, hf4⟩ := jboth (N := 100) hX (by omega)
  have hday := day_iff hW hO e2.1 e3
  have kA : f_X7_fail 100 M (nI m) (nI t) (nI d) = (f_X1_work 100 M 54 33).bind fun (M4, v5) => (if v5 = 0 then (some (M4, (-100003)) : Option (JMem × Int32)) else (some (jfill M4 215 8 (nI t))).bind fun M6 => (jwr M6 215 8 (nI m) (nI t + nI d)).bind fun M7 => ((jLp (σ := Int32 × JMem) (ρ := JMem) 100 (fun ((z14, M15) : Int32 × JMem) => (if (M15 1 2) ≤ z14 then some (Sum.inr M15) else (f_X7_stays M15 z14 (nI m) (nI t)).bind fun v17 => (((if v17 = 0 then some (((-1))) else (jrd M15 55 32 z14).bind fun v23 => some (v23)) : Option (Int32)).bind fun u25 => (jwr M15 214 32 z14 u25).bind fun M26 => some (Sum.inl (z14 + 1, M26))))) (0, M7)).bind fun t16 => (f_X1_work 100 t16 211 33).bind fun (M28, v29) => (some (jup M28 0 9 (M28 1 2))).bind fun M30 => some (M30, M30 211 4))) := by
    unfold f_X7_fail
    rw [jisMachine, a0, if_pos h1, Option.bind_some, if_neg n10, jisOut, if_pos h2, Option.bind_some, if_pos rfl, jisOut, if_pos h3, Option.bind_some, if_pos rfl]
  rw [e1, Option.bind_some] at kA
  dsimp only at kA
  by_cases ed : fb_ct P F.ns = F.ns
  · -- there is a day
    have hP := fb_ct_all.mp ed
    have day := hday.mp ed
    rw [if_pos ed, if_neg n10] at kA
    have hdy : F.dy od b E := ⟨snd_all e2.1 hP, mx_all e2.2.1 hP⟩
    have hle := dy_le hdy hW
    have hA4 := hX4.2.2.1
    obtain ⟨M6, u6, f6, v6⟩ := jfillX M4 215 8 (nI t)
    obtain ⟨M7, u7, f7, v7⟩ := jupX M6 215 m (nI (t + d))
    rw [u6, Option.bind_some, nI_add, jwr_nI hm8 (by decide), u7, Option.bind_some] at kA
    have f47 : ∀ a i, a ≠ 215 → M7 a i = M4 a i := fun a i z => (f7 a i (by omega)).trans (f6 a i (by omega))
    have b4 : ∀ s, s < F.ns → M4 55 s = nI (b s) := fun s hs => e2.2.2.2.2.1 s hs (hP s hs)
    -- the class's fixed moments
    have lA : ∃ x, jLp (σ := Int32 × JMem) (ρ := JMem) 100 (fun ((z14, M15) : Int32 × JMem) => (if (M15 1 2) ≤ z14 then some (Sum.inr M15) else (f_X7_stays M15 z14 (nI m) (nI t)).bind fun v17 => (((if v17 = 0 then some (((-1))) else (jrd M15 55 32 z14).bind fun v23 => some (v23)) : Option (Int32)).bind fun u25 => (jwr M15 214 32 z14 u25).bind fun M26 => some (Sum.inl (z14 + 1, M26))))) (0, M7) = some x ∧ ((∀ s, s < F.ns → x 214 s = if F.sty b m t s = true then nI (b s) else -1) ∧ ∀ a i, a ≠ 214 → x a i = M7 a i) := by
      refine jLp_tot (fun n z => ∃ s, n + s = F.ns ∧ z.1 = nI s ∧ (∀ u, u < s → z.2 214 u = if F.sty b m t u = true then nI (b u) else -1) ∧ ∀ a i, a ≠ 214 → z.2 a i = M7 a i) _ ?_ 100 F.ns (0, M7) (by omega) ⟨0, by omega, rfl, fun u hu => absurd hu (Nat.not_lt_zero u), fun _ _ _ => rfl⟩
      rintro n ⟨z14, M15⟩ ⟨s, hn, hz, hp, hf⟩
      dsimp only at hz hp hf ⊢
      subst hz
      have hA15 : AF M15 F := hA4.fr hnm (fun a i _ _ => by rw [hf a i (by omega), f47 a i (by omega)])
      rw [hA15.2.2.1]
      rcases Nat.eq_zero_or_pos n with en | en
      · rw [if_pos (jleT (by omega) (by omega))]
        exact ⟨_, rfl, Or.inr ⟨_, rfl, fun u hu => hp u (by omega), hf⟩⟩
      · have hs : s < F.ns := by omega
        have hb := hle.2 s hs
        have b15 : M15 55 s = nI (b s) := by rw [hf _ _ (by omega), f47 _ _ (by omega)]; exact b4 s hs
        rw [if_neg (jleF (by omega) (by omega)), jstyA hW hA15 hs b15 (by omega) ht hm8, Option.bind_some, jrd_nI (show s < 32 by omega) (by decide), Option.bind_some, b15]
        have hu : ((if (if F.sty b m t s = true then (1 : Int32) else 0) = 0 then some (-1) else some (nI (b s))) : Option Int32) = some (if F.sty b m t s = true then nI (b s) else -1) := by
          by_cases z : F.sty b m t s = true
          · rw [if_pos z, if_neg n10, if_pos z]
          · rw [if_neg z, if_pos rfl, if_neg z]
        rw [hu, Option.bind_some, jwr_nI (show s < 32 by omega) (by decide), Option.bind_some]
        refine ⟨_, rfl, Or.inl ⟨_, n - 1, rfl, by omega, s + 1, by omega, nI_1 s, fun u hu => ?_, fun a i z => ?_⟩⟩
        · show jup M15 214 s _ 214 u = _
          rw [jup_at]
          by_cases z : u = s
          · rw [if_pos ⟨rfl, z⟩, z]
          · rw [if_neg (fun y => z y.2)]
            exact hp u (by omega)
        · show jup M15 214 s _ a i = _
          rw [jup_ne z]
          exact hf a i z
    obtain ⟨M16, l1, l2, l3⟩ := lA
    obtain ⟨fx, hfx⟩ : ∃ fx : Nat → Option Nat, ∀ s, fx s = if F.sty b m t s = true then some (b s) else none := ⟨_, fun _ => rfl⟩
    have hEA : EA M16 211 33 F od fx (jnb m t d) 200000 := by
      refine ⟨hW, hO, hA4.fr hnm (fun a i _ _ => by rw [l3 a i (by omega), f47 a i (by omega)]), hX4.2.2.2.1.fr (fun a i _ _ => by rw [l3 a i (by omega), f47 a i (by omega)]), fun s hs => ?_, fun x hx => ?_, by omega, by omega, by omega⟩
      · rw [hfx s]
        have h4 : M16 (211 + 3) s = _ := l2 s hs
        rw [h4]
        by_cases z : F.sty b m t s = true
        · have := hle.2 s hs
          rw [if_pos z, if_pos z]
          exact Or.inr ⟨b s, rfl, rfl, by omega⟩
        · rw [if_neg z, if_neg z]
          exact Or.inl ⟨rfl, rfl⟩
      · show M16 215 x = nI (if x = m then t + d else t) ∧ (if x = m then t + d else t) ≤ 200000
        rw [l3 _ _ (by omega)]
        by_cases z : x = m
        · rw [if_pos z, z]
          exact ⟨v7, by omega⟩
        · rw [if_neg z, f7 _ _ (by omega)]
          exact ⟨v6 x hx, by omega⟩
    obtain ⟨M28, q2, P2, lp2, lm2, c, G, w1, w2, w3, w4⟩ := jworkA (N := 100) hEA (by omega)
    have hP2 := cpl_all hW hO day w3
    obtain ⟨M30, u30, f30, v30⟩ := jupX M28 0 9 (nI F.ns)
    have e12 : M28 1 2 = nI F.ns := by rw [w4 _ _ (by omega), l3 _ _ (by omega), f47 _ _ (by omega)]; exact hA4.2.2.1
    have rA : f_X7_fail 100 M (nI m) (nI t) (nI d) = some (M30, nI G) := by
      rw [kA, l1, Option.bind_some, w1, Option.bind_some]
      dsimp only
      rw [e12, u30, Option.bind_some, f30 _ _ (by omega), w2.2.2.2.1]
    have fA : ∀ a i, ¬ ((a = 0 ∧ i = 9) ∨ (a = 54 ∧ (i = 4 ∨ i = 6)) ∨ a = 55 ∨ (59 ≤ a ∧ a ≤ 63) ∨ (211 ≤ a ∧ a ≤ 220)) → M30 a i = M a i := fun a i z => by
      rw [f30 a i (by omega), w4 a i (by omega), l3 a i (by omega), f47 a i (by omega), hf4 a i (by omega)]
    -- the model
    have hXf : EB M30 F od := ⟨hW, hO, hB.fr ⟨fA _ _ (by omega), fA _ _ (by omega), fA _ _ (by omega)⟩ (fun a i _ _ => fA a i (by omega)), hBO.fr (fun a i _ _ => fA a i (by omega))⟩
    obtain ⟨N1, PB, bB, EE, y1, y2, y3, y4⟩ := jworkB (N := 100) hXf (by omega)
    obtain ⟨g1, g2, g3⟩ := jagree hW hO e2.1 y2.1 e3 y3 e2.2.1 y2.2.1
    have bN1 : ∀ s, s < F.ns → N1 237 s = nI (b s) := fun s hs => by
      rw [(g3 s hs).2 (hP s hs)]
      exact y2.2.2.2.1 s hs (by rw [← (g3 s hs).1]; exact hP s hs)
    have hEB1 : EB N1 F od := hXf.fr (fun a i z => y4 a i (by omega))
    have kB : f_X8_fail 100 M30 (nI m) (nI t) (nI d) = (f_X8_work 100 M30).bind fun (M1, v2) => (if v2 = 0 then (some (M1, (-100003)) : Option (JMem × Int32)) else ((jLp (σ := Int32 × JMem) (ρ := JMem) 100 (fun ((z9, M10) : Int32 × JMem) => (if (M10 221 11) ≤ z9 then some (Sum.inr M10) else (jrd M10 237 32 z9).bind fun v12 => (jrd M10 229 32 z9).bind fun v13 => (((jcase (α := Int32) (β := Unit) (if (v12 + v13) ≤ nI t then some (Sum.inr ()) else (jrd M10 237 32 z9).bind fun v24 => (jcase (α := (Int32) ⊕ (Unit)) (β := Unit) (if nI t ≤ v24 then some (Sum.inr ()) else (f_X8_isOn M10 z9 (nI m)).bind fun v30 => (if v30 = 0 then some (Sum.inl (Sum.inr ())) else some (Sum.inr ()))) fun _ => some (Sum.inl (0)))) fun _ => some (1)) : Option (Int32)).bind fun u34 => (jwr M10 258 32 z9 u34).bind fun M35 => (jrd M35 258 32 z9).bind fun v36 => (if jb01 v36 = true then some () else none).bind fun _ => (jwr M35 238 32 z9 v36).bind fun M37 => some (Sum.inl (z9 + 1, M37))))) (0, M1)).bind fun t11 => ((jLp (σ := Int32 × JMem) (ρ := JMem) 100 (fun ((z46, M47) : Int32 × JMem) => (if z46 = 0 then some (Sum.inr M47) else ((jLp (σ := Int32 × Int32 × JMem) (ρ := Int32 × JMem) 100 (fun ((z55, z56, M57) : Int32 × Int32 × JMem) => (if (M57 221 11) ≤ z56 then some (Sum.inr (z55, M57)) else (jrd M57 238 32 z56).bind fun v60 => (((if v60 = 0 then (f_X8_isReady 100 M57 z56).bind fun v66 => (if v66 = 0 then some ((z55, M57)) else (f_X8_ahead M57 z56).bind fun v67 => (((if 0 ≤ v67 then (jrd M57 237 32 v67).bind fun v73 => (jrd M57 229 32 v67).bind fun v74 => some ((v73 + v74)) else some (0)) : Option (Int32)).bind fun u76 => (jrd M57 228 32 z56).bind fun v77 => (f_X8_placeOf 100 M57 z56).bind fun v78 => (f_X8_fromOrder 100 M57 v77 v78 z56).bind fun (M79, v80) => (((if u76 ≤ v80 then some (v80) else some (u76)) : Option (Int32)).bind fun u87 => (f_X8_isOn M79 z56 (nI m)).bind fun v88 => (((if v88 = 0 then some (nI t) else some ((nI t + nI d))) : Option (Int32)).bind fun u95 => (((if u87 ≤ u95 then some (u95) else some (u87)) : Option (Int32)).bind fun u102 => (jwr M79 237 32 z56 u102).bind fun M103 => (jwr M103 238 32 z56 1).bind fun M104 => some ((1, M104))))))) else some ((z55, M57))) : Option (Int32 × JMem)).bind fun (u107, M108) => some (Sum.inl (u107, z56 + 1, M108))))) (0, 0, M47)).bind fun (t58, t59) => some (Sum.inl (t58, t59))))) (1, t11)).bind fun t48 => ((jLp (σ := Int32 × Int32 × JMem) (ρ := Int32 × JMem) 100 (fun ((z117, z118, M119) : Int32 × Int32 × JMem) => (if (M119 221 11) ≤ z118 then some (Sum.inr (z117, M119)) else (jrd M119 237 32 z118).bind fun v122 => (jwr M119 257 32 z118 v122).bind fun M123 => (jrd M123 237 32 z118).bind fun v124 => (jrd M123 229 32 z118).bind fun v125 => (((if (v124 + v125) ≤ z117 then some (z117) else (jrd M123 237 32 z118).bind fun v131 => (jrd M123 229 32 z118).bind fun v132 => some ((v131 + v132))) : Option (Int32)).bind fun u134 => some (Sum.inl (u134, z118 + 1, M123))))) (0, 0, t48)).bind fun (t120, t121) => (some (jup t121 221 49 1)).bind fun M136 => (some (jup M136 221 50 (M136 221 11))).bind fun M137 => some (M137, t120))))) := by
      unfold f_X8_fail
      rw [hXf.2.2.1.1, jin_0_v, if_pos h1, if_neg n10, jt, if_pos h2, if_neg n10, jd, if_pos h3, if_neg n10]
    have lB : ∃ x, jLp (σ := Int32 × JMem) (ρ := JMem) 100 (fun ((z9, M10) : Int32 × JMem) => (if (M10 221 11) ≤ z9 then some (Sum.inr M10) else (jrd M10 237 32 z9).bind fun v12 => (jrd M10 229 32 z9).bind fun v13 => (((jcase (α := Int32) (β := Unit) (if (v12 + v13) ≤ nI t then some (Sum.inr ()) else (jrd M10 237 32 z9).bind fun v24 => (jcase (α := (Int32) ⊕ (Unit)) (β := Unit) (if nI t ≤ v24 then some (Sum.inr ()) else (f_X8_isOn M10 z9 (nI m)).bind fun v30 => (if v30 = 0 then some (Sum.inl (Sum.inr ())) else some (Sum.inr ()))) fun _ => some (Sum.inl (0)))) fun _ => some (1)) : Option (Int32)).bind fun u34 => (jwr M10 258 32 z9 u34).bind fun M35 => (jrd M35 258 32 z9).bind fun v36 => (if jb01 v36 = true then some () else none).bind fun _ => (jwr M35 238 32 z9 v36).bind fun M37 => some (Sum.inl (z9 + 1, M37))))) (0, N1) = some x ∧ ((∀ s, s < F.ns → x 258 s = (if F.sty b m t s = true then 1 else 0) ∧ x 238 s = (if F.sty b m t s = true then 1 else 0)) ∧ ∀ a i, ¬ (a = 238 ∨ a = 258) → x a i = N1 a i) := by
      refine jLp_tot (fun n z => ∃ s, n + s = F.ns ∧ z.1 = nI s ∧ (∀ u, u < s → z.2 258 u = (if F.sty b m t u = true then 1 else 0) ∧ z.2 238 u = (if F.sty b m t u = true then 1 else 0)) ∧ ∀ a i, ¬ (a = 238 ∨ a = 258) → z.2 a i = N1 a i) _ ?_ 100 F.ns (0, N1) (by omega) ⟨0, by omega, rfl, fun u hu => absurd hu (Nat.not_lt_zero u), fun _ _ _ => rfl⟩
      rintro n ⟨z9, M10⟩ ⟨s, hn, hz, hp, hf⟩
      dsimp only at hz hp hf ⊢
      subst hz
      have hB10 : BF M10 F := hEB1.2.2.1.fr ⟨hf _ _ (by omega), hf _ _ (by omega), hf _ _ (by omega)⟩ (fun a i _ _ => hf a i (by omega))
      rw [hB10.2.2.1]
      rcases Nat.eq_zero_or_pos n with en | en
      · rw [if_pos (jleT (by omega) (by omega))]
        exact ⟨_, rfl, Or.inr ⟨_, rfl, fun u hu => hp u (by omega), hf⟩⟩
      · have hs : s < F.ns := by omega
        have s32 : s < 32 := by omega
        have hb := hle.2 s hs
        have b10 : M10 237 s = nI (b s) := by rw [hf _ _ (by omega)]; exact bN1 s hs
        have hst : ((jcase (α := Int32) (β := Unit) (if (nI (b s) + nI (F.sp s)) ≤ nI t then some (Sum.inr ()) else (some (nI (b s))).bind fun v24 => (jcase (α := (Int32) ⊕ (Unit)) (β := Unit) (if nI t ≤ v24 then some (Sum.inr ()) else (f_X8_isOn M10 (nI s) (nI m)).bind fun v30 => (if v30 = 0 then some (Sum.inl (Sum.inr ())) else some (Sum.inr ()))) fun _ => some (Sum.inl (0)))) fun _ => some (1)) : Option (Int32)) = some (if F.sty b m t s = true then 1 else 0) := by
          rw [nI_add, Option.bind_some, jisOn hW hB10 hs hm8, Option.bind_some]
          unfold FT.sty
          by_cases e1 : b s + F.sp s ≤ t
          · rw [if_pos (jleT e1 (by omega)), if_pos (by simp [e1])]
            rfl
          · rw [if_neg (jleF (by omega) (by omega))]
            by_cases e2 : b s < t
            · rw [if_neg (jleF e2 (by omega))]
              by_cases e3 : F.mc s = m
              · rw [if_pos e3, if_neg n10, if_neg (by simp [e1, e3])]
                rfl
              · rw [if_neg e3, if_pos rfl, if_pos (by simp [e2, e3])]
                rfl
            · rw [if_pos (jleT (by omega) (by omega)), if_neg (by simp [e1, e2])]
              rfl
        obtain ⟨v, hv⟩ : ∃ v : Int32, v = if F.sty b m t s = true then 1 else 0 := ⟨_, rfl⟩
        rw [← hv] at hst
        have hj : jb01 v = true := by
          rw [hv]
          split <;> rfl
        obtain ⟨M35, u35, f35, v35⟩ := jupX M10 258 s v
        obtain ⟨M37, u37, f37, v37⟩ := jupX M35 238 s v
        rw [if_neg (jleF (by omega) (by omega)), jrd_nI s32 (by decide), Option.bind_some, b10, jrd_nI s32 (by decide), Option.bind_some, (hB10.2.2.2.2.2.2.2 s hs).2.2.1, hst, Option.bind_some, jwr_nI s32 (by decide), u35, Option.bind_some, jrd_nI s32 (by decide), v35, Option.bind_some, if_pos hj, Option.bind_some, jwr_nI s32 (by decide), u37, Option.bind_some]
        refine ⟨_, rfl, Or.inl ⟨_, n - 1, rfl, by omega, s + 1, by omega, nI_1 s, fun u hu => ?_, fun a i z => ?_⟩⟩
        · show M37 258 u = _ ∧ M37 238 u = _
          by_cases z : u = s
          · rw [z, ← hv, f37 _ _ (by omega)]
            exact ⟨v35, v37⟩
          · rw [f37 _ _ (by omega), f37 _ _ (by omega), f35 _ _ (by omega), f35 _ _ (by omega)]
            exact hp u (by omega)
        · show M37 a i = _
          rw [f37 _ _ (by omega), f35 _ _ (by omega)]
          exact hf a i z
    obtain ⟨N2, o1, o2, o3⟩ := lB
    have hEB2 : EB N2 F od := ⟨hW, hO, hEB1.2.2.1.fr ⟨o3 _ _ (by omega), o3 _ _ (by omega), o3 _ _ (by omega)⟩ (fun a i _ _ => o3 a i (by omega)), hEB1.2.2.2.fr (fun a i _ _ => o3 a i (by omega))⟩
    have hD2 : DM N2 F od fx (jnb m t d) 200000 (F.sty b m t) b := by
      refine ⟨fun s hs hst => ⟨fun z => ?_, fun i hi hoi => ?_, ?_⟩, fun s hs => (o2 s hs).2, fun s hs hst => ?_, fun s hs hst => ?_⟩
      · rw [hfx, if_pos hst] at z
        cases z
      · rw [vl_fix (v := b s) (by rw [hfx, if_pos hst])]
      · have := hle.2 s hs
        omega
      · rw [o3 _ _ (by omega)]
        exact bN1 s hs
      · rw [hfx, if_neg (by rw [hst]; decide)]
    obtain ⟨N3, i1, i2, P3, c3, i3, i4⟩ := jloopM (N := 100) hEB2 hD2 hm8 (show t + d ≤ 200000 by omega) (by omega) (by omega)
    have hP3 := cpl_all hW hO day i4
    have hs3 : F.snd od fx (jnb m t d) 200000 (fun _ => true) c3 := by
      intro s hs _
      obtain ⟨z1, z2, z3⟩ := i3.1 s hs (hP3 s hs)
      exact ⟨fun _ _ => rfl, z2, by rw [ct_true]; rw [fb_ct_all.mpr hP3] at z3; exact z3, day s hs⟩
    have c3b : ∀ s, s < F.ns → N3 237 s = nI (c3 s) := fun s hs => i3.2.2.1 s hs (hP3 s hs)
    have c3l : ∀ s, s < F.ns → c3 s + F.sp s ≤ 300000 := fun s hs => by
      have z1 := (hs3 s hs rfl).2.2.1
      rw [ct_true] at z1
      omega
    have hB3 : BF N3 F := hEB2.2.2.1.fr ⟨i2 _ _ (by omega), i2 _ _ (by omega), i2 _ _ (by omega)⟩ (fun a i _ _ => i2 a i (by omega))
    have lC : ∃ x, jLp (σ := Int32 × Int32 × JMem) (ρ := Int32 × JMem) 100 (fun ((z117, z118, M119) : Int32 × Int32 × JMem) => (if (M119 221 11) ≤ z118 then some (Sum.inr (z117, M119)) else (jrd M119 237 32 z118).bind fun v122 => (jwr M119 257 32 z118 v122).bind fun M123 => (jrd M123 237 32 z118).bind fun v124 => (jrd M123 229 32 z118).bind fun v125 => (((if (v124 + v125) ≤ z117 then some (z117) else (jrd M123 237 32 z118).bind fun v131 => (jrd M123 229 32 z118).bind fun v132 => some ((v131 + v132))) : Option (Int32)).bind fun u134 => some (Sum.inl (u134, z118 + 1, M123))))) (0, 0, N3) = some x ∧ ((∃ e, x.1 = nI e ∧ F.mx (fun _ => true) c3 e) ∧ (∀ s, s < F.ns → x.2 257 s = nI (c3 s)) ∧ ∀ a i, a ≠ 257 → x.2 a i = N3 a i) := by
      refine jLp_tot (fun n z => ∃ s e, n + s = F.ns ∧ z.2.1 = nI s ∧ z.1 = nI e ∧ e ≤ 300000 ∧ ((∀ u, u < s → c3 u + F.sp u ≤ e) ∧ (e = 0 ∨ ∃ u, u < s ∧ e = c3 u + F.sp u)) ∧ (∀ u, u < s → z.2.2 257 u = nI (c3 u)) ∧ ∀ a i, a ≠ 257 → z.2.2 a i = N3 a i) _ ?_ 100 F.ns (0, 0, N3) (by omega) ⟨0, 0, by omega, rfl, rfl, by omega, ⟨fun u hu => absurd hu (Nat.not_lt_zero u), Or.inl rfl⟩, fun u hu => absurd hu (Nat.not_lt_zero u), fun _ _ _ => rfl⟩
      rintro n ⟨z117, z118, M119⟩ ⟨s, e, hn, hz, hz2, he, hmx, hp, hf⟩
      dsimp only at hz hz2 hp hf ⊢
      subst hz hz2
      have hB9 : BF M119 F := hB3.fr ⟨hf _ _ (by omega), hf _ _ (by omega), hf _ _ (by omega)⟩ (fun a i _ _ => hf a i (by omega))
      rw [hB9.2.2.1]
      rcases Nat.eq_zero_or_pos n with en | en
      · rw [if_pos (jleT (by omega) (by omega))]
        refine ⟨_, rfl, Or.inr ⟨_, rfl, ⟨e, rfl, fun u hu _ => hmx.1 u (by omega), ?_⟩, fun u hu => hp u (by omega), hf⟩⟩
        rcases hmx.2 with z | ⟨u, z1, z2⟩
        · exact Or.inl z
        · exact Or.inr ⟨u, by omega, rfl, z2⟩
      · have hs : s < F.ns := by omega
        have s32 : s < 32 := by omega
        have cl := c3l s hs
        have b9 : M119 237 s = nI (c3 s) := by rw [hf _ _ (by omega)]; exact c3b s hs
        obtain ⟨M123, u12, f12, v12⟩ := jupX M119 257 s (nI (c3 s))
        have r1 : M123 237 s = nI (c3 s) := by rw [f12 _ _ (by omega)]; exact b9
        have r2 : M123 229 s = nI (F.sp s) := by rw [f12 _ _ (by omega)]; exact (hB9.2.2.2.2.2.2.2 s hs).2.2.1
        have hu : ((if nI (c3 s + F.sp s) ≤ nI e then some (nI e) else some (nI (c3 s + F.sp s))) : Option Int32) = some (nI (max e (c3 s + F.sp s))) := by
          by_cases z : c3 s + F.sp s ≤ e
          · rw [if_pos (jleT z (by omega)), Nat.max_eq_left z]
          · rw [if_neg (jleF (by omega) (by omega)), Nat.max_eq_right (by omega)]
        rw [if_neg (jleF (by omega) (by omega)), jrd_nI s32 (by decide), Option.bind_some, b9, jwr_nI s32 (by decide), u12, Option.bind_some, jrd_nI s32 (by decide), Option.bind_some, jrd_nI s32 (by decide), Option.bind_some, r1, r2, Option.bind_some, Option.bind_some, nI_add, hu, Option.bind_some]
        refine ⟨_, rfl, Or.inl ⟨_, n - 1, rfl, by omega, s + 1, max e (c3 s + F.sp s), by omega, nI_1 s, rfl, by omega, ⟨fun u hu => ?_, ?_⟩, fun u hu => ?_, fun a i z => ?_⟩⟩
        · rcases Nat.lt_succ_iff_lt_or_eq.mp hu with z | z
          · have := hmx.1 u z
            omega
          · rw [z]
            omega
        · rcases Nat.lt_or_ge (c3 s + F.sp s) e with z | z
          · rw [Nat.max_eq_left (by omega)]
            rcases hmx.2 with y | ⟨u, y1, y2⟩
            · exact Or.inl y
            · exact Or.inr ⟨u, by omega, y2⟩
          · rw [Nat.max_eq_right z]
            exact Or.inr ⟨s, by omega, rfl⟩
        · show M123 257 u = _
          by_cases z : u = s
          · rw [z]
            exact v12
          · rw [f12 _ _ (by omega)]
            exact hp u (by omega)
        · show M123 a i = _
          rw [f12 _ _ (by omega)]
          exact hf a i z
    obtain ⟨⟨x1, N4⟩, j1, ⟨e, j2, j3⟩, j4, j5⟩ := lC
    dsimp only at j2 j4 j5
    subst j2
    obtain ⟨g4, g5, g6⟩ := jagree hW hO w2.1 hs3 w3 (fun _ _ _ => rfl) w2.2.1 j3
    obtain ⟨N5, u5, f5, v5⟩ := jupX N4 221 49 1
    obtain ⟨N6, u6', f6', v6'⟩ := jupX N5 221 50 (nI F.ns)
    have fB : ∀ a i, ¬ ((a = 221 ∧ (i = 21 ∨ i = 49 ∨ i = 50)) ∨ (237 ≤ a ∧ a ≤ 239) ∨ a = 257 ∨ a = 258) → N6 a i = M30 a i := fun a i z => by
      rw [f6' a i (by omega), f5 a i (by omega), j5 a i (by omega), i2 a i (by omega), o3 a i (by omega), y4 a i (by omega)]
    have rB : f_X8_fail 100 M30 (nI m) (nI t) (nI d) = some (N6, nI G) := by
      rw [kB, y1, ← g1, if_pos ed, Option.bind_some]
      dsimp only
      rw [if_neg n10, o1, Option.bind_some, i1, Option.bind_some, j1, Option.bind_some]
      dsimp only
      rw [u5, Option.bind_some, show N5 221 11 = nI F.ns by rw [f5 _ _ (by omega), j5 _ _ (by omega)]; exact hB3.2.2.1, u6', Option.bind_some, g5]
    refine ⟨100, M30, N6, nI G, rA, rB, F, od, S, k, F.ns, hX.mend (fun a i z1 z2 => ?_) ⟨Nat.le_refl _, ?_, Or.inr ⟨?_, v6'⟩, fun s hs => ⟨?_, ?_⟩⟩⟩
    · unfold jcore at z1
      rw [fB a i (by omega), fA a i (by omega)]
    · rw [fB _ _ (by omega)]
      exact v30
    · rw [f6' _ _ (by omega)]
      exact v5
    · rw [fB _ _ (by omega), f30 _ _ (by omega), show (212 : Nat) = 211 + 1 from rfl, w2.2.2.2.2.1 s hs (hP2 s hs), f6' _ _ (by omega), f5 _ _ (by omega), j4 s hs, (g6 s hs).2 (hP2 s hs)]
    · rw [fB _ _ (by omega), f30 _ _ (by omega), w4 _ _ (by omega), l2 s hs, f6' _ _ (by omega), f5 _ _ (by omega), j5 _ _ (by omega), i2 _ _ (by omega), (o2 s hs).1]
      have := hle.2 s hs
      by_cases z : F.sty b m t s = true
      · rw [if_pos z, if_pos z]
        exact ⟨fun y => absurd y (jnm1 (by omega)), fun y => absurd y n10⟩
      · rw [if_neg z, if_neg z]
        exact ⟨fun _ => rfl, fun _ => rfl⟩
  · rw [if_neg ed, if_pos rfl] at kA
    obtain ⟨M2, f1, hX2, -⟩ := jbothB (N := 100) hX4 e2.1 e3 e2.2.1 (by omega)
    refine ⟨100, M4, M2, -100003, kA, ?_, F, od, S, k, q, hX2⟩
    unfold f_X8_fail
    rw [hX4.2.2.2.2.1.1, jin_0_v, if_pos h1, if_neg n10, jt, if_pos h2, if_neg n10, jd, if_pos h3, if_neg n10, f1, if_neg ed, Option.bind_some]
    dsimp only
    rw [if_pos rfl]
