/-! The rule read: the class -/
def cD (G : List Nat) (σ : hq_St) : Prop := σ.1 24 4 = nI (cS G).length ∧ ∀ j t, (cS G)[j]? = some t → σ.1 26 j = nI t
theorem cD.dep {G : List Nat} : Dep [(24, 5), (26, 0)] (cD G) := fun σ τ e h => ⟨((e 24 4 rfl).1).trans h.1, fun j t hj => ((e 26 j rfl).1).trans (h.2 j t hj)⟩
def CR (x D n : Nat) (f : Nat → Nat) (T dep : Nat) (th : Nat → RR) : Prop := ∀ p G σ, cZ n f T p σ → cD G σ → (cS G).length ≤ p → ∃ τ, hq_c x D [.ref 24, .ref 1, .int (nI dep)] σ (some (.int (bI (th p).1))) τ ∧ cZ n f T (th p).2.1 τ ∧ ((th p).1 = true → cD (G ++ (th p).2.2) τ) ∧ Fr [(1, 3), (24, 5), (26, 0)] σ τ
section RC
variable {d n T dep : Nat} {f : Nat → Nat} {σ : hq_St}
theorem s_write {G : List Nat} (h : cD G σ) (hl : (cS G).length < 40) {t : Nat} (ht : t ≠ 3001) {v : Int32} (hv : v = nI (cmp t)) : ∃ τ, hq_c 50 (d + 1) [.ref 24, .int v] σ none τ ∧ cD (G ++ [t]) τ ∧ Fr [(24, 5), (26, 0)] σ τ := by
  subst hv
  have H := p_X5_write_0_1 (d := d) (σ := σ) (l1 := nI (cmp t)) (by rw [h.1]; exact nlt hl (by decide)) (by rw [h.1]; exact vin hl (by decide))
  rw [h.1, clamp (by omega), sI_ne (by decide), h.1, nplus] at H
  have e : cS (G ++ [t]) = cS G ++ [cmp t] := by
    rw [cS_app, cS_cons, if_neg ht]; rfl
  refine ⟨_, H, ⟨?_, fun j u hj => ?_⟩, ((Fr.rf σ).sI rfl).sI rfl⟩
  · rw [sI_eq, e]; simp
  · rw [sI_ne (by decide), sI_at, if_pos rfl]
    rw [e, List.getElem?_append] at hj
    split at hj
    · rw [if_neg (by omega)]; exact h.2 j u hj
    · rename_i z
      by_cases y : j = (cS G).length
      · subst y
        rw [if_pos rfl]
        simp at hj
        rw [hj]
      · rw [List.getElem?_eq_none (by simp; omega)] at hj; cases hj
theorem cZ.sp {p : Nat} (h : cZ n f T p σ) (hp : p < T) : cZ n f T (p + 1) (hq_sI σ 1 2 (σ.1 1 2 + nI 1)) ∧ Fr [(1, 3)] σ (hq_sI σ 1 2 (σ.1 1 2 + nI 1)) := by
  rw [h.2.2.2.1, nplus]
  exact ⟨h.step hp, (Fr.rf σ).sI rfl⟩
theorem s_readProductL {th : Nat → RR} (hT : T ≤ 40) (ht : okT T th) (I : CR 54 (d + 1) n f T dep th) : ∀ m p G σ, cZ n f T p σ → cD G σ → (cS G).length ≤ p → m ≤ 40 → ∃ τ, hq_m 53 (d + 2) (some (.int (bI (chn f T th 15 m p).1))) τ 9 [some (.ref 24), some (.ref 1), some (.int (nI dep)), some (.int (nI (40 - m))), none] [] σ ∧ cZ n f T (chn f T th 15 m p).2.1 τ ∧ ((chn f T th 15 m p).1 = true → cD (G ++ (chn f T th 15 m p).2.2) τ) ∧ Fr [(1, 3), (24, 5), (26, 0)] σ τ := by
  intro m
  induction m with
  | zero =>
    intro p G σ hz hD hl hm
    refine ⟨σ, p_X5_readProduct_9_6 (by decide), hz, fun _ => ?_, Fr.rf σ⟩
    show cD (G ++ []) σ
    rw [List.append_nil]; exact hD
  | succ m ih =>
    intro p G σ hz hD hl hm
    have e1 : chn f T th 15 (m + 1) p = if ixA f T p 15 = 0 then (true, p, []) else if (th (p + 1)).1 then ((chn f T th 15 m (th (p + 1)).2.1).1, (chn f T th 15 m (th (p + 1)).2.1).2.1, (th (p + 1)).2.2 ++ ((2000 + bsO 15 + (ixA f T p 15 - 1)) :: (chn f T th 15 m (th (p + 1)).2.1).2.2)) else (false, (th (p + 1)).2.1, []) := rfl
    have g0 := s_peek (d := d) hz
    have hp := hz.2.2.1
    have c1 : nI (40 - (m + 1)) < nI 40 := nlt (by omega) (by decide)
    have i3 : ∀ _ : p < T, ixS 15 (f p) = _ := fun pT => (ixS_3 (f p) (hz.ch pT).1).2.2.1
    cases q0 : isA f T p 42 with
    | true =>
      have hx : ixA f T p 15 = 1 := by unfold ixA; rw [if_pos (is_lt q0).1, i3 (is_lt q0).1, (is_lt q0).2]; decide
      rw [e1, hx]
      rw [if_neg (by decide)]
      have pe : pkA f T p = nI 42 := (pkA_eq hz (by decide)).mpr q0
      have g1 := g0
      rw [pe] at g1
      have pT := (is_lt q0).1
      obtain ⟨z1, fz⟩ := hz.sp pT
      obtain ⟨ρ, i1, i2, i4, i5⟩ := I (p + 1) G _ z1 (cD.dep.fr fz (by decide) hD) (by omega)
      obtain ⟨a1, a2, a3⟩ := ht (p + 1) (by omega)
      cases h1 : (th (p + 1)).1 with
      | false =>
        rw [h1] at i1
        rw [if_neg (by decide)]
        exact ⟨ρ, p_X5_readProduct_9_1 c1 g1 rfl i1 rfl, i2, (fun z => by cases z), (fz.up (by decide)).tr i5⟩
      | true =>
        rw [h1] at i1
        rw [if_pos rfl]
        obtain ⟨b1, b2, b3, b4⟩ := a3 h1
        have lt := i2.2.2.1
        obtain ⟨ρ2, w1, w2, w3⟩ := s_write (d := d) (i4 h1) (t := 2005) (by rw [cS_app, List.length_append]; omega) (by decide) (v := nI 2000 + nI 42) (by decide)
        obtain ⟨τ, k1, k2, k3, k4⟩ := ih (th (p + 1)).2.1 (G ++ (th (p + 1)).2.2 ++ [2005]) ρ2 (cZ.dep.fr w3 (by decide) i2) w2 (by rw [cS_app, cS_app, List.length_append, List.length_append]; show _ + _ + 1 ≤ _; omega) (by omega)
        refine ⟨τ, p_X5_readProduct_9_2 c1 g1 rfl i1 (by decide) w1 ?_, k2, fun z => ?_, (fz.up (by decide)).tr (i5.tr ((w3.up (by decide)).tr k4))⟩
        · rw [nplus, show 40 - (m + 1) + 1 = 40 - m by omega]; exact k1
        · have := k3 z
          rw [List.append_assoc, List.append_assoc] at this
          exact this
    | false =>
      cases q1 : isA f T p 47 with
      | true =>
        have hx : ixA f T p 15 = 2 := by unfold ixA; rw [if_pos (is_lt q1).1, i3 (is_lt q1).1, (is_lt q1).2]; decide
        rw [e1, hx]
        rw [if_neg (by decide)]
        have pe : pkA f T p = nI 47 := (pkA_eq hz (by decide)).mpr q1
        have g1 := g0
        rw [pe] at g1
        have pT := (is_lt q1).1
        obtain ⟨z1, fz⟩ := hz.sp pT
        obtain ⟨ρ, i1, i2, i4, i5⟩ := I (p + 1) G _ z1 (cD.dep.fr fz (by decide) hD) (by omega)
        obtain ⟨a1, a2, a3⟩ := ht (p + 1) (by omega)
        cases h1 : (th (p + 1)).1 with
        | false =>
          rw [h1] at i1
          rw [if_neg (by decide)]
          exact ⟨ρ, p_X5_readProduct_9_3 c1 g1 (fun z => by rw [(pkA_eq hz (by decide)).mp (pe.trans z)] at q0; cases q0) rfl i1 rfl, i2, (fun z => by cases z), (fz.up (by decide)).tr i5⟩
        | true =>
          rw [h1] at i1
          rw [if_pos rfl]
          obtain ⟨b1, b2, b3, b4⟩ := a3 h1
          have lt := i2.2.2.1
          obtain ⟨ρ2, w1, w2, w3⟩ := s_write (d := d) (i4 h1) (t := 2006) (by rw [cS_app, List.length_append]; omega) (by decide) (v := nI 2000 + nI 47) (by decide)
          obtain ⟨τ, k1, k2, k3, k4⟩ := ih (th (p + 1)).2.1 (G ++ (th (p + 1)).2.2 ++ [2006]) ρ2 (cZ.dep.fr w3 (by decide) i2) w2 (by rw [cS_app, cS_app, List.length_append, List.length_append]; show _ + _ + 1 ≤ _; omega) (by omega)
          refine ⟨τ, p_X5_readProduct_9_4 c1 g1 (fun z => by rw [(pkA_eq hz (by decide)).mp (pe.trans z)] at q0; cases q0) rfl i1 (by decide) w1 ?_, k2, fun z => ?_, (fz.up (by decide)).tr (i5.tr ((w3.up (by decide)).tr k4))⟩
          · rw [nplus, show 40 - (m + 1) + 1 = 40 - m by omega]; exact k1
          · have := k3 z
            rw [List.append_assoc, List.append_assoc] at this
            exact this
      | false =>
        have hx : ixA f T p 15 = 0 := by
          unfold ixA
          split
          · rename_i pT
            rw [i3 pT]
            unfold isA at q0 q1
            simp [pT] at q0 q1
            rw [if_neg q0, if_neg q1]
          · rfl
        rw [e1, hx, if_pos rfl]
        refine ⟨σ, p_X5_readProduct_9_5 c1 g0 (fun z => by rw [(pkA_eq hz (by decide)).mp z] at q0; cases q0) (fun z => by rw [(pkA_eq hz (by decide)).mp z] at q1; cases q1), hz, fun _ => ?_, Fr.rf σ⟩
        show cD (G ++ []) σ
        rw [List.append_nil]; exact hD
theorem s_readProduct {th : Nat → RR} (hT : T ≤ 40) (ht : okT T th) (I : CR 54 (d + 1) n f T dep th) : CR 53 (d + 2) n f T dep (sqn f T th 15 40) := by
  intro p G σ hz hD hl
  obtain ⟨ρ, i1, i2, i4, i5⟩ := I p G σ hz hD hl
  obtain ⟨a1, a2, a3⟩ := ht p hz.2.2.1
  unfold sqn
  cases h1 : (th p).1 with
  | false =>
    rw [h1] at i1
    rw [if_neg (by decide)]
    exact ⟨ρ, p_X5_readProduct_0_1 i1 rfl, i2, (fun z => by cases z), i5⟩
  | true =>
    rw [h1] at i1
    rw [if_pos rfl]
    obtain ⟨b1, b2, b3, b4⟩ := a3 h1
    obtain ⟨τ, k1, k2, k3, k4⟩ := s_readProductL hT ht I 40 (th p).2.1 (G ++ (th p).2.2) ρ i2 (i4 h1) (by rw [cS_app, List.length_append]; omega) (Nat.le_refl _)
    refine ⟨τ, p_X5_readProduct_0_2 i1 (by decide) k1, k2, fun z => ?_, i5.tr k4⟩
    have := k3 z
    rw [List.append_assoc] at this
    exact this
theorem s_readSumL {th : Nat → RR} (hT : T ≤ 40) (ht : okT T th) (I : CR 53 (d + 1) n f T dep th) : ∀ m p G σ, cZ n f T p σ → cD G σ → (cS G).length ≤ p → m ≤ 40 → ∃ τ, hq_m 52 (d + 2) (some (.int (bI (chn f T th 14 m p).1))) τ 9 [some (.ref 24), some (.ref 1), some (.int (nI dep)), some (.int (nI (40 - m))), none] [] σ ∧ cZ n f T (chn f T th 14 m p).2.1 τ ∧ ((chn f T th 14 m p).1 = true → cD (G ++ (chn f T th 14 m p).2.2) τ) ∧ Fr [(1, 3), (24, 5), (26, 0)] σ τ := by
  intro m
  induction m with
  | zero =>
    intro p G σ hz hD hl hm
    refine ⟨σ, p_X5_readSum_9_6 (by decide), hz, fun _ => ?_, Fr.rf σ⟩
    show cD (G ++ []) σ
    rw [List.append_nil]; exact hD
  | succ m ih =>
    intro p G σ hz hD hl hm
    have e1 : chn f T th 14 (m + 1) p = if ixA f T p 14 = 0 then (true, p, []) else if (th (p + 1)).1 then ((chn f T th 14 m (th (p + 1)).2.1).1, (chn f T th 14 m (th (p + 1)).2.1).2.1, (th (p + 1)).2.2 ++ ((2000 + bsO 14 + (ixA f T p 14 - 1)) :: (chn f T th 14 m (th (p + 1)).2.1).2.2)) else (false, (th (p + 1)).2.1, []) := rfl
    have g0 := s_peek (d := d) hz
    have hp := hz.2.2.1
    have c1 : nI (40 - (m + 1)) < nI 40 := nlt (by omega) (by decide)
    have i3 : ∀ _ : p < T, ixS 14 (f p) = _ := fun pT => (ixS_3 (f p) (hz.ch pT).1).2.1
    cases q0 : isA f T p 43 with
    | true =>
      have hx : ixA f T p 14 = 1 := by unfold ixA; rw [if_pos (is_lt q0).1, i3 (is_lt q0).1, (is_lt q0).2]; decide
      rw [e1, hx]
      rw [if_neg (by decide)]
      have pe : pkA f T p = nI 43 := (pkA_eq hz (by decide)).mpr q0
      have g1 := g0
      rw [pe] at g1
      have pT := (is_lt q0).1
      obtain ⟨z1, fz⟩ := hz.sp pT
      obtain ⟨ρ, i1, i2, i4, i5⟩ := I (p + 1) G _ z1 (cD.dep.fr fz (by decide) hD) (by omega)
      obtain ⟨a1, a2, a3⟩ := ht (p + 1) (by omega)
      cases h1 : (th (p + 1)).1 with
      | false =>
        rw [h1] at i1
        rw [if_neg (by decide)]
        exact ⟨ρ, p_X5_readSum_9_1 c1 g1 rfl i1 rfl, i2, (fun z => by cases z), (fz.up (by decide)).tr i5⟩
      | true =>
        rw [h1] at i1
        rw [if_pos rfl]
        obtain ⟨b1, b2, b3, b4⟩ := a3 h1
        have lt := i2.2.2.1
        obtain ⟨ρ2, w1, w2, w3⟩ := s_write (d := d) (i4 h1) (t := 2003) (by rw [cS_app, List.length_append]; omega) (by decide) (v := nI 2000 + nI 43) (by decide)
        obtain ⟨τ, k1, k2, k3, k4⟩ := ih (th (p + 1)).2.1 (G ++ (th (p + 1)).2.2 ++ [2003]) ρ2 (cZ.dep.fr w3 (by decide) i2) w2 (by rw [cS_app, cS_app, List.length_append, List.length_append]; show _ + _ + 1 ≤ _; omega) (by omega)
        refine ⟨τ, p_X5_readSum_9_2 c1 g1 rfl i1 (by decide) w1 ?_, k2, fun z => ?_, (fz.up (by decide)).tr (i5.tr ((w3.up (by decide)).tr k4))⟩
        · rw [nplus, show 40 - (m + 1) + 1 = 40 - m by omega]; exact k1
        · have := k3 z
          rw [List.append_assoc, List.append_assoc] at this
          exact this
    | false =>
      cases q1 : isA f T p 45 with
      | true =>
        have hx : ixA f T p 14 = 2 := by unfold ixA; rw [if_pos (is_lt q1).1, i3 (is_lt q1).1, (is_lt q1).2]; decide
        rw [e1, hx]
        rw [if_neg (by decide)]
        have pe : pkA f T p = nI 45 := (pkA_eq hz (by decide)).mpr q1
        have g1 := g0
        rw [pe] at g1
        have pT := (is_lt q1).1
        obtain ⟨z1, fz⟩ := hz.sp pT
        obtain ⟨ρ, i1, i2, i4, i5⟩ := I (p + 1) G _ z1 (cD.dep.fr fz (by decide) hD) (by omega)
        obtain ⟨a1, a2, a3⟩ := ht (p + 1) (by omega)
        cases h1 : (th (p + 1)).1 with
        | false =>
          rw [h1] at i1
          rw [if_neg (by decide)]
          exact ⟨ρ, p_X5_readSum_9_3 c1 g1 (fun z => by rw [(pkA_eq hz (by decide)).mp (pe.trans z)] at q0; cases q0) rfl i1 rfl, i2, (fun z => by cases z), (fz.up (by decide)).tr i5⟩
        | true =>
          rw [h1] at i1
          rw [if_pos rfl]
          obtain ⟨b1, b2, b3, b4⟩ := a3 h1
          have lt := i2.2.2.1
          obtain ⟨ρ2, w1, w2, w3⟩ := s_write (d := d) (i4 h1) (t := 2004) (by rw [cS_app, List.length_append]; omega) (by decide) (v := nI 2000 + nI 45) (by decide)
          obtain ⟨τ, k1, k2, k3, k4⟩ := ih (th (p + 1)).2.1 (G ++ (th (p + 1)).2.2 ++ [2004]) ρ2 (cZ.dep.fr w3 (by decide) i2) w2 (by rw [cS_app, cS_app, List.length_append, List.length_append]; show _ + _ + 1 ≤ _; omega) (by omega)
          refine ⟨τ, p_X5_readSum_9_4 c1 g1 (fun z => by rw [(pkA_eq hz (by decide)).mp (pe.trans z)] at q0; cases q0) rfl i1 (by decide) w1 ?_, k2, fun z => ?_, (fz.up (by decide)).tr (i5.tr ((w3.up (by decide)).tr k4))⟩
          · rw [nplus, show 40 - (m + 1) + 1 = 40 - m by omega]; exact k1
          · have := k3 z
            rw [List.append_assoc, List.append_assoc] at this
            exact this
      | false =>
        have hx : ixA f T p 14 = 0 := by
          unfold ixA
          split
          · rename_i pT
            rw [i3 pT]
            unfold isA at q0 q1
            simp [pT] at q0 q1
            rw [if_neg q0, if_neg q1]
          · rfl
        rw [e1, hx, if_pos rfl]
        refine ⟨σ, p_X5_readSum_9_5 c1 g0 (fun z => by rw [(pkA_eq hz (by decide)).mp z] at q0; cases q0) (fun z => by rw [(pkA_eq hz (by decide)).mp z] at q1; cases q1), hz, fun _ => ?_, Fr.rf σ⟩
        show cD (G ++ []) σ
        rw [List.append_nil]; exact hD
theorem s_readSum {th : Nat → RR} (hT : T ≤ 40) (ht : okT T th) (I : CR 53 (d + 1) n f T dep th) : CR 52 (d + 2) n f T dep (sqn f T th 14 40) := by
  intro p G σ hz hD hl
  obtain ⟨ρ, i1, i2, i4, i5⟩ := I p G σ hz hD hl
  obtain ⟨a1, a2, a3⟩ := ht p hz.2.2.1
  unfold sqn
  cases h1 : (th p).1 with
  | false =>
    rw [h1] at i1
    rw [if_neg (by decide)]
    exact ⟨ρ, p_X5_readSum_0_1 i1 rfl, i2, (fun z => by cases z), i5⟩
  | true =>
    rw [h1] at i1
    rw [if_pos rfl]
    obtain ⟨b1, b2, b3, b4⟩ := a3 h1
    obtain ⟨τ, k1, k2, k3, k4⟩ := s_readSumL hT ht I 40 (th p).2.1 (G ++ (th p).2.2) ρ i2 (i4 h1) (by rw [cS_app, List.length_append]; omega) (Nat.le_refl _)
    refine ⟨τ, p_X5_readSum_0_2 i1 (by decide) k1, k2, fun z => ?_, i5.tr k4⟩
    have := k3 z
    rw [List.append_assoc] at this
    exact this
theorem s_readExpression {th : Nat → RR} (hT : T ≤ 40) (ht : okT T th) (I : CR 52 (d + 1) n f T dep th) : CR 51 (d + 2) n f T dep (sqn f T th 13 1) := by
  intro p G σ hz hD hl
  obtain ⟨ρ, i1, i2, i4, i5⟩ := I p G σ hz hD hl
  obtain ⟨a1, a2, a3⟩ := ht p hz.2.2.1
  unfold sqn
  cases h1 : (th p).1 with
  | false =>
    rw [h1] at i1
    rw [if_neg (by decide)]
    exact ⟨ρ, p_X5_readExpression_0_1 i1 rfl, i2, (fun z => by cases z), i5⟩
  | true =>
    rw [h1] at i1
    rw [if_pos rfl]
    obtain ⟨b1, b2, b3, b4⟩ := a3 h1
    have i4 := i4 h1
    generalize (th p).2.1 = p2 at *
    generalize (th p).2.2 = G2 at *
    have e1 : chn f T th 13 1 p2 = if ixA f T p2 13 = 0 then (true, p2, []) else if (th (p2 + 1)).1 then (true, (th (p2 + 1)).2.1, (th (p2 + 1)).2.2 ++ ((2000 + bsO 13 + (ixA f T p2 13 - 1)) :: [])) else (false, (th (p2 + 1)).2.1, []) := rfl
    have hl2 : (cS (G ++ G2)).length ≤ p2 := by rw [cS_app, List.length_append]; omega
    have g0 := s_peek (d := d) i2
    have i3 : ∀ _ : p2 < T, ixS 13 (f p2) = _ := fun pT => (ixS_3 (f p2) (i2.ch pT).1).1
    cases q0 : isA f T p2 60 with
    | true =>
      have hx : ixA f T p2 13 = 1 := by unfold ixA; rw [if_pos (is_lt q0).1, i3 (is_lt q0).1, (is_lt q0).2]; decide
      rw [e1, hx]
      rw [if_neg (by decide)]
      have pe : pkA f T p2 = nI 60 := (pkA_eq i2 (by decide)).mpr q0
      have g1 := g0
      rw [pe] at g1
      have pT := (is_lt q0).1
      obtain ⟨z1, fz⟩ := i2.sp pT
      obtain ⟨ρ3, j1, j2, j4, j5⟩ := I (p2 + 1) (G ++ G2) _ z1 (cD.dep.fr fz (by decide) i4) (by omega)
      obtain ⟨c1, c2, c3⟩ := ht (p2 + 1) (by omega)
      cases h2 : (th (p2 + 1)).1 with
      | false =>
        rw [h2] at j1
        rw [if_neg (by decide)]
        exact ⟨ρ3, p_X5_readExpression_0_2 i1 (by decide) g1 rfl j1 rfl, j2, (fun z => by cases z), i5.tr ((fz.up (by decide)).tr j5)⟩
      | true =>
        rw [h2] at j1
        rw [if_pos rfl]
        obtain ⟨f1, f2, f3, f4⟩ := c3 h2
        have lt := j2.2.2.1
        obtain ⟨ρ4, w1, w2, w3⟩ := s_write (d := d) (j4 h2) (t := 2000) (by rw [cS_app, List.length_append]; omega) (by decide) (v := nI 2000 + nI 60) (by decide)
        refine ⟨ρ4, p_X5_readExpression_0_3 i1 (by decide) g1 rfl j1 (by decide) w1, cZ.dep.fr w3 (by decide) j2, fun z => ?_, i5.tr ((fz.up (by decide)).tr (j5.tr (w3.up (by decide))))⟩
        show cD (G ++ (G2 ++ ((th (p2 + 1)).2.2 ++ 2000 :: []))) ρ4
        rw [List.append_assoc, List.append_assoc] at w2
        exact w2
    | false =>
      cases q1 : isA f T p2 62 with
      | true =>
        have hx : ixA f T p2 13 = 2 := by unfold ixA; rw [if_pos (is_lt q1).1, i3 (is_lt q1).1, (is_lt q1).2]; decide
        rw [e1, hx]
        rw [if_neg (by decide)]
        have pe : pkA f T p2 = nI 62 := (pkA_eq i2 (by decide)).mpr q1
        have g1 := g0
        rw [pe] at g1
        have pT := (is_lt q1).1
        obtain ⟨z1, fz⟩ := i2.sp pT
        obtain ⟨ρ3, j1, j2, j4, j5⟩ := I (p2 + 1) (G ++ G2) _ z1 (cD.dep.fr fz (by decide) i4) (by omega)
        obtain ⟨c1, c2, c3⟩ := ht (p2 + 1) (by omega)
        cases h2 : (th (p2 + 1)).1 with
        | false =>
          rw [h2] at j1
          rw [if_neg (by decide)]
          exact ⟨ρ3, p_X5_readExpression_0_4 i1 (by decide) g1 (fun z => by rw [(pkA_eq i2 (by decide)).mp (pe.trans z)] at q0; cases q0) rfl j1 rfl, j2, (fun z => by cases z), i5.tr ((fz.up (by decide)).tr j5)⟩
        | true =>
          rw [h2] at j1
          rw [if_pos rfl]
          obtain ⟨f1, f2, f3, f4⟩ := c3 h2
          have lt := j2.2.2.1
          obtain ⟨ρ4, w1, w2, w3⟩ := s_write (d := d) (j4 h2) (t := 2001) (by rw [cS_app, List.length_append]; omega) (by decide) (v := nI 2000 + nI 62) (by decide)
          refine ⟨ρ4, p_X5_readExpression_0_5 i1 (by decide) g1 (fun z => by rw [(pkA_eq i2 (by decide)).mp (pe.trans z)] at q0; cases q0) rfl j1 (by decide) w1, cZ.dep.fr w3 (by decide) j2, fun z => ?_, i5.tr ((fz.up (by decide)).tr (j5.tr (w3.up (by decide))))⟩
          show cD (G ++ (G2 ++ ((th (p2 + 1)).2.2 ++ 2001 :: []))) ρ4
          rw [List.append_assoc, List.append_assoc] at w2
          exact w2
      | false =>
        cases q2 : isA f T p2 61 with
        | true =>
          have hx : ixA f T p2 13 = 3 := by unfold ixA; rw [if_pos (is_lt q2).1, i3 (is_lt q2).1, (is_lt q2).2]; decide
          rw [e1, hx]
          rw [if_neg (by decide)]
          have pe : pkA f T p2 = nI 61 := (pkA_eq i2 (by decide)).mpr q2
          have g1 := g0
          rw [pe] at g1
          have pT := (is_lt q2).1
          obtain ⟨z1, fz⟩ := i2.sp pT
          obtain ⟨ρ3, j1, j2, j4, j5⟩ := I (p2 + 1) (G ++ G2) _ z1 (cD.dep.fr fz (by decide) i4) (by omega)
          obtain ⟨c1, c2, c3⟩ := ht (p2 + 1) (by omega)
          cases h2 : (th (p2 + 1)).1 with
          | false =>
            rw [h2] at j1
            rw [if_neg (by decide)]
            exact ⟨ρ3, p_X5_readExpression_0_6 i1 (by decide) g1 (fun z => by rw [(pkA_eq i2 (by decide)).mp (pe.trans z)] at q0; cases q0) (fun z => by rw [(pkA_eq i2 (by decide)).mp (pe.trans z)] at q1; cases q1) rfl j1 rfl, j2, (fun z => by cases z), i5.tr ((fz.up (by decide)).tr j5)⟩
          | true =>
            rw [h2] at j1
            rw [if_pos rfl]
            obtain ⟨f1, f2, f3, f4⟩ := c3 h2
            have lt := j2.2.2.1
            obtain ⟨ρ4, w1, w2, w3⟩ := s_write (d := d) (j4 h2) (t := 2002) (by rw [cS_app, List.length_append]; omega) (by decide) (v := nI 2000 + nI 61) (by decide)
            refine ⟨ρ4, p_X5_readExpression_0_7 i1 (by decide) g1 (fun z => by rw [(pkA_eq i2 (by decide)).mp (pe.trans z)] at q0; cases q0) (fun z => by rw [(pkA_eq i2 (by decide)).mp (pe.trans z)] at q1; cases q1) rfl j1 (by decide) w1, cZ.dep.fr w3 (by decide) j2, fun z => ?_, i5.tr ((fz.up (by decide)).tr (j5.tr (w3.up (by decide))))⟩
            show cD (G ++ (G2 ++ ((th (p2 + 1)).2.2 ++ 2002 :: []))) ρ4
            rw [List.append_assoc, List.append_assoc] at w2
            exact w2
        | false =>
          have hx : ixA f T p2 13 = 0 := by
            unfold ixA
            split
            · rename_i pT
              rw [i3 pT]
              unfold isA at q0 q1 q2
              simp [pT] at q0 q1 q2
              rw [if_neg q0, if_neg q1, if_neg q2]
            · rfl
          rw [e1, hx, if_pos rfl]
          refine ⟨ρ, p_X5_readExpression_0_8 i1 (by decide) g0 (fun z => by rw [(pkA_eq i2 (by decide)).mp z] at q0; cases q0) (fun z => by rw [(pkA_eq i2 (by decide)).mp z] at q1; cases q1) (fun z => by rw [(pkA_eq i2 (by decide)).mp z] at q2; cases q2), i2, fun _ => ?_, i5⟩
          show cD (G ++ (G2 ++ [])) ρ
          rw [List.append_nil]; exact i4
theorem s_isLetter {x : Int32} (b : Bool) (h : (x = nI 100 ∨ x = nI 105 ∨ x = nI 110 ∨ x = nI 111 ∨ x = nI 114 ∨ x = nI 115 ∨ x = nI 116 ∨ x = nI 119 ∨ x = nI 120) ↔ b = true) : hq_c 56 (d + 1) [.int x] σ (some (.int (bI b))) σ := by
  by_cases n100 : x = nI 100
  · have : b = true := h.mp (by subst n100; decide)
    rw [this]; exact p_X5_isLetter_0_1  n100
  by_cases n101 : x = nI 101
  · have : b = false := by
      cases b with
      | false => rfl
      | true => exact absurd (h.mpr rfl) (by subst n101; decide)
    rw [this]; exact p_X5_isLetter_0_2 n100 n101
  by_cases n102 : x = nI 102
  · have : b = false := by
      cases b with
      | false => rfl
      | true => exact absurd (h.mpr rfl) (by subst n102; decide)
    rw [this]; exact p_X5_isLetter_0_3 n100 n101 n102
  by_cases n103 : x = nI 103
  · have : b = false := by
      cases b with
      | false => rfl
      | true => exact absurd (h.mpr rfl) (by subst n103; decide)
    rw [this]; exact p_X5_isLetter_0_4 n100 n101 n102 n103
  by_cases n104 : x = nI 104
  · have : b = false := by
      cases b with
      | false => rfl
      | true => exact absurd (h.mpr rfl) (by subst n104; decide)
    rw [this]; exact p_X5_isLetter_0_5 n100 n101 n102 n103 n104
  by_cases n105 : x = nI 105
  · have : b = true := h.mp (by subst n105; decide)
    rw [this]; exact p_X5_isLetter_0_6 n100 n101 n102 n103 n104 n105
  by_cases n106 : x = nI 106
  · have : b = false := by
      cases b with
      | false => rfl
      | true => exact absurd (h.mpr rfl) (by subst n106; decide)
    rw [this]; exact p_X5_isLetter_0_7 n100 n101 n102 n103 n104 n105 n106
  by_cases n107 : x = nI 107
  · have : b = false := by
      cases b with
      | false => rfl
      | true => exact absurd (h.mpr rfl) (by subst n107; decide)
    rw [this]; exact p_X5_isLetter_0_8 n100 n101 n102 n103 n104 n105 n106 n107
  by_cases n108 : x = nI 108
  · have : b = false := by
      cases b with
      | false => rfl
      | true => exact absurd (h.mpr rfl) (by subst n108; decide)
    rw [this]; exact p_X5_isLetter_0_9 n100 n101 n102 n103 n104 n105 n106 n107 n108
  by_cases n109 : x = nI 109
  · have : b = false := by
      cases b with
      | false => rfl
      | true => exact absurd (h.mpr rfl) (by subst n109; decide)
    rw [this]; exact p_X5_isLetter_0_10 n100 n101 n102 n103 n104 n105 n106 n107 n108 n109
  by_cases n110 : x = nI 110
  · have : b = true := h.mp (by subst n110; decide)
    rw [this]; exact p_X5_isLetter_0_11 n100 n101 n102 n103 n104 n105 n106 n107 n108 n109 n110
  by_cases n111 : x = nI 111
  · have : b = true := h.mp (by subst n111; decide)
    rw [this]; exact p_X5_isLetter_0_12 n100 n101 n102 n103 n104 n105 n106 n107 n108 n109 n110 n111
  by_cases n112 : x = nI 112
  · have : b = false := by
      cases b with
      | false => rfl
      | true => exact absurd (h.mpr rfl) (by subst n112; decide)
    rw [this]; exact p_X5_isLetter_0_13 n100 n101 n102 n103 n104 n105 n106 n107 n108 n109 n110 n111 n112
  by_cases n113 : x = nI 113
  · have : b = false := by
      cases b with
      | false => rfl
      | true => exact absurd (h.mpr rfl) (by subst n113; decide)
    rw [this]; exact p_X5_isLetter_0_14 n100 n101 n102 n103 n104 n105 n106 n107 n108 n109 n110 n111 n112 n113
  by_cases n114 : x = nI 114
  · have : b = true := h.mp (by subst n114; decide)
    rw [this]; exact p_X5_isLetter_0_15 n100 n101 n102 n103 n104 n105 n106 n107 n108 n109 n110 n111 n112 n113 n114
  by_cases n115 : x = nI 115
  · have : b = true := h.mp (by subst n115; decide)
    rw [this]; exact p_X5_isLetter_0_16 n100 n101 n102 n103 n104 n105 n106 n107 n108 n109 n110 n111 n112 n113 n114 n115
  by_cases n116 : x = nI 116
  · have : b = true := h.mp (by subst n116; decide)
    rw [this]; exact p_X5_isLetter_0_17 n100 n101 n102 n103 n104 n105 n106 n107 n108 n109 n110 n111 n112 n113 n114 n115 n116
  by_cases n117 : x = nI 117
  · have : b = false := by
      cases b with
      | false => rfl
      | true => exact absurd (h.mpr rfl) (by subst n117; decide)
    rw [this]; exact p_X5_isLetter_0_18 n100 n101 n102 n103 n104 n105 n106 n107 n108 n109 n110 n111 n112 n113 n114 n115 n116 n117
  by_cases n118 : x = nI 118
  · have : b = false := by
      cases b with
      | false => rfl
      | true => exact absurd (h.mpr rfl) (by subst n118; decide)
    rw [this]; exact p_X5_isLetter_0_19 n100 n101 n102 n103 n104 n105 n106 n107 n108 n109 n110 n111 n112 n113 n114 n115 n116 n117 n118
  by_cases n119 : x = nI 119
  · have : b = true := h.mp (by subst n119; decide)
    rw [this]; exact p_X5_isLetter_0_20 n100 n101 n102 n103 n104 n105 n106 n107 n108 n109 n110 n111 n112 n113 n114 n115 n116 n117 n118 n119
  by_cases n120 : x = nI 120
  · have : b = true := h.mp (by subst n120; decide)
    rw [this]; exact p_X5_isLetter_0_21 n100 n101 n102 n103 n104 n105 n106 n107 n108 n109 n110 n111 n112 n113 n114 n115 n116 n117 n118 n119 n120
  have : b = false := by
    cases b with
    | false => rfl
    | true => rcases h.mpr rfl with z | z | z | z | z | z | z | z | z
              · exact absurd z n100
              · exact absurd z n105
              · exact absurd z n110
              · exact absurd z n111
              · exact absurd z n114
              · exact absurd z n115
              · exact absurd z n116
              · exact absurd z n119
              · exact absurd z n120
  rw [this]; exact p_X5_isLetter_0_22 n100 n101 n102 n103 n104 n105 n106 n107 n108 n109 n110 n111 n112 n113 n114 n115 n116 n117 n118 n119 n120
end RC
