/-! The rule read: the reference -/
def mDl (C : List Nat) (σ : hq_St) : Prop := σ.1 52 27 = nI C.length ∧ ∀ j t, C[j]? = some t → σ.1 67 j = nI t
theorem mDl.dep {C : List Nat} : Dep [(52, 28), (67, 0)] (mDl C) := fun σ τ e h => ⟨((e 52 27 rfl).1).trans h.1, fun j t hj => ((e 67 j rfl).1).trans (h.2 j t hj)⟩
/-- a reader of the reference: from a depth D0 on -/
def MR (x : Nat) (as : List Value) (D0 n : Nat) (f : Nat → Nat) (T dep : Nat) (th : Nat → RR) : Prop := ∀ D, D0 ≤ D → ∀ p C σ, mZ n f T p σ → mDl C σ → C.length ≤ p → σ.1 52 18 = nI dep → ∃ τ C', hq_c x D as σ (some (.int (bI (th p).1))) τ ∧ mZ n f T (th p).2.1 τ ∧ mDl C' τ ∧ C'.length + p ≤ C.length + (th p).2.1 ∧ ((th p).1 = true → C' = C ++ mS (th p).2.2 ∧ τ.1 52 18 = nI dep) ∧ Fr [(52, 17), (52, 19), (52, 28), (67, 0)] σ τ
section RM
variable {d n T dep D0 : Nat} {f : Nat → Nat} {σ : hq_St}
theorem m_codes {C : List Nat} (h : mDl C σ) (hl : C.length < 80) {t : Nat} {v : Int32} (hv : v = nI t) : ∃ τ, hq_c 198 (d + 1) [.ref 52, .int v] σ none τ ∧ mDl (C ++ [t]) τ ∧ Fr [(52, 28), (67, 0)] σ τ := by
  subst hv
  have H := p_X10_codes_0_1 (d := d) (σ := σ) (l1 := nI t) (by rw [h.1]; exact vin hl (by decide))
  rw [h.1, clamp (by omega), sI_ne (by decide), h.1, nplus] at H
  refine ⟨_, H, ⟨?_, fun j u hj => ?_⟩, ((Fr.rf σ).sI rfl).sI rfl⟩
  · rw [sI_eq]; simp
  · rw [sI_ne (by decide), sI_at, if_pos rfl]
    rw [List.getElem?_append] at hj
    split at hj
    · rw [if_neg (by omega)]; exact h.2 j u hj
    · rename_i z
      by_cases y : j = C.length
      · subst y
        rw [if_pos rfl]
        simp at hj
        rw [hj]
      · rw [List.getElem?_eq_none (by simp; omega)] at hj; cases hj
theorem mS_one {t : Nat} (h : t ≠ 3001) : mS [t] = [t] := by rw [mS_cons, if_neg h]; rfl
theorem m_rank1L {th : Nat → RR} (hT : T ≤ 40) (ht : okT T th) (I : MR 200 [.ref 52, .int (nI 2)] D0 n f T dep th) {D : Nat} (hD : D0 + 12 ≤ D) : ∀ m p C σ, T ≤ p + m → mZ n f T p σ → mDl C σ → C.length ≤ p → σ.1 52 18 = nI dep → ∃ τ C', hq_m 200 (D + 1) (some (.int (bI (chn f T th 14 m p).1))) τ 16 [some (.ref 52), some (.int (nI 1)), some (.int (nI 1)), none] [] σ ∧ mZ n f T (chn f T th 14 m p).2.1 τ ∧ mDl C' τ ∧ C'.length + p ≤ C.length + (chn f T th 14 m p).2.1 ∧ ((chn f T th 14 m p).1 = true → C' = C ++ mS (chn f T th 14 m p).2.2 ∧ τ.1 52 18 = nI dep) ∧ Fr [(52, 17), (52, 19), (52, 28), (67, 0)] σ τ := by
  obtain ⟨d, rfl⟩ : ∃ d, D = d + 12 := ⟨D - 12, by omega⟩
  intro m
  induction m with
  | zero =>
    intro p C σ hm hz hC hl hd
    obtain ⟨ρ, g1, g2, g3⟩ := m_takesOf (d := d + 11) hz (j := 14) (by decide) (by decide) (by omega)
    have i0 : ixA f T p 14 = 0 := by unfold ixA; rw [if_neg (by omega)]
    rw [i0] at g1 g2
    refine ⟨ρ, C, p_X10_readsRank_16_10 (by decide) (by decide) (by decide) g1 (by decide), g2, mDl.dep.fr g3 (by decide) hC, Nat.le_refl _, fun _ => ⟨?_, (g3.i rfl).trans hd⟩, g3.up (by decide)⟩
    show C = C ++ []
    rw [List.append_nil]
  | succ m ih =>
    intro p C σ hm hz hC hl hd
    have e1 : chn f T th 14 (m + 1) p = if ixA f T p 14 = 0 then (true, p, []) else if (th (p + 1)).1 then ((chn f T th 14 m (th (p + 1)).2.1).1, (chn f T th 14 m (th (p + 1)).2.1).2.1, (th (p + 1)).2.2 ++ ((2000 + bsO 14 + (ixA f T p 14 - 1)) :: (chn f T th 14 m (th (p + 1)).2.1).2.2)) else (false, (th (p + 1)).2.1, []) := rfl
    obtain ⟨ρ, g1, g2, g3⟩ := m_takesOf (d := d + 11) hz (j := 14) (by decide) (by decide) (by omega)
    obtain ⟨il, ip⟩ := ixA_le hz (j := 14) (by decide) (by decide)
    by_cases q : ixA f T p 14 = 0
    · rw [e1, if_pos q]
      rw [q] at g1 g2
      refine ⟨ρ, C, p_X10_readsRank_16_10 (by decide) (by decide) (by decide) g1 (by decide), g2, mDl.dep.fr g3 (by decide) hC, Nat.le_refl _, fun _ => ⟨?_, (g3.i rfl).trans hd⟩, g3.up (by decide)⟩
      show C = C ++ []
      rw [List.append_nil]
    · rw [e1, if_neg q]
      have pT := ip q
      rw [show decide (ixA f T p 14 ≠ 0) = true by simp [q]] at g2
      have g2 : mZ n f T (p + 1) ρ := g2
      have c3 : ¬ nI (ixA f T p 14) - nI 1 < 0 := by rw [pk_sub (by omega), ltz, nI_toInt (by omega)]; omega
      obtain ⟨ρ2, C2, i1, i2, i3, i4, i5, i6⟩ := I (d + 12) (by omega) (p + 1) C ρ g2 (mDl.dep.fr g3 (by decide) hC) (by omega) ((g3.i rfl).trans hd)
      obtain ⟨a1, a2, a3⟩ := ht (p + 1) (by omega)
      have fr := (g3.up (G := [(52, 17), (52, 19), (52, 28), (67, 0)]) (by decide)).tr i6
      cases h1 : (th (p + 1)).1 with
      | false =>
        rw [h1] at i1
        rw [if_neg (by decide)]
        exact ⟨ρ2, C2, p_X10_readsRank_16_11 (by decide) (by decide) (by decide) g1 c3 i1 rfl, i2, i3, by dsimp only; omega, (fun z => by cases z), fr⟩
      | true =>
        rw [h1] at i1
        rw [if_pos rfl]
        obtain ⟨b1, b2, b3, b4⟩ := a3 h1
        obtain ⟨c1, c2⟩ := i5 h1
        have lt := i2.2.2.1
        have hc2 : C2.length = C.length + (mS (th (p + 1)).2.2).length := by rw [c1, List.length_append]
        obtain ⟨ρ3, w1, w2, w3⟩ := m_codes (d := d + 11) i3 (by omega) (t := 2000 + bsO 14 + (ixA f T p 14 - 1)) (v := nI 2000 + (nI (ixA f T p 14) - nI 1) + nI 3) (by rw [pk_sub (by omega), nplus, nplus]; exact congrArg nI (by show _ = 2000 + 3 + _; omega))
        obtain ⟨τ, C3, k1, k2, k3, k4, k5, k6⟩ := ih (th (p + 1)).2.1 (C2 ++ [2000 + bsO 14 + (ixA f T p 14 - 1)]) ρ3 (by omega) (mZ.dep.fr w3 (by decide) i2) w2 (by rw [List.length_append, hc2]; show _ + 1 ≤ _; omega) ((w3.i rfl).trans c2)
        refine ⟨τ, C3, p_X10_readsRank_16_14 (by decide) (by decide) (by decide) g1 c3 i1 (by decide) (by decide) (by decide) w1 (by decide) k1, k2, k3, ?_, fun z => ?_, fr.tr ((w3.up (by decide)).tr k6)⟩
        · dsimp only
          rw [List.length_append, hc2] at k4
          have : [2000 + bsO 14 + (ixA f T p 14 - 1)].length = 1 := rfl
          omega
        · obtain ⟨y1, y2⟩ := k5 z
          refine ⟨?_, y2⟩
          rw [y1, c1]
          dsimp only
          have ne : 2000 + bsO 14 + (ixA f T p 14 - 1) ≠ 3001 := by show 2000 + 3 + _ ≠ _; omega
          rw [mS_app, mS_cons, if_neg ne, List.append_assoc, List.append_assoc]
          rfl
theorem m_rank2L {th : Nat → RR} (hT : T ≤ 40) (ht : okT T th) (I : MR 200 [.ref 52, .int (nI 3)] D0 n f T dep th) {D : Nat} (hD : D0 + 12 ≤ D) : ∀ m p C σ, T ≤ p + m → mZ n f T p σ → mDl C σ → C.length ≤ p → σ.1 52 18 = nI dep → ∃ τ C', hq_m 200 (D + 1) (some (.int (bI (chn f T th 15 m p).1))) τ 16 [some (.ref 52), some (.int (nI 2)), some (.int (nI 1)), none] [] σ ∧ mZ n f T (chn f T th 15 m p).2.1 τ ∧ mDl C' τ ∧ C'.length + p ≤ C.length + (chn f T th 15 m p).2.1 ∧ ((chn f T th 15 m p).1 = true → C' = C ++ mS (chn f T th 15 m p).2.2 ∧ τ.1 52 18 = nI dep) ∧ Fr [(52, 17), (52, 19), (52, 28), (67, 0)] σ τ := by
  obtain ⟨d, rfl⟩ : ∃ d, D = d + 12 := ⟨D - 12, by omega⟩
  intro m
  induction m with
  | zero =>
    intro p C σ hm hz hC hl hd
    obtain ⟨ρ, g1, g2, g3⟩ := m_takesOf (d := d + 11) hz (j := 15) (by decide) (by decide) (by omega)
    have i0 : ixA f T p 15 = 0 := by unfold ixA; rw [if_neg (by omega)]
    rw [i0] at g1 g2
    refine ⟨ρ, C, p_X10_readsRank_16_18 (by decide) (by decide) (by decide) g1 (by decide), g2, mDl.dep.fr g3 (by decide) hC, Nat.le_refl _, fun _ => ⟨?_, (g3.i rfl).trans hd⟩, g3.up (by decide)⟩
    show C = C ++ []
    rw [List.append_nil]
  | succ m ih =>
    intro p C σ hm hz hC hl hd
    have e1 : chn f T th 15 (m + 1) p = if ixA f T p 15 = 0 then (true, p, []) else if (th (p + 1)).1 then ((chn f T th 15 m (th (p + 1)).2.1).1, (chn f T th 15 m (th (p + 1)).2.1).2.1, (th (p + 1)).2.2 ++ ((2000 + bsO 15 + (ixA f T p 15 - 1)) :: (chn f T th 15 m (th (p + 1)).2.1).2.2)) else (false, (th (p + 1)).2.1, []) := rfl
    obtain ⟨ρ, g1, g2, g3⟩ := m_takesOf (d := d + 11) hz (j := 15) (by decide) (by decide) (by omega)
    obtain ⟨il, ip⟩ := ixA_le hz (j := 15) (by decide) (by decide)
    by_cases q : ixA f T p 15 = 0
    · rw [e1, if_pos q]
      rw [q] at g1 g2
      refine ⟨ρ, C, p_X10_readsRank_16_18 (by decide) (by decide) (by decide) g1 (by decide), g2, mDl.dep.fr g3 (by decide) hC, Nat.le_refl _, fun _ => ⟨?_, (g3.i rfl).trans hd⟩, g3.up (by decide)⟩
      show C = C ++ []
      rw [List.append_nil]
    · rw [e1, if_neg q]
      have pT := ip q
      rw [show decide (ixA f T p 15 ≠ 0) = true by simp [q]] at g2
      have g2 : mZ n f T (p + 1) ρ := g2
      have c3 : ¬ nI (ixA f T p 15) - nI 1 < 0 := by rw [pk_sub (by omega), ltz, nI_toInt (by omega)]; omega
      obtain ⟨ρ2, C2, i1, i2, i3, i4, i5, i6⟩ := I (d + 12) (by omega) (p + 1) C ρ g2 (mDl.dep.fr g3 (by decide) hC) (by omega) ((g3.i rfl).trans hd)
      obtain ⟨a1, a2, a3⟩ := ht (p + 1) (by omega)
      have fr := (g3.up (G := [(52, 17), (52, 19), (52, 28), (67, 0)]) (by decide)).tr i6
      cases h1 : (th (p + 1)).1 with
      | false =>
        rw [h1] at i1
        rw [if_neg (by decide)]
        exact ⟨ρ2, C2, p_X10_readsRank_16_19 (by decide) (by decide) (by decide) g1 c3 i1 rfl, i2, i3, by dsimp only; omega, (fun z => by cases z), fr⟩
      | true =>
        rw [h1] at i1
        rw [if_pos rfl]
        obtain ⟨b1, b2, b3, b4⟩ := a3 h1
        obtain ⟨c1, c2⟩ := i5 h1
        have lt := i2.2.2.1
        have hc2 : C2.length = C.length + (mS (th (p + 1)).2.2).length := by rw [c1, List.length_append]
        obtain ⟨ρ3, w1, w2, w3⟩ := m_codes (d := d + 11) i3 (by omega) (t := 2000 + bsO 15 + (ixA f T p 15 - 1)) (v := nI 2000 + (nI (ixA f T p 15) - nI 1) + nI 5) (by rw [pk_sub (by omega), nplus, nplus]; exact congrArg nI (by show _ = 2000 + 5 + _; omega))
        obtain ⟨τ, C3, k1, k2, k3, k4, k5, k6⟩ := ih (th (p + 1)).2.1 (C2 ++ [2000 + bsO 15 + (ixA f T p 15 - 1)]) ρ3 (by omega) (mZ.dep.fr w3 (by decide) i2) w2 (by rw [List.length_append, hc2]; show _ + 1 ≤ _; omega) ((w3.i rfl).trans c2)
        refine ⟨τ, C3, p_X10_readsRank_16_24 (by decide) (by decide) (by decide) g1 c3 i1 (by decide) (by decide) (by decide) w1 (by decide) k1, k2, k3, ?_, fun z => ?_, fr.tr ((w3.up (by decide)).tr k6)⟩
        · dsimp only
          rw [List.length_append, hc2] at k4
          have : [2000 + bsO 15 + (ixA f T p 15 - 1)].length = 1 := rfl
          omega
        · obtain ⟨y1, y2⟩ := k5 z
          refine ⟨?_, y2⟩
          rw [y1, c1]
          dsimp only
          have ne : 2000 + bsO 15 + (ixA f T p 15 - 1) ≠ 3001 := by show 2000 + 5 + _ ≠ _; omega
          rw [mS_app, mS_cons, if_neg ne, List.append_assoc, List.append_assoc]
          rfl
theorem m_rank0L {th : Nat → RR} (hT : T ≤ 40) (ht : okT T th) (I : MR 200 [.ref 52, .int (nI 1)] D0 n f T dep th) {D : Nat} (hD : D0 + 12 ≤ D) : ∀ p C σ, mZ n f T p σ → mDl C σ → C.length ≤ p → σ.1 52 18 = nI dep → ∃ τ C', hq_m 200 (D + 1) (some (.int (bI (chn f T th 13 1 p).1))) τ 16 [some (.ref 52), some (.int (nI 0)), some (.int (nI 1)), none] [] σ ∧ mZ n f T (chn f T th 13 1 p).2.1 τ ∧ mDl C' τ ∧ C'.length + p ≤ C.length + (chn f T th 13 1 p).2.1 ∧ ((chn f T th 13 1 p).1 = true → C' = C ++ mS (chn f T th 13 1 p).2.2 ∧ τ.1 52 18 = nI dep) ∧ Fr [(52, 17), (52, 19), (52, 28), (67, 0)] σ τ := by
  obtain ⟨d, rfl⟩ : ∃ d, D = d + 12 := ⟨D - 12, by omega⟩
  intro p C σ hz hC hl hd
  have e1 : chn f T th 13 1 p = if ixA f T p 13 = 0 then (true, p, []) else if (th (p + 1)).1 then (true, (th (p + 1)).2.1, (th (p + 1)).2.2 ++ ((2000 + bsO 13 + (ixA f T p 13 - 1)) :: [])) else (false, (th (p + 1)).2.1, []) := rfl
  obtain ⟨ρ, g1, g2, g3⟩ := m_takesOf (d := d + 11) hz (j := 13) (by decide) (by decide) (by omega)
  obtain ⟨il, ip⟩ := ixA_le hz (j := 13) (by decide) (by decide)
  by_cases q : ixA f T p 13 = 0
  · rw [e1, if_pos q]
    rw [q] at g1 g2
    refine ⟨ρ, C, p_X10_readsRank_16_2 (by decide) rfl g1 (by decide), g2, mDl.dep.fr g3 (by decide) hC, Nat.le_refl _, fun _ => ⟨?_, (g3.i rfl).trans hd⟩, g3.up (by decide)⟩
    show C = C ++ []
    rw [List.append_nil]
  · rw [e1, if_neg q]
    have pT := ip q
    rw [show decide (ixA f T p 13 ≠ 0) = true by simp [q]] at g2
    have g2 : mZ n f T (p + 1) ρ := g2
    have c3 : ¬ nI (ixA f T p 13) - nI 1 < 0 := by rw [pk_sub (by omega), ltz, nI_toInt (by omega)]; omega
    obtain ⟨ρ2, C2, i1, i2, i3, i4, i5, i6⟩ := I (d + 12) (by omega) (p + 1) C ρ g2 (mDl.dep.fr g3 (by decide) hC) (by omega) ((g3.i rfl).trans hd)
    obtain ⟨a1, a2, a3⟩ := ht (p + 1) (by omega)
    have fr := (g3.up (G := [(52, 17), (52, 19), (52, 28), (67, 0)]) (by decide)).tr i6
    cases h1 : (th (p + 1)).1 with
    | false =>
      rw [h1] at i1
      rw [if_neg (by decide)]
      exact ⟨ρ2, C2, p_X10_readsRank_16_3 (by decide) rfl g1 c3 i1 rfl, i2, i3, by dsimp only; omega, (fun z => by cases z), fr⟩
    | true =>
      rw [h1] at i1
      rw [if_pos rfl]
      obtain ⟨b1, b2, b3, b4⟩ := a3 h1
      obtain ⟨c1, c2⟩ := i5 h1
      have lt := i2.2.2.1
      have hc2 : C2.length = C.length + (mS (th (p + 1)).2.2).length := by rw [c1, List.length_append]
      obtain ⟨ρ3, w1, w2, w3⟩ := m_codes (d := d + 11) i3 (by omega) (t := 2000 + bsO 13 + (ixA f T p 13 - 1)) (v := nI 2000 + (nI (ixA f T p 13) - nI 1) + nI 0) (by rw [pk_sub (by omega), nplus, nplus]; exact congrArg nI (by show _ = 2000 + 0 + _; omega))
      refine ⟨ρ3, _, p_X10_readsRank_16_5 (by decide) rfl g1 c3 i1 (by decide) rfl w1 (by decide) (p_X10_readsRank_16_1 rfl), mZ.dep.fr w3 (by decide) i2, w2, ?_, fun _ => ⟨?_, (w3.i rfl).trans c2⟩, fr.tr (w3.up (by decide))⟩
      · rw [List.length_append, hc2]
        dsimp only
        have : [2000 + bsO 13 + (ixA f T p 13 - 1)].length = 1 := rfl
        omega
      · rw [c1]
        have ne : 2000 + bsO 13 + (ixA f T p 13 - 1) ≠ 3001 := by show 2000 + 0 + _ ≠ _; omega
        show _ = C ++ mS ((th (p + 1)).2.2 ++ ((2000 + bsO 13 + (ixA f T p 13 - 1)) :: []))
        rw [mS_app, mS_cons, if_neg ne, List.append_assoc]
        rfl
theorem m_rank0 {th : Nat → RR} (hT : T ≤ 40) (ht : okT T th) (I : MR 200 [.ref 52, .int (nI 1)] D0 n f T dep th) : MR 200 [.ref 52, .int (nI 0)] (D0 + 13) n f T dep (sqn f T th 13 1) := by
  intro D hD p C σ hz hC hl hd
  obtain ⟨D, rfl⟩ : ∃ E, D = E + 1 := ⟨D - 1, by omega⟩
  obtain ⟨ρ, C2, i1, i2, i3, i4, i5, i6⟩ := I D (by omega) p C σ hz hC hl hd
  obtain ⟨a1, a2, a3⟩ := ht p hz.2.2.1
  unfold sqn
  cases h1 : (th p).1 with
  | false =>
    rw [h1] at i1
    rw [if_neg (by decide)]
    exact ⟨ρ, C2, p_X10_readsRank_0_2 (by decide) (by rw [nplus]; exact i1) rfl, i2, i3, i4, (fun z => by cases z), i6⟩
  | true =>
    rw [h1] at i1
    rw [if_pos rfl]
    obtain ⟨b1, b2, b3, b4⟩ := a3 h1
    obtain ⟨c1, c2⟩ := i5 h1
    have hc2 : C2.length = C.length + (mS (th p).2.2).length := by rw [c1, List.length_append]
    obtain ⟨τ, C3, k1, k2, k3, k4, k5, k6⟩ := m_rank0L hT ht I (D := D) (by omega) (th p).2.1 C2 ρ i2 i3 (by omega) c2
    refine ⟨τ, C3, p_X10_readsRank_0_3 (r1 := bI true) (ρ1 := ρ) (by decide) (by rw [nplus]; exact i1) (by decide) k1, k2, k3, by dsimp only; omega, fun z => ?_, i6.tr k6⟩
    obtain ⟨y1, y2⟩ := k5 z
    refine ⟨?_, y2⟩
    rw [y1, c1]
    dsimp only
    rw [mS_app, List.append_assoc]
theorem m_rank1 {th : Nat → RR} (hT : T ≤ 40) (ht : okT T th) (I : MR 200 [.ref 52, .int (nI 2)] D0 n f T dep th) : MR 200 [.ref 52, .int (nI 1)] (D0 + 13) n f T dep (sqn f T th 14 40) := by
  intro D hD p C σ hz hC hl hd
  obtain ⟨D, rfl⟩ : ∃ E, D = E + 1 := ⟨D - 1, by omega⟩
  obtain ⟨ρ, C2, i1, i2, i3, i4, i5, i6⟩ := I D (by omega) p C σ hz hC hl hd
  obtain ⟨a1, a2, a3⟩ := ht p hz.2.2.1
  unfold sqn
  cases h1 : (th p).1 with
  | false =>
    rw [h1] at i1
    rw [if_neg (by decide)]
    exact ⟨ρ, C2, p_X10_readsRank_0_2 (by decide) (by rw [nplus]; exact i1) rfl, i2, i3, i4, (fun z => by cases z), i6⟩
  | true =>
    rw [h1] at i1
    rw [if_pos rfl]
    obtain ⟨b1, b2, b3, b4⟩ := a3 h1
    obtain ⟨c1, c2⟩ := i5 h1
    have hc2 : C2.length = C.length + (mS (th p).2.2).length := by rw [c1, List.length_append]
    obtain ⟨τ, C3, k1, k2, k3, k4, k5, k6⟩ := m_rank1L hT ht I (D := D) (by omega) 40 (th p).2.1 C2 ρ (by omega) i2 i3 (by omega) c2
    refine ⟨τ, C3, p_X10_readsRank_0_3 (r1 := bI true) (ρ1 := ρ) (by decide) (by rw [nplus]; exact i1) (by decide) k1, k2, k3, by dsimp only; omega, fun z => ?_, i6.tr k6⟩
    obtain ⟨y1, y2⟩ := k5 z
    refine ⟨?_, y2⟩
    rw [y1, c1]
    dsimp only
    rw [mS_app, List.append_assoc]
theorem m_rank2 {th : Nat → RR} (hT : T ≤ 40) (ht : okT T th) (I : MR 200 [.ref 52, .int (nI 3)] D0 n f T dep th) : MR 200 [.ref 52, .int (nI 2)] (D0 + 13) n f T dep (sqn f T th 15 40) := by
  intro D hD p C σ hz hC hl hd
  obtain ⟨D, rfl⟩ : ∃ E, D = E + 1 := ⟨D - 1, by omega⟩
  obtain ⟨ρ, C2, i1, i2, i3, i4, i5, i6⟩ := I D (by omega) p C σ hz hC hl hd
  obtain ⟨a1, a2, a3⟩ := ht p hz.2.2.1
  unfold sqn
  cases h1 : (th p).1 with
  | false =>
    rw [h1] at i1
    rw [if_neg (by decide)]
    exact ⟨ρ, C2, p_X10_readsRank_0_2 (by decide) (by rw [nplus]; exact i1) rfl, i2, i3, i4, (fun z => by cases z), i6⟩
  | true =>
    rw [h1] at i1
    rw [if_pos rfl]
    obtain ⟨b1, b2, b3, b4⟩ := a3 h1
    obtain ⟨c1, c2⟩ := i5 h1
    have hc2 : C2.length = C.length + (mS (th p).2.2).length := by rw [c1, List.length_append]
    obtain ⟨τ, C3, k1, k2, k3, k4, k5, k6⟩ := m_rank2L hT ht I (D := D) (by omega) 40 (th p).2.1 C2 ρ (by omega) i2 i3 (by omega) c2
    refine ⟨τ, C3, p_X10_readsRank_0_3 (r1 := bI true) (ρ1 := ρ) (by decide) (by rw [nplus]; exact i1) (by decide) k1, k2, k3, by dsimp only; omega, fun z => ?_, i6.tr k6⟩
    obtain ⟨y1, y2⟩ := k5 z
    refine ⟨?_, y2⟩
    rw [y1, c1]
    dsimp only
    rw [mS_app, List.append_assoc]
end RM
