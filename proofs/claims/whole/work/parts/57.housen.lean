/-! house: the reference reads hinges, lines -/
section HN
variable {d n T : Nat} {f : Nat → Nat} {σ : hq_St}
theorem mB.addH {DL : List DI} {HL : List HI} {t : HI} {ρ : hq_St} (hB : mB DL HL σ) (fr : ∀ c j, c ≠ 64 → ¬ (c = 52 ∧ j = 22) → ¬ (c = 52 ∧ (j = 16 ∨ j = 17)) → ρ.1 c j = σ.1 c j) (e22 : ρ.1 52 22 = nI (HL.length + 1)) (old : ∀ i, i < 3 * HL.length → ρ.1 64 i = σ.1 64 i) (n0 : ρ.1 64 (3 * HL.length) = nI t.1) (n1 : ρ.1 64 (3 * HL.length + 1) = nI t.2.1) (n2 : ρ.1 64 (3 * HL.length + 2) = nI t.2.2) : mB DL (HL ++ [t]) ρ := by
  refine ⟨?_, ?_, fun j u hj => ?_, fun j u hj => ?_⟩
  · rw [fr 52 21 (by decide) (by decide) (by decide)]; exact hB.1
  · rw [e22]; simp
  · obtain ⟨a1, a2, a3, a4⟩ := hB.2.2.1 j u hj
    exact ⟨(fr 63 _ (by decide) (by simp) (by simp)).trans a1, (fr 63 _ (by decide) (by simp) (by simp)).trans a2, (fr 63 _ (by decide) (by simp) (by simp)).trans a3, (fr 63 _ (by decide) (by simp) (by simp)).trans a4⟩
  · rw [List.getElem?_append] at hj
    split at hj
    · obtain ⟨a1, a2, a3⟩ := hB.2.2.2 j u hj
      exact ⟨(old _ (by omega)).trans a1, (old _ (by omega)).trans a2, (old _ (by omega)).trans a3⟩
    · by_cases y : j = HL.length
      · subst y
        simp at hj
        rw [← hj]
        exact ⟨n0, n1, n2⟩
      · rw [List.getElem?_eq_none (by simp; omega)] at hj; cases hj
theorem m_readsHinge {p : Nat} {DL : List DI} {HL : List HI} (h : mZ n f T p σ) (hB : mB DL HL σ) (hl : HL.length < 12) : ∃ τ, hq_c 185 (d + 10) [.ref 52] σ (some (.int (bI (hR f T p).1))) τ ∧ mZ n f T (hR f T p).2.1 τ ∧ ((hR f T p).1 = true → mB DL (HL ++ [(hR f T p).2.2]) τ) ∧ Fr [(52, 17), (52, 23), (64, 0)] σ τ := by
  have hf := h.hf
  have ei : nI 3 * σ.1 52 22 = nI (3 * HL.length) := by rw [hB.2.1, nmul]
  have ci : (nI (3 * HL.length)).toNatClampNeg = 3 * HL.length := clamp (by omega)
  have e1 : nI (3 * HL.length) + nI 1 = nI (3 * HL.length + 1) := nplus _ _
  have c1 : (nI (3 * HL.length + 1)).toNatClampNeg = 3 * HL.length + 1 := clamp (by omega)
  have e2 : nI (3 * HL.length) + nI 2 = nI (3 * HL.length + 2) := nplus _ _
  have c2 : (nI (3 * HL.length + 2)).toNatClampNeg = 3 * HL.length + 2 := clamp (by omega)
  have o0 : vp_in (nI 3 * σ.1 52 22) 36 := by rw [ei]; exact vin (by omega) (by decide)
  have o1 : vp_in (nI 3 * σ.1 52 22 + nI 1) 36 := by rw [ei, e1]; exact vin (by omega) (by decide)
  have o2 : vp_in (nI 3 * σ.1 52 22 + nI 2) 36 := by rw [ei, e2]; exact vin (by omega) (by decide)
  obtain ⟨σ1, g1, z1, f1⟩ := m_takesOf (d := d + 8) h (j := 10) (by decide) (by decide) (by omega)
  have i3 : ixA f T p 10 ≤ 3 := by
    rw [ix_10 hf p]
    split
    · decide
    · split
      · decide
      · split <;> decide
  unfold hR
  by_cases q1 : ixA f T p 10 ≠ 0
  · rw [if_pos q1]
    rw [show decide (ixA f T p 10 ≠ 0) = true by simp [q1]] at z1
    have z1 : mZ n f T (p + 1) σ1 := z1
    have f2 : Fr [(64, 0)] σ1 (hq_sI σ1 64 (3 * HL.length) (nI (ixA f T p 10 - 1))) := (Fr.rf σ1).sI rfl
    have z2 := mZ.dep.fr f2 (by decide) z1
    obtain ⟨σ3, g3, z3, f3⟩ := m_takesOf (d := d + 8) z2 (j := 8) (by decide) (by decide) (by omega)
    rw [ix_8 hf (p + 1)] at g3 z3
    rw [pk_sub (by omega)] at g1
    have n1 : ¬ nI (ixA f T p 10 - 1) < 0 := by rw [ltz, nI_toInt (by omega)]; omega
    have F2 : Fr [(52, 17), (52, 23), (64, 0)] σ σ3 := (f1.up (by decide)).tr ((f2.up (by decide)).tr (f3.up (by decide)))
    have old3 : ∀ i, i < 3 * HL.length → σ3.1 64 i = σ.1 64 i := fun i hi => by rw [f3.i rfl, sI_slot (by omega), f1.i rfl]
    have v3 : σ3.1 64 (3 * HL.length) = nI (ixA f T p 10 - 1) := by rw [f3.i rfl, sI_eq]
    cases q2 : dgA f T (p + 1) 1 9 with
    | false =>
      rw [q2] at g3 z3
      rw [if_neg (by decide)] at g3 z3
      rw [if_neg (by decide)]
      have f4 : Fr [(64, 0)] σ3 (hq_sI σ3 64 (3 * HL.length + 1) (nI 0)) := (Fr.rf σ3).sI rfl
      have P := p_X10_readsHinge_0_2 (d := d + 9) (σ := σ) (ρ1 := σ1) (r1 := nI (ixA f T p 10 - 1)) (r2 := nI 0 - nI 1) (ρ2 := σ3) g1 o0 o0 (by rw [sI_eq]; exact n1) (by rw [ei, ci]; exact g3) o1 o1 (by rw [sI_eq]; decide)
      rw [ei, e1, c1, show nI 1 + (nI 0 - nI 1) = nI 0 by decide] at P
      exact ⟨_, P, mZ.dep.fr f4 (by decide) z3, (fun z => by cases z), F2.tr (f4.up (by decide))⟩
    | true =>
      rw [q2] at g3 z3
      have d2 := dg_lt q2
      rw [if_pos rfl] at g3 z3
      rw [if_pos rfl]
      rw [show decide (f (p + 1) - 48 ≠ 0) = true by simp; omega] at z3
      have z3 : mZ n f T (p + 2) σ3 := z3
      have ev : nI 1 + (nI (f (p + 1) - 48) - nI 1) = nI (f (p + 1) - 48) := by rw [pk_sub (by omega), nplus]; exact congrArg nI (by omega)
      have f4 : Fr [(64, 0)] σ3 (hq_sI σ3 64 (3 * HL.length + 1) (nI (f (p + 1) - 48))) := (Fr.rf σ3).sI rfl
      have z4 := mZ.dep.fr f4 (by decide) z3
      obtain ⟨σ5, g5, z5, f5⟩ := m_takes (d := d + 7) z4 (w := 42) (by decide)
      have F5 : Fr [(52, 17), (52, 23), (64, 0)] σ σ5 := F2.tr ((f4.up (by decide)).tr (f5.up (by decide)))
      have old5 : ∀ i, i < 3 * HL.length → σ5.1 64 i = σ.1 64 i := fun i hi => by rw [f5.i rfl, sI_slot (by omega)]; exact old3 i hi
      have v5 : σ5.1 64 (3 * HL.length) = nI (ixA f T p 10 - 1) := by rw [f5.i rfl, sI_slot (by omega)]; exact v3
      have w5 : σ5.1 64 (3 * HL.length + 1) = nI (f (p + 1) - 48) := by rw [f5.i rfl, sI_eq]
      have e22 : σ5.1 52 22 = nI HL.length := by rw [f5.i rfl, f4.i rfl, f3.i rfl, f2.i rfl, f1.i rfl]; exact hB.2.1
      have hc2 : ¬ (hq_sI σ3 64 (nI 3 * σ.1 52 22 + nI 1).toNatClampNeg (nI 1 + (nI (f (p + 1) - 48) - nI 1))).1 64 (nI 3 * σ.1 52 22 + nI 1).toNatClampNeg = 0 := by
        rw [sI_eq, ev]; exact nI_ne0 (by omega) (by omega)
      have fro : ∀ {ρ : hq_St}, Fr [(52, 17), (52, 23), (64, 0)] σ ρ → ∀ c j, c ≠ 64 → ¬ (c = 52 ∧ j = 22) → ¬ (c = 52 ∧ (j = 16 ∨ j = 17)) → ρ.1 c j = σ.1 c j := fun {ρ} fr c j a b e => fr.i (by
        unfold inF
        simp
        omega)
      cases q3 : isA f T (p + 2) 42 with
      | false =>
        rw [q3] at g5 z5
        rw [if_neg (by decide)]
        have P := p_X10_readsHinge_0_4 (d := d + 9) (σ := σ) (ρ1 := σ1) (r1 := nI (ixA f T p 10 - 1)) (r2 := nI (f (p + 1) - 48) - nI 1) (ρ2 := σ3) (r3 := bI false) (ρ3 := σ5) g1 o0 o0 (by rw [sI_eq]; exact n1) (by rw [ei, ci]; exact g3) o1 o1 hc2 (by rw [ei, e1, c1, ev]; exact g5) rfl o2 o2 rfl (by rw [sI_ne (by decide), sI_eq]; decide)
        rw [ei, e2, c2, sI_ne (by decide), e22, nplus] at P
        have F6 : Fr [(52, 17), (52, 23), (64, 0)] σ (hq_sI (hq_sI σ5 64 (3 * HL.length + 2) (nI 1)) 52 22 (nI (HL.length + 1))) := (F5.sI rfl).sI rfl
        refine ⟨_, P, mZ.dep.fr (G := [(52, 23), (64, 0)]) (((Fr.rf σ5).sI rfl).sI rfl) (by decide) z5, fun _ => hB.addH (fro F6) sI_eq (fun i hi => ?_) ?_ ?_ ?_, F6⟩
        · rw [sI_ne (by decide), sI_slot (by omega)]; exact old5 i hi
        · rw [sI_ne (by decide), sI_slot (by omega)]; exact v5
        · rw [sI_ne (by decide), sI_slot (by omega)]; exact w5
        · rw [sI_ne (by decide), sI_eq]
      | true =>
        rw [q3] at g5 z5
        rw [if_pos rfl]
        have z5 : mZ n f T (p + 3) σ5 := z5
        obtain ⟨σ6, g6, z6, f6⟩ := m_takesOf (d := d + 8) z5 (j := 11) (by decide) (by decide) (by omega)
        rw [ix_11 hf (p + 3)] at g6 z6
        have e22' : σ6.1 52 22 = nI HL.length := by rw [f6.i rfl]; exact e22
        have F6 := F5.tr (f6.up (G := [(52, 17), (52, 23), (64, 0)]) (by decide))
        cases q4 : dgA f T (p + 3) 0 9 with
        | false =>
          rw [q4] at g6 z6
          rw [if_neg (by decide)] at g6 z6
          rw [if_neg (by decide)]
          have P := p_X10_readsHinge_0_5 (d := d + 9) (σ := σ) (ρ1 := σ1) (r1 := nI (ixA f T p 10 - 1)) (r2 := nI (f (p + 1) - 48) - nI 1) (ρ2 := σ3) (r3 := bI true) (ρ3 := σ5) (r4 := nI 0 - nI 1) (ρ4 := σ6) g1 o0 o0 (by rw [sI_eq]; exact n1) (by rw [ei, ci]; exact g3) o1 o1 hc2 (by rw [ei, e1, c1, ev]; exact g5) (by decide) g6 o2 o2 rfl (by rw [sI_ne (by decide), sI_eq]; decide)
          rw [ei, e2, c2, sI_ne (by decide), e22', nplus] at P
          exact ⟨_, P, mZ.dep.fr (G := [(52, 23), (64, 0)]) (((Fr.rf σ6).sI rfl).sI rfl) (by decide) z6, (fun z => by cases z), (F6.sI rfl).sI rfl⟩
        | true =>
          rw [q4] at g6 z6
          have d4 := dg_lt q4
          rw [if_pos rfl] at g6 z6
          rw [if_pos rfl]
          rw [show decide (f (p + 3) - 47 ≠ 0) = true by simp; omega] at z6
          have z6 : mZ n f T (p + 4) σ6 := z6
          rw [pk_sub (by omega), show f (p + 3) - 47 - 1 = f (p + 3) - 48 by omega] at g6
          have P := p_X10_readsHinge_0_6 (d := d + 9) (σ := σ) (ρ1 := σ1) (r1 := nI (ixA f T p 10 - 1)) (r2 := nI (f (p + 1) - 48) - nI 1) (ρ2 := σ3) (r3 := bI true) (ρ3 := σ5) (r4 := nI (f (p + 3) - 48)) (ρ4 := σ6) g1 o0 o0 (by rw [sI_eq]; exact n1) (by rw [ei, ci]; exact g3) o1 o1 hc2 (by rw [ei, e1, c1, ev]; exact g5) (by decide) g6 o2 o2 rfl (by rw [sI_ne (by decide), sI_eq, ltz, nI_toInt (by omega)]; omega)
          rw [ei, e2, c2, sI_ne (by decide), e22', nplus] at P
          have F7 : Fr [(52, 17), (52, 23), (64, 0)] σ (hq_sI (hq_sI σ6 64 (3 * HL.length + 2) (nI (f (p + 3) - 48))) 52 22 (nI (HL.length + 1))) := (F6.sI rfl).sI rfl
          refine ⟨_, P, mZ.dep.fr (G := [(52, 23), (64, 0)]) (((Fr.rf σ6).sI rfl).sI rfl) (by decide) z6, fun _ => hB.addH (fro F7) sI_eq (fun i hi => ?_) ?_ ?_ ?_, F7⟩
          · rw [sI_ne (by decide), sI_slot (by omega), f6.i rfl]; exact old5 i hi
          · rw [sI_ne (by decide), sI_slot (by omega), f6.i rfl]; exact v5
          · rw [sI_ne (by decide), sI_slot (by omega), f6.i rfl]; exact w5
          · rw [sI_ne (by decide), sI_eq]
  · rw [if_neg q1]
    have q1' : ixA f T p 10 = 0 := by simpa using q1
    rw [q1'] at g1 z1
    have f2 : Fr [(64, 0)] σ1 (hq_sI σ1 64 (3 * HL.length) (nI 0 - nI 1)) := (Fr.rf σ1).sI rfl
    have P := p_X10_readsHinge_0_1 (d := d + 9) (σ := σ) (ρ1 := σ1) (r1 := nI 0 - nI 1) g1 o0 o0 (by rw [sI_eq]; decide)
    rw [ei, ci] at P
    exact ⟨_, P, mZ.dep.fr f2 (by decide) z1, (fun z => by cases z), (f1.up (by decide)).tr (f2.up (by decide))⟩
theorem amg {p j w : Nat} (h : mZ n f T p σ) (h5 : 5 ≤ j) (hj : j < 17) (hi : ixA f T p j = if isA f T p w then 1 else 0) : hq_prim 181 [.ref 52, .ref (1000 + j)] σ (some (.int (if isA f T p w then nI 0 else -1))) σ := by
  have := m_among h h5 hj
  rw [hi] at this
  cases q : isA f T p w with
  | true => rw [q] at this; exact this
  | false => rw [q] at this; exact this
theorem m_readsLine {p dn hn : Nat} {DL : List DI} {HL : List HI} (h : mZ n f T p σ) (hB : mB DL HL σ) (h1 : σ.1 52 3 = nI dn) (h2 : σ.1 52 4 = nI hn) (ok : okDH dn hn DL HL) : ∃ τ, hq_c 186 (d + 11) [.ref 52] σ (some (.int (bI (lR f T dn hn p DL HL).1))) τ ∧ mZ n f T (lR f T dn hn p DL HL).2.1 τ ∧ ((lR f T dn hn p DL HL).1 = true → mB (lR f T dn hn p DL HL).2.2.1 (lR f T dn hn p DL HL).2.2.2 τ) ∧ Fr [(52, 17), (52, 22), (52, 23), (63, 0), (64, 0)] σ τ := by
  have hf := h.hf
  obtain ⟨-, -, o3, o4⟩ := ok
  have g5 := amg (w := 100) h (j := 5) (by decide) (by decide) (ix_5 hf p)
  have g9 := amg (w := 104) h (j := 9) (by decide) (by decide) (ix_9 hf p)
  have c1 : (σ.1 52 3 + σ.1 52 21) < nI 8 ↔ dn + DL.length < 8 := by
    rw [h1, hB.1, nplus, lt_nI (by decide), nI_toInt (by omega)]; omega
  have c2 : (σ.1 52 4 + σ.1 52 22) < nI 12 ↔ hn + HL.length < 12 := by
    rw [h2, hB.2.1, nplus, lt_nI (by decide), nI_toInt (by omega)]; omega
  have sp : p < T → mZ n f T (p + 1) (hq_sI σ 52 16 (σ.1 52 16 + nI 1)) ∧ Fr [(52, 17)] σ (hq_sI σ 52 16 (σ.1 52 16 + nI 1)) := fun pT => by
    rw [h.2.2.2.1, nplus]
    exact ⟨h.step pT, (Fr.rf σ).sI rfl⟩
  unfold lR
  -- a hinge, or nothing
  have hin : ∀ (pd : ¬ (dn + DL.length < 8 ∧ isA f T p 100 = true)), ∃ τ, hq_c 186 (d + 11) [.ref 52] σ (some (.int (bI (if hn + HL.length < 12 ∧ isA f T p 104 = true then ((hR f T (p + 1)).1, (hR f T (p + 1)).2.1, DL, if (hR f T (p + 1)).1 then HL ++ [(hR f T (p + 1)).2.2] else HL) else ((false, p, DL, HL) : LR)).1))) τ ∧ mZ n f T (if hn + HL.length < 12 ∧ isA f T p 104 = true then ((hR f T (p + 1)).1, (hR f T (p + 1)).2.1, DL, if (hR f T (p + 1)).1 then HL ++ [(hR f T (p + 1)).2.2] else HL) else ((false, p, DL, HL) : LR)).2.1 τ ∧ ((if hn + HL.length < 12 ∧ isA f T p 104 = true then ((hR f T (p + 1)).1, (hR f T (p + 1)).2.1, DL, if (hR f T (p + 1)).1 then HL ++ [(hR f T (p + 1)).2.2] else HL) else ((false, p, DL, HL) : LR)).1 = true → mB (if hn + HL.length < 12 ∧ isA f T p 104 = true then ((hR f T (p + 1)).1, (hR f T (p + 1)).2.1, DL, if (hR f T (p + 1)).1 then HL ++ [(hR f T (p + 1)).2.2] else HL) else ((false, p, DL, HL) : LR)).2.2.1 (if hn + HL.length < 12 ∧ isA f T p 104 = true then ((hR f T (p + 1)).1, (hR f T (p + 1)).2.1, DL, if (hR f T (p + 1)).1 then HL ++ [(hR f T (p + 1)).2.2] else HL) else ((false, p, DL, HL) : LR)).2.2.2 τ) ∧ Fr [(52, 17), (52, 22), (52, 23), (63, 0), (64, 0)] σ τ := fun pd => by
    by_cases q : hn + HL.length < 12 ∧ isA f T p 104 = true
    · rw [if_pos q]
      have pT := (is_lt q.2).1
      obtain ⟨z1, f1⟩ := sp pT
      obtain ⟨σ2, k1, k2, k3, k4⟩ := m_readsHinge (d := d) (DL := DL) z1 (mB.dep.fr f1 (by decide) hB) (by omega)
      rw [q.2, if_pos rfl] at g9
      have fr : Fr [(52, 17), (52, 22), (52, 23), (63, 0), (64, 0)] σ σ2 := (f1.up (by decide)).tr (k4.up (by decide))
      refine ⟨σ2, ?_, k2, fun z => ?_, fr⟩
      · cases q0 : isA f T p 100 with
        | true =>
          have e1 := (is_lt q0).2
          have e2 := (is_lt q.2).2
          omega
        | false =>
          rw [q0] at g5
          exact p_X10_readsLine_0_5 g5 (by omega) (by decide) g9 rfl (c2.mpr q.1) k1 (bI01 _)
      · dsimp only
        have z : (hR f T (p + 1)).1 = true := z
        rw [if_pos z]
        exact k3 z
    · rw [if_neg q]
      refine ⟨σ, ?_, h, (fun z => by cases z), Fr.rf σ⟩
      cases q9 : isA f T p 104 with
      | true =>
        rw [q9, if_pos rfl] at g9
        have nq : ¬ hn + HL.length < 12 := fun z => q ⟨z, q9⟩
        cases q0 : isA f T p 100 with
        | true =>
          have e1 := (is_lt q0).2
          have e2 := (is_lt q9).2
          omega
        | false =>
          rw [q0] at g5
          exact p_X10_readsLine_0_6 g5 (by omega) (by decide) g9 rfl (fun z => nq (c2.mp z))
      | false =>
        rw [q9] at g9
        cases q0 : isA f T p 100 with
        | true =>
          rw [q0, if_pos rfl] at g5
          have nq : ¬ dn + DL.length < 8 := fun z => pd ⟨z, q0⟩
          exact p_X10_readsLine_0_4 g5 (by omega) rfl (fun z => nq (c1.mp z)) g9 (by decide)
        | false =>
          rw [q0] at g5
          exact p_X10_readsLine_0_7 g5 (by omega) (by decide) g9 (by decide)
  by_cases q1 : dn + DL.length < 8 ∧ isA f T p 100 = true
  · rw [if_pos q1]
    have pT := (is_lt q1.2).1
    obtain ⟨z1, f1⟩ := sp pT
    obtain ⟨σ2, k1, k2, k3, k4⟩ := m_readsDoor (d := d) (HL := HL) z1 (mB.dep.fr f1 (by decide) hB) (by omega)
    rw [q1.2, if_pos rfl] at g5
    refine ⟨σ2, p_X10_readsLine_0_1 g5 (by omega) rfl (c1.mpr q1.1) k1 (bI01 _), k2, fun z => ?_, (f1.up (by decide)).tr (k4.up (by decide))⟩
    dsimp only
    have z : (dR f T (p + 1)).1 = true := z
    rw [if_pos z]
    exact k3 z
  · rw [if_neg q1]
    exact hin q1
theorem lR_adv (hf : ∀ i, i < T → f i < 256) {dn hn p : Nat} {DL : List DI} {HL : List HI} (h : (lR f T dn hn p DL HL).1 = true) : p + 1 ≤ (lR f T dn hn p DL HL).2.1 := by
  unfold lR at h ⊢
  by_cases q1 : dn + DL.length < 8 ∧ isA f T p 100 = true
  · rw [if_pos q1] at h ⊢
    exact (dR_ok hf (p := p + 1) (by have := (is_lt q1.2).1; omega)).1
  · rw [if_neg q1] at h ⊢
    by_cases q2 : hn + HL.length < 12 ∧ isA f T p 104 = true
    · rw [if_pos q2] at h ⊢
      exact (hR_ok hf (p := p + 1) (by have := (is_lt q2.2).1; omega)).1
    · rw [if_neg q2] at h
      cases h
theorem m_linesL {dn hn : Nat} (hf : ∀ i, i < T → f i < 256) : ∀ m p DL HL σ, T ≤ p + m + 1 → mZ n f T p σ → mB DL HL σ → σ.1 52 3 = nI dn → σ.1 52 4 = nI hn → okDH dn hn DL HL → ∃ τ, (∀ v μ g, hq_m 187 (d + 12) v μ 21 [some (.ref 52), some (.int (nI n)), some (.int (bI (hsR f T dn hn (m + 1) p DL HL).1)), some (.int (nI 0)), none, none] [] τ → hq_m 187 (d + 12) v μ 21 [some (.ref 52), some (.int (nI n)), some (.int g), some (.int (nI 1)), none, none] [] σ) ∧ mZ n f T (hsR f T dn hn (m + 1) p DL HL).2.1 τ ∧ ((hsR f T dn hn (m + 1) p DL HL).1 = true → mB (hsR f T dn hn (m + 1) p DL HL).2.2.1 (hsR f T dn hn (m + 1) p DL HL).2.2.2 τ) ∧ Fr [(52, 17), (52, 22), (52, 23), (63, 0), (64, 0)] σ τ := by
  intro m
  induction m with
  | zero =>
    intro p DL HL σ hm h hB h1 h2 ok
    obtain ⟨σ1, g1, z1, b1, f1⟩ := m_readsLine (d := d) h hB h1 h2 ok
    have adv := lR_adv (dn := dn) (hn := hn) (p := p) (DL := DL) (HL := HL) hf
    have e1 : hsR f T dn hn (0 + 1) p DL HL = lR f T dn hn p DL HL := by
      show (if _ then _ else _) = _
      rw [if_neg]
      intro z
      have := (is_lt z.2).1
      have := adv z.1
      omega
    rw [e1]
    generalize lR f T dn hn p DL HL = l at g1 z1 b1 adv
    cases h3 : l.1 with
    | false =>
      rw [h3] at g1
      exact ⟨σ1, fun v μ g k => p_X10_house_21_3 (by decide) g1 rfl k, z1, (fun z => by cases z), f1⟩
    | true =>
      rw [h3] at g1
      have b1 := b1 h3
      obtain ⟨σ2, g3, z2, f2⟩ := m_takes (d := d + 9) z1 (w := 59) (by decide)
      have q2 : isA f T l.2.1 59 = false := by
        have := adv h3
        unfold isA
        simp
        omega
      rw [q2] at g3 z2
      exact ⟨σ2, fun v μ g k => p_X10_house_21_4 (by decide) g1 (by decide) g3 rfl k, z2, fun _ => mB.dep.fr f2 (by decide) b1, f1.tr (f2.up (by decide))⟩
  | succ m ih =>
    intro p DL HL σ hm h hB h1 h2 ok
    obtain ⟨σ1, g1, z1, b1, f1⟩ := m_readsLine (d := d) h hB h1 h2 ok
    obtain ⟨a1, a2, a3, a4⟩ := lR_ok hf h.2.2.1 ok
    have e1 : hsR f T dn hn (m + 1 + 1) p DL HL = if (lR f T dn hn p DL HL).1 = true ∧ isA f T (lR f T dn hn p DL HL).2.1 59 = true then hsR f T dn hn (m + 1) ((lR f T dn hn p DL HL).2.1 + 1) (lR f T dn hn p DL HL).2.2.1 (lR f T dn hn p DL HL).2.2.2 else lR f T dn hn p DL HL := rfl
    rw [e1]
    generalize lR f T dn hn p DL HL = l at g1 z1 b1 a1 a2 a3 a4
    cases h3 : l.1 with
    | false =>
      rw [h3] at g1
      rw [if_neg (fun z => by cases z.1), h3]
      exact ⟨σ1, fun v μ g k => p_X10_house_21_3 (by decide) g1 rfl k, z1, (fun z => by cases z), f1⟩
    | true =>
      rw [h3] at g1
      have b1 := b1 h3
      obtain ⟨σ2, g3, z2, f2⟩ := m_takes (d := d + 9) z1 (w := 59) (by decide)
      have F2 := f1.tr (f2.up (G := [(52, 17), (52, 22), (52, 23), (63, 0), (64, 0)]) (by decide))
      have B2 := mB.dep.fr f2 (by decide) b1
      cases q2 : isA f T l.2.1 59 with
      | false =>
        rw [q2] at g3 z2
        rw [if_neg (fun z => by cases z.2), h3]
        exact ⟨σ2, fun v μ g k => p_X10_house_21_4 (by decide) g1 (by decide) g3 rfl k, z2, fun _ => B2, F2⟩
      | true =>
        rw [q2] at g3 z2
        rw [if_pos ⟨rfl, rfl⟩]
        obtain ⟨τ, k1, k2, k3, k4⟩ := ih (l.2.1 + 1) l.2.2.1 l.2.2.2 σ2 (by omega) z2 B2 ((F2.i rfl).trans h1) ((F2.i rfl).trans h2) a3
        exact ⟨τ, fun v μ g k => p_X10_house_21_5 (by decide) g1 (by decide) g3 (by decide) (k1 v μ _ k), k2, k3, F2.tr k4⟩
end HN
