/-! house: the reference reads -/
section HM
variable {d n T : Nat} {f : Nat → Nat} {σ : hq_St}
theorem sub48 {a : Nat} (h : a < 256) : (nI a - nI 48).toInt = (a : Int) - 48 := by
  rw [Int32.toInt_sub, nI_toInt (by omega), nI_toInt (by omega)]
  exact Int.bmod_eq_of_le (by omega) (by omega)
theorem m_readsDoor {p : Nat} {DL : List DI} {HL : List HI} (h : mZ n f T p σ) (hB : mB DL HL σ) (hl : DL.length < 8) : ∃ τ, hq_c 184 (d + 10) [.ref 52] σ (some (.int (bI (dR f T p).1))) τ ∧ mZ n f T (dR f T p).2.1 τ ∧ ((dR f T p).1 = true → mB (DL ++ [(dR f T p).2.2]) HL τ) ∧ Fr [(52, 17), (52, 22), (63, 0)] σ τ := by
  have hf := h.hf
  have eb : nI 4 * σ.1 52 21 = nI (4 * DL.length) := by rw [hB.1, nmul]
  have st : ∀ v τ, hq_m 184 (d + 10) v τ 7 [some (.ref 52), some (.int (nI (4 * DL.length))), some (.int (nI 0)), none, none] [] σ → hq_c 184 (d + 10) [.ref 52] σ v τ := fun v τ k => by
    refine p_X10_readsDoor_0_1 ?_
    rw [eb]; exact k
  have c70 : ∀ (ρ : hq_St) (w : Nat) v τ, w < 4 → w ≠ 1 → hq_m 184 (d + 10) v τ 32 [some (.ref 52), some (.int (nI (4 * DL.length))), some (.int (nI w)), none, none] [] ρ → hq_m 184 (d + 10) v τ 7 [some (.ref 52), some (.int (nI (4 * DL.length))), some (.int (nI w)), none, none] [] ρ := fun ρ w v τ hw h1 k => p_X10_readsDoor_7_15 (nlt hw (by decide)) (by rw [nI_eq (by omega) (by omega)]; exact h1) k
  obtain ⟨σ1, g1, z1, f1⟩ := m_takesOf (d := d + 8) h (j := 6) (by decide) (by decide) (by omega)
  rw [ix_6 hf p] at g1 z1
  unfold dR
  cases q1 : dgA f T p 0 7 with
  | false =>
    rw [q1] at g1 z1
    rw [if_neg (by decide)] at g1 z1
    rw [if_neg (by decide)]
    exact ⟨σ1, st _ _ (c70 σ 0 _ _ (by decide) (by decide) (p_X10_readsDoor_32_1 rfl (by decide) g1 (by decide))), z1, (fun z => by cases z), f1.up (by decide)⟩
  | true =>
    rw [q1] at g1 z1
    have d1 := dg_lt q1
    rw [if_pos rfl] at g1 z1
    rw [if_pos rfl]
    rw [show decide (f p - 47 ≠ 0) = true by simp; omega] at z1
    have z1 : mZ n f T (p + 1) σ1 := z1
    rw [pk_sub (by omega), show f p - 47 - 1 = f p - 48 by omega] at g1
    have i1 : nI (4 * DL.length) + nI 0 = nI (4 * DL.length) := nplus _ _
    have n1 : ¬ nI (f p - 48) < 0 := by rw [ltz, nI_toInt (by omega)]; omega
    have f2 : Fr [(63, 0)] σ1 (hq_sI σ1 63 (4 * DL.length) (nI (f p - 48))) := (Fr.rf σ1).sI rfl
    have z2 := mZ.dep.fr f2 (by decide) z1
    have v2 : (hq_sI σ1 63 (4 * DL.length) (nI (f p - 48))).1 63 (4 * DL.length) = nI (f p - 48) := sI_eq
    have fo2 : ∀ i, i < 4 * DL.length → (hq_sI σ1 63 (4 * DL.length) (nI (f p - 48))).1 63 i = σ.1 63 i := fun i hi => by rw [sI_slot (by omega), f1.i rfl]
    have F2 : Fr [(52, 17), (52, 22), (63, 0)] σ (hq_sI σ1 63 (4 * DL.length) (nI (f p - 48))) := (f1.up (by decide)).tr (f2.up (by decide))
    have s1 : ∀ v τ, hq_m 184 (d + 10) v τ 7 [some (.ref 52), some (.int (nI (4 * DL.length))), some (.int (nI 1)), none, none] [] (hq_sI σ1 63 (4 * DL.length) (nI (f p - 48))) → hq_c 184 (d + 10) [.ref 52] σ v τ := fun v τ k => by
      refine st _ _ (c70 σ 0 _ _ (by decide) (by decide) (p_X10_readsDoor_32_3 rfl (by decide) g1 n1 (by decide) (m_flag (d := d + 8) false) (by rw [i1]; exact vin (by omega) (by decide)) ?_))
      rw [i1, clamp (by omega), show bI false = nI 0 from rfl, nplus, nplus]
      exact k
    generalize hq_sI σ1 63 (4 * DL.length) (nI (f p - 48)) = σ2 at f2 z2 v2 fo2 F2 s1
    have c4 : nI (4 * DL.length) = nI (4 * DL.length) := rfl
    have cl : (nI (4 * DL.length)).toNatClampNeg = 4 * DL.length := clamp (by omega)
    have e16 := z2.2.2.2.1
    have e17 := z2.2.2.2.2
    have T80 : T ≤ 80 := by have := h.1.1; have := h.2.1; omega
    cases q2 : isA f T (p + 1) (f p) with
    | true =>
      have i2 := is_lt q2
      rw [if_pos rfl]
      refine ⟨σ2, s1 _ _ (p_X10_readsDoor_7_10 (by decide) rfl (by rw [e16, e17]; exact nlt i2.1 (by omega)) (vin (by omega) (by decide)) (by rw [e16]; exact vin (by omega) (by decide)) ?_ (by decide) (by decide)), z2, (fun z => by cases z), F2⟩
      rw [e16, clamp (by omega), (z2.ch i2.1).2, cl, v2, i2.2, pk_sub (by omega)]
    | false =>
      rw [if_neg (by decide)]
      have go32 : ∀ v τ, hq_m 184 (d + 10) v τ 32 [some (.ref 52), some (.int (nI (4 * DL.length))), some (.int (nI 1)), none, none] [] σ2 → hq_m 184 (d + 10) v τ 7 [some (.ref 52), some (.int (nI (4 * DL.length))), some (.int (nI 1)), none, none] [] σ2 := fun v τ k => by
        by_cases pT : p + 1 < T
        · refine p_X10_readsDoor_7_13 (by decide) rfl (by rw [e16, e17]; exact nlt pT (by omega)) (vin (by omega) (by decide)) (by rw [e16]; exact vin (by omega) (by decide)) ?_ k
          have h256 := (z2.ch pT).1
          rw [e16, clamp (by omega), (z2.ch pT).2, cl, v2, fa_eq, sub48 h256, nI_toInt (by omega)]
          intro z
          unfold isA at q2
          simp [pT] at q2
          omega
        · exact p_X10_readsDoor_7_14 (by decide) rfl (by rw [e16, e17]; exact nI_nlt (by omega) (by omega)) k
      obtain ⟨σ3, g3, z3, f3⟩ := m_takesOf (d := d + 8) z2 (j := 6) (by decide) (by decide) (by omega)
      rw [ix_6 hf (p + 1)] at g3 z3
      cases q3 : dgA f T (p + 1) 0 7 with
      | false =>
        rw [q3] at g3 z3
        rw [if_neg (by decide)] at g3 z3
        rw [if_neg (by decide)]
        exact ⟨σ3, s1 _ _ (go32 _ _ (p_X10_readsDoor_32_1 rfl (by decide) g3 (by decide))), z3, (fun z => by cases z), F2.tr (f3.up (by decide))⟩
      | true =>
        rw [q3] at g3 z3
        have d3 := dg_lt q3
        rw [if_pos rfl] at g3 z3
        rw [if_pos rfl]
        rw [show decide (f (p + 1) - 47 ≠ 0) = true by simp; omega] at z3
        have z3 : mZ n f T (p + 2) σ3 := z3
        rw [pk_sub (by omega), show f (p + 1) - 47 - 1 = f (p + 1) - 48 by omega] at g3
        have i3 : nI (4 * DL.length) + nI 1 = nI (4 * DL.length + 1) := nplus _ _
        have n3 : ¬ nI (f (p + 1) - 48) < 0 := by rw [ltz, nI_toInt (by omega)]; omega
        have f4 : Fr [(63, 0)] σ3 (hq_sI σ3 63 (4 * DL.length + 1) (nI (f (p + 1) - 48))) := (Fr.rf σ3).sI rfl
        have z4 := mZ.dep.fr f4 (by decide) z3
        have v4 : (hq_sI σ3 63 (4 * DL.length + 1) (nI (f (p + 1) - 48))).1 63 (4 * DL.length + 1) = nI (f (p + 1) - 48) := sI_eq
        have v4a : (hq_sI σ3 63 (4 * DL.length + 1) (nI (f (p + 1) - 48))).1 63 (4 * DL.length) = nI (f p - 48) := by rw [sI_slot (by omega), f3.i rfl]; exact v2
        have F4 := F2.tr ((f3.up (G := [(52, 17), (52, 22), (63, 0)]) (by decide)).tr (f4.up (by decide)))
        have fo4 : ∀ i, i < 4 * DL.length → (hq_sI σ3 63 (4 * DL.length + 1) (nI (f (p + 1) - 48))).1 63 i = σ2.1 63 i := fun i hi => by rw [sI_slot (by omega), f3.i rfl]
        have s3 : ∀ v τ, hq_m 184 (d + 10) v τ 7 [some (.ref 52), some (.int (nI (4 * DL.length))), some (.int (nI 2)), none, none] [] (hq_sI σ3 63 (4 * DL.length + 1) (nI (f (p + 1) - 48))) → hq_c 184 (d + 10) [.ref 52] σ v τ := fun v τ k => by
          refine s1 _ _ (go32 _ _ (p_X10_readsDoor_32_3 rfl (by decide) g3 n3 (by decide) (m_flag (d := d + 8) false) (by rw [i3]; exact vin (by omega) (by decide)) ?_))
          rw [i3, clamp (by omega), show bI false = nI 0 from rfl, nplus, nplus]
          exact k
        generalize hq_sI σ3 63 (4 * DL.length + 1) (nI (f (p + 1) - 48)) = σ4 at f4 z4 v4 v4a F4 fo4 s3
        obtain ⟨σ5, g5, z5, f5⟩ := m_takesOf (d := d + 8) z4 (j := 7) (by decide) (by decide) (by omega)
        have i2 : ixA f T (p + 2) 7 ≤ 2 := by
          rw [ix_7 hf (p + 2)]
          split
          · decide
          · split <;> decide
        by_cases q4 : ixA f T (p + 2) 7 ≠ 0
        · rw [if_pos q4]
          rw [show decide (ixA f T (p + 2) 7 ≠ 0) = true by simp [q4]] at z5
          have z5 : mZ n f T (p + 3) σ5 := z5
          have pT := ixA_pos q4
          rw [pk_sub (by omega)] at g5
          have i5 : nI (4 * DL.length) + nI 2 = nI (4 * DL.length + 2) := nplus _ _
          have n5 : ¬ nI (ixA f T (p + 2) 7 - 1) < 0 := by rw [ltz, nI_toInt (by omega)]; omega
          have f6 : Fr [(63, 0)] σ5 (hq_sI σ5 63 (4 * DL.length + 2) (nI (ixA f T (p + 2) 7 - 1))) := (Fr.rf σ5).sI rfl
          have z6 := mZ.dep.fr f6 (by decide) z5
          have v6 : (hq_sI σ5 63 (4 * DL.length + 2) (nI (ixA f T (p + 2) 7 - 1))).1 63 (4 * DL.length + 2) = nI (ixA f T (p + 2) 7 - 1) := sI_eq
          have fo6 : ∀ i, i < 4 * DL.length + 2 → (hq_sI σ5 63 (4 * DL.length + 2) (nI (ixA f T (p + 2) 7 - 1))).1 63 i = σ4.1 63 i := fun i hi => by rw [sI_slot (by omega), f5.i rfl]
          have F6 := F4.tr ((f5.up (G := [(52, 17), (52, 22), (63, 0)]) (by decide)).tr (f6.up (by decide)))
          have s5 : ∀ v τ, hq_m 184 (d + 10) v τ 7 [some (.ref 52), some (.int (nI (4 * DL.length))), some (.int (nI 3)), none, none] [] (hq_sI σ5 63 (4 * DL.length + 2) (nI (ixA f T (p + 2) 7 - 1))) → hq_c 184 (d + 10) [.ref 52] σ v τ := fun v τ k => by
            refine s3 _ _ (c70 σ4 2 _ _ (by decide) (by decide) (p_X10_readsDoor_32_6 rfl (by decide) rfl g5 n5 (by decide) (m_flag (d := d + 8) false) (by rw [i5]; exact vin (by omega) (by decide)) ?_))
            rw [i5, clamp (by omega), show bI false = nI 0 from rfl, nplus, nplus]
            exact k
          generalize hq_sI σ5 63 (4 * DL.length + 2) (nI (ixA f T (p + 2) 7 - 1)) = σ6 at f6 z6 v6 fo6 F6 s5
          obtain ⟨σ7, g7, z7, f7⟩ := m_takesOf (d := d + 8) z6 (j := 8) (by decide) (by decide) (by omega)
          rw [ix_8 hf (p + 3)] at g7 z7
          cases q5 : dgA f T (p + 3) 1 9 with
          | false =>
            rw [q5] at g7 z7
            rw [if_neg (by decide)] at g7 z7
            rw [if_neg (by decide)]
            exact ⟨σ7, s5 _ _ (c70 σ6 3 _ _ (by decide) (by decide) (p_X10_readsDoor_32_7 rfl (by decide) (by decide) g7 (by decide))), z7, (fun z => by cases z), F6.tr (f7.up (by decide))⟩
          | true =>
            rw [q5] at g7 z7
            have d5 := dg_lt q5
            rw [if_pos rfl] at g7 z7
            rw [if_pos rfl]
            rw [show decide (f (p + 3) - 48 ≠ 0) = true by simp; omega] at z7
            have z7 : mZ n f T (p + 4) σ7 := z7
            rw [pk_sub (by omega)] at g7
            have i7 : nI (4 * DL.length) + nI 3 = nI (4 * DL.length + 3) := nplus _ _
            have n7 : ¬ nI (f (p + 3) - 48 - 1) < 0 := by rw [ltz, nI_toInt (by omega)]; omega
            have f8 : Fr [(63, 0)] σ7 (hq_sI σ7 63 (4 * DL.length + 3) (nI (f (p + 3) - 48))) := (Fr.rf σ7).sI rfl
            have e21 : (hq_sI σ7 63 (4 * DL.length + 3) (nI (f (p + 3) - 48))).1 52 21 = nI DL.length := by
              rw [sI_ne (by decide), f7.i rfl, f6.i rfl, f5.i rfl, f4.i rfl, f3.i rfl, f2.i rfl, f1.i rfl]; exact hB.1
            have f9 : Fr [(52, 22), (63, 0)] σ7 (hq_sI (hq_sI σ7 63 (4 * DL.length + 3) (nI (f (p + 3) - 48))) 52 21 (nI (DL.length + 1))) := ((Fr.rf σ7).sI rfl).sI rfl
            refine ⟨_, s5 _ _ (c70 σ6 3 _ _ (by decide) (by decide) (p_X10_readsDoor_32_8 rfl (by decide) (by decide) g7 n7 rfl (m_flag (d := d + 8) true) (by rw [i7]; exact vin (by omega) (by decide)) ?_)), mZ.dep.fr f9 (by decide) z7, fun _ => ⟨?_, ?_, fun j t hj => ?_, fun j t hj => ?_⟩, F6.tr ((f7.up (by decide)).tr (f9.up (by decide)))⟩
            · rw [i7, clamp (by omega), show bI true = nI 1 from rfl, nplus, nplus, show f (p + 3) - 48 - 1 + 1 = f (p + 3) - 48 by omega]
              have P := p_X10_readsDoor_7_16 (d := d + 9) (σ := hq_sI σ7 63 (4 * DL.length + 3) (nI (f (p + 3) - 48))) (l1 := nI (4 * DL.length)) (l2 := nI 4) (by decide)
              rw [e21, nplus] at P
              exact P
            · rw [sI_eq]; simp
            · rw [sI_slot (by decide), sI_ne (by decide), f7.i rfl, f6.i rfl, f5.i rfl, f4.i rfl, f3.i rfl, f2.i rfl, f1.i rfl]; exact hB.2.1
            · have base : ∀ i, i < 4 * DL.length → (hq_sI (hq_sI σ7 63 (4 * DL.length + 3) (nI (f (p + 3) - 48))) 52 21 (nI (DL.length + 1))).1 63 i = σ.1 63 i := fun i hi => by
                rw [sI_ne (by decide), sI_slot (by omega), f7.i rfl, fo6 i (by omega), fo4 i hi]
                exact fo2 i hi
              rw [List.getElem?_append] at hj
              split at hj
              · rename_i hlt
                obtain ⟨a1, a2, a3, a4⟩ := hB.2.2.1 j t hj
                exact ⟨(base _ (by omega)).trans a1, (base _ (by omega)).trans a2, (base _ (by omega)).trans a3, (base _ (by omega)).trans a4⟩
              · by_cases y : j = DL.length
                · subst y
                  simp at hj
                  rw [← hj]
                  refine ⟨?_, ?_, ?_, ?_⟩
                  · rw [sI_ne (by decide), sI_slot (by omega), f7.i rfl, fo6 _ (by omega)]; exact v4a
                  · rw [sI_ne (by decide), sI_slot (by omega), f7.i rfl, fo6 _ (by omega)]; exact v4
                  · rw [sI_ne (by decide), sI_slot (by omega), f7.i rfl]; exact v6
                  · rw [sI_ne (by decide), sI_eq]
                · rw [List.getElem?_eq_none (by simp; omega)] at hj; cases hj
            · have FF := F6.tr ((f7.up (G := [(52, 17), (52, 22), (63, 0)]) (by decide)).tr (f9.up (by decide)))
              obtain ⟨a1, a2, a3⟩ := hB.2.2.2 j t hj
              exact ⟨(FF.i rfl).trans a1, (FF.i rfl).trans a2, (FF.i rfl).trans a3⟩
        · rw [if_neg q4]
          have q4' : ixA f T (p + 2) 7 = 0 := by simpa using q4
          rw [q4'] at g5 z5
          exact ⟨σ5, s3 _ _ (c70 σ4 2 _ _ (by decide) (by decide) (p_X10_readsDoor_32_4 rfl (by decide) rfl g5 (by decide))), z5, (fun z => by cases z), F4.tr (f5.up (by decide))⟩
end HM
