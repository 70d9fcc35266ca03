/-! house: the class reads -/
theorem encD : ∀ a, a < 8 → ∀ b, b < 8 → ∀ h, h < 2 → ∀ w, w < 10 → (((nI a <<< (nI 12 &&& 31)) ||| (nI b <<< (nI 8 &&& 31))) ||| (nI h <<< (nI 4 &&& 31))) ||| nI w = nI (4096 * a + 256 * b + 16 * h + w) := by decide +kernel
theorem encH : ∀ h, h < 3 → ∀ s, s < 10 → ∀ w, w < 10 → ((nI h <<< (nI 8 &&& 31)) ||| (nI s <<< (nI 4 &&& 31))) ||| nI w = nI (256 * h + 16 * s + w) := by decide +kernel
theorem nm1 {k : Nat} (h : k < 4096) : ¬ nI k = (-1 : Int32) := by
  rw [fa_eq, nI_toInt (by omega)]
  have : (-1 : Int32).toInt = -1 := rfl
  omega
section HC
variable {d n T : Nat} {f : Nat → Nat} {σ : hq_St}
theorem cZ.hf {p : Nat} (h : cZ n f T p σ) : ∀ i, i < T → f i < 256 := fun i hi => (h.1.2.2 i (by have := h.2.1; omega)).1
theorem mZ.hf {p : Nat} (h : mZ n f T p σ) : ∀ i, i < T → f i < 256 := fun i hi => (h.1.2 i (by have := h.2.1; omega)).1
theorem s_readHand {p : Nat} (h : cZ n f T p σ) : hq_c 5 (d + 2) [.ref 1] σ (some (.int (nI (ixA f T p 10) - nI 1))) σ := by
  have g := s_peek (d := d) h
  rw [ix_10 h.hf p]
  have k := fun (w : Nat) (hw : w < 256) => pkA_eq h (w := w) hw
  cases q1 : isA f T p 98 with
  | true =>
    have e := is_lt q1
    have a1 : isA f T p 108 = false := by unfold isA; simp; omega
    have a2 : isA f T p 114 = false := by unfold isA; simp; omega
    rw [a1, a2, if_neg (by decide), if_neg (by decide), if_pos rfl]
    exact p_X0_readHand_0_1 g ((k 98 (by decide)).mpr q1)
  | false =>
    have n1 : ¬ pkA f T p = nI 98 := fun z => by rw [(k 98 (by decide)).mp z] at q1; cases q1
    cases q2 : isA f T p 108 with
    | true =>
      rw [if_pos rfl]
      exact p_X0_readHand_0_2 g n1 ((k 108 (by decide)).mpr q2)
    | false =>
      have n2 : ¬ pkA f T p = nI 108 := fun z => by rw [(k 108 (by decide)).mp z] at q2; cases q2
      rw [if_neg (by decide)]
      cases q3 : isA f T p 114 with
      | true =>
        rw [if_pos rfl]
        exact p_X0_readHand_0_3 g n1 n2 ((k 114 (by decide)).mpr q3)
      | false =>
        have n3 : ¬ pkA f T p = nI 114 := fun z => by rw [(k 114 (by decide)).mp z] at q3; cases q3
        rw [if_neg (by decide), if_neg (by decide)]
        exact p_X0_readHand_0_4 g n1 n2 n3
theorem s_readDoor {p : Nat} {DL : List DI} {HL : List HI} (h : cZ n f T p σ) (hB : cB DL HL σ) (hl : DL.length < 8) : ∃ τ, hq_c 3 (d + 3) [.ref 28, .ref 1] σ (some (.int (bI (dR f T p).1))) τ ∧ cZ n f T (dR f T p).2.1 τ ∧ cB (if (dR f T p).1 then DL ++ [(dR f T p).2.2] else DL) HL τ ∧ Fr [(1, 3), (28, 3), (29, 0)] σ τ := by
  have hf := h.hf
  obtain ⟨σ1, g1, z1, f1⟩ := s_digit (d := d) h (lo := 0) (hi := 7) (by decide) (by decide)
  unfold dR
  cases q1 : dgA f T p 0 7 with
  | false =>
    rw [q1] at g1 z1
    rw [if_neg (by decide)]
    exact ⟨σ1, p_X0_readDoor_0_1 g1 rfl, z1, cB.dep.fr f1 (by decide) hB, f1.up (by decide)⟩
  | true =>
    rw [q1] at g1 z1
    rw [if_pos rfl] at g1
    rw [if_pos rfl]
    have z1 : cZ n f T (p + 1) σ1 := z1
    have d1 := dg_lt q1
    have B1 := cB.dep.fr f1 (by decide) hB
    have g2 := s_peek (d := d + 1) z1
    have n1 := nm1 (k := f p - 48) (by omega)
    have e48 : nI 48 + nI (f p - 48) = nI (f p) := by rw [nplus]; exact congrArg nI (by omega)
    cases q2 : isA f T (p + 1) (f p) with
    | true =>
      rw [if_pos rfl]
      exact ⟨σ1, p_X0_readDoor_0_2 g1 n1 g2 (by rw [e48]; exact (pkA_eq z1 (by omega)).mpr q2), z1, B1, f1.up (by decide)⟩
    | false =>
      rw [if_neg (by decide)]
      have n2 : ¬ pkA f T (p + 1) = nI 48 + nI (f p - 48) := by
        rw [e48]
        exact fun z => by rw [(pkA_eq z1 (by omega)).mp z] at q2; cases q2
      obtain ⟨σ2, g3, z2, f2⟩ := s_digit (d := d) z1 (lo := 0) (hi := 7) (by decide) (by decide)
      have B2 := cB.dep.fr f2 (by decide) B1
      have F2 := (f1.tr f2).up (G := [(1, 3), (28, 3), (29, 0)]) (by decide)
      cases q3 : dgA f T (p + 1) 0 7 with
      | false =>
        rw [q3] at g3 z2
        rw [if_neg (by decide)]
        exact ⟨σ2, p_X0_readDoor_0_3 g1 n1 g2 n2 g3 rfl, z2, B2, F2⟩
      | true =>
        rw [q3] at g3 z2
        rw [if_pos rfl] at g3
        rw [if_pos rfl]
        have z2 : cZ n f T (p + 2) σ2 := z2
        have d3 := dg_lt q3
        have n3 := nm1 (k := f (p + 1) - 48) (by omega)
        have g4 := s_readHand (d := d) z2
        have i7 := ix_7 hf (p + 2)
        have i10 := ix_10 hf (p + 2)
        by_cases q4 : ixA f T (p + 2) 7 ≠ 0
        · rw [if_pos q4]
          have e710 : ixA f T (p + 2) 10 = ixA f T (p + 2) 7 := by
            rw [i7] at q4
            rw [i7, i10]
            cases a0 : isA f T (p + 2) 108 with
            | true => rfl
            | false =>
              cases a : isA f T (p + 2) 114 with
              | true => rfl
              | false => rw [a0, a] at q4; exact absurd rfl q4
          have i2 : ixA f T (p + 2) 7 ≤ 2 := by
            rw [i7]
            split
            · decide
            · split <;> decide
          rw [e710, pk_sub (by omega)] at g4
          have pT := ixA_pos q4
          have n4 := nm1 (k := ixA f T (p + 2) 7 - 1) (by omega)
          have n5 : ¬ nI (ixA f T (p + 2) 7 - 1) = nI 2 := by rw [nI_eq (by omega) (by omega)]; omega
          obtain ⟨z3, f3⟩ := z2.sp pT
          obtain ⟨σ4, g5, z4, f4⟩ := s_digit (d := d) z3 (lo := 1) (hi := 9) (by decide) (by decide)
          have B4 := cB.dep.fr f4 (by decide) (cB.dep.fr f3 (by decide) B2)
          have F4 := F2.tr ((f3.tr f4).up (G := [(1, 3), (28, 3), (29, 0)]) (by decide))
          cases q5 : dgA f T (p + 3) 1 9 with
          | false =>
            rw [q5] at g5 z4
            rw [if_neg (by decide)]
            exact ⟨σ4, p_X0_readDoor_0_6 g1 n1 g2 n2 g3 n3 g4 n4 n5 g5 rfl, z4, B4, F4⟩
          | true =>
            rw [q5] at g5 z4
            rw [if_pos rfl] at g5
            rw [if_pos rfl]
            have d5 := dg_lt q5
            have n6 := nm1 (k := f (p + 3) - 48) (by omega)
            have ev := encD (f p - 48) (by omega) (f (p + 1) - 48) (by omega) (ixA f T (p + 2) 7 - 1) (by omega) (f (p + 3) - 48) (by omega)
            have P := p_X0_readDoor_0_7 g1 n1 g2 n2 g3 n3 g4 n4 n5 g5 n6 (by rw [B4.1]; exact vin hl (by decide)) rfl
            rw [B4.1, clamp (by omega), ev, sI_ne (by decide), B4.1, nplus] at P
            refine ⟨_, P, ?_, ⟨?_, ?_, fun j t hj => ?_, fun j t hj => ?_⟩, (F4.sI rfl).sI rfl⟩
            · exact cZ.dep.fr (G := [(28, 3), (29, 0)]) (((Fr.rf σ4).sI rfl).sI rfl) (by decide) z4
            · rw [sI_eq]; simp
            · rw [sI_slot (by decide), sI_ne (by decide)]; exact B4.2.1
            · rw [sI_ne (by decide), sI_at, if_pos rfl]
              dsimp only at hj
              rw [if_pos rfl, List.getElem?_append] at hj
              split at hj
              · rw [if_neg (by omega)]; exact B4.2.2.1 j t hj
              · by_cases y : j = DL.length
                · subst y
                  rw [if_pos rfl]
                  simp at hj
                  rw [← hj]; rfl
                · rw [List.getElem?_eq_none (by simp; omega)] at hj; cases hj
            · rw [sI_ne (by decide), sI_ne (by decide)]; exact B4.2.2.2 j t hj
        · rw [if_neg q4]
          have q4' : ixA f T (p + 2) 7 = 0 := by simpa using q4
          have B2' : cB (if (false, p + 2, ((0, 0, 0, 0) : DI)).1 then DL ++ [(false, p + 2, ((0, 0, 0, 0) : DI)).2.2] else DL) HL σ2 := B2
          cases q6 : isA f T (p + 2) 98 with
          | true =>
            have e3 : ixA f T (p + 2) 10 = 3 := by
              rw [i10]
              rw [i7] at q4'
              cases a : isA f T (p + 2) 108 with
              | true => rw [a] at q4'; cases q4'
              | false =>
                cases b : isA f T (p + 2) 114 with
                | true => rw [a, b] at q4'; cases q4'
                | false => rw [q6]; rfl
            rw [e3] at g4
            exact ⟨σ2, p_X0_readDoor_0_5 g1 n1 g2 n2 g3 n3 g4 (by decide) (by decide), z2, B2', F2⟩
          | false =>
            have e0 : ixA f T (p + 2) 10 = 0 := by
              rw [i10]
              rw [i7] at q4'
              cases a : isA f T (p + 2) 108 with
              | true => rw [a] at q4'; cases q4'
              | false =>
                cases b : isA f T (p + 2) 114 with
                | true => rw [a, b] at q4'; cases q4'
                | false => rw [q6]; rfl
            rw [e0] at g4
            exact ⟨σ2, p_X0_readDoor_0_4 g1 n1 g2 n2 g3 n3 g4 (by decide), z2, B2', F2⟩
theorem cB.addH {DL : List DI} {HL : List HI} {t : HI} (hB : cB DL HL σ) (hl : HL.length < 12) : cB DL (HL ++ [t]) (hq_sI (hq_sI σ 30 HL.length (nI (pkH t))) 28 3 (nI (HL.length + 1))) := by
  refine ⟨?_, ?_, fun j u hj => ?_, fun j u hj => ?_⟩
  · rw [sI_slot (by decide), sI_ne (by decide)]; exact hB.1
  · rw [sI_eq]; simp
  · rw [sI_ne (by decide), sI_ne (by decide)]; exact hB.2.2.1 j u hj
  · rw [sI_ne (by decide), sI_at, if_pos rfl]
    rw [List.getElem?_append] at hj
    split at hj
    · rw [if_neg (by omega)]; exact hB.2.2.2 j u hj
    · by_cases y : j = HL.length
      · subst y
        rw [if_pos rfl]
        simp at hj
        rw [hj]
      · rw [List.getElem?_eq_none (by simp; omega)] at hj; cases hj
theorem s_readHinge {p : Nat} {DL : List DI} {HL : List HI} (h : cZ n f T p σ) (hB : cB DL HL σ) (hl : HL.length < 12) : ∃ τ, hq_c 4 (d + 3) [.ref 28, .ref 1] σ (some (.int (bI (hR f T p).1))) τ ∧ cZ n f T (hR f T p).2.1 τ ∧ cB DL (if (hR f T p).1 then HL ++ [(hR f T p).2.2] else HL) τ ∧ Fr [(1, 3), (28, 4), (30, 0)] σ τ := by
  have hf := h.hf
  have g1 := s_readHand (d := d) h
  have i10 := ix_10 hf p
  have i3 : ixA f T p 10 ≤ 3 := by
    rw [i10]
    split
    · decide
    · split
      · decide
      · split <;> decide
  unfold hR
  by_cases q1 : ixA f T p 10 ≠ 0
  · rw [if_pos q1]
    have pT := ixA_pos q1
    rw [pk_sub (by omega)] at g1
    have n1 := nm1 (k := ixA f T p 10 - 1) (by omega)
    obtain ⟨z1, f1⟩ := h.sp pT
    obtain ⟨σ2, g2, z2, f2⟩ := s_digit (d := d) z1 (lo := 1) (hi := 9) (by decide) (by decide)
    have B2 := cB.dep.fr f2 (by decide) (cB.dep.fr f1 (by decide) hB)
    have F2 := (f1.tr f2).up (G := [(1, 3), (28, 4), (30, 0)]) (by decide)
    cases q2 : dgA f T (p + 1) 1 9 with
    | false =>
      rw [q2] at g2 z2
      rw [if_neg (by decide)]
      exact ⟨σ2, p_X0_readHinge_0_2 g1 n1 g2 rfl, z2, B2, F2⟩
    | true =>
      rw [q2] at g2 z2
      rw [if_pos rfl] at g2
      rw [if_pos rfl]
      have z2 : cZ n f T (p + 2) σ2 := z2
      have d2 := dg_lt q2
      have n2 := nm1 (k := f (p + 1) - 48) (by omega)
      obtain ⟨σ3, g3, z3, f3⟩ := s_eat (d := d) z2 (w := 42) (by decide)
      have B3 := cB.dep.fr f3 (by decide) B2
      have F3 := F2.tr (f3.up (G := [(1, 3), (28, 4), (30, 0)]) (by decide))
      cases q3 : isA f T (p + 2) 42 with
      | false =>
        rw [q3] at g3 z3
        rw [if_neg (by decide)]
        have ev := encH (ixA f T p 10 - 1) (by omega) (f (p + 1) - 48) (by omega) 1 (by omega)
        have P := p_X0_readHinge_0_4 g1 n1 g2 n2 g3 rfl (by decide) (by rw [B3.2.1]; exact vin hl (by decide)) rfl
        rw [B3.2.1, clamp (by omega), ev, sI_ne (by decide), B3.2.1, nplus] at P
        exact ⟨_, P, cZ.dep.fr (G := [(28, 4), (30, 0)]) (((Fr.rf σ3).sI rfl).sI rfl) (by decide) z3, B3.addH (t := (ixA f T p 10 - 1, f (p + 1) - 48, 1)) hl, (F3.sI rfl).sI rfl⟩
      | true =>
        rw [q3] at g3 z3
        rw [if_pos rfl]
        have z3 : cZ n f T (p + 3) σ3 := z3
        obtain ⟨σ4, g4, z4, f4⟩ := s_digit (d := d) z3 (lo := 0) (hi := 9) (by decide) (by decide)
        have B4 := cB.dep.fr f4 (by decide) B3
        have F4 := F3.tr (f4.up (G := [(1, 3), (28, 4), (30, 0)]) (by decide))
        cases q4 : dgA f T (p + 3) 0 9 with
        | false =>
          rw [q4] at g4 z4
          rw [if_neg (by decide)]
          exact ⟨σ4, p_X0_readHinge_0_5 g1 n1 g2 n2 g3 (by decide) g4 rfl, z4, B4, F4⟩
        | true =>
          rw [q4] at g4 z4
          rw [if_pos rfl] at g4
          rw [if_pos rfl]
          have d4 := dg_lt q4
          have n4 := nm1 (k := f (p + 3) - 48) (by omega)
          have ev := encH (ixA f T p 10 - 1) (by omega) (f (p + 1) - 48) (by omega) (f (p + 3) - 48) (by omega)
          have P := p_X0_readHinge_0_6 g1 n1 g2 n2 g3 (by decide) g4 n4 (by rw [B4.2.1]; exact vin hl (by decide)) rfl
          rw [B4.2.1, clamp (by omega), ev, sI_ne (by decide), B4.2.1, nplus] at P
          exact ⟨_, P, cZ.dep.fr (G := [(28, 4), (30, 0)]) (((Fr.rf σ4).sI rfl).sI rfl) (by decide) z4, B4.addH (t := (ixA f T p 10 - 1, f (p + 1) - 48, f (p + 3) - 48)) hl, (F4.sI rfl).sI rfl⟩
  · rw [if_neg q1]
    have q1' : ixA f T p 10 = 0 := by simpa using q1
    rw [q1'] at g1
    exact ⟨σ, p_X0_readHinge_0_1 g1 (by decide), h, hB, Fr.rf σ⟩
theorem s_readLine {p dn hn : Nat} {DL : List DI} {HL : List HI} (h : cZ n f T p σ) (hB : cB DL HL σ) (h1 : σ.1 5 13 = nI dn) (h2 : σ.1 5 14 = nI hn) (ok : okDH dn hn DL HL) : ∃ τ, hq_c 2 (d + 4) [.ref 28, .ref 1, .ref 5] σ (some (.int (bI (lR f T dn hn p DL HL).1))) τ ∧ cZ n f T (lR f T dn hn p DL HL).2.1 τ ∧ cB (lR f T dn hn p DL HL).2.2.1 (lR f T dn hn p DL HL).2.2.2 τ ∧ Fr [(1, 3), (28, 3), (28, 4), (29, 0), (30, 0)] σ τ := by
  obtain ⟨-, -, o3, o4⟩ := ok
  have c1 : (σ.1 5 13 + σ.1 28 2) < nI 8 ↔ dn + DL.length < 8 := by
    rw [h1, hB.1, nplus, lt_nI (by decide), nI_toInt (by omega)]; omega
  have c2 : ∀ ρ, Fr [(1, 3)] σ ρ → ((ρ.1 5 14 + ρ.1 28 3) < nI 12 ↔ hn + HL.length < 12) := fun ρ fr => by
    rw [fr.i rfl, fr.i rfl, h2, hB.2.1, nplus, lt_nI (by decide), nI_toInt (by omega)]; omega
  unfold lR
  by_cases q1 : dn + DL.length < 8
  · obtain ⟨σ1, g1, z1, f1⟩ := s_eat (d := d + 1) h (w := 100) (by decide)
    have B1 := cB.dep.fr f1 (by decide) hB
    cases q2 : isA f T p 100 with
    | true =>
      rw [q2] at g1 z1
      rw [if_pos ⟨q1, rfl⟩]
      obtain ⟨σ2, g2, z2, b2, f2⟩ := s_readDoor (d := d) z1 B1 (by omega)
      exact ⟨σ2, p_X0_readLine_0_4 (c1.mpr q1) g1 (by decide) g2 (bI01 _), z2, b2, (f1.up (by decide)).tr (f2.up (by decide))⟩
    | false =>
      rw [q2] at g1 z1
      rw [if_neg (fun z => by cases z.2)]
      have z1 : cZ n f T p σ1 := z1
      by_cases q3 : hn + HL.length < 12
      · obtain ⟨σ2, g2, z2, f2⟩ := s_eat (d := d + 1) z1 (w := 104) (by decide)
        have B2 := cB.dep.fr f2 (by decide) B1
        cases q4 : isA f T p 104 with
        | true =>
          rw [q4] at g2 z2
          rw [if_pos ⟨q3, rfl⟩]
          obtain ⟨σ3, g3, z3, b3, f3⟩ := s_readHinge (d := d) z2 B2 (by omega)
          exact ⟨σ3, p_X0_readLine_0_2 (c1.mpr q1) g1 rfl ((c2 _ f1).mpr q3) g2 (by decide) g3 (bI01 _), z3, b3, ((f1.tr f2).up (by decide)).tr (f3.up (by decide))⟩
        | false =>
          rw [q4] at g2 z2
          rw [if_neg (fun z => by cases z.2)]
          exact ⟨σ2, p_X0_readLine_0_1 (c1.mpr q1) g1 rfl ((c2 _ f1).mpr q3) g2 rfl, z2, B2, (f1.tr f2).up (by decide)⟩
      · rw [if_neg (fun z => q3 z.1)]
        exact ⟨σ1, p_X0_readLine_0_3 (c1.mpr q1) g1 rfl (fun z => q3 ((c2 _ f1).mp z)), z1, B1, f1.up (by decide)⟩
  · rw [if_neg (fun z => q1 z.1)]
    by_cases q3 : hn + HL.length < 12
    · obtain ⟨σ2, g2, z2, f2⟩ := s_eat (d := d + 1) h (w := 104) (by decide)
      have B2 := cB.dep.fr f2 (by decide) hB
      cases q4 : isA f T p 104 with
      | true =>
        rw [q4] at g2 z2
        rw [if_pos ⟨q3, rfl⟩]
        obtain ⟨σ3, g3, z3, b3, f3⟩ := s_readHinge (d := d) z2 B2 (by omega)
        exact ⟨σ3, p_X0_readLine_0_6 (fun z => q1 (c1.mp z)) ((c2 _ (Fr.rf σ)).mpr q3) g2 (by decide) g3 (bI01 _), z3, b3, (f2.up (by decide)).tr (f3.up (by decide))⟩
      | false =>
        rw [q4] at g2 z2
        rw [if_neg (fun z => by cases z.2)]
        exact ⟨σ2, p_X0_readLine_0_5 (fun z => q1 (c1.mp z)) ((c2 _ (Fr.rf σ)).mpr q3) g2 rfl, z2, B2, f2.up (by decide)⟩
    · rw [if_neg (fun z => q3 z.1)]
      exact ⟨σ, p_X0_readLine_0_7 (fun z => q1 (c1.mp z)) (fun z => q3 ((c2 _ (Fr.rf σ)).mp z)), h, hB, Fr.rf σ⟩
theorem s_linesL {dn hn : Nat} (hf : ∀ i, i < T → f i < 256) : ∀ m p DL HL σ, m ≤ 76 → cZ n f T p σ → cB DL HL σ → σ.1 5 13 = nI dn → σ.1 5 14 = nI hn → okDH dn hn DL HL → ∃ τ, hq_m 1 (d + 5) (some (.int (bI ((hsR f T dn hn m p DL HL).1 && decide ((hsR f T dn hn m p DL HL).2.1 = T))))) τ 8 [some (.ref 28), some (.ref 1), some (.ref 5), some (.int (nI (76 - m)))] [] σ ∧ cZ n f T (hsR f T dn hn m p DL HL).2.1 τ ∧ cB (hsR f T dn hn m p DL HL).2.2.1 (hsR f T dn hn m p DL HL).2.2.2 τ ∧ Fr [(1, 3), (28, 3), (28, 4), (29, 0), (30, 0)] σ τ := by
  intro m
  induction m with
  | zero =>
    intro p DL HL σ hm h hB h1 h2 ok
    exact ⟨σ, p_X0_readLines_8_5 (by decide), h, hB, Fr.rf σ⟩
  | succ m ih =>
    intro p DL HL σ hm h hB h1 h2 ok
    obtain ⟨σ1, g1, z1, b1, f1⟩ := s_readLine (d := d) h hB h1 h2 ok
    obtain ⟨a1, a2, a3, a4⟩ := lR_ok hf h.2.2.1 ok
    have e1 : hsR f T dn hn (m + 1) p DL HL = if (lR f T dn hn p DL HL).1 = true ∧ isA f T (lR f T dn hn p DL HL).2.1 59 = true then hsR f T dn hn m ((lR f T dn hn p DL HL).2.1 + 1) (lR f T dn hn p DL HL).2.2.1 (lR f T dn hn p DL HL).2.2.2 else lR f T dn hn p DL HL := rfl
    rw [e1]
    generalize lR f T dn hn p DL HL = l at g1 z1 b1 a1 a2 a3 a4
    have c1 : nI (76 - (m + 1)) < nI 76 := nlt (by omega) (by decide)
    cases h3 : l.1 with
    | false =>
      rw [h3] at g1
      rw [if_neg (fun z => by cases z.1), h3]
      exact ⟨σ1, p_X0_readLines_8_1 c1 g1 rfl, z1, b1, f1⟩
    | true =>
      rw [h3] at g1
      have g2 := s_isOver (d := d + 2) z1
      by_cases q : l.2.1 = T
      · have n59 : isA f T l.2.1 59 = false := by unfold isA; simp; omega
        rw [n59, if_neg (fun z => by cases z.2), h3]
        rw [show decide (l.2.1 = T) = true by simp [q]] at g2 ⊢
        exact ⟨σ1, p_X0_readLines_8_4 c1 g1 (by decide) g2 (by decide), z1, b1, f1⟩
      · rw [show decide (l.2.1 = T) = false by simp [q]] at g2
        obtain ⟨σ2, g3, z2, f2⟩ := s_eat (d := d + 2) z1 (w := 59) (by decide)
        have B2 := cB.dep.fr f2 (by decide) b1
        have F2 := f1.tr (f2.up (G := [(1, 3), (28, 3), (28, 4), (29, 0), (30, 0)]) (by decide))
        cases q2 : isA f T l.2.1 59 with
        | false =>
          rw [q2] at g3 z2
          rw [if_neg (fun z => by cases z.2), h3]
          rw [show decide (l.2.1 = T) = false by simp [q]]
          exact ⟨σ2, p_X0_readLines_8_2 c1 g1 (by decide) g2 rfl g3 rfl, z2, B2, F2⟩
        | true =>
          rw [q2] at g3 z2
          rw [if_pos ⟨rfl, rfl⟩]
          obtain ⟨τ, k1, k2, k3, k4⟩ := ih (l.2.1 + 1) l.2.2.1 l.2.2.2 σ2 (by omega) z2 B2 ((F2.i rfl).trans h1) ((F2.i rfl).trans h2) a3
          refine ⟨τ, p_X0_readLines_8_3 c1 g1 (by decide) g2 rfl g3 (by decide) ?_, k2, k3, F2.tr k4⟩
          rw [nplus, show 76 - (m + 1) + 1 = 76 - m by omega]
          exact k1
theorem s_readLines {dn hn p : Nat} (h : cZ n f T p σ) (h1 : σ.1 5 13 = nI dn) (h2 : σ.1 5 14 = nI hn) (hd : dn ≤ 8) (hh : hn ≤ 12) : ∃ τ, hq_c 1 (d + 5) [.ref 28, .ref 1, .ref 5] σ (some (.int (bI ((hsR f T dn hn 76 p [] []).1 && decide ((hsR f T dn hn 76 p [] []).2.1 = T))))) τ ∧ cZ n f T (hsR f T dn hn 76 p [] []).2.1 τ ∧ cB (hsR f T dn hn 76 p [] []).2.2.1 (hsR f T dn hn 76 p [] []).2.2.2 τ ∧ Fr [(1, 3), (28, 3), (28, 4), (29, 0), (30, 0)] σ τ := by
  have fr : Fr [(28, 3), (28, 4)] σ (hq_sI (hq_sI σ 28 2 (nI 0)) 28 3 (nI 0)) := ((Fr.rf σ).sI rfl).sI rfl
  have B : cB [] [] (hq_sI (hq_sI σ 28 2 (nI 0)) 28 3 (nI 0)) := ⟨by rw [sI_slot (by decide), sI_eq]; rfl, by rw [sI_eq]; rfl, fun j t hj => by simp at hj, fun j t hj => by simp at hj⟩
  obtain ⟨τ, k1, k2, k3, k4⟩ := s_linesL (d := d) h.hf 76 p [] [] _ (Nat.le_refl _) (cZ.dep.fr fr (by decide) h) B ((fr.i rfl).trans h1) ((fr.i rfl).trans h2) ⟨fun t ht => by simp at ht, fun t ht => by simp at ht, hd, hh⟩
  exact ⟨τ, p_X0_readLines_0_1 k1, k2, k3, (fr.up (by decide)).tr k4⟩
end HC
