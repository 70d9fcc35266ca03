/-! order: the reference -/
theorem ixS_16 : ∀ c, c < 256 → ixS 16 c = (if c = 104 then 1 else if c = 116 then 2 else if c = 111 then 3 else if c = 110 then 4 else 0) := by decide +kernel
section OM
variable {d n T : Nat} {f : Nat → Nat} {σ : hq_St} {A : TA}
theorem ix_16 (hf : ∀ p, p < T → f p < 256) (p : Nat) : ixA f T p 16 = if isA f T p 104 then 1 else if isA f T p 116 then 2 else if isA f T p 111 then 3 else if isA f T p 110 then 4 else 0 := by
  unfold ixA isA
  by_cases h : p < T
  · rw [if_pos h, ixS_16 (f p) (hf p h)]
    simp [h]
  · rw [if_neg h]
    simp [h]
theorem pr1 (k : Nat) : nI (k + 1) - nI 1 = nI k := nI_pred k
theorem m_number {p : Nat} (h : mZ n f T p σ) : ∃ τ, hq_c 228 (d + 10) [.ref 52] σ (some (.int (if (nuR f T p).1 then nI (nuR f T p).2.2 else nI 0 - nI 1))) τ ∧ mZ n f T (nuR f T p).2.1 τ ∧ Fr [(52, 17)] σ τ := by
  have hf := h.hf
  obtain ⟨σ1, g1, z1, f1⟩ := m_takesOf (d := d + 8) h (j := 11) (by decide) (by decide) (by omega)
  rw [ix_11 hf p] at g1 z1
  unfold nuR
  cases q1 : dgA f T p 0 9 with
  | false =>
    rw [q1] at g1 z1
    exact ⟨σ1, p_X10_number_0_1 g1 (show nI 0 - nI 1 < 0 by decide), z1, f1⟩
  | true =>
    rw [q1] at g1 z1
    have b1 := dg_lt q1
    have e1 : nI (f p - 47) - nI 1 = nI (f p - 48) := by rw [show f p - 47 = f p - 48 + 1 by omega, pr1]
    rw [if_pos rfl, e1] at g1
    rw [if_pos rfl, decide_eq_true (show f p - 47 ≠ 0 by omega)] at z1
    have z1 : mZ n f T (p + 1) σ1 := z1
    have g2 := m_isDigit (d := d + 7) z1
    have nn : ∀ k, k < 4096 → ¬ nI k < 0 := fun k hk z => by rw [ltz, nI_toInt (by omega)] at z; omega
    cases q2 : dgA f T (p + 1) 0 9 with
    | false =>
      rw [q2] at g2
      exact ⟨σ1, p_X10_number_0_2 g1 (nn _ (by show f p - 48 < 4096; omega)) g2 rfl, z1, f1⟩
    | true =>
      rw [q2] at g2
      have b2 := dg_lt q2
      obtain ⟨σ3, g3, z3, f3⟩ := m_takesOf (d := d + 8) z1 (j := 11) (by decide) (by decide) (by omega)
      rw [ix_11 hf (p + 1), q2, if_pos rfl] at g3 z3
      rw [decide_eq_true (show f (p + 1) - 47 ≠ 0 by omega)] at z3
      have e3 : nI (f (p + 1) - 47) - nI 1 = nI (f (p + 1) - 48) := by rw [show f (p + 1) - 47 = f (p + 1) - 48 + 1 by omega, pr1]
      rw [e3] at g3
      have P := p_X10_number_0_3 g1 (nn _ (by omega)) g2 (by decide) g3
      rw [nmul, nplus, Nat.mul_comm] at P
      exact ⟨σ3, P, z3, f1.tr f3⟩
theorem mO.add {L : List AI} {i : AI} {ρ : hq_St} (h : mO L σ) (e35 : ρ.1 52 35 = nI (L.length + 1)) (o70 : ∀ j, j ≠ L.length → ρ.1 70 j = σ.1 70 j) (o71 : ∀ j, j ≠ L.length → ρ.1 71 j = σ.1 71 j) (o72 : ∀ j, j ≠ L.length → ρ.1 72 j = σ.1 72 j) (n70 : ρ.1 70 L.length = nI i.1) (n71 : ρ.1 71 L.length = nI i.2.1) (n72 : i.1 = 0 ∨ i.1 = 2 → ρ.1 72 L.length = nI i.2.2) : mO (L ++ [i]) ρ := by
  refine ⟨by rw [e35, List.length_append]; rfl, fun j t hj => ?_⟩
  rcases snoc_get hj with ⟨q1, q2⟩ | ⟨q1, q2⟩
  · rw [o70 j (by omega), o71 j (by omega), o72 j (by omega)]; exact h.2 j t q2
  · rw [q1, q2]; exact ⟨n70, n71, n72⟩
theorem m_readsAct {p : Nat} {L : List AI} (h : mZ n f T p σ) (hO : mO L σ) (hl : L.length < 60) : ∃ τ, hq_c 229 (d + 11) [.ref 52] σ (some (.int (bI (aR f T p).1))) τ ∧ mZ n f T (aR f T p).2.1 τ ∧ ((aR f T p).1 = true → mO (L ++ [(aR f T p).2.2]) τ) ∧ Fr [(52, 17), (52, 36), (70, 0), (71, 0), (72, 0)] σ τ := by
  have hf := h.hf
  have h35 := hO.1
  have ck : (σ.1 52 35).toNatClampNeg = L.length := by rw [h35]; exact clamp (by omega)
  have o : vp_in (σ.1 52 35) 60 := by rw [h35]; exact vin hl (by decide)
  have nn : ∀ k, k < 4096 → ¬ nI k < 0 := fun k hk z => by rw [ltz, nI_toInt (by omega)] at z; omega
  obtain ⟨ρ1, g1, z1, f1⟩ := m_takesOf (d := d + 9) h (j := 16) (by decide) (by decide) (by omega)
  have b10 := (ixA_le h (j := 16) (by decide) (by decide))
  have i16 := ix_16 hf p
  -- behind the kind
  have eS : ∀ r : Int32, hq_sI (hq_sI ρ1 70 (σ.1 52 35).toNatClampNeg r) 52 35 ((hq_sI ρ1 70 (σ.1 52 35).toNatClampNeg r).1 52 35 + nI 1) = hq_sI (hq_sI ρ1 70 L.length r) 52 35 (nI (L.length + 1)) := fun r => by rw [ck, sI_ne (by decide), f1.i rfl, h35, nplus]
  have fS : ∀ r : Int32, Fr [(52, 36), (70, 0)] ρ1 (hq_sI (hq_sI ρ1 70 L.length r) 52 35 (nI (L.length + 1))) := fun r => ((Fr.rf ρ1).sI rfl).sI rfl
  have v70 : ∀ r : Int32, (hq_sI (hq_sI ρ1 70 L.length r) 52 35 (nI (L.length + 1))).1 70 L.length = r := fun r => by rw [sI_ne (by decide), sI_eq]
  have w70 : ∀ (r : Int32) (j : Nat), j ≠ L.length → (hq_sI (hq_sI ρ1 70 L.length r) 52 35 (nI (L.length + 1))).1 70 j = σ.1 70 j := fun r j hj => by rw [sI_ne (by decide), sI_slot hj, f1.i rfl]
  have w35 : ∀ r : Int32, (hq_sI (hq_sI ρ1 70 L.length r) 52 35 (nI (L.length + 1))).1 52 35 = nI (L.length + 1) := fun r => sI_eq
  have FS : ∀ r : Int32, Fr [(52, 17), (52, 36), (70, 0), (71, 0), (72, 0)] σ (hq_sI (hq_sI ρ1 70 L.length r) 52 35 (nI (L.length + 1))) := fun r => (f1.up (by decide)).tr ((fS r).up (by decide))
  have F2 : ∀ r : Int32, Fr [(52, 17), (52, 36), (70, 0)] σ (hq_sI (hq_sI ρ1 70 L.length r) 52 35 (nI (L.length + 1))) := fun r => (f1.up (by decide)).tr ((fS r).up (by decide))
  -- a number behind the kind k
  have num : ∀ k, k ≤ 2 → ixA f T p 16 = k + 1 → p < T → ∃ ρ2, hq_c 228 (d + 10) [.ref 52] (hq_sI (hq_sI ρ1 70 L.length (nI k)) 52 35 (nI (L.length + 1))) (some (.int (if (nuR f T (p + 1)).1 then nI (nuR f T (p + 1)).2.2 else nI 0 - nI 1))) ρ2 ∧ mZ n f T (nuR f T (p + 1)).2.1 ρ2 ∧ Fr [(52, 17)] (hq_sI (hq_sI ρ1 70 L.length (nI k)) 52 35 (nI (L.length + 1))) ρ2 := fun k hk e hp => by
    have z : mZ n f T (p + 1) ρ1 := by
      rw [e, decide_eq_true (show k + 1 ≠ 0 by omega)] at z1
      exact z1
    exact m_number (d := d) (mZ.dep.fr (fS (nI k)) (by decide) z)
  have bad : ∀ k, k ≤ 2 → ixA f T p 16 = k + 1 → p < T → (nuR f T (p + 1)).1 = false → ∃ τ, hq_c 229 (d + 11) [.ref 52] σ (some (.int (bI false))) τ ∧ mZ n f T (nuR f T (p + 1)).2.1 τ ∧ Fr [(52, 17), (52, 36), (70, 0), (71, 0), (72, 0)] σ τ := fun k hk e hp q => by
    obtain ⟨ρ2, g2, z2, f2⟩ := num k hk e hp
    rw [e, pr1] at g1
    rw [q, if_neg (by decide)] at g2
    have fz : Fr [(71, 0)] ρ2 (hq_sI ρ2 71 L.length (nI 0 - nI 1)) := (Fr.rf ρ2).sI rfl
    have P := p_X10_readsAct_0_3 g1 o o (by rw [eS, ck, v70]; exact nn k (by omega)) o (by rw [eS, ck, v70, nI_eq (by omega) (by decide)]; omega) (by rw [eS]; exact g2) o o (by rw [ck, sI_eq]; decide) o (by rw [ck, sI_eq]; decide)
    rw [ck] at P
    exact ⟨_, P, mZ.dep.fr fz (by decide) z2, (FS (nI k)).tr ((f2.up (by decide)).tr (fz.up (by decide)))⟩
  -- hang or oil
  have tl : ∀ k w, k = 0 ∧ w = 62 ∨ k = 2 ∧ w = 42 → ixA f T p 16 = k + 1 → p < T → (nuR f T (p + 1)).1 = true → ∃ τ, hq_c 229 (d + 11) [.ref 52] σ (some (.int (bI (tlR f T k w (nuR f T (p + 1)).2.1 (nuR f T (p + 1)).2.2).1))) τ ∧ mZ n f T (tlR f T k w (nuR f T (p + 1)).2.1 (nuR f T (p + 1)).2.2).2.1 τ ∧ ((tlR f T k w (nuR f T (p + 1)).2.1 (nuR f T (p + 1)).2.2).1 = true → mO (L ++ [(tlR f T k w (nuR f T (p + 1)).2.1 (nuR f T (p + 1)).2.2).2.2]) τ) ∧ Fr [(52, 17), (52, 36), (70, 0), (71, 0), (72, 0)] σ τ := fun k w hkw e hp q => by
    have hk : k ≤ 2 := by omega
    obtain ⟨ρ2, g2, z2, f2⟩ := num k hk e hp
    obtain ⟨n1, n2, n3⟩ := nuR_ok hf (p := p + 1) hp
    rw [e, pr1] at g1
    rw [q, if_pos rfl] at g2
    generalize nuR f T (p + 1) = r at g2 z2 n1 n2 n3
    have fz : Fr [(71, 0)] ρ2 (hq_sI ρ2 71 L.length (nI r.2.2)) := (Fr.rf ρ2).sI rfl
    have zz := mZ.dep.fr fz (by decide) z2
    have F2z : Fr [(52, 17), (52, 36), (70, 0), (71, 0), (72, 0)] σ (hq_sI ρ2 71 L.length (nI r.2.2)) := (FS (nI k)).tr ((f2.up (by decide)).tr (fz.up (by decide)))
    have a1 : ∀ j, (hq_sI ρ2 71 L.length (nI r.2.2)).1 70 j = (hq_sI (hq_sI ρ1 70 L.length (nI k)) 52 35 (nI (L.length + 1))).1 70 j := fun j => by rw [sI_ne (by decide), f2.i rfl]
    have c1 := nn k (by omega)
    have c2 : ¬ nI k = nI 3 := by rw [nI_eq (by omega) (by decide)]; omega
    have c3 : ¬ (hq_sI ρ2 71 L.length (nI r.2.2)).1 71 L.length < 0 := by rw [sI_eq]; exact nn _ (by omega)
    have c4 : ¬ (hq_sI ρ2 71 L.length (nI r.2.2)).1 70 L.length = nI 1 := by rw [a1, v70, nI_eq (by omega) (by decide)]; omega
    have hw : w < 256 := by omega
    obtain ⟨ρ3, g3, z3, f3⟩ := m_takes (d := d + 8) zz (w := w) hw
    have kx : (hq_sI ρ2 71 L.length (nI r.2.2)).1 70 L.length = nI k := by rw [a1, v70]
    cases q5 : isA f T r.2.1 w with
    | false =>
      rw [q5] at g3 z3
      have et : tlR f T k w r.2.1 r.2.2 = (false, r.2.1, (0, 0, 0)) := by unfold tlR; rw [q5]; rfl
      rw [et]
      refine ⟨ρ3, ?_, z3, (fun z => by cases z), F2z.tr (f3.up (by decide))⟩
      rcases hkw with ⟨rfl, rfl⟩ | ⟨rfl, rfl⟩
      · exact p_X10_readsAct_0_7 g1 o o (by rw [eS, ck, v70]; exact c1) o (by rw [eS, ck, v70]; exact c2) (by rw [eS]; exact g2) o o (by rw [ck]; exact c3) o (by rw [ck]; exact c4) o (by rw [ck, kx]; rfl) (by rw [ck]; exact g3) rfl
      · exact p_X10_readsAct_0_10 g1 o o (by rw [eS, ck, v70]; exact c1) o (by rw [eS, ck, v70]; exact c2) (by rw [eS]; exact g2) o o (by rw [ck]; exact c3) o (by rw [ck]; exact c4) o (by rw [ck, kx]; decide) (by rw [ck]; exact g3) rfl
    | true =>
      rw [q5] at g3 z3
      have b5 := is_lt q5
      have z3 : mZ n f T (r.2.1 + 1) ρ3 := z3
      obtain ⟨ρ4, g4, z4, f4⟩ := m_takesOf (d := d + 9) z3 (j := 11) (by decide) (by decide) (by omega)
      rw [ix_11 hf (r.2.1 + 1)] at g4 z4
      have F34 : Fr [(52, 17)] (hq_sI ρ2 71 L.length (nI r.2.2)) ρ4 := f3.tr f4
      cases q6 : dgA f T (r.2.1 + 1) 0 9 with
      | false =>
        rw [q6, if_neg (by decide)] at g4 z4
        have et : tlR f T k w r.2.1 r.2.2 = (false, r.2.1 + 1, (0, 0, 0)) := by unfold tlR; rw [q5, q6]; rfl
        rw [et]
        have fy : Fr [(72, 0)] ρ4 (hq_sI ρ4 72 L.length (nI 0 - nI 1)) := (Fr.rf ρ4).sI rfl
        refine ⟨hq_sI ρ4 72 L.length (nI 0 - nI 1), ?_, mZ.dep.fr fy (by decide) z4, (fun z => by cases z), F2z.tr ((F34.up (by decide)).tr (fy.up (by decide)))⟩
        rcases hkw with ⟨rfl, rfl⟩ | ⟨rfl, rfl⟩
        · have P := p_X10_readsAct_0_8 g1 o o (by rw [eS, ck, v70]; exact c1) o (by rw [eS, ck, v70]; exact c2) (by rw [eS]; exact g2) o o (by rw [ck]; exact c3) o (by rw [ck]; exact c4) o (by rw [ck, kx]; rfl) (by rw [ck]; exact g3) (by decide) g4 o o (by rw [ck, sI_eq]; decide)
          rw [ck] at P; exact P
        · have P := p_X10_readsAct_0_11 g1 o o (by rw [eS, ck, v70]; exact c1) o (by rw [eS, ck, v70]; exact c2) (by rw [eS]; exact g2) o o (by rw [ck]; exact c3) o (by rw [ck]; exact c4) o (by rw [ck, kx]; decide) (by rw [ck]; exact g3) (by decide) g4 o o (by rw [ck, sI_eq]; decide)
          rw [ck] at P; exact P
      | true =>
        have b6 := dg_lt q6
        rw [q6, if_pos rfl] at g4 z4
        rw [decide_eq_true (show f (r.2.1 + 1) - 47 ≠ 0 by omega)] at z4
        have e4 : nI (f (r.2.1 + 1) - 47) - nI 1 = nI (f (r.2.1 + 1) - 48) := by rw [show f (r.2.1 + 1) - 47 = f (r.2.1 + 1) - 48 + 1 by omega, pr1]
        rw [e4] at g4
        have et : tlR f T k w r.2.1 r.2.2 = (true, r.2.1 + 2, (k, r.2.2, f (r.2.1 + 1) - 48)) := by unfold tlR; rw [q5, q6]; rfl
        rw [et]
        have fy : Fr [(72, 0)] ρ4 (hq_sI ρ4 72 L.length (nI (f (r.2.1 + 1) - 48))) := (Fr.rf ρ4).sI rfl
        refine ⟨hq_sI ρ4 72 L.length (nI (f (r.2.1 + 1) - 48)), ?_, mZ.dep.fr fy (by decide) z4, fun _ => ?_, F2z.tr ((F34.up (by decide)).tr (fy.up (by decide)))⟩
        · rcases hkw with ⟨rfl, rfl⟩ | ⟨rfl, rfl⟩
          · have P := p_X10_readsAct_0_9 g1 o o (by rw [eS, ck, v70]; exact c1) o (by rw [eS, ck, v70]; exact c2) (by rw [eS]; exact g2) o o (by rw [ck]; exact c3) o (by rw [ck]; exact c4) o (by rw [ck, kx]; rfl) (by rw [ck]; exact g3) (by decide) g4 o o (by rw [ck, sI_eq]; exact nn _ (by omega))
            rw [ck] at P; exact P
          · have P := p_X10_readsAct_0_12 g1 o o (by rw [eS, ck, v70]; exact c1) o (by rw [eS, ck, v70]; exact c2) (by rw [eS]; exact g2) o o (by rw [ck]; exact c3) o (by rw [ck]; exact c4) o (by rw [ck, kx]; decide) (by rw [ck]; exact g3) (by decide) g4 o o (by rw [ck, sI_eq]; exact nn _ (by omega))
            rw [ck] at P; exact P
        · refine mO.add (i := (k, r.2.2, f (r.2.1 + 1) - 48)) hO ?_ (fun j hj => ?_) (fun j hj => ?_) (fun j hj => ?_) ?_ ?_ (fun _ => sI_eq)
          · rw [sI_ne (by decide), F34.i rfl, sI_ne (by decide), f2.i rfl, w35]
          · rw [sI_ne (by decide), F34.i rfl, a1, w70 _ j hj]
          · rw [sI_ne (by decide), F34.i rfl, sI_slot hj, f2.i rfl, (F2 _).i rfl]
          · rw [sI_slot hj, F34.i rfl, sI_ne (by decide), f2.i rfl, (F2 _).i rfl]
          · rw [sI_ne (by decide), F34.i rfl, kx]
          · rw [sI_ne (by decide), F34.i rfl, sI_eq]
  unfold aR
  have noA : ∀ {a b : Nat}, a ≠ b → isA f T p a = true → isA f T p b = false := fun {a b} hab q => by
    have := is_lt q
    unfold isA
    simp
    intro _
    omega
  cases q1 : isA f T p 110 with
  | true =>
    have b1 := is_lt q1
    rw [if_pos rfl]
    rw [noA (by decide) q1, noA (by decide) q1, noA (by decide) q1, q1] at i16
    have i16 : ixA f T p 16 = 3 + 1 := i16
    rw [i16, pr1] at g1
    rw [i16, decide_eq_true (show 3 + 1 ≠ 0 by decide)] at z1
    have z1 : mZ n f T (p + 1) ρ1 := z1
    obtain ⟨ρ2, g2, z2, f2⟩ := m_takesOf (d := d + 9) (mZ.dep.fr (fS (nI 3)) (by decide) z1) (j := 8) (by decide) (by decide) (by omega)
    rw [ix_8 hf (p + 1)] at g2 z2
    have fin : ∀ a : Nat, ∀ x : Int32, nI 1 + (if nI 0 < x then x else nI 0) = nI a → hq_c 182 (d + 10) [.ref 52, .ref 1008] (hq_sI (hq_sI ρ1 70 L.length (nI 3)) 52 35 (nI (L.length + 1))) (some (.int x)) ρ2 → hq_c 229 (d + 11) [.ref 52] σ (some (.int (bI true))) (hq_sI ρ2 71 L.length (nI a)) ∧ mO (L ++ [(3, a, 0)]) (hq_sI ρ2 71 L.length (nI a)) := fun a x ea gx => by
      refine ⟨?_, mO.add (i := (3, a, 0)) hO ?_ (fun j hj => ?_) (fun j hj => ?_) (fun j hj => ?_) ?_ sI_eq (fun z => by rcases z with z | z <;> cases z)⟩
      · have P := p_X10_readsAct_0_2 g1 o o (by rw [eS, ck, v70]; exact nn 3 (by decide)) o (by rw [eS, ck, v70]) (by rw [eS]; exact gx) o
        rw [ck, ea] at P
        exact P
      · rw [sI_ne (by decide), f2.i rfl, w35]
      · rw [sI_ne (by decide), f2.i rfl, w70 _ j hj]
      · rw [sI_slot hj, f2.i rfl, (F2 _).i rfl]
      · rw [sI_ne (by decide), f2.i rfl, (F2 _).i rfl]
      · rw [sI_ne (by decide), f2.i rfl, v70]
    have fy : ∀ a : Nat, Fr [(71, 0)] ρ2 (hq_sI ρ2 71 L.length (nI a)) := fun a => (Fr.rf ρ2).sI rfl
    have FF : ∀ a : Nat, Fr [(52, 17), (52, 36), (70, 0), (71, 0), (72, 0)] σ (hq_sI ρ2 71 L.length (nI a)) := fun a => (FS (nI 3)).tr ((f2.up (by decide)).tr ((fy a).up (by decide)))
    cases q2 : dgA f T (p + 1) 1 9 with
    | false =>
      rw [q2, if_neg (by decide)] at g2 z2
      obtain ⟨x1, x2⟩ := fin 1 _ (by decide) g2
      exact ⟨_, x1, mZ.dep.fr (fy 1) (by decide) z2, fun _ => x2, FF 1⟩
    | true =>
      have b2 := dg_lt q2
      rw [q2, if_pos rfl] at g2 z2
      rw [decide_eq_true (show f (p + 1) - 48 ≠ 0 by omega)] at z2
      have e2 : nI (f (p + 1) - 48) - nI 1 = nI (f (p + 1) - 49) := by rw [show f (p + 1) - 48 = f (p + 1) - 49 + 1 by omega, pr1]
      rw [e2] at g2
      obtain ⟨x1, x2⟩ := fin (f (p + 1) - 48) _ (by rw [maxv (by decide) (by omega), nplus]; congr 1; omega) g2
      exact ⟨_, x1, mZ.dep.fr (fy _) (by decide) z2, fun _ => x2, FF _⟩
  | false =>
    rw [if_neg (by decide)]
    rw [q1] at i16
    cases q2 : isA f T p 116 with
    | true =>
      have b1 := is_lt q2
      rw [if_pos rfl]
      rw [noA (by decide) q2, q2] at i16
      have i16 : ixA f T p 16 = 1 + 1 := i16
      obtain ⟨n1, n2, n3⟩ := nuR_ok hf (p := p + 1) b1.1
      cases q5 : (nuR f T (p + 1)).1 with
      | false =>
        obtain ⟨τ, x1, x2, x3⟩ := bad 1 (by decide) i16 b1.1 q5
        exact ⟨τ, x1, x2, (fun z => by cases z), x3⟩
      | true =>
        obtain ⟨ρ2, g2, z2, f2⟩ := num 1 (by decide) i16 b1.1
        rw [i16, pr1] at g1
        rw [q5, if_pos rfl] at g2
        generalize nuR f T (p + 1) = r at g2 z2 n1 n2 n3
        have fz : Fr [(71, 0)] ρ2 (hq_sI ρ2 71 L.length (nI r.2.2)) := (Fr.rf ρ2).sI rfl
        refine ⟨hq_sI ρ2 71 L.length (nI r.2.2), ?_, mZ.dep.fr fz (by decide) z2, fun _ => ?_, (FS (nI 1)).tr ((f2.up (by decide)).tr (fz.up (by decide)))⟩
        · have P := p_X10_readsAct_0_6 g1 o o (by rw [eS, ck, v70]; decide) o (by rw [eS, ck, v70]; decide) (by rw [eS]; exact g2) o o (by rw [ck, sI_eq]; exact nn _ (by omega)) o (by rw [ck, sI_ne (by decide), f2.i rfl, v70]) o (by rw [ck, sI_eq]; exact nn _ (by omega))
          rw [ck] at P
          exact P
        · refine mO.add (i := (1, r.2.2, 0)) hO ?_ (fun j hj => ?_) (fun j hj => ?_) (fun j hj => ?_) ?_ sI_eq (fun z => by rcases z with z | z <;> cases z)
          · rw [sI_ne (by decide), f2.i rfl, w35]
          · rw [sI_ne (by decide), f2.i rfl, w70 _ j hj]
          · rw [sI_slot hj, f2.i rfl, (F2 _).i rfl]
          · rw [sI_ne (by decide), f2.i rfl, (F2 _).i rfl]
          · rw [sI_ne (by decide), f2.i rfl, v70]
    | false =>
      rw [if_neg (by decide)]
      rw [q2] at i16
      cases q3 : isA f T p 104 with
      | true =>
        have b1 := is_lt q3
        rw [if_pos rfl]
        rw [q3] at i16
        have i16 : ixA f T p 16 = 0 + 1 := i16
        cases q5 : (nuR f T (p + 1)).1 with
        | false =>
          obtain ⟨τ, x1, x2, x3⟩ := bad 0 (by decide) i16 b1.1 q5
          exact ⟨τ, x1, x2, (fun z => by cases z), x3⟩
        | true =>
          rw [if_pos rfl]
          exact tl 0 62 (Or.inl ⟨rfl, rfl⟩) i16 b1.1 q5
      | false =>
        rw [if_neg (by decide)]
        rw [q3] at i16
        cases q4 : isA f T p 111 with
        | true =>
          have b1 := is_lt q4
          rw [if_pos rfl]
          rw [q4] at i16
          have i16 : ixA f T p 16 = 2 + 1 := i16
          cases q5 : (nuR f T (p + 1)).1 with
          | false =>
            obtain ⟨τ, x1, x2, x3⟩ := bad 2 (by decide) i16 b1.1 q5
            exact ⟨τ, x1, x2, (fun z => by cases z), x3⟩
          | true =>
            rw [if_pos rfl]
            exact tl 2 42 (Or.inr ⟨rfl, rfl⟩) i16 b1.1 q5
        | false =>
          rw [if_neg (by decide)]
          rw [q4] at i16
          have i16 : ixA f T p 16 = 0 := i16
          rw [i16] at g1 z1
          have P := p_X10_readsAct_0_1 g1 o o (by rw [eS, ck, v70]; decide)
          rw [eS] at P
          exact ⟨_, P, mZ.dep.fr (fS _) (by decide) z1, (fun z => by cases z), FS _⟩
theorem aR_end {p : Nat} (h : T ≤ p) : aR f T p = (false, p, (0, 0, 0)) := by
  have e : ∀ w, isA f T p w = false := fun w => by unfold isA; simp; omega
  unfold aR
  rw [e, e, e, e]
  rfl
theorem m_actsL (hf : ∀ i, i < T → f i < 256) : ∀ m p L σ, T ≤ p + 2 * m → L.length + m ≤ 30 → mZ n f T p σ → mO L σ → ∃ τ, (∀ v μ g, hq_m 231 (d + 12) v μ 18 [some (.ref 52), some (.int (nI n)), some (.int (bI (oR f T m p L).1)), some (.int (nI 0)), none, none] [] τ → hq_m 231 (d + 12) v μ 18 [some (.ref 52), some (.int (nI n)), some (.int g), some (.int (nI 1)), none, none] [] σ) ∧ mZ n f T (oR f T m p L).2.1 τ ∧ ((oR f T m p L).1 = true → mO (oR f T m p L).2.2 τ) ∧ Fr [(52, 17), (52, 36), (70, 0), (71, 0), (72, 0)] σ τ := by
  intro m
  induction m with
  | zero =>
    intro p L σ hm hl h hO
    obtain ⟨σ1, g1, z1, b1, f1⟩ := m_readsAct (d := d) h hO (by omega)
    rw [aR_end (by omega)] at g1 z1 b1
    exact ⟨σ1, fun v μ g k => p_X10_order_18_3 (by decide) g1 rfl k, z1, (fun z => by cases z), f1⟩
  | succ m ih =>
    intro p L σ hm hl h hO
    obtain ⟨σ1, g1, z1, b1, f1⟩ := m_readsAct (d := d) h hO (by omega)
    obtain ⟨a1, a2, a3, a4⟩ := aR_ok hf h.2.2.1
    have e1 : oR f T (m + 1) p L = if (aR f T p).1 = true ∧ isA f T (aR f T p).2.1 59 = true then oR f T m ((aR f T p).2.1 + 1) (L ++ [(aR f T p).2.2]) else ((aR f T p).1, (aR f T p).2.1, L ++ [(aR f T p).2.2]) := rfl
    rw [e1]
    generalize aR f T p = l at g1 z1 b1 a1 a2 a3 a4
    cases h3 : l.1 with
    | false =>
      rw [h3] at g1
      rw [if_neg (fun z => by cases z.1)]
      exact ⟨σ1, fun v μ g k => p_X10_order_18_3 (by decide) g1 rfl k, z1, (fun z => by cases z), f1⟩
    | true =>
      rw [h3] at g1
      have b1 := b1 h3
      have a4 := a4 h3
      obtain ⟨σ2, g3, z2, f2⟩ := m_takes (d := d + 9) z1 (w := 59) (by decide)
      have F2 := f1.tr (f2.up (G := [(52, 17), (52, 36), (70, 0), (71, 0), (72, 0)]) (by decide))
      have B2 := mO.dep.fr f2 (by decide) b1
      cases q2 : isA f T l.2.1 59 with
      | false =>
        rw [q2] at g3 z2
        rw [if_neg (fun z => by cases z.2)]
        exact ⟨σ2, fun v μ g k => p_X10_order_18_4 (by decide) g1 (by decide) g3 rfl k, z2, fun _ => B2, F2⟩
      | true =>
        rw [q2] at g3 z2
        rw [if_pos ⟨rfl, rfl⟩]
        obtain ⟨τ, k1, k2, k3, k4⟩ := ih (l.2.1 + 1) (L ++ [l.2.2]) σ2 (by omega) (by simp; omega) z2 B2
        exact ⟨τ, fun v μ g k => p_X10_order_18_5 (by decide) g1 (by decide) g3 (by decide) (k1 v μ _ k), k2, k3, F2.tr k4⟩
theorem m_does {S : OS} {i : AI} {k : Nat} (h : oMo S σ) (ok : okA i) (hk : k < 60) (e0 : σ.1 70 k = nI i.1) (e1 : σ.1 71 k = nI i.2.1) (e2 : i.1 = 0 ∨ i.1 = 2 → σ.1 72 k = nI i.2.2) : ∃ τ, hq_c 230 (d + 4) [.ref 52, .int (nI k)] σ (some (.int (bI (doA S i).1))) τ ∧ oMo (doA S i).2 τ ∧ Fr [(52, 37), (61, 0)] σ τ := by
  obtain ⟨⟨R, ht, hy⟩, hp⟩ := h
  obtain ⟨o1, o2, o3, o4⟩ := ok
  have ck : (nI k).toNatClampNeg = k := clamp (by omega)
  have o : vp_in (nI k) 60 := vin hk (by decide)
  have x0 : σ.1 70 (nI k).toNatClampNeg = nI i.1 := by rw [ck]; exact e0
  have x1 : σ.1 71 (nI k).toNatClampNeg = nI i.2.1 := by rw [ck]; exact e1
  have ne : ∀ c, c < 4 → i.1 ≠ c → ¬ σ.1 70 (nI k).toNatClampNeg = nI c := fun c hc z => by rw [x0, nI_eq (by omega) (by omega)]; exact z
  unfold doA
  by_cases q0 : i.1 = 0
  · rw [if_pos q0]
    have x2 : σ.1 72 (nI k).toNatClampNeg = nI i.2.2 := by rw [ck]; exact e2 (Or.inl q0)
    obtain ⟨τ, g1, g2, g3, g4, g5⟩ := m_hangs (d := d) R (nI i.2.1) (nI i.2.2)
    refine ⟨τ, ?_, ⟨⟨g2, g4.trans ht, g5.trans hy⟩, (g3.i rfl).trans hp⟩, g3.up (by decide)⟩
    by_cases c : hangR S.1 (nI i.2.1) (nI i.2.2) < 0
    · rw [decide_eq_true c]
      exact p_X10_does_0_1 o (by rw [x0, q0]) o o (by rw [x1, x2]; exact g1) c
    · rw [decide_eq_false c]
      exact p_X10_does_0_2 o (by rw [x0, q0]) o o (by rw [x1, x2]; exact g1) c
  · rw [if_neg q0]
    by_cases q1 : i.1 = 1
    · rw [if_pos q1]
      obtain ⟨τ, g1, g2, g3, g4, g5⟩ := m_takesDown (d := d) R (nI i.2.1)
      refine ⟨τ, ?_, ⟨⟨g2, g4.trans ht, g5.trans hy⟩, (g3.i rfl).trans hp⟩, g3.up (by decide)⟩
      by_cases c : takeR S.1 (nI i.2.1) < 0
      · rw [decide_eq_true c]
        exact p_X10_does_0_3 o (ne 0 (by decide) q0) (by rw [x0, q1]) o (by rw [x1]; exact g1) c
      · rw [decide_eq_false c]
        exact p_X10_does_0_4 o (ne 0 (by decide) q0) (by rw [x0, q1]) o (by rw [x1]; exact g1) c
    · rw [if_neg q1]
      by_cases q2 : i.1 = 2
      · rw [if_pos q2]
        have x2 : σ.1 72 (nI k).toNatClampNeg = nI i.2.2 := by rw [ck]; exact e2 (Or.inr q2)
        obtain ⟨τ, g1, g2, g3, g4, g5⟩ := m_oils (d := d) R (nI i.2.1) (nI i.2.2)
        refine ⟨τ, ?_, ⟨⟨g2, g4.trans ht, g5.trans hy⟩, (g3.i rfl).trans hp⟩, g3.up (by decide)⟩
        by_cases c : oilR S.1 (nI i.2.1) (nI i.2.2) < 0
        · rw [decide_eq_true c]
          exact p_X10_does_0_5 o (ne 0 (by decide) q0) (ne 1 (by decide) q1) (by rw [x0, q2]) o o (by rw [x1, x2]; exact g1) c
        · rw [decide_eq_false c]
          exact p_X10_does_0_6 o (ne 0 (by decide) q0) (ne 1 (by decide) q1) (by rw [x0, q2]) o o (by rw [x1, x2]; exact g1) c
      · rw [if_neg q2]
        obtain ⟨τ, g1, g2, g3⟩ := m_daysGo (d := d + 1) R ht hy (n := i.2.1) (by omega)
        have P := p_X10_does_0_7 o (ne 0 (by decide) q0) (ne 1 (by decide) q1) (ne 2 (by decide) q2) o (by rw [x1]; exact g1)
        have fz : Fr [(52, 37)] τ (hq_sI τ 52 36 (nI (S.2.2.2 + daysP S.1 i.2.1))) := (Fr.rf τ).sI rfl
        rw [hp, nplus] at P
        exact ⟨_, P, ⟨mT.dep.fr fz (by decide) g2, sI_eq⟩, (g3.up (by decide)).tr (fz.up (by decide))⟩
theorem m_doL {N : Nat} : ∀ (L : List AI) (k : Nat) (S : OS) (σ : hq_St), (∀ j i, L[j]? = some i → σ.1 70 (k + j) = nI i.1 ∧ σ.1 71 (k + j) = nI i.2.1 ∧ (i.1 = 0 ∨ i.1 = 2 → σ.1 72 (k + j) = nI i.2.2)) → k + L.length = N → N ≤ 30 → (∀ i, i ∈ L → okA i) → oMo S σ → σ.1 52 35 = nI N → ∃ ρ0 ρ, (∀ v τ, hq_m 231 (d + 5) v τ 51 [some (.ref 52), none, none, none, none, some (.int (nI (coA L k S).2.1))] [] ρ0 → hq_m 231 (d + 5) v τ 51 [some (.ref 52), none, none, none, none, some (.int (nI k))] [] σ) ∧ ((coA L k S).1 = true → hq_c 230 (d + 4) [.ref 52, .int (nI (coA L k S).2.1)] ρ0 (some (.int (nI 0))) ρ) ∧ ((coA L k S).1 = false → ρ = ρ0) ∧ ρ0.1 52 35 = nI N ∧ oMo (coA L k S).2.2 ρ ∧ Fr [(52, 37), (61, 0)] σ ρ := by
  intro L
  induction L with
  | nil =>
    intro k S σ hL hk hN ok h h2
    exact ⟨σ, σ, fun v τ q => q, (fun z => by cases z), fun _ => rfl, h2, h, Fr.rf σ⟩
  | cons i L ih =>
    intro k S σ hL hk hN ok h h2
    have hl : (i :: L).length = L.length + 1 := rfl
    rw [hl] at hk
    obtain ⟨y0, y1, y2⟩ := hL 0 i rfl
    obtain ⟨σ1, g1, h1, f1⟩ := m_does (d := d) (k := k) h (ok i (by simp)) (by omega) y0 y1 y2
    unfold coA
    cases hd : (doA S i).1 with
    | false =>
      rw [hd] at g1
      exact ⟨σ, σ1, fun v τ q => q, fun _ => g1, (fun z => by cases z), h2, h1, f1⟩
    | true =>
      rw [hd] at g1
      rw [if_pos rfl]
      obtain ⟨ρ0, ρ, k1, k2, k3, k4, k5, k6⟩ := ih (k + 1) (doA S i).2 σ1 (fun j t hj => by
        rw [f1.i rfl, f1.i rfl, f1.i rfl, show k + 1 + j = k + (j + 1) by omega]
        exact hL (j + 1) t (by simpa using hj)) (by omega) hN (fun t ht => ok t (by simp [ht])) h1 ((f1.i rfl).trans h2)
      refine ⟨ρ0, ρ, fun v τ q => p_X10_order_51_5 (by rw [h2]; exact nlt (by omega) (by omega)) g1 (by decide) ?_, k2, k3, k4, k5, f1.tr k6⟩
      rw [nplus]
      exact k1 v τ q
theorem m_order {t y : Int32} {P : List Snap} {L : List Int64} (R : mT A t y σ) (h : mX n f σ) (hP : mP (A 1 0) P σ) (hL : mR L σ) : ∃ τ, hq_c 231 (d + 12) [.ref 52] σ (some (.int (ordR A t y n f))) τ ∧ mT (ordS A t y n f).1 (ordS A t y n f).2.1 (ordS A t y n f).2.2 τ ∧ mX 0 f τ ∧ mP (A 1 0) (ordP A t y n f P) τ ∧ mR (ordL A t y n f L) τ ∧ Fr [(52, 1), (52, 2), (52, 16), (52, 17), (52, 18), (52, 19), (52, 30), (52, 36), (52, 37), (53, 0), (61, 0), (69, 0), (70, 0), (71, 0), (72, 0)] σ τ := by
  have h80 := h.1
  obtain ⟨r1, r2, r3⟩ := orO_ok (n := n) (f := f) (fun j hj => (h.2.2 j hj).1)
  have f0 : Fr [(52, 1)] σ (hq_sI σ 52 0 (nI 0)) := frth
  obtain ⟨σ1, g1, z1, x1, n1, f1⟩ := m_begins (d := d + 10) (mX.dep.fr f0 (by decide) h) (k := 60) (by decide)
  have f2 : Fr [(52, 36)] σ1 (hq_sI σ1 52 35 (nI 0)) := (Fr.rf _).sI rfl
  have O2 : mO [] (hq_sI σ1 52 35 (nI 0)) := ⟨by rw [sI_eq]; rfl, fun j t hj => by simp at hj⟩
  have z2 := mZ.dep.fr f2 (by decide) z1
  have F2 : Fr [(52, 1), (52, 16), (52, 17), (52, 18), (52, 19), (52, 36), (70, 0), (71, 0), (72, 0)] σ (hq_sI σ1 52 35 (nI 0)) := (f0.up (by decide)).tr ((f1.up (by decide)).tr (f2.up (by decide)))
  have X2 := mX.dep.fr f2 (by decide) x1
  generalize e2 : hq_sI σ1 52 35 (nI 0) = σ2 at f2 O2 z2 F2 X2
  -- behind the reading
  have fin : ∀ (Q : List AI) (σ3 : hq_St), mO Q σ3 → Q.length ≤ 30 → (∀ i, i ∈ Q → okA i) → mT A t y σ3 → mP (A 1 0) P σ3 → mX 0 f σ3 → Fr [(52, 1), (52, 16), (52, 17), (52, 18), (52, 19), (52, 36), (70, 0), (71, 0), (72, 0)] σ σ3 → ∃ ρ τ, hq_c 212 (d + 11) [.ref 52] σ3 none ρ ∧ hq_m 231 (d + 12) (some (.int (nI (coA Q 0 (A, t, y, 0)).2.1))) τ 51 [some (.ref 52), none, none, none, none, some (.int (nI 0))] [] (hq_sI ρ 52 36 (nI 0)) ∧ mT (coA Q 0 (A, t, y, 0)).2.2.1 (coA Q 0 (A, t, y, 0)).2.2.2.1 (coA Q 0 (A, t, y, 0)).2.2.2.2.1 τ ∧ mX 0 f τ ∧ mP (A 1 0) (if (coA Q 0 (A, t, y, 0)).2.1 = 0 then P else addP (A, t, y) P) τ ∧ mR [(bI (coA Q 0 (A, t, y, 0)).1).toInt64, (nI (coA Q 0 (A, t, y, 0)).2.2.2.2.2).toInt64] τ ∧ Fr [(52, 1), (52, 2), (52, 16), (52, 17), (52, 18), (52, 19), (52, 30), (52, 36), (52, 37), (53, 0), (61, 0), (69, 0), (70, 0), (71, 0), (72, 0)] σ τ := fun Q σ3 O3 hQ okQ T3 P3 X3 F3 => by
    obtain ⟨ρ, a1, a2, a3⟩ := m_putsBy (d := d + 10) T3 P3
    have fz : Fr [(52, 37)] ρ (hq_sI ρ 52 36 (nI 0)) := (Fr.rf ρ).sI rfl
    have T4 := mT.dep.fr fz (by decide) (mT.dep.fr a3 (by decide) T3)
    have P4 := mPm.dep.fr fz (by decide) a2
    have O4 := mO.dep.fr fz (by decide) (mO.dep.fr a3 (by decide) O3)
    have X4 := mX.dep.fr fz (by decide) (mX.dep.fr a3 (by decide) X3)
    have F4 : Fr [(52, 1), (52, 2), (52, 16), (52, 17), (52, 18), (52, 19), (52, 30), (52, 36), (52, 37), (53, 0), (61, 0), (69, 0), (70, 0), (71, 0), (72, 0)] σ (hq_sI ρ 52 36 (nI 0)) := (F3.up (by decide)).tr ((a3.up (by decide)).tr (fz.up (by decide)))
    obtain ⟨ρ0, ρ5, k1, k2, k3, k4, k5, k6⟩ := m_doL (d := d + 7) Q 0 (A, t, y, 0) _ (fun j i hj => by rw [Nat.zero_add]; exact O4.2 j i hj) (Nat.zero_add _) hQ okQ ⟨T4, sI_eq⟩ O4.1
    have cl := coA_le Q 0 (A, t, y, 0)
    generalize coA Q 0 (A, t, y, 0) = C at k1 k2 k3 k5 cl
    have b30 : C.2.1 < 2 ^ 31 := by
      cases hc : C.1 with
      | false => have := cl.2.2 hc; omega
      | true => have := cl.2.1 hc; omega
    have P5 := mPm.dep.fr k6 (by decide) P4
    have X5 := mX.dep.fr k6 (by decide) X4
    have e35 : ρ5.1 52 35 = nI Q.length := by rw [k6.i rfl]; exact O4.1
    have fy : Fr [(52, 2), (53, 0)] ρ5 (hq_sI ρ5 52 1 (nI 0)) := (Fr.rf ρ5).sI rfl
    have fl : hq_c 169 (d + 11) [.int (bI C.1)] (hq_sI ρ5 52 1 (nI 0)) (some (.int (bI C.1))) (hq_sI ρ5 52 1 (nI 0)) := m_flag (d := d + 10) C.1
    obtain ⟨ρ6, b1, b2, b3⟩ := m_enters (d := d + 10) (mR.nil (σ := ρ5)) (by decide) (bI C.1).toInt64
    have p36 : ρ6.1 52 36 = nI C.2.2.2.2.2 := by rw [b3.i rfl, fy.i rfl]; exact k5.2
    obtain ⟨ρ7, c1, c2, c3⟩ := m_enters (d := d + 10) b2 (by simp) (ρ6.1 52 36).toInt64
    rw [p36] at c2
    have F7 : Fr [(52, 2), (53, 0)] ρ5 ρ7 := fy.tr (b3.tr c3)
    have P7 := mPm.dep.fr F7 (by decide) P5
    have T7 := mT.dep.fr F7 (by decide) k5.1
    have X7 := mX.dep.fr F7 (by decide) X5
    have FF := F4.tr ((k6.up (G := [(52, 1), (52, 2), (52, 16), (52, 17), (52, 18), (52, 19), (52, 30), (52, 36), (52, 37), (53, 0), (61, 0), (69, 0), (70, 0), (71, 0), (72, 0)]) (by decide)).tr (F7.up (by decide)))
    by_cases q0 : C.2.1 = 0
    · have n0 : ¬ (0 : Int32) < nI C.2.1 := fun z => (z_lt b30).mp z q0
      rw [if_pos q0]
      refine ⟨ρ, ρ7, a1, k1 _ _ ?_, T7, X7, P7.1, c2, FF⟩
      cases hc : C.1 with
      | true =>
        have c5 := cl.2.1 hc
        rw [hc] at fl b1
        have hr : nI C.2.1 < nI Q.length := nlt (by omega) (by omega)
        have P := p_X10_order_51_2 (by rw [k4]; exact hr) (k2 hc) rfl (by rw [fy.i rfl, e35]; exact hr) fl b1 c1 n0
        rw [q0]
        rw [q0] at P
        exact P
      | false =>
        have c5 := cl.2.2 hc
        have e := k3 hc
        subst e
        rw [hc] at fl b1
        have hr : ¬ nI C.2.1 < nI Q.length := nI_nlt (by omega) (by omega)
        have P := p_X10_order_51_9 (by rw [k4]; exact hr) (by rw [fy.i rfl, e35]; exact hr) fl b1 c1 n0
        rw [q0]
        rw [q0] at P
        exact P
    · have n0 : (0 : Int32) < nI C.2.1 := (z_lt b30).mpr q0
      rw [if_neg q0]
      obtain ⟨ρ8, d1, d2, d3⟩ := m_adds (d := d + 10) P7 (nI C.2.1)
      refine ⟨ρ, ρ8, a1, k1 _ _ ?_, mT.dep.fr d3 (by decide) T7, mX.dep.fr d3 (by decide) X7, d2, mR.dep.fr d3 (by decide) c2, FF.tr (d3.up (by decide))⟩
      cases hc : C.1 with
      | true =>
        have c5 := cl.2.1 hc
        rw [hc] at fl b1
        have hr : nI C.2.1 < nI Q.length := nlt (by omega) (by omega)
        exact p_X10_order_51_1 (by rw [k4]; exact hr) (k2 hc) rfl (by rw [fy.i rfl, e35]; exact hr) fl b1 c1 n0 d1
      | false =>
        have c5 := cl.2.2 hc
        have e := k3 hc
        subst e
        rw [hc] at fl b1
        have hr : ¬ nI C.2.1 < nI Q.length := nI_nlt (by omega) (by omega)
        exact p_X10_order_51_8 (by rw [k4]; exact hr) (by rw [fy.i rfl, e35]; exact hr) fl b1 c1 n0 d1
  have R2 := mT.dep.fr F2 (by decide) R
  have P2 := mP.dep.fr F2 (by decide) hP
  have L2 := mR.dep.fr F2 (by decide) hL
  unfold ordR ordS ordP ordL orC orK
  by_cases q : n = 0
  · have eo : orO n f = (true, 0, []) := by unfold orO; rw [if_pos q]
    rw [eo]
    have ek : ((true, 0, ([] : List AI)).1 && decide ((true, 0, ([] : List AI)).2.1 = n)) = true := by rw [q]; rfl
    rw [ek]
    rw [if_pos rfl, if_pos rfl, if_pos rfl, if_pos rfl]
    have k := m_faultOf (d := d + 10) (K := 60) z2 (by decide) true
    have e : fltA n 60 true 0 = nI 0 := by unfold fltA; rw [if_pos ⟨rfl, q.symm, by omega⟩]; rfl
    rw [e] at k
    obtain ⟨ρ, τ, w1, w2, w3⟩ := fin [] σ2 O2 (by decide) (fun i hi => by simp at hi) R2 P2 X2 F2
    exact ⟨τ, p_X10_order_0_2 g1 (by rw [q]; decide) (by rw [e2]; exact p_X10_order_18_2 rfl k (by decide) w1 w2), w3⟩
  · have eo : orO n f = oR f (min n 60) 30 0 [] := by unfold orO; rw [if_neg q]
    have c1 : (0 : Int32) < nI n := nlt (a := 0) (by omega) (by omega)
    obtain ⟨σ3, w3, z3, b3, f3⟩ := m_actsL (d := d) (n := n) (f := f) (T := min n 60) (fun i hi => (h.2.2 i (by omega)).1) 30 0 [] σ2 (by omega) (by decide) z2 O2
    rw [← eo] at w3 z3 b3
    have R3 := mT.dep.fr f3 (by decide) R2
    have P3 := mP.dep.fr f3 (by decide) P2
    have L3 := mR.dep.fr f3 (by decide) L2
    have X3 := mX.dep.fr f3 (by decide) X2
    have F3 := F2.tr (f3.up (G := [(52, 1), (52, 16), (52, 17), (52, 18), (52, 19), (52, 36), (70, 0), (71, 0), (72, 0)]) (by decide))
    generalize orO n f = r at w3 z3 b3 r1 r2 r3
    have k := m_faultOf (d := d + 10) (K := 60) z3 (by decide) r.1
    have fn := flt_neg (n := n) (K := 60) (p := r.2.1) (g := r.1) (by omega)
    have ent1 : ∀ v τ, hq_m 231 (d + 12) v τ 18 [some (.ref 52), some (.int (nI n)), some (.int (nI 1)), some (.int (nI 1)), none, none] [] σ2 → hq_c 231 (d + 12) [.ref 52] σ v τ := fun v τ k => p_X10_order_0_1 g1 c1 (by rw [e2]; exact k)
    cases hk : (r.1 && decide (r.2.1 = n)) with
    | false =>
      rw [if_neg (by decide), if_neg (by decide), if_neg (by decide), if_neg (by decide)]
      have ng : ¬ (r.1 = true ∧ r.2.1 = n ∧ n ≤ 60) := fun z => by
        rw [z.1] at hk
        simp at hk
        exact hk z.2.1
      have e : fltA n 60 r.1 r.2.1 = (-1 : Int32) - nI r.2.1 := by unfold fltA; rw [if_neg ng]
      have Q := ent1 _ _ (w3 _ _ _ (p_X10_order_18_1 rfl k (fn.mpr ng)))
      rw [e] at Q
      exact ⟨σ3, Q, R3, X3, P3, L3, F3.up (by decide)⟩
    | true =>
      obtain ⟨k1, k2⟩ : r.1 = true ∧ r.2.1 = n := by simpa using hk
      rw [if_pos rfl, if_pos rfl, if_pos rfl, if_pos rfl]
      have nf : ¬ fltA n 60 r.1 r.2.1 < 0 := fun z => fn.mp z ⟨k1, k2, by omega⟩
      obtain ⟨ρ, τ, y1, y2, y3⟩ := fin r.2.2 σ3 (b3 k1) r3 r2 R3 P3 X3 F3
      exact ⟨τ, ent1 _ _ (w3 _ _ _ (p_X10_order_18_2 rfl k nf y1 y2)), y3⟩
end OM
