/-! hangings: prepare (class) -/
theorem prL_skip {A : TA} {e j : Nat} (hj : j < 12) (h : ∀ i, i < j → okP A e (2 ^ j + 2 ^ i) = false) : ∀ i, i ≤ j → prL A e (2 ^ j + 2 ^ i) = prL A e (2 ^ j)
  | 0, _ => prL_hi hj
  | i + 1, hi => by
    rw [prL_step hj (by omega), h i (by omega), if_neg (by decide), List.append_nil]
    exact prL_skip hj h i (by omega)
theorem prs_end {A : TA} {e : Nat} : prL A e (2 ^ (A 1 0 - 1 + 1)) = prs A e := by
  unfold prs
  cases h : A 1 0 with
  | zero => rw [(prL_0 (A := A) (e := e)).1]; exact (prL_0 (A := A) (e := e)).2
  | succ j => rfl
section HD1
variable {d : Nat} {σ : hq_St} {A : TA}
theorem HPq.dep {F : Nat → Nat} {e : Nat} {Q : List Nat} : Dep [(34, 0), (35, 0), (36, 0), (40, 0), (46, 0)] (HPq A F e Q) := fun σ τ q h => by
  have g : ∀ c j, inF [(34, 0), (35, 0), (36, 0), (40, 0), (46, 0)] c j = true → τ.1 c j = σ.1 c j := fun c j z => (q c j z).1
  obtain ⟨h1, h2, h3⟩ := h
  refine ⟨(g 40 e rfl).trans h1, (g 46 e rfl).trans h2, fun k b hk => ?_⟩
  obtain ⟨k1, k2, w, k3, k4⟩ := h3 k b hk
  exact ⟨(g 34 _ rfl).trans k1, (g 35 _ rfl).trans k2, w, k3, (g 36 _ rfl).trans k4⟩
theorem feeF_le (W : Wf A) (pr : Bool) : ∀ h, h < A 1 0 → feeF A pr h ≤ 9 := fun h hh => by
  unfold feeF
  cases pr
  · exact Nat.zero_le _
  · exact (W.2.2.2.1 h hh).2.2.2.1
theorem s_prepare (R : Rc A σ) (pr : Bool) : ∃ τ, hq_c 12 (d + 4) [.ref 33, .ref 5, .int (bI pr)] σ none τ ∧ HP A (feeF A pr) τ ∧ Fr [(33, 14), (33, 15), (34, 0), (35, 0), (36, 0), (37, 0), (38, 0), (39, 0), (40, 0), (46, 0)] σ τ := by
  have W := R.1
  have b1 := W.1
  have b2 := W.2.1
  have fle := feeF_le W pr
  have F0 : Fr [(33, 14), (33, 15)] σ (hq_sI (hq_sI σ 33 13 (σ.1 5 13)) 33 14 ((hq_sI σ 33 13 (σ.1 5 13)).1 5 14)) := ((Fr.rf σ).sI rfl).sI rfl
  have x13 : (hq_sI (hq_sI σ 33 13 (σ.1 5 13)) 33 14 ((hq_sI σ 33 13 (σ.1 5 13)).1 5 14)).1 33 13 = nI (A 0 0) := by rw [sI_slot (by decide), sI_eq]; exact R.2.1
  have x14 : (hq_sI (hq_sI σ 33 13 (σ.1 5 13)) 33 14 ((hq_sI σ 33 13 (σ.1 5 13)).1 5 14)).1 33 14 = nI (A 1 0) := by rw [sI_eq, sI_ne (by decide)]; exact R.2.2.1
  have R0 := Rc.dep.fr F0 (by decide) R
  generalize es0 : hq_sI (hq_sI σ 33 13 (σ.1 5 13)) 33 14 ((hq_sI σ 33 13 (σ.1 5 13)).1 5 14) = σ0 at F0 x13 x14 R0
  -- fees
  obtain ⟨σ1, w1, v1, f1⟩ := hq_w.for (x := 12) (d := d + 4) (i := 10) (fun j => [some (.ref 33), some (.ref 5), some (.int (bI pr)), some (.int (nI j)), none, none]) (fun j ρ => (∀ h, h < j → ρ.1 37 h = nI (feeF A pr h)) ∧ Fr [(37, 0)] σ0 ρ) (A 1 0) (fun j hj ρ ⟨hv, fr⟩ => by
    have c1 : nI j < ρ.1 33 14 := by rw [fr.i rfl, x14]; exact nlt hj (by omega)
    have o : vp_in (nI j) 12 := vin (by omega) (by decide)
    have cj : (nI j).toNatClampNeg = j := clamp (by omega)
    refine ⟨hq_sI ρ 37 j (nI (feeF A pr j)), fun v τ k => ?_, fun h hh => ?_, fr.sI rfl⟩
    · cases pr with
      | false =>
        refine p_X1_prepare_10_1 c1 (by decide) o ?_
        rw [cj, nplus]
        exact k
      | true =>
        refine p_X1_prepare_10_2 c1 (by decide) o o ?_
        rw [cj, fr.i rfl, (R0.2.2.2.2.1 j hj).2.2.1, nplus]
        exact k
    · by_cases q : h = j
      · rw [q, sI_eq]
      · rw [sI_slot q]; exact hv h (by omega)) (σ := σ0) ⟨fun h hh => by omega, Fr.rf σ0⟩
  have R1 := Rc.dep.fr f1 (by decide) R0
  have H1 : ∀ h, h < A 1 0 → σ1.1 37 h = nI (feeF A pr h) ∧ feeF A pr h ≤ 9 := fun h hh => ⟨v1 h hh, fle h hh⟩
  -- twins
  obtain ⟨σ2, w2, v2, f2⟩ := hq_w.for (x := 12) (d := d + 4) (i := 30) (fun j => [some (.ref 33), some (.ref 5), none, some (.int (nI j)), none, none]) (fun j ρ => (∀ h, h < j → ρ.1 38 h = nI (twA A (feeF A pr) h h)) ∧ Fr [(38, 0)] σ1 ρ) (A 1 0) (fun j hj ρ ⟨hv, fr⟩ => by
    have c1 : nI j < ρ.1 33 14 := by rw [fr.i rfl, f1.i rfl, x14]; exact nlt hj (by omega)
    have o : vp_in (nI j) 12 := vin (by omega) (by decide)
    have cj : (nI j).toNatClampNeg = j := clamp (by omega)
    have g := s_twinsAhead (d := d) (F := feeF A pr) (Rc.dep.fr fr (by decide) R1) (fun h hh => ⟨(fr.i rfl).trans (H1 h hh).1, (H1 h hh).2⟩) hj
    refine ⟨hq_sI ρ 38 j (nI (twA A (feeF A pr) j j)), fun v τ k => p_X1_prepare_30_1 c1 g o ?_, fun h hh => ?_, fr.sI rfl⟩
    · rw [cj, nplus]; exact k
    · by_cases q : h = j
      · rw [q, sI_eq]
      · rw [sI_slot q]; exact hv h (by omega)) (σ := σ1) ⟨fun h hh => by omega, Fr.rf σ1⟩
  have R2 := Rc.dep.fr f2 (by decide) R1
  have H2 : ∀ h, h < A 1 0 → σ2.1 37 h = nI (feeF A pr h) ∧ feeF A pr h ≤ 9 := fun h hh => ⟨(f2.i rfl).trans (H1 h hh).1, fle h hh⟩
  have y14 : σ2.1 33 14 = nI (A 1 0) := by rw [f2.i rfl, f1.i rfl]; exact x14
  obtain ⟨σ3, g3, v3, f3⟩ := s_addUp (d := d + 2) y14 b2 H2
  have R3 := Rc.dep.fr f3 (by decide) R2
  have H3 : ∀ h, h < A 1 0 → σ3.1 37 h = nI (feeF A pr h) := fun h hh => (f3.i rfl).trans (H2 h hh).1
  have T3 : ∀ h, h < A 1 0 → σ3.1 38 h = nI (twA A (feeF A pr) h h) := fun h hh => (f3.i rfl).trans (v2 h hh)
  have z14 : σ3.1 33 14 = nI (A 1 0) := (f3.i rfl).trans y14
  have z13 : σ3.1 33 13 = nI (A 0 0) := by rw [f3.i rfl, f2.i rfl, f1.i rfl]; exact x13
  -- doors
  obtain ⟨σ4, w4, v4, f4⟩ := hq_w.for (x := 12) (d := d + 4) (i := 48) (fun e => [some (.ref 33), some (.ref 5), none, some (.int (nI e)), none, none]) (fun e ρ => (∀ f, f < e → HPq A (feeF A pr) f (prs A f) ρ) ∧ Fr [(34, 0), (35, 0), (36, 0), (40, 0), (46, 0)] σ3 ρ) (A 0 0) (fun e he ρ ⟨hv, fr⟩ => by
    have c1 : nI e < ρ.1 33 13 := by rw [fr.i rfl, z13]; exact nlt he (by omega)
    have o : vp_in (nI e) 8 := vin (by omega) (by decide)
    have ce : (nI e).toNatClampNeg = e := clamp (by omega)
    have Rρ := Rc.dep.fr fr (by decide) R3
    have fi : Fr [(34, 0), (35, 0), (36, 0), (40, 0), (46, 0)] σ3 (hq_sI (hq_sI ρ 46 e (nI (onA A (e + 1)))) 40 e (nI 0)) := (fr.sI rfl).sI rfl
    have hi0 : HPq A (feeF A pr) e [] (hq_sI (hq_sI ρ 46 e (nI (onA A (e + 1)))) 40 e (nI 0)) := ⟨by rw [sI_eq]; rfl, by rw [sI_ne (by decide), sI_eq], fun k b hk => by simp at hk⟩
    have ho : ∀ f, f < e → HPq A (feeF A pr) f (prs A f) (hq_sI (hq_sI ρ 46 e (nI (onA A (e + 1)))) 40 e (nI 0)) := fun f hf => by
      obtain ⟨h1, h2, h3⟩ := hv f hf
      refine ⟨by rw [sI_slot (by omega), sI_ne (by decide)]; exact h1, by rw [sI_ne (by decide), sI_slot (by omega)]; exact h2, fun k b hk => ?_⟩
      rw [sI_ne (by decide), sI_ne (by decide), sI_ne (by decide), sI_ne (by decide), sI_ne (by decide), sI_ne (by decide)]
      exact h3 k b hk
    obtain ⟨ρ', w', hq', ho', fr'⟩ := hq_w.for (x := 12) (d := d + 4) (i := 67) (fun j => [some (.ref 33), some (.ref 5), none, some (.int (nI e)), some (.int (nI (j + 1))), none]) (fun j ρ' => HPq A (feeF A pr) e (prL A e (2 ^ (j + 1))) ρ' ∧ (∀ f, f < e → HPq A (feeF A pr) f (prs A f) ρ') ∧ Fr [(34, 0), (35, 0), (36, 0), (40, 0), (46, 0)] σ3 ρ') (A 1 0 - 1) (fun j hj ρ1 ⟨hq1, ho1, fr1⟩ => by
      have jH : j + 1 < A 1 0 := by omega
      have c2 : nI (j + 1) < ρ1.1 33 14 := by rw [fr1.i rfl, z14]; exact nlt jH (by omega)
      have R1 := Rc.dep.fr fr1 (by decide) R3
      have gf := s_fits (d := d + 2) R1 jH he
      have e2 : (2 : Nat) ^ (j + 1) + 2 ^ (j + 1) = 2 ^ (j + 1 + 1) := (two_dbl (j + 1)).symm
      cases hf : fitsA A (j + 1) e with
      | false =>
        rw [hf] at gf
        have es : prL A e (2 ^ (j + 1 + 1)) = prL A e (2 ^ (j + 1)) := by
          rw [← e2]
          exact prL_skip (by omega) (fun i hi => by rw [okP_pair b2 jH hi, hf]; simp) (j + 1) (Nat.le_refl _)
        refine ⟨ρ1, fun v τ k => p_X1_prepare_67_1 c2 (p_X1_prepare_73_1 gf rfl ?_), by rw [es]; exact hq1, ho1, fr1⟩
        rw [nplus]; exact k
      | true =>
        rw [hf] at gf
        obtain ⟨ρ2, w2', hq2, ho2, fr2⟩ := hq_w.for (x := 12) (d := d + 4) (i := 73) (fun i => [some (.ref 33), some (.ref 5), none, some (.int (nI e)), some (.int (nI (j + 1))), some (.int (nI i))]) (fun i ρ2 => HPq A (feeF A pr) e (prL A e (2 ^ (j + 1) + 2 ^ i)) ρ2 ∧ (∀ f, f < e → HPq A (feeF A pr) f (prs A f) ρ2) ∧ Fr [(34, 0), (35, 0), (36, 0), (40, 0), (46, 0)] σ3 ρ2) (j + 1) (fun i hi ρ2 ⟨hq2, ho2, fr2⟩ => by
          have R2 := Rc.dep.fr fr2 (by decide) R3
          have iH : i < A 1 0 := by omega
          have gf1 := s_fits (d := d + 2) R2 jH he
          rw [hf] at gf1
          have gf2 := s_fits (d := d + 2) R2 iH he
          have c3 : nI i < nI (j + 1) := nlt hi (by omega)
          have st := prL_step (A := A) (e := e) (j := j + 1) (i := i) (by omega) hi
          rw [okP_pair b2 jH hi, hf] at st
          cases hf2 : fitsA A i e with
          | false =>
            rw [hf2] at gf2 st
            have st : prL A e (2 ^ (j + 1) + 2 ^ (i + 1)) = prL A e (2 ^ (j + 1) + 2 ^ i) := by rw [st]; simp
            rw [st]
            refine ⟨ρ2, fun v τ k => p_X1_prepare_73_2 gf1 (by decide) c3 gf2 rfl ?_, hq2, ho2, fr2⟩
            rw [nplus]; exact k
          | true =>
            rw [hf2] at gf2 st
            have gh1 := s_hold (d := d + 1) R2 jH
            have gh2 := s_hold (d := d + 1) R2 iH
            have u1 := h0_le W (j + 1) jH
            have u2 := h0_le W i iH
            have a5 := (W.2.2.1 e he).2.2.2.2.2.1
            have ew : ρ2.1 10 (nI e).toNatClampNeg = nI (A 5 e) := by rw [ce]; exact (R2.2.2.2.1 e he).2.2.2.2.1
            have sm : nI (holdN (A 7 (j + 1)) (A 9 (j + 1))) + nI (holdN (A 7 i) (A 9 i)) = nI (h0 A (j + 1) + h0 A i) := nplus _ _
            by_cases q : A 5 e ≤ h0 A (j + 1) + h0 A i
            · have st : prL A e (2 ^ (j + 1) + 2 ^ (i + 1)) = prL A e (2 ^ (j + 1) + 2 ^ i) ++ [2 ^ (j + 1) + 2 ^ i] := by rw [st]; simp [q]
              rw [st]
              have len := prL_len (A := A) (e := e) (j := j + 1) (by omega) (i := i) (by omega)
              have t12 := tri_le (j + 1 + 1) (by omega)
              have tr : tri (j + 1 + 1) = tri (j + 1) + (j + 1) := rfl
              have gp := s_addPair (d := d + 2) (σ := ρ2) (e := e) (k := (prL A e (2 ^ (j + 1) + 2 ^ i)).length) (j := j + 1) (i := i) (by omega) (by omega) hq2.1 (by omega) hi ((fr2.i rfl).trans (H3 _ jH)) ((fr2.i rfl).trans (H3 _ iH)) ((fr2.i rfl).trans (T3 _ jH)) ((fr2.i rfl).trans (T3 _ iH))
              refine ⟨_, fun v τ k => p_X1_prepare_73_4 gf1 (by decide) c3 gf2 (by decide) gh1 gh2 o (by rw [sm, ew]; exact nI_nlt q (by omega)) gp ?_, hq2.add rfl ((pair_or (by omega) hi).2.2.2 _ _ jH).symm (tw_pair b2 jH hi), fun f hf => (ho2 f hf).other (by omega) (by omega) (prs_len b2), fr2.tr (apS_fr.up (by decide))⟩
              rw [nplus]; exact k
            · have st : prL A e (2 ^ (j + 1) + 2 ^ (i + 1)) = prL A e (2 ^ (j + 1) + 2 ^ i) := by rw [st]; simp [q]
              rw [st]
              refine ⟨ρ2, fun v τ k => p_X1_prepare_73_3 gf1 (by decide) c3 gf2 (by decide) gh1 gh2 o (by rw [sm, ew]; exact nlt (by omega) (by omega)) ?_, hq2, ho2, fr2⟩
              rw [nplus]; exact k) (σ := ρ1) ⟨by rw [prL_hi (by omega)]; exact hq1, ho1, fr1⟩
        have R2 := Rc.dep.fr fr2 (by decide) R3
        have gf1 := s_fits (d := d + 2) R2 jH he
        rw [hf] at gf1
        refine ⟨ρ2, fun v τ k => p_X1_prepare_67_1 c2 (w2' v τ (p_X1_prepare_73_5 gf1 (by decide) (nI_nlt (Nat.le_refl _) (by omega)) ?_)), by rw [← e2]; exact hq2, ho2, fr2⟩
        rw [nplus]; exact k) (σ := hq_sI (hq_sI ρ 46 e (nI (onA A (e + 1)))) 40 e (nI 0)) ⟨by rw [(prL_0 (A := A) (e := e)).2]; exact hi0, ho, fi⟩
    rw [prs_end] at hq'
    refine ⟨ρ', fun v τ k => p_X1_prepare_48_1 c1 o o o ?_, fun f hf => ?_, fr'⟩
    · rw [ce, (Rρ.2.2.2.1 e he).2.2.2.2.2]
      refine w' v τ (p_X1_prepare_67_2 (by rw [fr'.i rfl, z14]; exact nI_nlt (by omega) (by omega)) ?_)
      rw [nplus]; exact k
    · by_cases q : f = e
      · rw [q]; exact hq'
      · exact ho' f (by omega)) (σ := σ3) ⟨fun f hf => by omega, Fr.rf σ3⟩
  refine ⟨σ4, p_X1_prepare_0_1 ?_, ⟨(f4.i rfl).trans z13, (f4.i rfl).trans z14, fun m hm => (f4.i rfl).trans (v3 m hm), v4⟩, (F0.up (by decide)).tr ((f1.up (by decide)).tr ((f2.up (by decide)).tr ((f3.up (by decide)).tr (f4.up (by decide)))))⟩
  rw [es0]
  refine w1 _ _ (p_X1_prepare_10_3 (by rw [f1.i rfl, x14]; exact nI_nlt (Nat.le_refl _) (by omega)) (w2 _ _ (p_X1_prepare_30_2 (by rw [y14]; exact nI_nlt (Nat.le_refl _) (by omega)) g3 (w4 _ _ (p_X1_prepare_48_2 ?_)))))
  rw [f4.i rfl, z13]
  exact nI_nlt (Nat.le_refl _) (by omega)
end HD1
