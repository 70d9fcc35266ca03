/-! house: lines added -/
def addD (A : TA) (t : DI) : TA := fun a b => if a = 0 then (if b = 0 then A 0 0 + 1 else A a b) else if b = A 0 0 then (if a = 2 then t.1 else if a = 3 then t.2.1 else if a = 4 then t.2.2.1 else if a = 5 then t.2.2.2 else A a b) else A a b
def addH (A : TA) (t : HI) : TA := fun a b => if a = 1 then (if b = 0 then A 1 0 + 1 else A a b) else if b = A 1 0 then (if a = 6 then t.1 else if a = 7 then t.2.1 else if a = 8 then t.2.2 else if a = 9 ∨ a = 10 ∨ a = 11 then 0 else A a b) else A a b
theorem addD_o {A : TA} {t : DI} {a b : Nat} (h : 6 ≤ a ∨ a = 1) : addD A t a b = A a b := by
  unfold addD
  rw [if_neg (by omega)]
  split
  · rw [if_neg (by omega), if_neg (by omega), if_neg (by omega), if_neg (by omega)]
  · rfl
theorem addH_o {A : TA} {t : HI} {a b : Nat} (h : a = 0 ∨ (2 ≤ a ∧ a ≤ 5) ∨ 12 ≤ a) : addH A t a b = A a b := by
  unfold addH
  rw [if_neg (by omega)]
  split
  · rw [if_neg (by omega), if_neg (by omega), if_neg (by omega), if_neg (by omega)]
  · rfl
theorem addD_ne {A : TA} {t : DI} {a b : Nat} (h : a ≠ 0) (hb : b ≠ A 0 0) : addD A t a b = A a b := by
  unfold addD
  rw [if_neg h, if_neg hb]
theorem addH_ne {A : TA} {t : HI} {a b : Nat} (h : a ≠ 1) (hb : b ≠ A 1 0) : addH A t a b = A a b := by
  unfold addH
  rw [if_neg h, if_neg hb]
theorem addD_0 (A : TA) (t : DI) : addD A t 0 0 = A 0 0 + 1 := rfl
theorem addH_1 (A : TA) (t : HI) : addH A t 1 0 = A 1 0 + 1 := rfl
theorem addD_n (A : TA) (t : DI) : addD A t 2 (A 0 0) = t.1 ∧ addD A t 3 (A 0 0) = t.2.1 ∧ addD A t 4 (A 0 0) = t.2.2.1 ∧ addD A t 5 (A 0 0) = t.2.2.2 := by
  unfold addD
  simp
theorem addH_n (A : TA) (t : HI) : addH A t 6 (A 1 0) = t.1 ∧ addH A t 7 (A 1 0) = t.2.1 ∧ addH A t 8 (A 1 0) = t.2.2 ∧ addH A t 9 (A 1 0) = 0 ∧ addH A t 10 (A 1 0) = 0 ∧ addH A t 11 (A 1 0) = 0 := by
  unfold addH
  simp
theorem sbits_cg {p q : Nat → Bool} : ∀ {m : Nat}, (∀ j, j < m → p j = q j) → sbits p m = sbits q m
  | 0, _ => rfl
  | m + 1, h => by
    unfold sbits
    rw [sbits_cg (m := m) (fun j hj => h j (by omega)), h m (by omega)]
theorem sbits_none {p : Nat → Bool} : ∀ {m : Nat}, (∀ j, j < m → p j = false) → sbits p m = 0
  | 0, _ => rfl
  | m + 1, h => by
    rw [sbits_0 (h m (by omega))]
    exact sbits_none (fun j hj => h j (by omega))
section HD
variable {A : TA}
theorem onA_addD {t : DI} {p : Nat} : onA (addD A t) p = onA A p := by
  unfold onA
  rw [addD_o (Or.inr rfl)]
  exact sbits_cg (fun j _ => by rw [addD_o (Or.inl (by decide))])
theorem onA_addH {t : HI} {p : Nat} (hp : p ≠ 0) : onA (addH A t) p = onA A p := by
  unfold onA
  rw [addH_1]
  have : (addH A t 11 (A 1 0) == p) = false := by
    rw [(addH_n A t).2.2.2.2.2]
    simp
    exact fun z => hp z.symm
  rw [sbits_0 (p := fun h => addH A t 11 h == p) this]
  exact sbits_cg (fun j hj => by rw [addH_ne (by decide) (by omega)])
theorem onA_new (W : Wf A) : onA A (A 0 0 + 1) = 0 := sbits_none (fun j hj => by
  have := (W.2.2.2.1 j hj).2.2.2.2.2.2.1
  simp
  omega)
theorem Wf.addD (W : Wf A) {t : DI} (ht : okDi t) (hd : A 0 0 < 8) : Wf (addD A t) := by
  obtain ⟨w1, w2, w3, w4, w5⟩ := W
  obtain ⟨n2, n3, n4, n5⟩ := addD_n A t
  obtain ⟨t1, t2, t3, t4, t5, t6⟩ := ht
  refine ⟨by rw [addD_0]; omega, by rw [addD_o (Or.inr rfl)]; exact w2, fun e he => ?_, fun h hh => ?_, fun r => by rw [addD_o (Or.inl (by decide))]; exact w5 r⟩
  · rw [addD_0] at he
    unfold wfD
    rw [onA_addD]
    by_cases q : e = A 0 0
    · rw [q, n2, n3, n4, n5, onA_new ⟨w1, w2, w3, w4, w5⟩]
      exact ⟨t1, t2, t3, t4, t5, t6, by decide⟩
    · rw [addD_ne (by decide) q, addD_ne (by decide) q, addD_ne (by decide) q, addD_ne (by decide) q]
      exact w3 e (by omega)
  · rw [addD_o (Or.inr rfl)] at hh
    obtain ⟨h1, h2, h3, h4, h5, h6, h7, h8⟩ := w4 h hh
    unfold wfH
    rw [addD_o (Or.inl (by decide)), addD_o (Or.inl (by decide)), addD_o (Or.inl (by decide)), addD_o (Or.inl (by decide)), addD_o (Or.inl (by decide)), addD_o (Or.inl (by decide)), addD_0]
    refine ⟨h1, h2, h3, h4, h5, h6, by omega, fun e he => ?_⟩
    have := h8 e he
    unfold fitsA at this ⊢
    rw [addD_o (Or.inl (by decide)), addD_ne (by decide) (by omega)]
    exact this
theorem Wf.addH (W : Wf A) {t : HI} (ht : okHi t) (hd : A 1 0 < 12) : Wf (addH A t) := by
  obtain ⟨w1, w2, w3, w4, w5⟩ := W
  obtain ⟨n6, n7, n8, n9, n10, n11⟩ := addH_n A t
  obtain ⟨t1, t2, t3, t4⟩ := ht
  refine ⟨by rw [addH_o (Or.inl rfl)]; exact w1, by rw [addH_1]; omega, fun e he => ?_, fun h hh => ?_, fun r => by rw [addH_o (Or.inr (Or.inr (by decide)))]; exact w5 r⟩
  · rw [addH_o (Or.inl rfl)] at he
    unfold wfD
    rw [onA_addH (by omega), addH_o (Or.inr (Or.inl (by decide))), addH_o (Or.inr (Or.inl (by decide))), addH_o (Or.inr (Or.inl (by decide))), addH_o (Or.inr (Or.inl (by decide)))]
    exact w3 e he
  · rw [addH_1] at hh
    unfold wfH
    by_cases q : h = A 1 0
    · rw [q, n6, n7, n8, n9, n10, n11]
      exact ⟨t1, t2, t3, t4, by omega, by omega, by omega, fun e he => by omega⟩
    · rw [addH_ne (by decide) q, addH_ne (by decide) q, addH_ne (by decide) q, addH_ne (by decide) q, addH_ne (by decide) q, addH_ne (by decide) q, addH_o (Or.inl rfl)]
      obtain ⟨h1, h2, h3, h4, h5, h6, h7, h8⟩ := w4 h (by omega)
      refine ⟨h1, h2, h3, h4, h5, h6, h7, fun e he => ?_⟩
      have := h8 e he
      unfold fitsA at this ⊢
      rw [addH_ne (by decide) q, addH_o (Or.inr (Or.inl (by decide)))]
      exact this
end HD
theorem decD : ∀ a, a < 8 → ∀ b, b < 8 → ∀ h, h < 2 → ∀ w, w < 10 → ((nI (4096 * a + 256 * b + 16 * h + w) >>> (nI 12 &&& 31)) &&& nI 7) = nI a ∧ ((nI (4096 * a + 256 * b + 16 * h + w) >>> (nI 8 &&& 31)) &&& nI 7) = nI b ∧ ((nI (4096 * a + 256 * b + 16 * h + w) >>> (nI 4 &&& 31)) &&& nI 3) = nI h ∧ (nI (4096 * a + 256 * b + 16 * h + w) &&& nI 15) = nI w := by decide +kernel
theorem decH : ∀ h, h < 3 → ∀ s, s < 10 → ∀ w, w < 10 → ((nI (256 * h + 16 * s + w) >>> (nI 8 &&& 31)) &&& nI 3) = nI h ∧ ((nI (256 * h + 16 * s + w) >>> (nI 4 &&& 31)) &&& nI 15) = nI s ∧ (nI (256 * h + 16 * s + w) &&& nI 15) = nI w := by decide +kernel
section HE
variable {d : Nat} {σ : hq_St} {A : TA}
theorem s_addDoor (R : Rc A σ) {t : DI} (ht : okDi t) (hd : A 0 0 < 8) : ∃ τ, hq_c 7 (d + 1) [.ref 5, .int (nI (pkD t))] σ none τ ∧ Rc (addD A t) τ ∧ Fr [(5, 14), (6, 0), (7, 0), (8, 0), (9, 0), (10, 0), (11, 0)] σ τ := by
  have W := R.1
  obtain ⟨t1, t2, t3, t4, t5, t6⟩ := ht
  obtain ⟨e1, e2, e3, e4⟩ := decD t.1 t1 t.2.1 t2 t.2.2.1 t4 t.2.2.2 (by omega)
  have o : vp_in (σ.1 5 13) 8 := by rw [R.2.1]; exact vin hd (by decide)
  have P := p_X0_addDoor_0_1 (d := d) (σ := σ) (l1 := nI (pkD t)) o o o o o rfl o o o rfl
  have ep : pkD t = 4096 * t.1 + 256 * t.2.1 + 16 * t.2.2.1 + t.2.2.2 := rfl
  rw [ep, e1, e2, e3, e4, R.2.1, clamp (by omega)] at P
  rw [sI_ne (a := 6) (c := 7) (by decide), sI_eq, sI_eq, hn_shl t.1 (by omega), hn_shl t.2.1 (by omega), orr] at P
  rw [sI_ne (by decide), sI_ne (by decide), sI_ne (by decide), sI_ne (by decide), sI_ne (by decide), sI_ne (by decide), R.2.1, nplus] at P
  refine ⟨_, P, ?_, ((((((((Fr.rf σ).sI rfl).sI rfl).sI rfl).sI rfl).sI rfl).sI rfl).sI rfl)⟩
  obtain ⟨n2, n3, n4, n5⟩ := addD_n A t
  refine ⟨W.addD ⟨t1, t2, t3, t4, t5, t6⟩ hd, ?_, ?_, fun e he => ?_, fun h hh => ?_, fun r r1 r2 => ?_⟩
  · rw [sI_eq, addD_0]
  · rw [sI_slot (by decide), sI_ne (by decide), sI_ne (by decide), sI_ne (by decide), sI_ne (by decide), sI_ne (by decide), sI_ne (by decide), R.2.2.1, addD_o (Or.inr rfl)]
  · rw [addD_0] at he
    unfold cDoor
    rw [onA_addD]
    by_cases q : e = A 0 0
    · rw [q, n2, n3, n4, n5, onA_new W]
      refine ⟨?_, ?_, ?_, ?_, ?_, ?_⟩
      · rw [sI_ne (by decide), sI_ne (by decide), sI_ne (by decide), sI_ne (by decide), sI_ne (by decide), sI_ne (by decide), sI_eq]
      · rw [sI_ne (by decide), sI_ne (by decide), sI_ne (by decide), sI_ne (by decide), sI_ne (by decide), sI_eq]
      · rw [sI_ne (by decide), sI_ne (by decide), sI_ne (by decide), sI_ne (by decide), sI_eq]
      · rw [sI_ne (by decide), sI_ne (by decide), sI_ne (by decide), sI_eq]
      · rw [sI_ne (by decide), sI_ne (by decide), sI_eq]
      · rw [sI_ne (by decide), sI_eq]
    · rw [addD_ne (by decide) q, addD_ne (by decide) q, addD_ne (by decide) q, addD_ne (by decide) q]
      obtain ⟨a1, a2, a3, a4, a5, a6⟩ := R.2.2.2.1 e (by omega)
      refine ⟨?_, ?_, ?_, ?_, ?_, ?_⟩
      · rw [sI_ne (by decide), sI_ne (by decide), sI_ne (by decide), sI_ne (by decide), sI_ne (by decide), sI_ne (by decide), sI_slot q]; exact a1
      · rw [sI_ne (by decide), sI_ne (by decide), sI_ne (by decide), sI_ne (by decide), sI_ne (by decide), sI_slot q, sI_ne (by decide)]; exact a2
      · rw [sI_ne (by decide), sI_ne (by decide), sI_ne (by decide), sI_ne (by decide), sI_slot q, sI_ne (by decide), sI_ne (by decide)]; exact a3
      · rw [sI_ne (by decide), sI_ne (by decide), sI_ne (by decide), sI_slot q, sI_ne (by decide), sI_ne (by decide), sI_ne (by decide)]; exact a4
      · rw [sI_ne (by decide), sI_ne (by decide), sI_slot q, sI_ne (by decide), sI_ne (by decide), sI_ne (by decide), sI_ne (by decide)]; exact a5
      · rw [sI_ne (by decide), sI_slot q, sI_ne (by decide), sI_ne (by decide), sI_ne (by decide), sI_ne (by decide), sI_ne (by decide)]; exact a6
  · rw [addD_o (Or.inr rfl)] at hh
    have fr : Fr [(5, 14), (6, 0), (7, 0), (8, 0), (9, 0), (10, 0), (11, 0)] σ _ := ((((((((Fr.rf σ).sI (c := 6) (j := A 0 0) (v := nI t.1) rfl).sI (c := 7) (j := A 0 0) (v := nI t.2.1) rfl).sI (c := 8) (j := A 0 0) (v := nI (2 ^ t.1 ||| 2 ^ t.2.1)) rfl).sI (c := 9) (j := A 0 0) (v := nI t.2.2.1) rfl).sI (c := 10) (j := A 0 0) (v := nI t.2.2.2) rfl).sI (c := 11) (j := A 0 0) (v := nI 0) rfl).sI (c := 5) (j := 13) (v := nI (A 0 0 + 1)) rfl)
    obtain ⟨a1, a2, a3, a4, a5, a6⟩ := R.2.2.2.2.1 h hh
    unfold cHinge
    rw [addD_o (Or.inl (by decide)), addD_o (Or.inl (by decide)), addD_o (Or.inl (by decide)), addD_o (Or.inl (by decide)), addD_o (Or.inl (by decide)), addD_o (Or.inl (by decide))]
    exact ⟨(fr.i rfl).trans a1, (fr.i rfl).trans a2, (fr.i rfl).trans a3, (fr.i rfl).trans a4, (fr.i rfl).trans a5, (fr.i rfl).trans a6⟩
  · rw [addD_o (Or.inl (by decide)), sI_ne (by decide), sI_ne (by decide), sI_ne (by decide), sI_ne (by decide), sI_ne (by decide), sI_ne (by decide), sI_ne (by decide)]
    exact R.2.2.2.2.2 r r1 r2
theorem s_addHinge (R : Rc A σ) {t : HI} (ht : okHi t) (hd : A 1 0 < 12) : ∃ τ, hq_c 8 (d + 1) [.ref 5, .int (nI (pkH t))] σ none τ ∧ Rc (addH A t) τ ∧ Fr [(5, 15), (12, 0), (13, 0), (14, 0), (15, 0), (16, 0), (17, 0)] σ τ := by
  have W := R.1
  obtain ⟨t1, t2, t3, t4⟩ := ht
  obtain ⟨e1, e2, e3⟩ := decH t.1 (by omega) t.2.1 (by omega) t.2.2 (by omega)
  have o : vp_in (σ.1 5 14) 12 := by rw [R.2.2.1]; exact vin hd (by decide)
  have P := p_X0_addHinge_0_1 (d := d) (σ := σ) (l1 := nI (pkH t)) o o o rfl o o o rfl
  have ep : pkH t = 256 * t.1 + 16 * t.2.1 + t.2.2 := rfl
  rw [ep, e1, e2, e3, R.2.2.1, clamp (by omega)] at P
  rw [sI_ne (by decide), sI_ne (by decide), sI_ne (by decide), sI_ne (by decide), sI_ne (by decide), sI_ne (by decide), R.2.2.1, nplus] at P
  have fr : Fr [(5, 15), (12, 0), (13, 0), (14, 0), (15, 0), (16, 0), (17, 0)] σ _ := ((((((((Fr.rf σ).sI (c := 12) (j := A 1 0) (v := nI t.1) rfl).sI (c := 13) (j := A 1 0) (v := nI t.2.1) rfl).sI (c := 14) (j := A 1 0) (v := nI t.2.2) rfl).sI (c := 15) (j := A 1 0) (v := nI 0) rfl).sI (c := 16) (j := A 1 0) (v := nI 0) rfl).sI (c := 17) (j := A 1 0) (v := -1) rfl).sI (c := 5) (j := 14) (v := nI (A 1 0 + 1)) rfl)
  refine ⟨_, P, ?_, fr⟩
  obtain ⟨n6, n7, n8, n9, n10, n11⟩ := addH_n A t
  refine ⟨W.addH ⟨t1, t2, t3, t4⟩ hd, ?_, ?_, fun e he => ?_, fun h hh => ?_, fun r r1 r2 => ?_⟩
  · rw [fr.i rfl, addH_o (Or.inl rfl)]; exact R.2.1
  · rw [sI_eq, addH_1]
  · rw [addH_o (Or.inl rfl)] at he
    obtain ⟨a1, a2, a3, a4, a5, a6⟩ := R.2.2.2.1 e he
    unfold cDoor
    rw [onA_addH (by omega), addH_o (Or.inr (Or.inl (by decide))), addH_o (Or.inr (Or.inl (by decide))), addH_o (Or.inr (Or.inl (by decide))), addH_o (Or.inr (Or.inl (by decide)))]
    exact ⟨(fr.i rfl).trans a1, (fr.i rfl).trans a2, (fr.i rfl).trans a3, (fr.i rfl).trans a4, (fr.i rfl).trans a5, (fr.i rfl).trans a6⟩
  · rw [addH_1] at hh
    unfold cHinge
    by_cases q : h = A 1 0
    · rw [q, n6, n7, n8, n9, n10, n11]
      refine ⟨?_, ?_, ?_, ?_, ?_, ?_⟩
      · rw [sI_ne (by decide), sI_ne (by decide), sI_ne (by decide), sI_ne (by decide), sI_ne (by decide), sI_ne (by decide), sI_eq]
      · rw [sI_ne (by decide), sI_ne (by decide), sI_ne (by decide), sI_ne (by decide), sI_ne (by decide), sI_eq]
      · rw [sI_ne (by decide), sI_ne (by decide), sI_ne (by decide), sI_ne (by decide), sI_eq]
      · rw [sI_ne (by decide), sI_ne (by decide), sI_ne (by decide), sI_eq]
      · rw [sI_ne (by decide), sI_ne (by decide), sI_eq]
      · rw [sI_ne (by decide), sI_eq]; decide
    · rw [addH_ne (by decide) q, addH_ne (by decide) q, addH_ne (by decide) q, addH_ne (by decide) q, addH_ne (by decide) q, addH_ne (by decide) q]
      obtain ⟨a1, a2, a3, a4, a5, a6⟩ := R.2.2.2.2.1 h (by omega)
      refine ⟨?_, ?_, ?_, ?_, ?_, ?_⟩
      · rw [sI_ne (by decide), sI_ne (by decide), sI_ne (by decide), sI_ne (by decide), sI_ne (by decide), sI_ne (by decide), sI_slot q]; exact a1
      · rw [sI_ne (by decide), sI_ne (by decide), sI_ne (by decide), sI_ne (by decide), sI_ne (by decide), sI_slot q, sI_ne (by decide)]; exact a2
      · rw [sI_ne (by decide), sI_ne (by decide), sI_ne (by decide), sI_ne (by decide), sI_slot q, sI_ne (by decide), sI_ne (by decide)]; exact a3
      · rw [sI_ne (by decide), sI_ne (by decide), sI_ne (by decide), sI_slot q, sI_ne (by decide), sI_ne (by decide), sI_ne (by decide)]; exact a4
      · rw [sI_ne (by decide), sI_ne (by decide), sI_slot q, sI_ne (by decide), sI_ne (by decide), sI_ne (by decide), sI_ne (by decide)]; exact a5
      · rw [sI_ne (by decide), sI_slot q, sI_ne (by decide), sI_ne (by decide), sI_ne (by decide), sI_ne (by decide), sI_ne (by decide)]; exact a6
  · rw [addH_o (Or.inr (Or.inr (by decide))), fr.i rfl]
    exact R.2.2.2.2.2 r r1 r2
end HE
