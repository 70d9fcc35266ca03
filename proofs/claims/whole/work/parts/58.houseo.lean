/-! house: the reference adds -/
section HP
variable {d n : Nat} {f : Nat → Nat} {σ : hq_St} {A : TA}
theorem Rm_addD (R : Rm 61 A σ) {t : DI} (ht : okDi t) (hd : A 0 0 < 8) : Rm 61 (addD A t) (hq_sI (hq_sI (hq_sI (hq_sI (hq_sI σ 54 (A 0 0) (nI t.1)) 55 (A 0 0) (nI t.2.1)) 56 (A 0 0) (nI t.2.2.1)) 57 (A 0 0) (nI t.2.2.2)) 52 3 (nI (A 0 0 + 1))) := by
  have fr : Fr [(52, 4), (54, 0), (55, 0), (56, 0), (57, 0)] σ (hq_sI (hq_sI (hq_sI (hq_sI (hq_sI σ 54 (A 0 0) (nI t.1)) 55 (A 0 0) (nI t.2.1)) 56 (A 0 0) (nI t.2.2.1)) 57 (A 0 0) (nI t.2.2.2)) 52 3 (nI (A 0 0 + 1))) := ((((((Fr.rf σ).sI rfl).sI rfl).sI rfl).sI rfl).sI rfl)
  obtain ⟨n2, n3, n4, n5⟩ := addD_n A t
  obtain ⟨W, r1, r2, r3, r4, r5, r6⟩ := R
  refine ⟨W.addD ht hd, ?_, ?_, fun e he => ?_, fun h hh => ?_, fun h hh => ?_, fun r a b => ?_⟩
  · rw [sI_eq, addD_0]
  · rw [fr.i rfl, addD_o (Or.inr rfl)]; exact r2
  · rw [addD_0] at he
    unfold mDoor
    by_cases q : e = A 0 0
    · rw [q, n2, n3, n4, n5]
      refine ⟨?_, ?_, ?_, ?_⟩
      · rw [sI_ne (by decide), sI_ne (by decide), sI_ne (by decide), sI_ne (by decide), sI_eq]
      · rw [sI_ne (by decide), sI_ne (by decide), sI_ne (by decide), sI_eq]
      · rw [sI_ne (by decide), sI_ne (by decide), sI_eq]
      · rw [sI_ne (by decide), sI_eq]
    · rw [addD_ne (by decide) q, addD_ne (by decide) q, addD_ne (by decide) q, addD_ne (by decide) q]
      obtain ⟨a1, a2, a3, a4⟩ := r3 e (by omega)
      refine ⟨?_, ?_, ?_, ?_⟩
      · rw [sI_ne (by decide), sI_ne (by decide), sI_ne (by decide), sI_ne (by decide), sI_slot q]; exact a1
      · rw [sI_ne (by decide), sI_ne (by decide), sI_ne (by decide), sI_slot q, sI_ne (by decide)]; exact a2
      · rw [sI_ne (by decide), sI_ne (by decide), sI_slot q, sI_ne (by decide), sI_ne (by decide)]; exact a3
      · rw [sI_ne (by decide), sI_slot q, sI_ne (by decide), sI_ne (by decide), sI_ne (by decide)]; exact a4
  · rw [addD_o (Or.inr rfl)] at hh
    obtain ⟨a1, a2⟩ := r4 h hh
    unfold mHinge
    rw [addD_o (Or.inl (by decide)), addD_o (Or.inl (by decide))]
    exact ⟨(fr.i rfl).trans a1, (fr.i rfl).trans a2⟩
  · rw [addD_o (Or.inr rfl)] at hh
    obtain ⟨a1, a2, a3, a4⟩ := r5 h hh
    unfold mRow
    rw [addD_o (Or.inl (by decide)), addD_o (Or.inl (by decide)), addD_o (Or.inl (by decide)), addD_o (Or.inl (by decide))]
    exact ⟨(fr.i rfl).trans a1, (fr.i rfl).trans a2, (fr.i rfl).trans a3, (fr.i rfl).trans a4⟩
  · rw [addD_o (Or.inl (by decide)), fr.i rfl]
    exact r6 r a b
/-- the state with a hinge added -/
def hgS (σ : hq_St) (h : Nat) (t : HI) : hq_St := hq_sI (hq_sI (hq_sI (hq_sI (hq_sI (hq_sI (hq_sI σ 61 h (-1)) 61 (12 + h) (nI t.1)) 61 (24 + h) (nI 0)) 61 (36 + h) (nI 0)) 58 h (nI t.2.1)) 59 h (nI t.2.2)) 52 4 (nI (h + 1))
theorem hgS_fr {h : Nat} {t : HI} : Fr [(52, 5), (58, 0), (59, 0), (61, 0)] σ (hgS σ h t) := ((((((((Fr.rf σ).sI rfl).sI rfl).sI rfl).sI rfl).sI rfl).sI rfl).sI rfl)
theorem hgS_61 {h : Nat} {t : HI} {j : Nat} : (hgS σ h t).1 61 j = if j = 36 + h then nI 0 else if j = 24 + h then nI 0 else if j = 12 + h then nI t.1 else if j = h then -1 else σ.1 61 j := by
  unfold hgS
  rw [sI_ne (by decide), sI_ne (by decide), sI_ne (by decide), sI_at, if_pos rfl, sI_at, if_pos rfl, sI_at, if_pos rfl, sI_at, if_pos rfl]
theorem Rm_addH (R : Rm 61 A σ) {t : HI} (ht : okHi t) (hd : A 1 0 < 12) : Rm 61 (addH A t) (hgS σ (A 1 0) t) := by
  have fr := hgS_fr (σ := σ) (h := A 1 0) (t := t)
  obtain ⟨n6, n7, n8, n9, n10, n11⟩ := addH_n A t
  obtain ⟨W, r1, r2, r3, r4, r5, r6⟩ := R
  refine ⟨W.addH ht hd, ?_, ?_, fun e he => ?_, fun h hh => ?_, fun h hh => ?_, fun r a b => ?_⟩
  · rw [fr.i rfl, addH_o (Or.inl rfl)]; exact r1
  · rw [addH_1]; unfold hgS; rw [sI_eq]
  · rw [addH_o (Or.inl rfl)] at he
    obtain ⟨a1, a2, a3, a4⟩ := r3 e he
    unfold mDoor
    rw [addH_o (Or.inr (Or.inl (by decide))), addH_o (Or.inr (Or.inl (by decide))), addH_o (Or.inr (Or.inl (by decide))), addH_o (Or.inr (Or.inl (by decide)))]
    exact ⟨(fr.i rfl).trans a1, (fr.i rfl).trans a2, (fr.i rfl).trans a3, (fr.i rfl).trans a4⟩
  · rw [addH_1] at hh
    unfold mHinge
    by_cases q : h = A 1 0
    · rw [q, n7, n8]
      unfold hgS
      exact ⟨by rw [sI_ne (by decide), sI_ne (by decide), sI_eq], by rw [sI_ne (by decide), sI_eq]⟩
    · rw [addH_ne (by decide) q, addH_ne (by decide) q]
      obtain ⟨a1, a2⟩ := r4 h (by omega)
      unfold hgS
      refine ⟨?_, ?_⟩
      · rw [sI_ne (by decide), sI_ne (by decide), sI_slot q, sI_ne (by decide), sI_ne (by decide), sI_ne (by decide), sI_ne (by decide)]; exact a1
      · rw [sI_ne (by decide), sI_slot q, sI_ne (by decide), sI_ne (by decide), sI_ne (by decide), sI_ne (by decide), sI_ne (by decide)]; exact a2
  · rw [addH_1] at hh
    unfold mRow
    by_cases q : h = A 1 0
    · rw [q, n6, n9, n10, n11, hgS_61, hgS_61, hgS_61, hgS_61]
      refine ⟨?_, ?_, ?_, ?_⟩
      · rw [if_neg (by omega), if_neg (by omega), if_neg (by omega), if_pos rfl]; decide
      · rw [if_neg (by omega), if_neg (by omega), if_pos rfl]
      · rw [if_neg (by omega), if_pos rfl]
      · rw [if_pos rfl]
    · rw [addH_ne (by decide) q, addH_ne (by decide) q, addH_ne (by decide) q, addH_ne (by decide) q]
      obtain ⟨a1, a2, a3, a4⟩ := r5 h (by omega)
      rw [hgS_61, hgS_61, hgS_61, hgS_61]
      refine ⟨?_, ?_, ?_, ?_⟩
      · rw [if_neg (by omega), if_neg (by omega), if_neg (by omega), if_neg (by omega)]; exact a1
      · rw [if_neg (by omega), if_neg (by omega), if_neg (by omega), if_neg (by omega)]; exact a2
      · rw [if_neg (by omega), if_neg (by omega), if_neg (by omega), if_neg (by omega)]; exact a3
      · rw [if_neg (by omega), if_neg (by omega), if_neg (by omega), if_neg (by omega)]; exact a4
  · rw [addH_o (Or.inr (Or.inr (by decide))), fr.i rfl]
    exact r6 r a b
theorem m_addD {DL : List DI} {HL : List HI} {j : Nat} {t : DI} {v : Option Value} {τ : hq_St} {l1 : Int32} (R : Rm 61 A σ) (hB : mB DL HL σ) (hj : DL[j]? = some t) (hl : DL.length ≤ 8) (ht : okDi t) (hd : A 0 0 < 8) (k : hq_m 187 (d + 1) v τ 49 [some (.ref 52), some (.int l1), none, none, none, some (.int (nI (j + 1)))] [] (hq_sI (hq_sI (hq_sI (hq_sI (hq_sI σ 54 (A 0 0) (nI t.1)) 55 (A 0 0) (nI t.2.1)) 56 (A 0 0) (nI t.2.2.1)) 57 (A 0 0) (nI t.2.2.2)) 52 3 (nI (A 0 0 + 1)))) : hq_m 187 (d + 1) v τ 49 [some (.ref 52), some (.int l1), none, none, none, some (.int (nI j))] [] σ := by
  have jl := (List.getElem?_eq_some_iff.mp hj).1
  obtain ⟨b1, b2, b3, b4⟩ := hB.2.2.1 j t hj
  have i0 : nI 4 * nI j = nI (4 * j) := nmul _ _
  have i1 : nI (4 * j) + nI 1 = nI (4 * j + 1) := nplus _ _
  have i2 : nI (4 * j) + nI 2 = nI (4 * j + 2) := nplus _ _
  have i3 : nI (4 * j) + nI 3 = nI (4 * j + 3) := nplus _ _
  have c0 : (nI (4 * j)).toNatClampNeg = 4 * j := clamp (by omega)
  have c1 : (nI (4 * j + 1)).toNatClampNeg = 4 * j + 1 := clamp (by omega)
  have c2 : (nI (4 * j + 2)).toNatClampNeg = 4 * j + 2 := clamp (by omega)
  have c3 : (nI (4 * j + 3)).toNatClampNeg = 4 * j + 3 := clamp (by omega)
  have e3 := R.2.1
  have cd : (nI (A 0 0)).toNatClampNeg = A 0 0 := clamp (by omega)
  refine p_X10_house_49_1 (σ1 := hq_sI (hq_sI (hq_sI σ 54 (A 0 0) (nI t.1)) 55 (A 0 0) (nI t.2.1)) 56 (A 0 0) (nI t.2.2.1)) (σ2 := hq_sI (hq_sI (hq_sI (hq_sI (hq_sI σ 54 (A 0 0) (nI t.1)) 55 (A 0 0) (nI t.2.1)) 56 (A 0 0) (nI t.2.2.1)) 57 (A 0 0) (nI t.2.2.2)) 52 3 (nI (A 0 0 + 1))) ?_ ?_ ?_ ?_ ?_ ?_ ?_ ?_ ?_ ?_ ?_ ?_
  · rw [hB.1]; exact nlt jl (by omega)
  · rw [sI_ne (by decide), sI_ne (by decide), e3]; exact vin hd (by decide)
  · rw [i0, i2]; exact vin (by omega) (by decide)
  · rw [sI_ne (by decide), e3]; exact vin hd (by decide)
  · rw [i0, i1]; exact vin (by omega) (by decide)
  · rw [e3]; exact vin hd (by decide)
  · rw [i0]; exact vin (by omega) (by decide)
  · rw [i0, i1, i2, c0, c1, c2, e3, cd, b1, sI_ne (by decide), sI_ne (by decide), e3, cd, b2, sI_ne (by decide), sI_ne (by decide), e3, cd, sI_ne (by decide), sI_ne (by decide), b3]
  · rw [sI_ne (by decide), sI_ne (by decide), sI_ne (by decide), e3]; exact vin hd (by decide)
  · rw [i0, i3]; exact vin (by omega) (by decide)
  · rw [i0, i3, c3, sI_ne (by decide), sI_ne (by decide), sI_ne (by decide), e3, cd, sI_ne (by decide), sI_ne (by decide), sI_ne (by decide), b4, sI_ne (by decide), sI_ne (by decide), sI_ne (by decide), sI_ne (by decide), e3, nplus]
  · rw [nplus]; exact k
theorem m_addH {DL : List DI} {HL : List HI} {j : Nat} {t : HI} {v : Option Value} {τ : hq_St} {l1 : Int32} (R : Rm 61 A σ) (hB : mB DL HL σ) (hj : HL[j]? = some t) (hl : HL.length ≤ 12) (ht : okHi t) (hd : A 1 0 < 12) (k : hq_m 187 (d + 1) v τ 113 [some (.ref 52), some (.int l1), none, none, none, some (.int (nI (j + 1)))] [] (hgS σ (A 1 0) t)) : hq_m 187 (d + 1) v τ 113 [some (.ref 52), some (.int l1), none, none, none, some (.int (nI j))] [] σ := by
  have jl := (List.getElem?_eq_some_iff.mp hj).1
  obtain ⟨b1, b2, b3⟩ := hB.2.2.2 j t hj
  have i0 : nI 3 * nI j = nI (3 * j) := nmul _ _
  have i1 : nI (3 * j) + nI 1 = nI (3 * j + 1) := nplus _ _
  have i2 : nI (3 * j) + nI 2 = nI (3 * j + 2) := nplus _ _
  have c0 : (nI (3 * j)).toNatClampNeg = 3 * j := clamp (by omega)
  have c1 : (nI (3 * j + 1)).toNatClampNeg = 3 * j + 1 := clamp (by omega)
  have c2 : (nI (3 * j + 2)).toNatClampNeg = 3 * j + 2 := clamp (by omega)
  have e4 := R.2.2.1
  have cd : (nI (A 1 0)).toNatClampNeg = A 1 0 := clamp (by omega)
  have p12 : nI 12 + nI (A 1 0) = nI (12 + A 1 0) := nplus _ _
  have p24 : nI 24 + nI (A 1 0) = nI (24 + A 1 0) := nplus _ _
  have p36 : nI 36 + nI (A 1 0) = nI (36 + A 1 0) := nplus _ _
  have c12 : (nI (12 + A 1 0)).toNatClampNeg = 12 + A 1 0 := clamp (by omega)
  have c24 : (nI (24 + A 1 0)).toNatClampNeg = 24 + A 1 0 := clamp (by omega)
  have c36 : (nI (36 + A 1 0)).toNatClampNeg = 36 + A 1 0 := clamp (by omega)
  have s4 : ∀ {ρ : hq_St} {x : Nat} {w : Int32}, (hq_sI ρ 61 x w).1 52 4 = ρ.1 52 4 := fun {ρ x w} => sI_ne (by decide)
  have s6 : ∀ {ρ : hq_St} {x y : Nat} {w : Int32}, (hq_sI ρ 61 x w).1 64 y = ρ.1 64 y := fun {ρ x y w} => sI_ne (by decide)
  have s58 : ∀ {ρ : hq_St} {x : Nat} {w : Int32}, (hq_sI ρ 58 x w).1 52 4 = ρ.1 52 4 := fun {ρ x w} => sI_ne (by decide)
  have s586 : ∀ {ρ : hq_St} {x y : Nat} {w : Int32}, (hq_sI ρ 58 x w).1 64 y = ρ.1 64 y := fun {ρ x y w} => sI_ne (by decide)
  have s59 : ∀ {ρ : hq_St} {x : Nat} {w : Int32}, (hq_sI ρ 59 x w).1 52 4 = ρ.1 52 4 := fun {ρ x w} => sI_ne (by decide)
  refine p_X10_house_113_1 (σ1 := hq_sI (hq_sI (hq_sI σ 61 (A 1 0) (-1)) 61 (12 + A 1 0) (nI t.1)) 61 (24 + A 1 0) (nI 0)) (σ2 := hq_sI (hq_sI (hq_sI (hq_sI (hq_sI (hq_sI σ 61 (A 1 0) (-1)) 61 (12 + A 1 0) (nI t.1)) 61 (24 + A 1 0) (nI 0)) 61 (36 + A 1 0) (nI 0)) 58 (A 1 0) (nI t.2.1)) 59 (A 1 0) (nI t.2.2)) ?_ ?_ ?_ ?_ ?_ ?_ ?_ ?_ ?_ ?_ ?_ ?_ ?_
  · rw [hB.2.1]; exact nlt jl (by omega)
  · simp only [s4]; rw [e4, p24]; exact vin (by omega) (by decide)
  · simp only [s4]; rw [e4, p12]; exact vin (by omega) (by decide)
  · rw [i0]; exact vin (by omega) (by decide)
  · rw [e4]; exact vin (by omega) (by decide)
  · simp only [s4, s6, e4, cd, p12, c12, p24, c24, i0, c0, b1]
  · simp only [s4, s58, e4]; exact vin (by omega) (by decide)
  · rw [i0, i2]; exact vin (by omega) (by decide)
  · simp only [s4, e4]; exact vin (by omega) (by decide)
  · rw [i0, i1]; exact vin (by omega) (by decide)
  · simp only [s4, e4, p36]; exact vin (by omega) (by decide)
  · simp only [s4, s6, s58, s586, e4, cd, p36, c36, i0, i1, i2, c1, c2, b2, b3]
  · have e5 : (hq_sI (hq_sI (hq_sI (hq_sI (hq_sI (hq_sI σ 61 (A 1 0) (-1)) 61 (12 + A 1 0) (nI t.1)) 61 (24 + A 1 0) (nI 0)) 61 (36 + A 1 0) (nI 0)) 58 (A 1 0) (nI t.2.1)) 59 (A 1 0) (nI t.2.2)).1 52 4 = nI (A 1 0) := by simp only [s4, s58, s59, e4]
    rw [e5, nplus, nplus]
    exact k
/-- the reference's house: its past is gone, its changes one more -/
theorem m_house {t y : Int32} {P : List Snap} {K : Shf} {C : Nat} (R : mT A t y σ) (h : mX n f σ) (hP : mP (A 1 0) P σ) (hK : mK C K σ) : ∃ τ, hq_c 187 (d + 12) [.ref 52] σ (some (.int (houR A n f))) τ ∧ mT (houA A n f) t y τ ∧ mX 0 f τ ∧ mP (houA A n f 1 0) (if n ≠ 0 ∧ hoK A n f = true then [] else P) τ ∧ mK (if n ≠ 0 ∧ hoK A n f = true then C + 1 else C) K τ ∧ Fr [(52, 1), (52, 4), (52, 5), (52, 6), (52, 16), (52, 17), (52, 18), (52, 19), (52, 22), (52, 23), (52, 30), (54, 0), (55, 0), (56, 0), (57, 0), (58, 0), (59, 0), (61, 0), (63, 0), (64, 0)] σ τ := by
  have h80 := h.1
  have W := R.1.1
  obtain ⟨r1, r2, r3⟩ := hoR_ok (A := A) (n := n) (f := f) W (fun j hj => (h.2.2 j hj).1)
  have f0 : Fr [(52, 1)] σ (hq_sI σ 52 0 (nI 0)) := frth
  obtain ⟨σ1, g1, z1, x1, n1, f1⟩ := m_begins (d := d + 10) (mX.dep.fr f0 (by decide) h) (k := 76) (by decide)
  have f2 : Fr [(52, 22), (52, 23)] σ1 (hq_sI (hq_sI σ1 52 21 (nI 0)) 52 22 (nI 0)) := ((Fr.rf _).sI rfl).sI rfl
  have B2 : mB [] [] (hq_sI (hq_sI σ1 52 21 (nI 0)) 52 22 (nI 0)) := ⟨by rw [sI_slot (by decide), sI_eq]; rfl, by rw [sI_eq]; rfl, fun j t hj => by simp at hj, fun j t hj => by simp at hj⟩
  have z2 := mZ.dep.fr f2 (by decide) z1
  have F2 : Fr [(52, 1), (52, 16), (52, 17), (52, 18), (52, 19), (52, 22), (52, 23), (63, 0), (64, 0)] σ (hq_sI (hq_sI σ1 52 21 (nI 0)) 52 22 (nI 0)) := (f0.up (by decide)).tr ((f1.up (by decide)).tr (f2.up (by decide)))
  have X2 := mX.dep.fr f2 (by decide) x1
  generalize e2 : hq_sI (hq_sI σ1 52 21 (nI 0)) 52 22 (nI 0) = σ2 at f2 B2 z2 F2 X2
  have ent1 : ∀ v τ, (0 : Int32) < nI n → hq_m 187 (d + 12) v τ 21 [some (.ref 52), some (.int (nI n)), some (.int (nI 1)), some (.int (nI 1)), none, none] [] σ2 → hq_c 187 (d + 12) [.ref 52] σ v τ := fun v τ c k => p_X10_house_0_1 g1 c (by rw [e2]; exact k)
  have R2 := mT.dep.fr F2 (by decide) R
  have P2 := mP.dep.fr F2 (by decide) hP
  have K2 := mK.dep.fr F2 (by decide) hK
  unfold houR houA
  by_cases q : n = 0
  · rw [if_pos q, if_neg (fun z => z.1 q), if_neg (fun z => z.1 q), if_neg (fun z => z.1 q)]
    have k := m_faultOf (d := d + 10) (K := 76) z2 (by decide) true
    have e : fltA n 76 true 0 = nI 0 := by unfold fltA; rw [if_pos ⟨rfl, q.symm, by omega⟩]; rfl
    rw [e] at k
    have P1 := p_X10_house_113_3 (d := d + 11) (σ := σ2) (l1 := nI n) (l5 := nI 0) (by rw [B2.2.1]; decide) (by rw [q]; decide)
    rw [B2.1, B2.2.1, nplus] at P1
    exact ⟨σ2, p_X10_house_0_2 g1 (by rw [q]; decide) (by rw [e2]; exact p_X10_house_21_2 rfl k (by decide) (p_X10_house_49_2 (by rw [B2.1]; decide) P1)), R2, X2, P2, K2, F2.up (by decide)⟩
  · rw [if_neg q]
    have c1 : (0 : Int32) < nI n := nlt (a := 0) (by omega) (by omega)
    obtain ⟨σ3, w3, z3, b3, f3⟩ := m_linesL (d := d) (n := n) (f := f) (T := min n 76) (dn := A 0 0) (hn := A 1 0) (fun i hi => (h.2.2 i (by omega)).1) 75 0 [] [] σ2 (by omega) z2 B2 R2.1.2.1 R2.1.2.2.1 ⟨fun t ht => by simp at ht, fun t ht => by simp at ht, W.1, W.2.1⟩
    have er : hsR f (min n 76) (A 0 0) (A 1 0) (75 + 1) 0 [] [] = hoR A n f := rfl
    rw [er] at w3 z3 b3
    have R3 := mT.dep.fr f3 (by decide) R2
    have P3 := mP.dep.fr f3 (by decide) P2
    have K3 := mK.dep.fr f3 (by decide) K2
    have X3 := mX.dep.fr f3 (by decide) X2
    have F3 : Fr [(52, 1), (52, 4), (52, 5), (52, 6), (52, 16), (52, 17), (52, 18), (52, 19), (52, 22), (52, 23), (52, 30), (54, 0), (55, 0), (56, 0), (57, 0), (58, 0), (59, 0), (61, 0), (63, 0), (64, 0)] σ σ3 := (F2.up (by decide)).tr (f3.up (by decide))
    unfold hoK
    generalize hoR A n f = r at w3 z3 b3 r1 r2 r3
    have k := m_faultOf (d := d + 10) (K := 76) z3 (by decide) r.1
    have fn := flt_neg (n := n) (K := 76) (p := r.2.1) (g := r.1) (by omega)
    cases hk : (r.1 && decide (r.2.1 = n)) with
    | false =>
      rw [if_neg (by decide), if_neg (fun z => by cases z.2), if_neg (fun z => by cases z.2), if_neg (fun z => by cases z.2)]
      have ng : ¬ (r.1 = true ∧ r.2.1 = n ∧ n ≤ 76) := fun z => by
        rw [z.1] at hk
        simp at hk
        exact hk z.2.1
      have e : fltA n 76 r.1 r.2.1 = (-1 : Int32) - nI r.2.1 := by unfold fltA; rw [if_neg ng]
      have P1 := ent1 _ _ c1 (w3 _ _ _ (p_X10_house_21_1 rfl k (fn.mpr ng)))
      rw [e] at P1
      exact ⟨σ3, P1, R3, X3, P3, K3, F3⟩
    | true =>
      obtain ⟨k1, k2⟩ : r.1 = true ∧ r.2.1 = n := by simpa using hk
      rw [if_pos rfl, if_pos ⟨q, rfl⟩, if_pos ⟨q, rfl⟩, if_pos ⟨q, rfl⟩]
      have B3 := b3 k1
      obtain ⟨o1, o2, o3, o4⟩ := r2
      have nf : ¬ fltA n 76 r.1 r.2.1 < 0 := fun z => fn.mp z ⟨k1, k2, by omega⟩
      obtain ⟨σ4, w4, R4, f4⟩ := hq_w.for (x := 187) (d := d + 12) (i := 49) (fun j => [some (.ref 52), some (.int (nI n)), none, none, none, some (.int (nI j))]) (fun j ρ => Rm 61 ((r.2.2.1.take j).foldl addD A) ρ ∧ Fr [(52, 4), (54, 0), (55, 0), (56, 0), (57, 0)] σ3 ρ) r.2.2.1.length (fun j hj ρ ⟨R0, fr⟩ => by
        have B := mB.dep.fr fr (by decide) B3
        have d0 := (foldD_0 A (r.2.2.1.take j)).1
        rw [List.length_take, Nat.min_eq_left (by omega)] at d0
        obtain ⟨t, ht⟩ : ∃ t, r.2.2.1[j]? = some t := ⟨_, List.getElem?_eq_getElem hj⟩
        have okt := o1 t (mem_get ht)
        refine ⟨_, fun v τ k => m_addD R0 B ht (by omega) okt (by omega) k, ?_, ((((fr.sI rfl).sI rfl).sI rfl).sI rfl).sI rfl⟩
        rw [take_snoc ht, List.foldl_append]
        exact Rm_addD R0 okt (by omega)) (σ := σ3) ⟨R3.1, Fr.rf σ3⟩
      rw [List.take_length] at R4
      have B4 := mB.dep.fr f4 (by decide) B3
      have h1 := (foldD_0 A r.2.2.1).2
      obtain ⟨σ5, w5, R5, f5⟩ := hq_w.for (x := 187) (d := d + 12) (i := 113) (fun j => [some (.ref 52), some (.int (nI n)), none, none, none, some (.int (nI j))]) (fun j ρ => (Rm 61 ((r.2.2.2.take j).foldl addH (r.2.2.1.foldl addD A)) ρ ∧ ρ.1 61 48 = σ4.1 61 48 ∧ ρ.1 61 49 = σ4.1 61 49) ∧ Fr [(52, 5), (58, 0), (59, 0), (61, 0)] σ4 ρ) r.2.2.2.length (fun j hj ρ ⟨⟨R0, u1, u2⟩, fr⟩ => by
        have B := mB.dep.fr fr (by decide) B4
        have d0 := (foldH_0 (r.2.2.1.foldl addD A) (r.2.2.2.take j)).1
        rw [List.length_take, Nat.min_eq_left (by omega), h1] at d0
        obtain ⟨t, ht⟩ : ∃ t, r.2.2.2[j]? = some t := ⟨_, List.getElem?_eq_getElem hj⟩
        have okt := o2 t (mem_get ht)
        refine ⟨_, fun v τ k => m_addH R0 B ht (by omega) okt (by omega) k, ⟨?_, ?_, ?_⟩, fr.tr hgS_fr⟩
        · rw [take_snoc ht, List.foldl_append]
          exact Rm_addH R0 okt (by omega)
        · rw [hgS_61, if_neg (by omega), if_neg (by omega), if_neg (by omega), if_neg (by omega)]; exact u1
        · rw [hgS_61, if_neg (by omega), if_neg (by omega), if_neg (by omega), if_neg (by omega)]; exact u2) (σ := σ4) ⟨⟨R4, rfl, rfl⟩, Fr.rf σ4⟩
      rw [List.take_length] at R5
      have B5 := mB.dep.fr f5 (by decide) B4
      obtain ⟨R5, u1, u2⟩ := R5
      have K5 := mK.dep.fr f5 (by decide) (mK.dep.fr f4 (by decide) K3)
      have Pp := p_X10_house_113_2 (d := d + 11) (σ := σ5) (l1 := nI n) (l5 := nI r.2.2.2.length) (by rw [B5.2.1]; exact nI_nlt (Nat.le_refl _) (by omega)) c1
      have f6 : Fr [(52, 6), (52, 30)] σ5 (hq_sI (hq_sI σ5 52 29 (nI 0)) 52 5 (nI (C + 1))) := ((Fr.rf σ5).sI rfl).sI rfl
      rw [sI_slot (b := 5) (j := 29) (by decide), K5.1, nplus] at Pp
      rw [f6.i rfl, f6.i rfl, B5.1, B5.2.1, nplus] at Pp
      have F6 := F3.tr ((f4.up (G := [(52, 1), (52, 4), (52, 5), (52, 6), (52, 16), (52, 17), (52, 18), (52, 19), (52, 22), (52, 23), (52, 30), (54, 0), (55, 0), (56, 0), (57, 0), (58, 0), (59, 0), (61, 0), (63, 0), (64, 0)]) (by decide)).tr ((f5.up (by decide)).tr (f6.up (by decide))))
      have h12 : addL A r.2.2.1 r.2.2.2 1 0 ≤ 12 := R5.1.2.1
      refine ⟨_, ent1 _ _ c1 (w3 _ _ _ (p_X10_house_21_2 rfl k nf (w4 _ _ (p_X10_house_49_2 ?_ (w5 _ _ Pp))))), ⟨Rm.depn.fr f6 (by decide) R5, ?_, ?_⟩, mX.dep.fr f6 (by decide) (mX.dep.fr f5 (by decide) (mX.dep.fr f4 (by decide) X3)), ⟨h12, by decide, ?_, fun i B hB => by simp at hB⟩, ⟨sI_eq, ?_⟩, F6⟩
      · rw [B4.1]; exact nI_nlt (Nat.le_refl _) (by omega)
      · rw [f6.i rfl, u1, f4.i rfl]; exact R3.2.1
      · rw [f6.i rfl, u2, f4.i rfl]; exact R3.2.2
      · rw [sI_slot (by decide), sI_eq]; rfl
      · intro i hi
        have := K5.2 i hi
        cases hKi : K i with
        | none => rw [hKi] at this; exact this
        | some s => rw [hKi] at this; exact this
end HP
