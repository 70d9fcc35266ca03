/-! spare, risk, stands -/
def spV (A : TA) (h : Nat) : Nat := keptA A (shut0 (setA A 11 h 0))
def stepS (A : TA) (o : Option (Nat × Nat)) (h v : Nat) : Option (Nat × Nat) := match o with
  | none => some (h, v)
  | some b => if b.2 < v ∨ (v = b.2 ∧ A 8 b.1 < A 8 h) then some (h, v) else some b
def spH (A : TA) : Nat → Option (Nat × Nat)
  | 0 => none
  | h + 1 => if A 11 h ≠ 0 then stepS A (spH A h) h (spV A h) else spH A h
def q1 (m : Int32) : Option (Nat × Nat) → Int32
  | none => m
  | some b => nI b.1
def q2 (m : Int32) : Option (Nat × Nat) → Int32
  | none => m
  | some b => nI b.2
def q3 (A : TA) : Option (Nat × Nat) → Int32
  | none => -1
  | some b => nI (A 8 b.1)
def sprR (A : TA) : Int32 := q1 (-2) (spH A (A 1 0))
def sprL (A : TA) (L : List Int64) : List Int64 := match spH A (A 1 0) with
  | none => L
  | some b => [(nI b.2).toInt64]
def okS (A : TA) (o : Option (Nat × Nat)) : Prop := ∀ b, o = some b → b.1 < A 1 0 ∧ b.2 ≤ 63
section SP2
variable {d : Nat} {σ : hq_St} {A : TA}
theorem okSH (W : Wf A) : ∀ m, m ≤ A 1 0 → okS A (spH A m)
  | 0, _ => fun b hb => by cases hb
  | m + 1, hm => by
    have ih := okSH W m (by omega)
    unfold spH
    split
    · intro b hb
      unfold stepS at hb
      split at hb
      · cases hb; exact ⟨by omega, keptA_le W _⟩
      · rename_i c hc
        split at hb
        · cases hb; exact ⟨by omega, keptA_le W _⟩
        · cases hb; exact ih _ hc
    · exact ih
theorem m1_lt {v : Nat} (h : v < 2 ^ 31) : (-1 : Int32) < nI v := by
  rw [fa_lt, nI_toInt h]
  have : (-1 : Int32).toInt = -1 := by decide
  omega
theorem s_spare {L : List Int64} (R : Rc A σ) (hL : cR L σ) : ∃ τ, hq_c 142 (d + 5) [.ref 0] σ (some (.int (sprR A))) τ ∧ cR (sprL A L) τ ∧ Fr [(3, 2), (4, 0)] σ τ := by
  have W := R.1
  have b1 := W.1
  have b2 := W.2.1
  have s8 := shut0_lt W
  have lp : ∀ v τ, hq_m 142 (d + 5) v τ 12 [some (.ref 0), some (.int (nI (shut0 A))), some (.int (q1 (-2) (spH A (A 1 0)))), some (.int (q2 (-1) (spH A (A 1 0)))), some (.int (q3 A (spH A (A 1 0)))), some (.int (nI (A 1 0))), none] [] σ → hq_m 142 (d + 5) v τ 12 [some (.ref 0), some (.int (nI (shut0 A))), some (.int (-2)), some (.int (-1)), some (.int (-1)), some (.int (nI 0)), none] [] σ := by
    intro v τ k
    refine hq_m.for (fun h => [some (.ref 0), some (.int (nI (shut0 A))), some (.int (q1 (-2) (spH A h))), some (.int (q2 (-1) (spH A h))), some (.int (q3 A (spH A h))), some (.int (nI h)), none]) (fun _ => σ) (A 1 0) ?_ k 0 (Nat.zero_le _)
    intro h hh ih
    have c1 : nI h < σ.1 5 14 := by rw [R.2.2.1]; exact nlt hh (by omega)
    have ch : (nI h).toNatClampNeg = h := clamp (by omega)
    have o : vp_in (nI h) 12 := vin (by omega) (by decide)
    obtain ⟨w1, w2, w3, w4, w5, w6, w7, w8⟩ := W.2.2.2.1 h hh
    have hp : σ.1 17 (nI h).toNatClampNeg = nI (A 11 h) - nI 1 := by rw [ch]; exact (R.2.2.2.2.1 h hh).2.2.2.2.2
    have hf : σ.1 14 (nI h).toNatClampNeg = nI (A 8 h) := by rw [ch]; exact (R.2.2.2.2.1 h hh).2.2.1
    have g1 := s_isDoor (d := d + 3) R (nI (A 11 h) - nI 1)
    rw [inr_place w7 b1, ← hp] at g1
    by_cases q0 : A 11 h = 0
    · rw [decide_eq_false (by simp [q0])] at g1
      have e1 : spH A (h + 1) = spH A h := by
        conv => lhs; unfold spH
        rw [if_neg (by simp [q0])]
      rw [e1] at ih
      refine p_X9_spare_12_1 c1 o g1 rfl ?_
      rw [nplus]; exact ih
    · rw [decide_eq_true q0] at g1
      obtain ⟨e, he⟩ : ∃ e, A 11 h = e + 1 := ⟨A 11 h - 1, by omega⟩
      have e1 : spH A (h + 1) = stepS A (spH A h) h (spV A h) := by
        conv => lhs; unfold spH
        rw [if_pos q0]
      rw [e1] at ih
      have hv : spV A h = keptA A (ndiff (shut0 A) (2 ^ e)) := by unfold spV; rw [shut0_take W hh he]
      have kl : spV A h ≤ 63 := keptA_le W _
      have g2 := s_secretsKept (d := d + 2) (s := ndiff (shut0 A) (2 ^ e)) R
      rw [← hv] at g2
      have es : nI (shut0 A) &&& ((nI 1 <<< (σ.1 17 (nI h).toNatClampNeg &&& 31)) ^^^ (-1 : Int32)) = nI (ndiff (shut0 A) (2 ^ e)) := by
        have ee : nI (A 11 h) - nI 1 = nI e := by rw [he]; exact nI_pred e
        rw [hp, ee, hn_shl e (by omega), and_not]
      cases ho : spH A h with
      | none =>
        rw [ho] at ih
        refine p_X9_spare_12_2 c1 o g1 (by decide) o (by rw [es]; exact g2) (m1_lt (by omega)) o ?_
        rw [hf, nplus]; exact ih
      | some b =>
        rw [ho] at ih
        obtain ⟨ob1, ob2⟩ := okSH W h (by omega) b ho
        have wb := (W.2.2.2.1 b.1 ob1).2.2.2.1
        rw [show stepS A (some b) h (spV A h) = if b.2 < spV A h ∨ (spV A h = b.2 ∧ A 8 b.1 < A 8 h) then some (h, spV A h) else some b from rfl] at ih
        by_cases z1 : b.2 < spV A h
        · rw [if_pos (Or.inl z1)] at ih
          refine p_X9_spare_12_2 c1 o g1 (by decide) o (by rw [es]; exact g2) (nlt z1 (by omega)) o ?_
          rw [hf, nplus]; exact ih
        · have n1 : ¬ nI b.2 < nI (spV A h) := nI_nlt (by omega) (by omega)
          by_cases z2 : spV A h = b.2
          · by_cases z3 : A 8 b.1 < A 8 h
            · rw [if_pos (Or.inr ⟨z2, z3⟩)] at ih
              refine p_X9_spare_12_3 c1 o g1 (by decide) o (by rw [es]; exact g2) n1 (by rw [z2]; rfl) o (by rw [hf]; exact nlt z3 (by omega)) o ?_
              rw [hf, nplus]; exact ih
            · rw [if_neg (fun z => by omega)] at ih
              refine p_X9_spare_12_4 c1 o g1 (by decide) o (by rw [es]; exact g2) n1 (by rw [z2]; rfl) o (by rw [hf]; exact nI_nlt (by omega) (by omega)) ?_
              rw [nplus]; exact ih
          · rw [if_neg (fun z => by omega)] at ih
            refine p_X9_spare_12_5 c1 o g1 (by decide) o (by rw [es]; exact g2) n1 (by show ¬ nI (spV A h) = nI b.2; rw [nI_eq (by omega) (by omega)]; exact z2) ?_
            rw [nplus]; exact ih
  have c1 : ¬ nI (A 1 0) < σ.1 5 14 := by rw [R.2.2.1]; exact nI_nlt (Nat.le_refl _) (by omega)
  unfold sprR sprL
  cases hn : spH A (A 1 0) with
  | none =>
    rw [hn] at lp
    exact ⟨σ, p_X9_spare_0_1 (s_shutNow (d := d) R) (lp _ _ (p_X9_spare_12_6 c1 (by decide))), hL, Fr.rf σ⟩
  | some b =>
    rw [hn] at lp
    obtain ⟨ob1, ob2⟩ := okSH W _ (Nat.le_refl _) b hn
    obtain ⟨σ1, a1, a2, a3⟩ := s_clear (d := d + 3) (σ := σ)
    obtain ⟨σ2, b1', b2', b3⟩ := s_add (d := d + 3) a2 (by decide) (nI b.2).toInt64
    refine ⟨σ2, p_X9_spare_0_1 (s_shutNow (d := d) R) (lp _ _ (p_X9_spare_12_7 c1 ?_ a1 b1')), b2', a3.tr b3⟩
    show ¬ nI b.1 < 0
    rw [ltz, nI_toInt (by omega)]; omega
theorem m_spare {t y : Int32} {L : List Int64} (hT : mT A t y σ) (hL : mR L σ) : ∃ τ, hq_c 258 (d + 6) [.ref 52] σ (some (.int (sprR A))) τ ∧ mR (sprL A L) τ ∧ Fr [(52, 1), (52, 2), (53, 0), (65, 0)] σ τ := by
  have f0 : Fr [(52, 1)] σ (hq_sI σ 52 0 (nI 0)) := frth
  have h0' : mT A t y (hq_sI σ 52 0 (nI 0)) := hT.th
  have W := hT.1.1
  have b1 := W.1
  have b2 := W.2.1
  obtain ⟨σ1, a1, a2, -, -, a5⟩ := m_puts (d := d + 4) h0'
  have hL1 : mR L σ1 := mR.dep.fr a5 (by decide) hL.th
  have R61 : Rm 61 A σ1 := Rm.depn.fr a5 (by decide) h0'.1
  obtain ⟨σ2, w, R2, f2⟩ := hq_w.for (x := 258) (d := d + 6) (i := 14) (fun h => [some (.ref 52), some (.int (q1 (-2) (spH A h))), some (.int (q2 (nI 0) (spH A h))), some (.int (nI h)), none]) (fun _ ρ => Rm 65 A ρ ∧ Fr [(65, 0)] σ1 ρ) (A 1 0) (fun h hh ρ ⟨R, f⟩ => by
    have N : Rm 61 A ρ := Rm.depn.fr f (by decide) R61
    have ch : (nI h).toNatClampNeg = h := clamp (by omega)
    have o : vp_in (nI h) 50 := vin (by omega) (by decide)
    obtain ⟨w1, w2, w3, w4, w5, w6, w7, w8⟩ := W.2.2.2.1 h hh
    have c1 : nI h < ρ.1 52 4 := by rw [R.2.2.1]; exact nlt hh (by omega)
    have hp : ρ.1 61 (nI h).toNatClampNeg = nI (A 11 h) - nI 1 := by rw [ch]; exact (N.2.2.2.2.2.1 h hh).1
    by_cases q0 : A 11 h = 0
    · have e1 : spH A (h + 1) = spH A h := by
        conv => lhs; unfold spH
        rw [if_neg (by simp [q0])]
      rw [e1]
      exact ⟨ρ, fun v τ k => p_X10_spare_14_1 c1 o (by rw [hp]; exact (place_lt0 (by omega)).mpr q0) (by rw [nplus]; exact k), R, f⟩
    · have n0 : ¬ ρ.1 61 (nI h).toNatClampNeg < 0 := by rw [hp]; exact fun z => q0 ((place_lt0 (by omega)).mp z)
      have e1 : spH A (h + 1) = stepS A (spH A h) h (spV A h) := by
        conv => lhs; unfold spH
        rw [if_pos q0]
      rw [e1]
      have kl : spV A h ≤ 63 := keptA_le W _
      have W2 := W.take h
      have R2 := R.set11t (h := h) (v := 0) hh W2
      have e0 : nI 0 - nI 1 = (-1 : Int32) := by decide
      rw [e0] at R2
      have s8 := shut0_lt W2
      have g4 := m_shutOft (d := d) R2
      have g5 := m_keptByt (d := d + 2) (s := shut0 (setA A 11 h 0)) R2 (by omega)
      rw [kept_11] at g5
      have R3 := R2.set11t (h := h) (v := A 11 h) hh (by rw [setA_over, setA_id rfl]; exact W)
      rw [setA_over, setA_id rfl] at R3
      have e61 : (hq_sI ρ 65 h (-1)).1 61 (nI h).toNatClampNeg = nI (A 11 h) - nI 1 := by rw [sI_ne (by decide)]; exact hp
      refine ⟨hq_sI (hq_sI ρ 65 h (-1)) 65 h (nI (A 11 h) - nI 1), fun v τ k => ?_, R3, (f.sI rfl).sI rfl⟩
      cases ho : spH A h with
      | none =>
        rw [ho] at k
        refine p_X10_spare_14_2 (r2 := nI (spV A h)) c1 o n0 o (by rw [ch]; exact g4) g5 o o (by decide) ?_
        rw [e61, ch, nplus]; exact k
      | some b =>
        rw [ho] at k
        obtain ⟨ob1, ob2⟩ := okSH W h (by omega) b ho
        have wb := (W.2.2.2.1 b.1 ob1).2.2.2.1
        have nb : ¬ q1 (-2) (some b) < 0 := by show ¬ nI b.1 < 0; rw [ltz, nI_toInt (by omega)]; omega
        have cb : (nI b.1).toNatClampNeg = b.1 := clamp (by omega)
        have ob : vp_in (nI b.1) 12 := vin (by omega) (by decide)
        have oh : vp_in (nI h) 12 := vin (by omega) (by decide)
        have f8 : ∀ k, k < A 1 0 → (hq_sI (hq_sI ρ 65 h (-1)) 65 h (nI (A 11 h) - nI 1)).1 59 k = nI (A 8 k) := fun k hk => by rw [sI_ne (by decide), sI_ne (by decide)]; exact (R.2.2.2.2.1 k hk).2
        rw [show stepS A (some b) h (spV A h) = if b.2 < spV A h ∨ (spV A h = b.2 ∧ A 8 b.1 < A 8 h) then some (h, spV A h) else some b from rfl] at k
        by_cases z1 : b.2 < spV A h
        · rw [if_pos (Or.inl z1)] at k
          refine p_X10_spare_14_3 (r2 := nI (spV A h)) c1 o n0 o (by rw [ch]; exact g4) g5 o o nb (nlt z1 (by omega)) ?_
          rw [e61, ch, nplus]; exact k
        · have n1 : ¬ nI b.2 < nI (spV A h) := nI_nlt (by omega) (by omega)
          by_cases z2 : spV A h = b.2
          · by_cases z3 : A 8 b.1 < A 8 h
            · rw [if_pos (Or.inr ⟨z2, z3⟩)] at k
              refine p_X10_spare_14_4 (r2 := nI (spV A h)) c1 o n0 o (by rw [ch]; exact g4) g5 o o nb n1 (by rw [z2]; rfl) ob oh ?_ ?_
              · rw [e61, ch]
                show (hq_sI (hq_sI ρ 65 h (-1)) 65 h (nI (A 11 h) - nI 1)).1 59 (nI b.1).toNatClampNeg < _
                rw [cb, f8 _ ob1, f8 _ hh]; exact nlt z3 (by omega)
              · rw [e61, ch, nplus]; exact k
            · rw [if_neg (fun z => by omega)] at k
              refine p_X10_spare_14_5 (r2 := nI (spV A h)) c1 o n0 o (by rw [ch]; exact g4) g5 o o nb n1 (by rw [z2]; rfl) ob oh ?_ ?_
              · rw [e61, ch]
                show ¬ (hq_sI (hq_sI ρ 65 h (-1)) 65 h (nI (A 11 h) - nI 1)).1 59 (nI b.1).toNatClampNeg < _
                rw [cb, f8 _ ob1, f8 _ hh]; exact nI_nlt (by omega) (by omega)
              · rw [e61, ch, nplus]; exact k
          · rw [if_neg (fun z => by omega)] at k
            refine p_X10_spare_14_6 (r2 := nI (spV A h)) c1 o n0 o (by rw [ch]; exact g4) g5 o o nb n1 (by show ¬ nI (spV A h) = nI b.2; rw [nI_eq (by omega) (by omega)]; exact z2) ?_
            rw [e61, ch, nplus]; exact k) (σ := σ1) ⟨a2, Fr.rf σ1⟩
  have c1 : ¬ nI (A 1 0) < σ2.1 52 4 := by rw [R2.2.2.1]; exact nI_nlt (Nat.le_refl _) (by omega)
  have ff : Fr [(52, 1), (52, 2), (53, 0), (65, 0)] σ σ2 := ((f0.up (by decide)).tr (a5.up (by decide))).tr (f2.up (by decide))
  unfold sprR sprL
  cases hn : spH A (A 1 0) with
  | none =>
    rw [hn] at w
    exact ⟨σ2, p_X10_spare_0_1 a1 (w _ _ (p_X10_spare_14_7 c1 (by decide))), mR.dep.fr f2 (by decide) hL1, ff⟩
  | some b =>
    rw [hn] at w
    obtain ⟨ob1, ob2⟩ := okSH W _ (Nat.le_refl _) b hn
    have f3 : Fr [(52, 2), (53, 0)] σ2 (hq_sI σ2 52 1 (nI 0)) := (Fr.rf _).sI rfl
    obtain ⟨σ3, d1, d2, d3⟩ := m_enters (d := d + 4) (mR.nil (σ := σ2)) (by decide) (nI b.2).toInt64
    refine ⟨σ3, p_X10_spare_0_1 a1 (w _ _ (p_X10_spare_14_8 c1 ?_ d1)), d2, ff.tr ((f3.up (by decide)).tr (d3.up (by decide)))⟩
    show ¬ nI b.1 < 0
    rw [ltz, nI_toInt (by omega)]; omega
/-- which hinges are loose -/
theorem loose_test (W : Wf A) {h : Nat} (hh : h < A 1 0) : (looseA A).testBit h = (decide (A 11 h ≠ 0) && !(shut0 A).testBit (A 11 h - 1)) := by
  have w7 := (W.2.2.2.1 h hh).2.2.2.2.2.2.1
  have hs : ∀ e, (shut0 A).testBit e = (decide (e < A 0 0) && shutF A (h0 A) e (onA A (e + 1))) := fun e => sbits_test _ _ _
  cases hl : (looseA A).testBit h with
  | true =>
    obtain ⟨e, e1, e2, e3, e4⟩ := (lse_test _).mp hl
    rw [hs, show A 11 h - 1 = e by omega, e2]
    simp; omega
  | false =>
    by_cases q : A 11 h = 0
    · simp [q]
    · have : (shut0 A).testBit (A 11 h - 1) = true := by
        cases h2 : (shut0 A).testBit (A 11 h - 1) with
        | true => rfl
        | false =>
          rw [hs, Nat.sub_add_cancel (by omega)] at h2
          have h3 : shutF A (h0 A) (A 11 h - 1) (onA A (A 11 h)) = false := by
            have : A 11 h - 1 < A 0 0 := by omega
            simpa [this] using h2
          have : (looseA A).testBit h = true := (lse_test _).mpr ⟨A 11 h - 1, by omega, by rw [Nat.sub_add_cancel (by omega)]; exact h3, hh, by omega⟩
          rw [this] at hl; cases hl
      rw [this]; simp
def stdJ (A : TA) : Nat → Nat
  | 0 => 19
  | h + 1 => if (looseA A).testBit h then min (stdJ A h) (h0 A h + 1) else stdJ A h
theorem stdJ_le (A : TA) : ∀ m, 1 ≤ stdJ A m ∧ stdJ A m ≤ 19
  | 0 => by unfold stdJ; omega
  | m + 1 => by
    have := stdJ_le A m
    unfold stdJ
    split <;> omega
theorem stdJ_lb (A : TA) : ∀ {m h : Nat}, h < m → (looseA A).testBit h = true → stdJ A m ≤ h0 A h + 1
  | 0, _, hh, _ => by omega
  | m + 1, h, hh, hb => by
    unfold stdJ
    by_cases e : h = m
    · subst e
      rw [if_pos hb]; omega
    · have := stdJ_lb A (m := m) (h := h) (by omega) hb
      split <;> omega
theorem stdJ_hit (A : TA) : ∀ m, stdJ A m < 19 → ∃ h, h < m ∧ (looseA A).testBit h = true ∧ stdJ A m = h0 A h + 1
  | 0, h => by simp [stdJ] at h
  | m + 1, h => by
    unfold stdJ at h ⊢
    split at h
    · rename_i hb
      rw [if_pos hb]
      by_cases q : h0 A m + 1 ≤ stdJ A m
      · exact ⟨m, by omega, hb, by omega⟩
      · obtain ⟨k, k1, k2, k3⟩ := stdJ_hit A m (by omega)
        exact ⟨k, by omega, k2, by omega⟩
    · rename_i hb
      rw [if_neg hb]
      obtain ⟨k, k1, k2, k3⟩ := stdJ_hit A m h
      exact ⟨k, by omega, k2, k3⟩
theorem s_stands (R : Rc A σ) : hq_c 144 (d + 5) [.ref 0] σ (some (.int (nI (stdJ A (A 1 0))))) σ := by
  have W := R.1
  have b2 := W.2.1
  refine p_X9_stands_0_1 (s_looseHinges (d := d) R) ?_
  refine hq_m.for (fun j => [some (.ref 0), some (.int (nI (looseA A))), some (.int (nI (stdJ A j))), some (.int (nI j))]) (fun _ => σ) (A 1 0) ?_ ?_ 0 (Nat.zero_le _)
  · intro j hj ih
    have c1 : nI j < σ.1 5 14 := by rw [R.2.2.1]; exact nlt hj (by omega)
    have sl := stdJ_le A j
    have hl := h0_le W j hj
    have e1 : stdJ A (j + 1) = if (looseA A).testBit j then min (stdJ A j) (h0 A j + 1) else stdJ A j := rfl
    rw [e1] at ih
    cases hb : (looseA A).testBit j with
    | false =>
      rw [if_neg (by simp [hb])] at ih
      refine p_X9_stands_8_1 c1 (hn_bit0 (by omega) hb) ?_
      rw [nplus]; exact ih
    | true =>
      rw [if_pos hb] at ih
      refine p_X9_stands_8_2 (r1 := nI (h0 A j)) c1 (hn_bit1 (by omega) hb) (s_hold (d := d + 2) R hj) ?_
      rw [nplus, min_val (by omega) (by omega), nplus]; exact ih
  · exact p_X9_stands_8_3 (by rw [R.2.2.1]; exact nI_nlt (Nat.le_refl _) (by omega))
theorem fall0 (W : Wf A) {g : Nat} : fallA A g (A 1 0) = 0 ↔ ∀ h, h < A 1 0 → (looseA A).testBit h = true → ¬ h0 A h + 1 < g := by
  constructor
  · intro h k hk hb hlt
    have : (fallA A g (A 1 0)).testBit k = true := by
      unfold fallA
      rw [sbits_test]
      rw [loose_test W hk] at hb
      simp at hb ⊢
      exact ⟨hk, hb, hlt⟩
    rw [h] at this
    simp at this
  · intro h
    apply Nat.eq_of_testBit_eq
    intro i
    rw [Nat.zero_testBit]
    cases hi : (fallA A g (A 1 0)).testBit i with
    | false => rfl
    | true =>
      unfold fallA at hi
      rw [sbits_test] at hi
      simp at hi
      exact absurd hi.2.2 (h i hi.1 (by rw [loose_test W hi.1]; simp [hi.2.1]))
theorem fallA_lt (b2 : A 1 0 ≤ 12) (g : Nat) : fallA A g (A 1 0) < 4096 := Nat.lt_of_lt_of_le (sbits_lt _ _) (Nat.pow_le_pow_right (by decide) b2 : 2 ^ A 1 0 ≤ 2 ^ 12)
theorem m_stands (R : Rm 61 A σ) : ∃ τ, hq_c 261 (d + 7) [.ref 52] σ (some (.int (nI (stdJ A (A 1 0))))) τ ∧ Fr [(52, 1)] σ τ := by
  have W := R.1
  have b2 := W.2.1
  have f0 : Fr [(52, 1)] σ (hq_sI σ 52 0 (nI 0)) := frth
  have R0 : Rm 61 A (hq_sI σ 52 0 (nI 0)) := Rm.depn.fr f0 (by decide) R
  have sl := stdJ_le A (A 1 0)
  refine ⟨_, p_X10_stands_0_1 ?_, f0⟩
  have e0 : stdJ A (A 1 0) = (stdJ A (A 1 0) - 1) + 1 := by omega
  refine hq_m.for (fun j => [some (.ref 52), some (.int (nI (j + 1)))]) (fun _ => hq_sI σ 52 0 (nI 0)) (stdJ A (A 1 0) - 1) ?_ ?_ 0 (Nat.zero_le _)
  · intro j hj ih
    have g := m_canFall (d := d) R0 (g := j + 1 + 1) (by omega) (by omega)
    rw [(fall0 W).mpr (fun h hh hb hlt => by have := stdJ_lb A hh hb; omega)] at g
    refine p_X10_stands_5_1 (nlt (by omega) (by decide)) (by rw [nplus]; exact g) rfl ?_
    rw [nplus]; exact ih
  · rw [← e0]
    by_cases q : stdJ A (A 1 0) < 19
    · have g := m_canFall (d := d) R0 (g := stdJ A (A 1 0) + 1) (by omega) (by omega)
      have hl := fallA_lt (A := A) b2 (stdJ A (A 1 0) + 1)
      have hne : fallA A (stdJ A (A 1 0) + 1) (A 1 0) ≠ 0 := fun z => by
        obtain ⟨h, h1, h2, h3⟩ := stdJ_hit A _ q
        exact (fall0 W).mp z h h1 h2 (by omega)
      exact p_X10_stands_5_2 (nlt q (by decide)) (by rw [nplus]; exact g) (nI_ne0 (by omega) (by omega))
    · exact p_X10_stands_5_3 (nI_nlt (by omega) (by omega))
end SP2
