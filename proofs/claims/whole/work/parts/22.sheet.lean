/-! sheet -/
def entV (k x : Int32) : Int32 := if k = 0 then x.toInt8.toInt32 else if k = nI 1 then x.toInt16.toInt32 else x
def cl9 (y : Int32) : Nat := (min 9 (max 0 y.toInt)).toNat
theorem cl9_le (y : Int32) : cl9 y ≤ 9 := by unfold cl9; omega
theorem cl9_val (y : Int32) : (if nI 0 < (if y < nI 9 then y else nI 9) then (if y < nI 9 then y else nI 9) else nI 0) = nI (cl9 y) := by
  unfold cl9
  by_cases h : y < nI 9
  · rw [if_pos h]
    rw [lt_nI (by decide)] at h
    by_cases h2 : nI 0 < y
    · rw [if_pos h2]
      rw [nI_ltx (by decide)] at h2
      rw [eq_nI (by omega)]; omega
    · rw [if_neg h2]
      rw [nI_ltx (by decide)] at h2
      congr 1; omega
  · rw [if_neg h]
    rw [lt_nI (by decide)] at h
    rw [if_pos (by decide)]
    congr 1; omega
def shG (k n f st : Int32) (r : Nat) : Nat := if k = nI 3 ∨ n.toInt < r then 0 else cl9 (entV k (f + nI (r - 1) * st))
def shS (A : TA) (g : Nat → Nat) (j : Nat) : Nat → Nat := fun r => if 1 ≤ r ∧ r ≤ j then g r else A 12 r
def sum1 (g : Nat → Nat) : Nat → Nat
  | 0 => 0
  | j + 1 => sum1 g j + g (j + 1)
/-- refused: 1, 2; done: 0 -/
def shBad (k n : Int32) : Nat := if inb k 0 3 && decide (n.toInt ≤ 7) then (if k ≠ nI 3 ∧ n.toInt < 0 then 2 else 0) else 1
def shR (k n f st : Int32) : Int32 := if shBad k n = 1 then -1 else if shBad k n = 2 then -2 else if k = nI 3 then -3 else nI (sum1 (shG k n f st) 7)
def shT (A : TA) (k n f st : Int32) : Nat → Nat := if shBad k n = 0 then shS A (shG k n f st) 7 else A 12
theorem shG_le (k n f st : Int32) (r : Nat) : shG k n f st r ≤ 9 := by unfold shG; split; omega; exact cl9_le _
theorem shBad0 {k n : Int32} (h1 : ¬ k < 0) (h2 : ¬ nI 3 < k) (h3 : ¬ nI 7 < n) (h4 : k = nI 3 ∨ ¬ n < 0) : shBad k n = 0 := by
  rw [ltz] at h1
  rw [nI_ltx (by decide)] at h2 h3
  rw [ltz] at h4
  unfold shBad inb
  rw [if_pos (by simp; omega), if_neg]
  rintro ⟨a, b⟩
  rcases h4 with h | h
  · exact a h
  · exact h b
theorem shBad2 {k n : Int32} (h1 : ¬ k < 0) (h2 : ¬ nI 3 < k) (h3 : ¬ nI 7 < n) (h4 : ¬ k = nI 3) (h5 : n < 0) : shBad k n = 2 := by
  rw [ltz] at h1 h5
  rw [nI_ltx (by decide)] at h2 h3
  unfold shBad inb
  rw [if_pos (by simp; omega), if_pos ⟨h4, h5⟩]
theorem shBad1 {k n : Int32} (h : k < 0 ∨ nI 3 < k ∨ nI 7 < n) : shBad k n = 1 := by
  rw [ltz, nI_ltx (by decide), nI_ltx (by decide)] at h
  unfold shBad inb
  rw [if_neg (by simp; omega)]
section SH
variable {d : Nat} {σ : hq_St} {A : TA}
theorem s_entry (k x : Int32) : hq_c 161 (d + 1) [.int k, .int x] σ (some (.int (nI (cl9 (entV k x))))) σ := by
  unfold entV
  rw [← cl9_val]
  by_cases h : k = 0
  · rw [if_pos h]; exact p_X9_entry_0_1 h
  · rw [if_neg h]
    by_cases h2 : k = nI 1
    · rw [if_pos h2]; exact p_X9_entry_0_2 h h2
    · rw [if_neg h2]; exact p_X9_entry_0_3 h h2
theorem shS_le (hA : ∀ r, A 12 r ≤ 9) (k n f st : Int32) (j r : Nat) : shS A (shG k n f st) j r ≤ 9 := by
  unfold shS; split; exact shG_le _ _ _ _ _; exact hA r
theorem s_sheet {t y : Int32} (h : cT A t y σ) (k n f st : Int32) : ∃ τ, hq_c 117 (d + 2) [.ref 0, .int k, .int n, .int f, .int st] σ (some (.int (shR k n f st))) τ ∧ cT (secA A (shT A k n f st)) t y τ ∧ Fr [(18, 0)] σ τ := by
  have hS := h.1.2.2.2.2.2
  have hA := h.1.1.2.2.2.2
  have bad1 : shBad k n = 1 → shR k n f st = -1 ∧ shT A k n f st = A 12 := fun q => by unfold shR shT; rw [q]; exact ⟨rfl, rfl⟩
  by_cases c1 : k < 0
  · obtain ⟨e1, e2⟩ := bad1 (shBad1 (Or.inl c1))
    rw [e1, e2, secA_self]
    exact ⟨σ, p_X9_sheet_0_1 c1, h, Fr.rf σ⟩
  by_cases c2 : nI 3 < k
  · obtain ⟨e1, e2⟩ := bad1 (shBad1 (Or.inr (Or.inl c2)))
    rw [e1, e2, secA_self]
    exact ⟨σ, p_X9_sheet_0_2 c1 c2, h, Fr.rf σ⟩
  by_cases c3 : nI 7 < n
  · obtain ⟨e1, e2⟩ := bad1 (shBad1 (Or.inr (Or.inr c3)))
    rw [e1, e2, secA_self]
    exact ⟨σ, p_X9_sheet_0_3 c1 c2 c3, h, Fr.rf σ⟩
  -- the loop
  have loop : ∃ σ', (∀ v τ, hq_m 117 (d + 2) v τ 27 [some (.ref 0), some (.int k), some (.int n), some (.int f), some (.int st), some (.int (bI (decide (k = nI 3)))), some (.int (nI (sum1 (shG k n f st) 7))), some (.int (nI (7 + 1))), none, none] [] σ' → hq_m 117 (d + 2) v τ 27 [some (.ref 0), some (.int k), some (.int n), some (.int f), some (.int st), some (.int (bI (decide (k = nI 3)))), some (.int (nI 0)), some (.int (nI (0 + 1))), none, none] [] σ) ∧ (∀ r, 1 ≤ r → r < 8 → σ'.1 18 r = nI (shS A (shG k n f st) 7 r)) ∧ Fr [(18, 0)] σ σ' := by
    refine hq_w.for (fun j => [some (.ref 0), some (.int k), some (.int n), some (.int f), some (.int st), some (.int (bI (decide (k = nI 3)))), some (.int (nI (sum1 (shG k n f st) j))), some (.int (nI (j + 1))), none, none]) (fun j ρ => (∀ r, 1 ≤ r → r < 8 → ρ.1 18 r = nI (shS A (shG k n f st) j r)) ∧ Fr [(18, 0)] σ ρ) 7 ?_ ⟨fun r r1 r2 => ?_, Fr.rf σ⟩
    · rintro j hj ρ ⟨q1, q2⟩
      have cl : (nI (j + 1)).toNatClampNeg = j + 1 := clamp (by omega)
      have o : vp_in (nI (j + 1)) 8 := vin (by omega) (by decide)
      have c0 : nI (j + 1) < nI 8 := nlt (by omega) (by decide)
      have post : ∀ (w : Nat), w = shG k n f st (j + 1) → (∀ r, 1 ≤ r → r < 8 → (hq_sI ρ 18 (nI (j + 1)).toNatClampNeg (nI w)).1 18 r = nI (shS A (shG k n f st) (j + 1) r)) ∧ Fr [(18, 0)] σ (hq_sI ρ 18 (nI (j + 1)).toNatClampNeg (nI w)) := by
        intro w hw
        refine ⟨fun r r1 r2 => ?_, q2.sI rfl⟩
        rw [cl, sI_at, if_pos rfl]
        by_cases e : r = j + 1
        · rw [if_pos e]; unfold shS; rw [if_pos (by omega), e, hw]
        · rw [if_neg e, q1 r r1 r2]; unfold shS
          by_cases e2 : 1 ≤ r ∧ r ≤ j
          · rw [if_pos e2, if_pos (by omega)]
          · rw [if_neg e2, if_neg (by omega)]
      by_cases k3 : k = nI 3
      · have g0 : shG k n f st (j + 1) = 0 := by unfold shG; rw [if_pos (Or.inl k3)]
        refine ⟨_, fun v τ q => p_X9_sheet_27_5 c0 (by rw [decide_eq_true k3]; decide) rfl o ?_, post 0 g0.symm⟩
        rw [nplus, nplus]
        have e1 : sum1 (shG k n f st) (j + 1) = sum1 (shG k n f st) j + 0 := by show _ + shG k n f st (j + 1) = _; rw [g0]
        rw [← e1]; exact q
      · by_cases c4 : n < nI (j + 1)
        · have g0 : shG k n f st (j + 1) = 0 := by unfold shG; rw [if_pos (Or.inr ((lt_nI (by omega)).mp c4))]
          refine ⟨_, fun v τ q => p_X9_sheet_27_1 c0 (by rw [decide_eq_false k3]; rfl) c4 rfl o ?_, post 0 g0.symm⟩
          rw [nplus, nplus]
          have e1 : sum1 (shG k n f st) (j + 1) = sum1 (shG k n f st) j + 0 := by show _ + shG k n f st (j + 1) = _; rw [g0]
          rw [← e1]; exact q
        · have g0 : shG k n f st (j + 1) = cl9 (entV k (f + nI j * st)) := by
            unfold shG; rw [if_neg, Nat.add_sub_cancel]
            rintro (z | z)
            · exact k3 z
            · exact c4 ((lt_nI (by omega)).mpr z)
          have en := s_entry (d := d) (σ := ρ) k (f + (nI (j + 1) - nI 1) * st)
          have ep : nI (j + 1) - nI 1 = nI j := nI_pred j
          rw [ep] at en
          rw [← g0] at en
          refine ⟨_, fun v τ q => p_X9_sheet_27_4 c0 (by rw [decide_eq_false k3]; rfl) c4 (by decide) (by rw [ep]; exact en) o ?_, post _ rfl⟩
          rw [nplus, nplus]
          exact q
    · unfold shS; rw [if_neg (by omega)]; exact hS r r1 r2
  obtain ⟨σ', w, q1, q2⟩ := loop
  have fin : shBad k n = 0 → ∃ τ, hq_m 117 (d + 2) (some (.int (shR k n f st))) τ 27 [some (.ref 0), some (.int k), some (.int n), some (.int f), some (.int st), some (.int (bI (decide (k = nI 3)))), some (.int (nI 0)), some (.int (nI (0 + 1))), none, none] [] σ ∧ cT (secA A (shT A k n f st)) t y τ ∧ Fr [(18, 0)] σ τ := by
    intro b0
    have e2 : shT A k n f st = shS A (shG k n f st) 7 := by unfold shT; rw [if_pos b0]
    rw [e2]
    refine ⟨σ', w _ _ ?_, h.sec (shS_le hA k n f st 7) q1 q2, q2⟩
    unfold shR
    rw [b0, if_neg (by decide), if_neg (by decide)]
    by_cases k3 : k = nI 3
    · rw [if_pos k3]
      exact p_X9_sheet_27_8 (by decide) (by rw [decide_eq_true k3]; decide)
    · rw [if_neg k3]
      exact p_X9_sheet_27_7 (by decide) (by rw [decide_eq_false k3]; rfl)
  by_cases k3 : k = nI 3
  · obtain ⟨τ, m1, m2, m3⟩ := fin (shBad0 c1 c2 c3 (Or.inl k3))
    rw [decide_eq_true k3] at m1
    exact ⟨τ, p_X9_sheet_0_6 c1 c2 c3 k3 (by decide) m1, m2, m3⟩
  · by_cases c5 : n < 0
    · have b2 := shBad2 c1 c2 c3 k3 c5
      have e1 : shR k n f st = -2 := by unfold shR; rw [b2]; rfl
      have e2 : shT A k n f st = A 12 := by unfold shT; rw [b2]; rfl
      rw [e1, e2, secA_self]
      exact ⟨σ, p_X9_sheet_0_7 c1 c2 c3 k3 rfl c5, h, Fr.rf σ⟩
    · obtain ⟨τ, m1, m2, m3⟩ := fin (shBad0 c1 c2 c3 (Or.inr c5))
      rw [decide_eq_false k3] at m1
      exact ⟨τ, p_X9_sheet_0_8 c1 c2 c3 k3 rfl c5 m1, m2, m3⟩
theorem m_sheet {t y : Int32} (h : mT A t y σ) (k n f st : Int32) : ∃ τ, hq_c 210 (d + 2) [.ref 52, .int k, .int n, .int f, .int st] σ (some (.int (shR k n f st))) τ ∧ mT (secA A (shT A k n f st)) t y τ ∧ Fr [(52, 1), (60, 0)] σ τ := by
  have g := m_inb (d := d) (σ := hq_sI σ 52 0 (nI 0)) k (a := 0) (b := 3) (by decide) (by decide)
  have hS := h.1.2.2.2.2.2.2
  have hA := h.1.1.2.2.2.2
  have hf : Fr [(52, 1), (60, 0)] σ (hq_sI σ 52 0 (nI 0)) := (Fr.rf σ).sI rfl
  have h' : mT A t y (hq_sI σ 52 0 (nI 0)) := mT.dep.fr ((Fr.rf σ).sI (G := [(52, 1)]) rfl) (by decide) h
  have bad1 : shBad k n = 1 → shR k n f st = -1 ∧ shT A k n f st = A 12 := fun q => by unfold shR shT; rw [q]; exact ⟨rfl, rfl⟩
  cases c : inb k 0 3 with
  | false =>
    rw [c] at g
    obtain ⟨e1, e2⟩ := bad1 (by unfold shBad; rw [c]; rfl)
    rw [e1, e2, secA_self]
    exact ⟨_, p_X10_sheet_0_1 g rfl, h', hf⟩
  | true =>
  rw [c] at g
  have ck : ¬ k < 0 ∧ ¬ nI 3 < k := by
    obtain ⟨m, m1, m2, rfl⟩ := inb_of c
    exact ⟨by rw [ltz, nI_toInt (by omega)]; omega, nI_nlt m2 (by decide)⟩
  by_cases c3 : nI 7 < n
  · obtain ⟨e1, e2⟩ := bad1 (shBad1 (Or.inr (Or.inr c3)))
    rw [e1, e2, secA_self]
    exact ⟨_, p_X10_sheet_0_2 g (by decide) c3, h', hf⟩
  have loop : ∃ σ', (∀ v τ, hq_m 210 (d + 2) v τ 27 [some (.ref 52), some (.int k), some (.int n), none, some (.int st), some (.int (nI (sum1 (shG k n f st) 7))), some (.int (f + nI 7 * st)), some (.int (nI (7 + 1))), none] [] σ' → hq_m 210 (d + 2) v τ 27 [some (.ref 52), some (.int k), some (.int n), none, some (.int st), some (.int (nI 0)), some (.int (f + nI 0 * st)), some (.int (nI (0 + 1))), none] [] (hq_sI σ 52 0 (nI 0))) ∧ (∀ r, 1 ≤ r → r < 8 → σ'.1 60 r = nI (shS A (shG k n f st) 7 r)) ∧ Fr [(52, 1), (60, 0)] σ σ' := by
    refine hq_w.for (fun j => [some (.ref 52), some (.int k), some (.int n), none, some (.int st), some (.int (nI (sum1 (shG k n f st) j))), some (.int (f + nI j * st)), some (.int (nI (j + 1))), none]) (fun j ρ => (∀ r, 1 ≤ r → r < 8 → ρ.1 60 r = nI (shS A (shG k n f st) j r)) ∧ Fr [(52, 1), (60, 0)] σ ρ) 7 ?_ ⟨fun r r1 r2 => ?_, hf⟩
    · rintro j hj ρ ⟨q1, q2⟩
      have cl : (nI (j + 1)).toNatClampNeg = j + 1 := clamp (by omega)
      have o : vp_in (nI (j + 1)) 8 := vin (by omega) (by decide)
      have c0 : nI (j + 1) < nI 8 := nlt (by omega) (by decide)
      have stp : f + nI j * st + st = f + nI (j + 1) * st := by
        rw [Int32.add_assoc]
        congr 1
        rw [← nplus, Int32.add_mul]
        congr 1
        exact (Int32.one_mul st).symm
      have post : ∀ (w : Nat), w = shG k n f st (j + 1) → (∀ r, 1 ≤ r → r < 8 → (hq_sI ρ 60 (nI (j + 1)).toNatClampNeg (nI w)).1 60 r = nI (shS A (shG k n f st) (j + 1) r)) ∧ Fr [(52, 1), (60, 0)] σ (hq_sI ρ 60 (nI (j + 1)).toNatClampNeg (nI w)) := by
        intro w hw
        refine ⟨fun r r1 r2 => ?_, q2.sI rfl⟩
        rw [cl, sI_at, if_pos rfl]
        by_cases e : r = j + 1
        · rw [if_pos e]; unfold shS; rw [if_pos (by omega), e, hw]
        · rw [if_neg e, q1 r r1 r2]; unfold shS
          by_cases e2 : 1 ≤ r ∧ r ≤ j
          · rw [if_pos e2, if_pos (by omega)]
          · rw [if_neg e2, if_neg (by omega)]
      have zero : shG k n f st (j + 1) = 0 → ∀ v τ, hq_m 210 (d + 2) v τ 27 [some (.ref 52), some (.int k), some (.int n), none, some (.int st), some (.int (nI (sum1 (shG k n f st) (j + 1)))), some (.int (f + nI (j + 1) * st)), some (.int (nI (j + 1 + 1))), none] [] (hq_sI ρ 60 (nI (j + 1)).toNatClampNeg (nI 0)) → hq_m 210 (d + 2) v τ 27 [some (.ref 52), some (.int k), some (.int n), none, some (.int st), some (.int (nI (sum1 (shG k n f st) j) + (hq_sI ρ 60 (nI (j + 1)).toNatClampNeg (nI 0)).1 60 (nI (j + 1)).toNatClampNeg)), some (.int (f + nI j * st + st)), some (.int (nI (j + 1) + nI 1)), none] [] (hq_sI ρ 60 (nI (j + 1)).toNatClampNeg (nI 0)) := by
        intro g0 v τ q
        rw [sI_eq, nplus, nplus, stp]
        have e1 : sum1 (shG k n f st) (j + 1) = sum1 (shG k n f st) j + 0 := by show _ + shG k n f st (j + 1) = _; rw [g0]
        rw [← e1]; exact q
      by_cases k3 : k = nI 3
      · have g0 : shG k n f st (j + 1) = 0 := by unfold shG; rw [if_pos (Or.inl k3)]
        refine ⟨_, fun v τ q => p_X10_sheet_27_7 c0 (by rw [k3]; decide) (by rw [k3]; decide) k3 o o (zero g0 v τ q), post 0 g0.symm⟩
      · by_cases c4 : n < nI (j + 1)
        · have g0 : shG k n f st (j + 1) = 0 := by unfold shG; rw [if_pos (Or.inr ((lt_nI (by omega)).mp c4))]
          refine ⟨_, fun v τ q => ?_, post 0 g0.symm⟩
          by_cases z0 : k = 0
          · exact p_X10_sheet_27_2 c0 z0 k3 c4 o o (zero g0 v τ q)
          · by_cases z1 : k = nI 1
            · exact p_X10_sheet_27_5 c0 z0 z1 k3 c4 o o (zero g0 v τ q)
            · exact p_X10_sheet_27_8 c0 z0 z1 k3 c4 o o (zero g0 v τ q)
        · have g0 : shG k n f st (j + 1) = cl9 (entV k (f + nI j * st)) := by
            unfold shG; rw [if_neg, Nat.add_sub_cancel]
            rintro (z | z)
            · exact k3 z
            · exact c4 ((lt_nI (by omega)).mpr z)
          refine ⟨hq_sI ρ 60 (nI (j + 1)).toNatClampNeg (nI (shG k n f st (j + 1))), fun v τ q => ?_, post _ rfl⟩
          have e1 : sum1 (shG k n f st) (j + 1) = sum1 (shG k n f st) j + shG k n f st (j + 1) := rfl
          rw [e1, g0] at q
          unfold entV at q
          by_cases z0 : k = 0
          · rw [if_pos z0] at q
            refine p_X10_sheet_27_3 c0 z0 k3 c4 o o rfl ?_
            rw [sI_eq, cl9_val, nplus, nplus, stp]
            exact q
          · rw [if_neg z0] at q
            by_cases z1 : k = nI 1
            · rw [if_pos z1] at q
              refine p_X10_sheet_27_6 c0 z0 z1 k3 c4 o o rfl ?_
              rw [sI_eq, cl9_val, nplus, nplus, stp]
              exact q
            · rw [if_neg z1] at q
              refine p_X10_sheet_27_9 c0 z0 z1 k3 c4 o o ?_
              rw [sI_eq, cl9_val, nplus, nplus, stp]
              exact q
    · unfold shS; rw [if_neg (by omega), sI_ne (by decide)]; exact hS r r1 r2
  obtain ⟨σ', w, q1, q2⟩ := loop
  have f0 : f + nI 0 * st = f := by rw [show nI 0 = (0 : Int32) from rfl, Int32.zero_mul, Int32.add_zero]
  rw [f0] at w
  have fin : shBad k n = 0 → ∃ τ, hq_m 210 (d + 2) (some (.int (shR k n f st))) τ 27 [some (.ref 52), some (.int k), some (.int n), none, some (.int st), some (.int (nI 0)), some (.int f), some (.int (nI (0 + 1))), none] [] (hq_sI σ 52 0 (nI 0)) ∧ mT (secA A (shT A k n f st)) t y τ ∧ Fr [(52, 1), (60, 0)] σ τ := by
    intro b0
    have e2 : shT A k n f st = shS A (shG k n f st) 7 := by unfold shT; rw [if_pos b0]
    rw [e2]
    refine ⟨σ', w _ _ ?_, h.sec (shS_le hA k n f st 7) q1 q2, q2⟩
    unfold shR
    rw [b0, if_neg (by decide), if_neg (by decide)]
    by_cases k3 : k = nI 3
    · rw [if_pos k3]
      exact p_X10_sheet_27_10 (by decide) k3
    · rw [if_neg k3]
      exact p_X10_sheet_27_11 (by decide) k3
  by_cases k3 : k = nI 3
  · obtain ⟨τ, m1, m2, m3⟩ := fin (shBad0 ck.1 ck.2 c3 (Or.inl k3))
    exact ⟨τ, p_X10_sheet_0_3 g (by decide) c3 k3 m1, m2, m3⟩
  · by_cases c5 : n < 0
    · have b2 := shBad2 ck.1 ck.2 c3 k3 c5
      have e1 : shR k n f st = -2 := by unfold shR; rw [b2]; rfl
      have e2 : shT A k n f st = A 12 := by unfold shT; rw [b2]; rfl
      rw [e1, e2, secA_self]
      exact ⟨_, p_X10_sheet_0_4 g (by decide) c3 k3 c5, h', hf⟩
    · obtain ⟨τ, m1, m2, m3⟩ := fin (shBad0 ck.1 ck.2 c3 (Or.inr c5))
      exact ⟨τ, p_X10_sheet_0_5 g (by decide) c3 k3 c5 m1, m2, m3⟩
end SH
