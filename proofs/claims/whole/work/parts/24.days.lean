/-! Days and gales. -/
def psum (p : Nat → Bool) (f : Nat → Nat) : Nat → Nat
  | 0 => 0
  | m + 1 => psum p f m + (if p m then f m else 0)
theorem psum_le {p : Nat → Bool} {f : Nat → Nat} {c : Nat} : ∀ {m : Nat}, (∀ h, h < m → f h ≤ c) → psum p f m ≤ m * c
  | 0, _ => by simp [psum]
  | m + 1, h => by
    have ih := psum_le (p := p) (f := f) (c := c) (m := m) (fun k hk => h k (by omega))
    have h1 := h m (by omega)
    unfold psum
    rw [Nat.succ_mul]
    split <;> omega
def dayF (A : TA) (j : Nat) : TA := fun a b => if a = 10 then (if b < j ∧ A 11 b ≠ 0 then A 10 b - 1 else A 10 b) else if a = 9 then (if b < j ∧ A 11 b ≠ 0 ∧ A 10 b = 0 then min 9 (A 9 b + 1) else A 9 b) else A a b
def dayA (A : TA) : TA := dayF A (A 1 0)
def paidA (A : TA) : Nat := psum (fun h => decide (A 11 h ≠ 0)) (A 8) (A 1 0)
def daysA (A : TA) : Nat → TA
  | 0 => A
  | n + 1 => dayA (daysA A n)
def daysP (A : TA) : Nat → Nat
  | 0 => 0
  | n + 1 => daysP A n + paidA (daysA A n)
def daysT (A : TA) (t : Int32) : Nat → Int32
  | 0 => t
  | n + 1 => daysT A t n + nI (paidA (daysA A n))
def daysY (y : Int32) : Nat → Int32
  | 0 => y
  | n + 1 => daysY y n + nI 1
theorem dayF0 (A : TA) : dayF A 0 = A := by
  funext a b
  unfold dayF
  split
  · rename_i h; rw [if_neg (by omega), h]
  · split
    · rename_i h; rw [if_neg (by omega), h]
    · rfl
theorem dayF_no {A : TA} {j : Nat} (h : A 11 j = 0) : dayF A (j + 1) = dayF A j := by
  funext a b
  unfold dayF
  by_cases e : b = j
  · subst e
    simp [h]
  · have : b < j + 1 ↔ b < j := by omega
    simp only [this]
theorem dayF_oil {A : TA} {j : Nat} (h : A 11 j ≠ 0) (h2 : A 10 j ≠ 0) : dayF A (j + 1) = setA (dayF A j) 10 j (A 10 j - 1) := by
  funext a b
  unfold setA dayF
  by_cases e : b = j
  · subst e
    by_cases a1 : a = 10
    · simp [a1, h]
    · simp [a1, h2]
  · have : b < j + 1 ↔ b < j := by omega
    simp only [this, if_neg e]
    by_cases a1 : a = 10
    · simp [a1]
    · simp [a1]
theorem dayF_rust {A : TA} {j : Nat} (h : A 11 j ≠ 0) (h2 : A 10 j = 0) : dayF A (j + 1) = setA (dayF A j) 9 j (min 9 (A 9 j + 1)) := by
  funext a b
  unfold setA dayF
  by_cases e : b = j
  · subst e
    by_cases a1 : a = 10
    · simp [a1, h2]
    · by_cases a2 : a = 9
      · simp [a2, h, h2]
      · simp [a1, a2]
  · have : b < j + 1 ↔ b < j := by omega
    simp only [this, if_neg e]
    by_cases a1 : a = 10
    · simp [a1]
    · by_cases a2 : a = 9
      · simp [a2]
      · simp [a1, a2]
theorem Wf.dayF {A : TA} (W : Wf A) (j : Nat) : Wf (dayF A j) := by
  refine ⟨W.1, W.2.1, W.2.2.1, fun k hk => ?_, W.2.2.2.2⟩
  obtain ⟨w1, w2, w3, w4, w5, w6, w7, w8⟩ := W.2.2.2.1 k hk
  refine ⟨w1, w2, w3, w4, ?_, ?_, w7, w8⟩
  · show (if k < j ∧ A 11 k ≠ 0 ∧ A 10 k = 0 then min 9 (A 9 k + 1) else A 9 k) ≤ 9
    split <;> omega
  · show (if k < j ∧ A 11 k ≠ 0 then A 10 k - 1 else A 10 k) ≤ 9
    split <;> omega
theorem Wf.days {A : TA} (W : Wf A) : ∀ n, Wf (daysA A n)
  | 0 => W
  | n + 1 => (W.days n).dayF _
theorem min9 {r k : Nat} (hr : r < 100) (hk : k < 100) : (if nI r + nI k < nI 9 then nI r + nI k else nI 9) = nI (min 9 (r + k)) := by
  rw [nplus]
  by_cases h : r + k < 9
  · rw [if_pos (nlt h (by decide)), Nat.min_eq_right (by omega)]
  · rw [if_neg (nI_nlt (by omega) (by omega)), Nat.min_eq_left (by omega)]
theorem z_lt {k : Nat} (h : k < 2 ^ 31) : (0 : Int32) < nI k ↔ k ≠ 0 := by
  rw [show (0 : Int32) = nI 0 from rfl, nI_ltx (by decide), nI_toInt h]
  omega
section DA
variable {d : Nat} {σ : hq_St} {A : TA}
theorem paidA_le (W : Wf A) : paidA A ≤ 108 := by
  have := psum_le (p := fun h => decide (A 11 h ≠ 0)) (f := A 8) (c := 9) (m := A 1 0) (fun h hh => (W.2.2.2.1 h hh).2.2.2.1)
  have b2 := W.2.1
  unfold paidA
  omega
theorem s_passDay {t y : Int32} (h : cT A t y σ) : ∃ τ, hq_c 105 (d + 1) [.ref 5] σ (some (.int (nI (paidA A)))) τ ∧ cT (dayA A) (t + nI (paidA A)) (y + nI 1) τ ∧ Fr [(5, 16), (5, 17), (15, 0), (16, 0)] σ τ := by
  obtain ⟨R, ht, hy⟩ := h
  have W := R.1
  have b1 := W.1
  have b2 := W.2.1
  obtain ⟨σ1, w, R1, f1⟩ := hq_w.for (x := 105) (d := d + 1) (i := 4) (fun j => [some (.ref 5), some (.int (nI (psum (fun h => decide (A 11 h ≠ 0)) (A 8) j))), some (.int (nI j))]) (fun j ρ => Rc (dayF A j) ρ ∧ Fr [(15, 0), (16, 0)] σ ρ) (A 1 0) (fun j hj ρ ⟨q, f⟩ => by
    have qW := q.1
    obtain ⟨-, q1, q2, qD, qH, qS⟩ := id q
    have cj : (nI j).toNatClampNeg = j := clamp (by omega)
    have o : vp_in (nI j) 12 := vin (by omega) (by decide)
    have c1 : nI j < ρ.1 5 14 := by rw [q2]; exact nlt (show j < A 1 0 from hj) (show A 1 0 < _ by omega)
    obtain ⟨a1, a2, a3, a4, a5, a6⟩ := qH j hj
    obtain ⟨w1, w2, w3, w4, w5, w6, w7, w8⟩ := W.2.2.2.1 j hj
    have e9 : dayF A j 9 j = A 9 j := by show (if j < j ∧ A 11 j ≠ 0 ∧ A 10 j = 0 then min 9 (A 9 j + 1) else A 9 j) = _; rw [if_neg (by omega)]
    have e10 : dayF A j 10 j = A 10 j := by show (if j < j ∧ A 11 j ≠ 0 then A 10 j - 1 else A 10 j) = _; rw [if_neg (by omega)]
    have a6' : ρ.1 17 (nI j).toNatClampNeg = nI (A 11 j) - nI 1 := by rw [cj]; exact a6
    have a5' : ρ.1 16 (nI j).toNatClampNeg = nI (A 10 j) := by rw [cj, a5, e10]
    have a4' : ρ.1 15 (nI j).toNatClampNeg = nI (A 9 j) := by rw [cj, a4, e9]
    have a3' : ρ.1 14 (nI j).toNatClampNeg = nI (A 8 j) := by rw [cj]; exact a3
    by_cases p0 : A 11 j = 0
    · refine ⟨ρ, fun v τ k => p_X8_passDay_4_1 c1 o (by rw [a6', p0]; decide) ?_, ?_⟩
      · rw [nplus]
        have : psum (fun h => decide (A 11 h ≠ 0)) (A 8) (j + 1) = psum (fun h => decide (A 11 h ≠ 0)) (A 8) j := by simp [psum, p0]
        rw [this] at k
        exact k
      · rw [dayF_no p0]; exact ⟨q, f⟩
    · have n1 : ¬ ρ.1 17 (nI j).toNatClampNeg = -1 := by rw [a6']; exact fun z => p0 ((place_m1 (by omega)).mp z)
      have es : psum (fun h => decide (A 11 h ≠ 0)) (A 8) (j + 1) = psum (fun h => decide (A 11 h ≠ 0)) (A 8) j + A 8 j := by simp [psum, p0]
      by_cases p1 : A 10 j = 0
      · refine ⟨hq_sI ρ 15 j (nI (min 9 (A 9 j + 1))), fun v τ k => p_X8_passDay_4_3 c1 o n1 o o (by rw [a5', z_lt (by omega)]; omega) o o ?_, ?_, f.sI rfl⟩
        · rw [a3', nplus, nplus, ← es, a4', cj, min9 (by omega) (by decide)]; exact k
        · rw [dayF_rust p0 p1]
          exact ⟨qW.set9 (by omega), Rx.set9 q.2⟩
      · refine ⟨hq_sI ρ 16 j (nI (A 10 j - 1)), fun v τ k => p_X8_passDay_4_2 c1 o n1 o o (by rw [a5', z_lt (by omega)]; omega) o o ?_, ?_, f.sI rfl⟩
        · rw [a3', nplus, nplus, ← es, a5', cj, pk_sub (by omega)]; exact k
        · rw [dayF_oil p0 p1]
          exact ⟨qW.set10 (by omega), Rx.set10 q.2⟩) (σ := σ) ⟨by rw [dayF0]; exact R, Fr.rf σ⟩
  have hN : σ1.1 5 14 = nI (A 1 0) := R1.2.2.1
  have h15 : σ1.1 5 15 = t := (f1.i rfl).trans ht
  have h16 : σ1.1 5 16 = y := (f1.i rfl).trans hy
  have fin := p_X8_passDay_4_4 (d := d) (σ := σ1) (l1 := nI (psum (fun h => decide (A 11 h ≠ 0)) (A 8) (A 1 0))) (l2 := nI (A 1 0)) (by rw [hN]; exact nI_nlt (Nat.le_refl _) (by omega))
  rw [h15, sI_slot (by decide), h16] at fin
  refine ⟨_, p_X8_passDay_0_1 (w _ _ fin), ⟨?_, ?_, ?_⟩, ((f1.up (by decide)).sI rfl).sI rfl⟩
  · exact Rc.dep.fr (((Fr.rf σ1).sI (G := [(5, 16), (5, 17)]) rfl).sI rfl) (by decide) R1
  · rw [sI_slot (by decide), sI_eq]; rfl
  · exact sI_eq
theorem Rm.sln {j : Nat} {v : Int32} (R : Rm 61 A σ) (hj : 48 ≤ j) : Rm 61 A (hq_sI σ 61 j v) := by
  obtain ⟨W, r1, r2, rD, rH, rR, rS⟩ := R
  have b2 := W.2.1
  have f : Fr [(61, 0)] σ (hq_sI σ 61 j v) := (Fr.rf σ).sI rfl
  refine ⟨W, (f.i rfl).trans r1, (f.i rfl).trans r2, fun k hk => ?_, fun k hk => ?_, fun k hk => ?_, fun r z1 z2 => (f.i rfl).trans (rS r z1 z2)⟩
  · obtain ⟨a1, a2, a3, a4⟩ := rD k hk
    exact ⟨(f.i rfl).trans a1, (f.i rfl).trans a2, (f.i rfl).trans a3, (f.i rfl).trans a4⟩
  · obtain ⟨a1, a2⟩ := rH k hk
    exact ⟨(f.i rfl).trans a1, (f.i rfl).trans a2⟩
  · obtain ⟨a1, a2, a3, a4⟩ := rR k hk
    exact ⟨(sI_slot (by omega)).trans a1, (sI_slot (by omega)).trans a2, (sI_slot (by omega)).trans a3, (sI_slot (by omega)).trans a4⟩
theorem m_dayGoesn {t y : Int32} (R : Rm 61 A σ) (ht : σ.1 61 48 = t) (hy : σ.1 61 49 = y) : ∃ τ, hq_c 222 (d + 1) [.ref 52, .ref 61] σ (some (.int (nI (paidA A)))) τ ∧ Rm 61 (dayA A) τ ∧ τ.1 61 48 = t + nI (paidA A) ∧ τ.1 61 49 = y + nI 1 ∧ Fr [(61, 0)] σ τ := by
  have W := R.1
  have b1 := W.1
  have b2 := W.2.1
  obtain ⟨σ1, w, R1, f1, u1, u2⟩ := hq_w.for (x := 222) (d := d + 1) (i := 4) (fun j => [some (.ref 52), some (.ref 61), some (.int (nI (psum (fun h => decide (A 11 h ≠ 0)) (A 8) j))), some (.int (nI j))]) (fun j ρ => Rm 61 (dayF A j) ρ ∧ Fr [(61, 0)] σ ρ ∧ ρ.1 61 48 = t ∧ ρ.1 61 49 = y) (A 1 0) (fun j hj ρ ⟨q, f, g1, g2⟩ => by
    have qW := q.1
    obtain ⟨-, q1, q2, qD, qH, qR, qS⟩ := id q
    have cj : (nI j).toNatClampNeg = j := clamp (by omega)
    have cj2 : (nI 36 + nI j).toNatClampNeg = 36 + j := by rw [nplus]; exact clamp (by omega)
    have cj3 : (nI 24 + nI j).toNatClampNeg = 24 + j := by rw [nplus]; exact clamp (by omega)
    have o : vp_in (nI j) 50 := vin (by omega) (by decide)
    have o1 : vp_in (nI j) 12 := vin (by omega) (by decide)
    have o2 : vp_in (nI 36 + nI j) 50 := by rw [nplus]; exact vin (by omega) (by decide)
    have o3 : vp_in (nI 24 + nI j) 50 := by rw [nplus]; exact vin (by omega) (by decide)
    have c1 : nI j < ρ.1 52 4 := by rw [q2]; exact nlt (show j < A 1 0 from hj) (show A 1 0 < _ by omega)
    obtain ⟨a1, a2, a3, a4⟩ := qR j hj
    obtain ⟨w1, w2, w3, w4, w5, w6, w7, w8⟩ := W.2.2.2.1 j hj
    have e9 : dayF A j 9 j = A 9 j := by show (if j < j ∧ A 11 j ≠ 0 ∧ A 10 j = 0 then min 9 (A 9 j + 1) else A 9 j) = _; rw [if_neg (by omega)]
    have e10 : dayF A j 10 j = A 10 j := by show (if j < j ∧ A 11 j ≠ 0 then A 10 j - 1 else A 10 j) = _; rw [if_neg (by omega)]
    have a6' : ρ.1 61 (nI j).toNatClampNeg = nI (A 11 j) - nI 1 := by rw [cj]; exact a1
    have a5' : ρ.1 61 (nI 36 + nI j).toNatClampNeg = nI (A 10 j) := by rw [cj2, a4, e10]
    have a4' : ρ.1 61 (nI 24 + nI j).toNatClampNeg = nI (A 9 j) := by rw [cj3, a3, e9]
    have a3' : ρ.1 59 (nI j).toNatClampNeg = nI (A 8 j) := by rw [cj]; exact (qH j hj).2
    by_cases p0 : A 11 j = 0
    · refine ⟨ρ, fun v τ k => p_X10_dayGoesn_4_1 c1 o (by rw [a6']; exact (place_lt0 (by omega)).mpr p0) ?_, ?_⟩
      · rw [nplus]
        have : psum (fun h => decide (A 11 h ≠ 0)) (A 8) (j + 1) = psum (fun h => decide (A 11 h ≠ 0)) (A 8) j := by simp [psum, p0]
        rw [this] at k
        exact k
      · rw [dayF_no p0]; exact ⟨q, f, g1, g2⟩
    · have n1 : ¬ ρ.1 61 (nI j).toNatClampNeg < 0 := by rw [a6']; exact fun z => p0 ((place_lt0 (by omega)).mp z)
      have es : psum (fun h => decide (A 11 h ≠ 0)) (A 8) (j + 1) = psum (fun h => decide (A 11 h ≠ 0)) (A 8) j + A 8 j := by simp [psum, p0]
      by_cases p1 : A 10 j = 0
      · refine ⟨hq_sI ρ 61 (24 + j) (nI (min 9 (A 9 j + 1))), fun v τ k => p_X10_dayGoesn_4_3 c1 o n1 o2 o1 (by rw [a5', z_lt (by omega)]; omega) o3 o3 rfl ?_, ?_, f.sI rfl, ?_, ?_⟩
        · rw [a3', nplus, nplus, ← es, a4', cj3, min9 (by omega) (by decide)]; exact k
        · rw [dayF_rust p0 p1]
          exact q.set9n hj (qW.set9 (by omega))
        · rw [sI_slot (by omega)]; exact g1
        · rw [sI_slot (by omega)]; exact g2
      · refine ⟨hq_sI ρ 61 (36 + j) (nI (A 10 j - 1)), fun v τ k => p_X10_dayGoesn_4_2 c1 o n1 o2 o1 (by rw [a5', z_lt (by omega)]; omega) o2 o2 ?_, ?_, f.sI rfl, ?_, ?_⟩
        · rw [a3', nplus, nplus, ← es, a5', cj2, pk_sub (by omega)]; exact k
        · rw [dayF_oil p0 p1]
          exact q.set10n hj (qW.set10 (by omega))
        · rw [sI_slot (by omega)]; exact g1
        · rw [sI_slot (by omega)]; exact g2) (σ := σ) ⟨by rw [dayF0]; exact R, Fr.rf σ, ht, hy⟩
  have hN : σ1.1 52 4 = nI (A 1 0) := R1.2.2.1
  have k48 : (nI 48).toNatClampNeg = 48 := clamp (by decide)
  have k49 : (nI 49).toNatClampNeg = 49 := clamp (by decide)
  have fin := p_X10_dayGoesn_4_4 (d := d) (σ := σ1) (l2 := nI (psum (fun h => decide (A 11 h ≠ 0)) (A 8) (A 1 0))) (l3 := nI (A 1 0)) (by rw [hN]; exact nI_nlt (Nat.le_refl _) (by omega)) (vin (by decide) (by decide)) (vin (by decide) (by decide)) (vin (by decide) (by decide)) (vin (by decide) (by decide)) rfl
  rw [k48, k49, u1, sI_slot (by decide), u2] at fin
  refine ⟨_, p_X10_dayGoesn_0_1 (w _ _ fin), (R1.sln (by decide)).sln (by decide), ?_, sI_eq, (f1.sI rfl).sI rfl⟩
  rw [sI_slot (by decide), sI_eq]; rfl
theorem Rm.slt {j : Nat} {v : Int32} (R : Rm 65 A σ) (hj : 48 ≤ j) : Rm 65 A (hq_sI σ 65 j v) := by
  obtain ⟨W, r1, r2, rD, rH, rR, rS⟩ := R
  have b2 := W.2.1
  have f : Fr [(65, 0)] σ (hq_sI σ 65 j v) := (Fr.rf σ).sI rfl
  refine ⟨W, (f.i rfl).trans r1, (f.i rfl).trans r2, fun k hk => ?_, fun k hk => ?_, fun k hk => ?_, fun r z1 z2 => (f.i rfl).trans (rS r z1 z2)⟩
  · obtain ⟨a1, a2, a3, a4⟩ := rD k hk
    exact ⟨(f.i rfl).trans a1, (f.i rfl).trans a2, (f.i rfl).trans a3, (f.i rfl).trans a4⟩
  · obtain ⟨a1, a2⟩ := rH k hk
    exact ⟨(f.i rfl).trans a1, (f.i rfl).trans a2⟩
  · obtain ⟨a1, a2, a3, a4⟩ := rR k hk
    exact ⟨(sI_slot (by omega)).trans a1, (sI_slot (by omega)).trans a2, (sI_slot (by omega)).trans a3, (sI_slot (by omega)).trans a4⟩
theorem m_dayGoest {t y : Int32} (R : Rm 65 A σ) (ht : σ.1 65 48 = t) (hy : σ.1 65 49 = y) : ∃ τ, hq_c 222 (d + 1) [.ref 52, .ref 65] σ (some (.int (nI (paidA A)))) τ ∧ Rm 65 (dayA A) τ ∧ τ.1 65 48 = t + nI (paidA A) ∧ τ.1 65 49 = y + nI 1 ∧ Fr [(65, 0)] σ τ := by
  have W := R.1
  have b1 := W.1
  have b2 := W.2.1
  obtain ⟨σ1, w, R1, f1, u1, u2⟩ := hq_w.for (x := 222) (d := d + 1) (i := 4) (fun j => [some (.ref 52), some (.ref 65), some (.int (nI (psum (fun h => decide (A 11 h ≠ 0)) (A 8) j))), some (.int (nI j))]) (fun j ρ => Rm 65 (dayF A j) ρ ∧ Fr [(65, 0)] σ ρ ∧ ρ.1 65 48 = t ∧ ρ.1 65 49 = y) (A 1 0) (fun j hj ρ ⟨q, f, g1, g2⟩ => by
    have qW := q.1
    obtain ⟨-, q1, q2, qD, qH, qR, qS⟩ := id q
    have cj : (nI j).toNatClampNeg = j := clamp (by omega)
    have cj2 : (nI 36 + nI j).toNatClampNeg = 36 + j := by rw [nplus]; exact clamp (by omega)
    have cj3 : (nI 24 + nI j).toNatClampNeg = 24 + j := by rw [nplus]; exact clamp (by omega)
    have o : vp_in (nI j) 50 := vin (by omega) (by decide)
    have o1 : vp_in (nI j) 12 := vin (by omega) (by decide)
    have o2 : vp_in (nI 36 + nI j) 50 := by rw [nplus]; exact vin (by omega) (by decide)
    have o3 : vp_in (nI 24 + nI j) 50 := by rw [nplus]; exact vin (by omega) (by decide)
    have c1 : nI j < ρ.1 52 4 := by rw [q2]; exact nlt (show j < A 1 0 from hj) (show A 1 0 < _ by omega)
    obtain ⟨a1, a2, a3, a4⟩ := qR j hj
    obtain ⟨w1, w2, w3, w4, w5, w6, w7, w8⟩ := W.2.2.2.1 j hj
    have e9 : dayF A j 9 j = A 9 j := by show (if j < j ∧ A 11 j ≠ 0 ∧ A 10 j = 0 then min 9 (A 9 j + 1) else A 9 j) = _; rw [if_neg (by omega)]
    have e10 : dayF A j 10 j = A 10 j := by show (if j < j ∧ A 11 j ≠ 0 then A 10 j - 1 else A 10 j) = _; rw [if_neg (by omega)]
    have a6' : ρ.1 65 (nI j).toNatClampNeg = nI (A 11 j) - nI 1 := by rw [cj]; exact a1
    have a5' : ρ.1 65 (nI 36 + nI j).toNatClampNeg = nI (A 10 j) := by rw [cj2, a4, e10]
    have a4' : ρ.1 65 (nI 24 + nI j).toNatClampNeg = nI (A 9 j) := by rw [cj3, a3, e9]
    have a3' : ρ.1 59 (nI j).toNatClampNeg = nI (A 8 j) := by rw [cj]; exact (qH j hj).2
    by_cases p0 : A 11 j = 0
    · refine ⟨ρ, fun v τ k => p_X10_dayGoest_4_1 c1 o (by rw [a6']; exact (place_lt0 (by omega)).mpr p0) ?_, ?_⟩
      · rw [nplus]
        have : psum (fun h => decide (A 11 h ≠ 0)) (A 8) (j + 1) = psum (fun h => decide (A 11 h ≠ 0)) (A 8) j := by simp [psum, p0]
        rw [this] at k
        exact k
      · rw [dayF_no p0]; exact ⟨q, f, g1, g2⟩
    · have n1 : ¬ ρ.1 65 (nI j).toNatClampNeg < 0 := by rw [a6']; exact fun z => p0 ((place_lt0 (by omega)).mp z)
      have es : psum (fun h => decide (A 11 h ≠ 0)) (A 8) (j + 1) = psum (fun h => decide (A 11 h ≠ 0)) (A 8) j + A 8 j := by simp [psum, p0]
      by_cases p1 : A 10 j = 0
      · refine ⟨hq_sI ρ 65 (24 + j) (nI (min 9 (A 9 j + 1))), fun v τ k => p_X10_dayGoest_4_3 c1 o n1 o2 o1 (by rw [a5', z_lt (by omega)]; omega) o3 o3 rfl ?_, ?_, f.sI rfl, ?_, ?_⟩
        · rw [a3', nplus, nplus, ← es, a4', cj3, min9 (by omega) (by decide)]; exact k
        · rw [dayF_rust p0 p1]
          exact q.set9t hj (qW.set9 (by omega))
        · rw [sI_slot (by omega)]; exact g1
        · rw [sI_slot (by omega)]; exact g2
      · refine ⟨hq_sI ρ 65 (36 + j) (nI (A 10 j - 1)), fun v τ k => p_X10_dayGoest_4_2 c1 o n1 o2 o1 (by rw [a5', z_lt (by omega)]; omega) o2 o2 ?_, ?_, f.sI rfl, ?_, ?_⟩
        · rw [a3', nplus, nplus, ← es, a5', cj2, pk_sub (by omega)]; exact k
        · rw [dayF_oil p0 p1]
          exact q.set10t hj (qW.set10 (by omega))
        · rw [sI_slot (by omega)]; exact g1
        · rw [sI_slot (by omega)]; exact g2) (σ := σ) ⟨by rw [dayF0]; exact R, Fr.rf σ, ht, hy⟩
  have hN : σ1.1 52 4 = nI (A 1 0) := R1.2.2.1
  have k48 : (nI 48).toNatClampNeg = 48 := clamp (by decide)
  have k49 : (nI 49).toNatClampNeg = 49 := clamp (by decide)
  have fin := p_X10_dayGoest_4_4 (d := d) (σ := σ1) (l2 := nI (psum (fun h => decide (A 11 h ≠ 0)) (A 8) (A 1 0))) (l3 := nI (A 1 0)) (by rw [hN]; exact nI_nlt (Nat.le_refl _) (by omega)) (vin (by decide) (by decide)) (vin (by decide) (by decide)) (vin (by decide) (by decide)) (vin (by decide) (by decide)) rfl
  rw [k48, k49, u1, sI_slot (by decide), u2] at fin
  refine ⟨_, p_X10_dayGoest_0_1 (w _ _ fin), (R1.slt (by decide)).slt (by decide), ?_, sI_eq, (f1.sI rfl).sI rfl⟩
  rw [sI_slot (by decide), sI_eq]; rfl
theorem m_daysGo {t y : Int32} (R : Rm 61 A σ) (ht : σ.1 61 48 = t) (hy : σ.1 61 49 = y) {n : Nat} (hn : n < 2 ^ 31) : ∃ τ, hq_c 223 (d + 2) [.ref 52, .ref 61, .int (nI n)] σ (some (.int (nI (daysP A n)))) τ ∧ mT (daysA A n) (daysT A t n) (daysY y n) τ ∧ Fr [(61, 0)] σ τ := by
  obtain ⟨σ1, w, h1, f1⟩ := hq_w.for (x := 223) (d := d + 2) (i := 4) (fun j => [some (.ref 52), some (.ref 61), some (.int (nI n)), some (.int (nI (daysP A j))), some (.int (nI j))]) (fun j ρ => mT (daysA A j) (daysT A t j) (daysY y j) ρ ∧ Fr [(61, 0)] σ ρ) n (fun j hj ρ ⟨⟨q, q1, q2⟩, f⟩ => by
    obtain ⟨ρ', c, r, u1, u2, f'⟩ := m_dayGoesn (d := d) q q1 q2
    refine ⟨ρ', fun v τ k => p_X10_daysGon_4_1 (nlt hj hn) c ?_, ⟨r, u1, u2⟩, f.tr f'⟩
    rw [nplus, nplus]
    exact k) (σ := σ) ⟨⟨R, ht, hy⟩, Fr.rf σ⟩
  exact ⟨σ1, p_X10_daysGon_0_1 (w _ _ (p_X10_daysGon_4_2 (nI_nlt (Nat.le_refl _) hn))), h1, f1⟩
end DA
/-- a gale: what is drawn, what falls -/
def drw (z : Int32) : Int32 := z * nI 1103515245 + nI 12345
def dval (z g : Int32) : Int32 := (z.toUInt32 >>> ((nI 16).toUInt32 &&& Int32.toUInt32 31)).toInt32 - (z.toUInt32 >>> ((nI 16).toUInt32 &&& Int32.toUInt32 31)).toInt32 / g * g
def galH (A : TA) (g : Int32) (S : Nat) (zf : Int32 × Nat) : Nat → Int32 × Nat
  | 0 => zf
  | h + 1 => if S.testBit h then (drw (galH A g S zf h).1, if nI (h0 A h) < dval (drw (galH A g S zf h).1) g then (galH A g S zf h).2 ||| 2 ^ h else (galH A g S zf h).2) else galH A g S zf h
def galS (A : TA) (e : Nat) : Nat := if shutF A (h0 A) e (onA A (e + 1)) then 0 else onA A (e + 1)
def galD (A : TA) (g z : Int32) : Nat → Int32 × Nat
  | 0 => (z, 0)
  | e + 1 => galH A g (galS A e) (galD A g z e) (A 1 0)
def galF (A : TA) (g z : Int32) : Nat := (galD A g z (A 0 0)).2
def galJ (A : TA) (f j : Nat) : TA := fun a b => if a = 11 then (if b < j ∧ f.testBit b = true then 0 else A 11 b) else if a = 9 then (if b < j ∧ f.testBit b = true then min 9 (A 9 b + 2) else A 9 b) else A a b
def galT (A : TA) (g z : Int32) : TA := galJ A (galF A g z) (A 1 0)
theorem galH_lt {A : TA} {g : Int32} {S : Nat} {zf : Int32 × Nat} (hz : zf.2 < 4096) : ∀ {m : Nat}, m ≤ 12 → (galH A g S zf m).2 < 4096
  | 0, _ => hz
  | m + 1, h => by
    have ih := galH_lt (A := A) (g := g) (S := S) hz (m := m) (by omega)
    unfold galH
    split
    · dsimp only
      split
      · exact Nat.or_lt_two_pow (n := 12) ih (Nat.pow_lt_pow_right (by decide) (by omega))
      · exact ih
    · exact ih
theorem galD_lt {A : TA} {g z : Int32} (h : A 1 0 ≤ 12) : ∀ m, (galD A g z m).2 < 4096
  | 0 => (by decide : (0 : Nat) < 4096)
  | m + 1 => galH_lt (galD_lt h m) h
theorem galJ0 (A : TA) (f : Nat) : galJ A f 0 = A := by
  funext a b
  unfold galJ
  split
  · rename_i h; rw [if_neg (by omega), h]
  · split
    · rename_i h; rw [if_neg (by omega), h]
    · rfl
theorem galJ_no {A : TA} {f j : Nat} (h : f.testBit j = false) : galJ A f (j + 1) = galJ A f j := by
  funext a b
  unfold galJ
  by_cases e : b = j
  · subst e
    simp [h]
  · have : b < j + 1 ↔ b < j := by omega
    simp only [this]
theorem galJ_yes {A : TA} {f j : Nat} (h : f.testBit j = true) : galJ A f (j + 1) = setA (setA (galJ A f j) 11 j 0) 9 j (min 9 (A 9 j + 2)) := by
  funext a b
  unfold setA galJ
  by_cases e : b = j
  · subst e
    by_cases a1 : a = 11
    · simp [a1, h]
    · by_cases a2 : a = 9
      · simp [a2, h]
      · simp [a1, a2]
  · have : b < j + 1 ↔ b < j := by omega
    simp only [this, if_neg e]
    by_cases a1 : a = 11
    · simp [a1]
    · by_cases a2 : a = 9
      · simp [a2]
      · simp [a1, a2]
section GA
variable {d : Nat} {σ : hq_St} {A : TA}
theorem Wf.galJ (W : Wf A) (f : Nat) : ∀ j, j ≤ A 1 0 → Wf (galJ A f j)
  | 0, _ => by rw [galJ0]; exact W
  | j + 1, hj => by
    have ih := W.galJ f j (by omega)
    cases h : f.testBit j with
    | false => rw [galJ_no h]; exact ih
    | true => rw [galJ_yes h]; exact (ih.take j).set9 (by omega)
theorem loose_and (W : Wf A) {e : Nat} (he : e < A 0 0) : onA A (e + 1) &&& looseA A = galS A e := by
  apply Nat.eq_of_testBit_eq
  intro i
  rw [Nat.testBit_and, onA_test]
  unfold galS looseA
  cases hs : shutF A (h0 A) e (onA A (e + 1)) with
  | true =>
    rw [if_pos rfl, Nat.zero_testBit]
    by_cases q : i < A 1 0 ∧ A 11 i = e + 1
    · have : (lse A (A 0 0)).testBit i = false := by
        cases hl : (lse A (A 0 0)).testBit i with
        | false => rfl
        | true =>
          obtain ⟨k, k1, k2, k3, k4⟩ := (lse_test _).mp hl
          have : k = e := by omega
          subst this
          rw [hs] at k2; cases k2
      rw [this]; simp
    · by_cases q1 : i < A 1 0
      · have q2 : ¬ A 11 i = e + 1 := fun z => q ⟨q1, z⟩
        simp [q2]
      · simp [q1]
  | false =>
    rw [if_neg (by decide), onA_test]
    by_cases q : i < A 1 0 ∧ A 11 i = e + 1
    · have : (lse A (A 0 0)).testBit i = true := (lse_test _).mpr ⟨e, he, hs, q.1, q.2⟩
      rw [this]; simp
    · by_cases q1 : i < A 1 0
      · have q2 : ¬ A 11 i = e + 1 := fun z => q ⟨q1, z⟩
        simp [q2]
      · simp [q1]
theorem s_blow {t y : Int32} (h : cT A t y σ) {g : Nat} (hg1 : 1 ≤ g) (hg2 : g ≤ 19) (z : Int32) : ∃ τ, hq_c 106 (d + 5) [.ref 5, .int z, .int (nI g)] σ (some (.int (nI (galF A (nI g) z)))) τ ∧ cT (galT A (nI g) z) t y τ ∧ Fr [(11, 0), (15, 0), (17, 0)] σ τ := by
  obtain ⟨R, ht, hy⟩ := h
  have W := R.1
  have b1 := W.1
  have b2 := W.2.1
  obtain ⟨-, r1, r2, rD, rH, rS⟩ := id R
  have g0 : ¬ nI g = 0 := nI_ne0 (by omega) (by omega)
  have inner : ∀ (e : Nat) (zf : Int32 × Nat) (S : Nat), e < 9 → ∀ v τ, hq_m 106 (d + 5) v τ 22 [some (.ref 5), none, some (.int (nI g)), some (.int (nI (looseA A))), some (.int (galH A (nI g) S zf (A 1 0)).1), some (.int (nI (galH A (nI g) S zf (A 1 0)).2)), some (.int (nI e)), some (.int (nI S)), some (.int (nI (A 1 0)))] [] σ → hq_m 106 (d + 5) v τ 22 [some (.ref 5), none, some (.int (nI g)), some (.int (nI (looseA A))), some (.int zf.1), some (.int (nI zf.2)), some (.int (nI e)), some (.int (nI S)), some (.int (nI 0))] [] σ := by
    intro e zf S he v τ k0
    refine hq_m.for (fun j => [some (.ref 5), none, some (.int (nI g)), some (.int (nI (looseA A))), some (.int (galH A (nI g) S zf j).1), some (.int (nI (galH A (nI g) S zf j).2)), some (.int (nI e)), some (.int (nI S)), some (.int (nI j))]) (fun _ => σ) (A 1 0) ?_ k0 0 (Nat.zero_le _)
    intro j hj ih
    have c1 : nI j < σ.1 5 14 := by rw [r2]; exact nlt hj (by omega)
    have hh := s_hold (d := d + 2) R hj
    cases hb : S.testBit j with
    | false =>
      refine p_X8_blow_22_1 c1 (hn_bit0 (by omega) hb) ?_
      have e1 : galH A (nI g) S zf (j + 1) = galH A (nI g) S zf j := by simp [galH, hb]
      rw [e1] at ih
      rw [nplus]
      exact ih
    | true =>
      have hlt : (nI (h0 A j) < dval (drw (galH A (nI g) S zf j).1) (nI g)) ∨ ¬ (nI (h0 A j) < dval (drw (galH A (nI g) S zf j).1) (nI g)) := Classical.em _
      rcases hlt with q | q
      · have e1 : galH A (nI g) S zf (j + 1) = (drw (galH A (nI g) S zf j).1, (galH A (nI g) S zf j).2 ||| 2 ^ j) := by simp [galH, hb, q]
        rw [e1] at ih
        refine p_X8_blow_22_2 c1 (hn_bit1 (by omega) hb) g0 hh q ?_
        rw [hn_shl j (by omega), orr, nplus]
        exact ih
      · have e1 : galH A (nI g) S zf (j + 1) = (drw (galH A (nI g) S zf j).1, (galH A (nI g) S zf j).2) := by simp [galH, hb, q]
        rw [e1] at ih
        refine p_X8_blow_22_3 c1 (hn_bit1 (by omega) hb) g0 hh q ?_
        rw [orr, Nat.or_zero, nplus]
        exact ih
  have outer : ∀ v τ, hq_m 106 (d + 5) v τ 9 [some (.ref 5), none, some (.int (nI g)), some (.int (nI (looseA A))), some (.int (galD A (nI g) z (A 0 0)).1), some (.int (nI (galD A (nI g) z (A 0 0)).2)), some (.int (nI (A 0 0))), none, none] [] σ → hq_m 106 (d + 5) v τ 9 [some (.ref 5), none, some (.int (nI g)), some (.int (nI (looseA A))), some (.int z), some (.int (nI 0)), some (.int (nI 0)), none, none] [] σ := by
    intro v τ k0
    refine hq_m.for (fun e => [some (.ref 5), none, some (.int (nI g)), some (.int (nI (looseA A))), some (.int (galD A (nI g) z e).1), some (.int (nI (galD A (nI g) z e).2)), some (.int (nI e)), none, none]) (fun _ => σ) (A 0 0) ?_ k0 0 (Nat.zero_le _)
    intro e he ih
    have c1 : nI e < σ.1 5 13 := by rw [r1]; exact nlt he (by omega)
    have ce : (nI e).toNatClampNeg = e := clamp (by omega)
    refine p_X8_blow_9_1 c1 (vin (by omega) (by decide)) ?_
    rw [ce, (rD e he).2.2.2.2.2, fa_and, loose_and W he]
    refine inner e (galD A (nI g) z e) (galS A e) (by omega) v τ ?_
    refine p_X8_blow_22_4 (by rw [r2]; exact nI_nlt (Nat.le_refl _) (by omega)) ?_
    rw [nplus]
    exact ih
  have hfl := galD_lt (A := A) (g := nI g) (z := z) b2 (A 0 0)
  obtain ⟨σ1, w, R1, f1⟩ := hq_w.for (x := 106) (d := d + 5) (i := 61) (fun j => [some (.ref 5), none, none, none, none, some (.int (nI (galF A (nI g) z))), some (.int (nI j)), none, none]) (fun j ρ => Rc (galJ A (galF A (nI g) z) j) ρ ∧ Fr [(11, 0), (15, 0), (17, 0)] σ ρ) (A 1 0) (fun j hj ρ ⟨q, f⟩ => by
    have qW := q.1
    obtain ⟨-, q1, q2, qD, qH, qS⟩ := id q
    have cj : (nI j).toNatClampNeg = j := clamp (by omega)
    have o : vp_in (nI j) 12 := vin (by omega) (by decide)
    have c1 : nI j < ρ.1 5 14 := by rw [q2]; exact nlt (show j < A 1 0 from hj) (show A 1 0 < _ by omega)
    have w5 := (W.2.2.2.1 j hj).2.2.2.2.1
    cases hb : (galF A (nI g) z).testBit j with
    | false =>
      refine ⟨ρ, fun v τ k => p_X8_blow_61_1 c1 (hn_bit0 (by omega) hb) (by rw [nplus]; exact k), ?_⟩
      rw [galJ_no hb]; exact ⟨q, f⟩
    | true =>
      obtain ⟨ρ1, u1, u2, u3⟩ := s_unhang (d := d + 2) qW.bd q.2 (h := j) hj
      have e9 : galJ A (galF A (nI g) z) j 9 j = A 9 j := by show (if j < j ∧ _ then _ else A 9 j) = _; rw [if_neg (by omega)]
      have h15 : ρ1.1 15 (nI j).toNatClampNeg = nI (A 9 j) := by
        rw [cj, (u2.2.2.2.1 j hj).2.2.2.1]
        show nI (galJ A (galF A (nI g) z) j 9 j) = _
        rw [e9]
      refine ⟨_, fun v τ k => p_X8_blow_61_2 c1 (hn_bit1 (by omega) hb) u1 o o (by rw [nplus]; exact k), ?_, (f.tr (u3.up (by decide))).sI rfl⟩
      rw [h15, cj, min9 (by omega) (by decide), galJ_yes hb]
      exact ⟨(qW.take j).set9 (by omega), Rx.set9 u2⟩) (σ := σ) ⟨by rw [galJ0]; exact R, Fr.rf σ⟩
  refine ⟨σ1, ?_, ⟨R1, (f1.i rfl).trans ht, (f1.i rfl).trans hy⟩, f1⟩
  refine p_X8_blow_0_1 (s_looseHinges R) (outer _ _ ?_)
  refine p_X8_blow_9_2 (by rw [r1]; exact nI_nlt (Nat.le_refl _) (by omega)) (w _ _ ?_)
  have hN : σ1.1 5 14 = nI (A 1 0) := R1.2.2.1
  exact p_X8_blow_61_3 (by rw [hN]; exact nI_nlt (Nat.le_refl _) (by omega))
end GA
