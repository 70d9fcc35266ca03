/-! hangings: prepared (class) -/
def feeF (A : TA) (pr : Bool) (h : Nat) : Nat := if pr then A 8 h else 0
def twP (A : TA) (F : Nat → Nat) (b w : Nat) : Prop := w < 4096 ∧ ∀ o, w.testBit o = true → b.testBit o = false ∧ ∃ h, h < A 1 0 ∧ b.testBit h = true ∧ o < h ∧ alk A F o h
/-- some pairs of a door stand in the rows -/
def HPq (A : TA) (F : Nat → Nat) (e : Nat) (Q : List Nat) (σ : hq_St) : Prop := σ.1 40 e = nI Q.length ∧ σ.1 46 e = nI (onA A (e + 1)) ∧ ∀ k b, Q[k]? = some b → σ.1 34 (66 * e + k) = nI b ∧ σ.1 35 (66 * e + k) = nI (sset b F (A 1 0)) ∧ ∃ w, twP A F b w ∧ σ.1 36 (66 * e + k) = nI w
def HP (A : TA) (F : Nat → Nat) (σ : hq_St) : Prop := σ.1 33 13 = nI (A 0 0) ∧ σ.1 33 14 = nI (A 1 0) ∧ (∀ m, m ≤ A 1 0 → σ.1 39 m = nI (LF F (A 1 0) m)) ∧ ∀ e, e < A 0 0 → HPq A F e (prs A e) σ
def fHP : List (Nat × Nat) := [(33, 14), (33, 15), (34, 0), (35, 0), (36, 0), (39, 0), (40, 0), (46, 0)]
theorem HP.dep {A : TA} {F : Nat → Nat} : Dep fHP (HP A F) := fun σ τ q h => by
  have g : ∀ c j, inF fHP c j = true → τ.1 c j = σ.1 c j := fun c j z => (q c j z).1
  refine ⟨(g 33 13 rfl).trans h.1, (g 33 14 rfl).trans h.2.1, fun m hm => (g 39 m rfl).trans (h.2.2.1 m hm), fun e he => ?_⟩
  obtain ⟨h1, h2, h3⟩ := h.2.2.2 e he
  refine ⟨(g 40 e rfl).trans h1, (g 46 e rfl).trans h2, fun k b hk => ?_⟩
  obtain ⟨k1, k2, w, k3, k4⟩ := h3 k b hk
  exact ⟨(g 34 _ rfl).trans k1, (g 35 _ rfl).trans k2, w, k3, (g 36 _ rfl).trans k4⟩
def tri : Nat → Nat
  | 0 => 0
  | n + 1 => tri n + n
theorem tri_le : ∀ n, n < 13 → tri n ≤ 66 := by decide +kernel
theorem prL_0 {A : TA} {e : Nat} : prL A e (2 ^ 0) = [] ∧ prL A e (2 ^ 1) = [] := by
  have h : ∀ n, n < 2 → pop n ≠ 2 := by decide +kernel
  exact ⟨prL_gap (a := 0) 1 (fun n _ h2 => h n (by omega)), prL_gap (a := 0) 2 (fun n _ h2 => h n (by omega))⟩
theorem two_dbl (j : Nat) : (2 : Nat) ^ (j + 1) = 2 ^ j + 2 ^ j := by rw [Nat.pow_succ]; omega
theorem prL_len {A : TA} {e : Nat} : ∀ {j : Nat}, j < 12 → ∀ {i : Nat}, i ≤ j → (prL A e (2 ^ j + 2 ^ i)).length ≤ tri j + i := by
  intro j
  induction j with
  | zero =>
    intro _ i hi
    have : i = 0 := by omega
    subst this
    have := (prL_0 (A := A) (e := e)).2
    rw [show (2 : Nat) ^ 0 + 2 ^ 0 = 2 ^ 1 from rfl, this]
    exact Nat.zero_le _
  | succ j ihj =>
    intro hj i
    induction i with
    | zero =>
      intro _
      rw [prL_hi hj, two_dbl]
      have := ihj (by omega) (Nat.le_refl j)
      show _ ≤ tri j + j + 0
      omega
    | succ i ih =>
      intro hi
      rw [prL_step hj (by omega), List.length_append]
      have := ih (by omega)
      split
      · simp; omega
      · simp; omega
theorem prs_len {A : TA} {e : Nat} (h12 : A 1 0 ≤ 12) : (prs A e).length ≤ 66 := by
  unfold prs
  cases h : A 1 0 with
  | zero => rw [(prL_0 (A := A) (e := e)).1]; decide
  | succ j =>
    rw [two_dbl]
    have := prL_len (A := A) (e := e) (j := j) (by omega) (Nat.le_refl j)
    have t := tri_le (j + 1) (by omega)
    have : tri (j + 1) = tri j + j := rfl
    omega
theorem pair_or {j i : Nat} (hj : j < 12) (hi : i < j) : 2 ^ j ||| 2 ^ i = 2 ^ j + 2 ^ i ∧ 2 ^ j + 2 ^ i < 4096 ∧ pop (2 ^ j + 2 ^ i) = 2 ∧ ∀ f : Nat → Nat, ∀ m, j < m → sset (2 ^ j + 2 ^ i) f m = f j + f i := by
  obtain ⟨a, b, c⟩ := pop_lo j hj (i + 1) (by omega) (by omega)
  have c : 2 ^ j ||| 2 ^ i = 2 ^ j + 2 ^ i := c
  have b : 2 ^ j + 2 ^ i < 4096 := b
  have d : 2 ^ j &&& 2 ^ i = 0 := by
    rw [dj_iff]
    intro k hk
    rw [Nat.testBit_two_pow] at hk ⊢
    simp at hk ⊢
    omega
  have s : ∀ f : Nat → Nat, ∀ m, j < m → sset (2 ^ j + 2 ^ i) f m = f j + f i := fun f m hm => by
    rw [← c, sset_dj d, sset_two hm, sset_two (by omega)]
  exact ⟨c, b, by unfold pop; rw [s _ 12 hj], s⟩
theorem pair_bit {j i k : Nat} (hj : j < 12) (hi : i < j) : (2 ^ j + 2 ^ i).testBit k = (decide (k = j) || decide (k = i)) := by
  rw [← (pair_or hj hi).1, Nat.testBit_or, Nat.testBit_two_pow, Nat.testBit_two_pow]
  simp [eq_comm]
theorem okP_pair {A : TA} {e j i : Nat} (h12 : A 1 0 ≤ 12) (hj : j < A 1 0) (hi : i < j) : okP A e (2 ^ j + 2 ^ i) = (decide (A 5 e ≤ h0 A j + h0 A i) && (fitsA A j e && fitsA A i e)) := by
  obtain ⟨-, -, p2, p3⟩ := pair_or (j := j) (i := i) (by omega) hi
  unfold okP shutF
  rw [p2, p3 _ _ hj]
  have : fitA A (2 ^ j + 2 ^ i) e (A 1 0) = (fitsA A j e && fitsA A i e) := by
    rw [Bool.eq_iff_iff, fitA_iff, Bool.and_eq_true]
    constructor
    · intro h
      exact ⟨h j hj (by rw [pair_bit (by omega) hi]; simp), h i (by omega) (by rw [pair_bit (by omega) hi]; simp)⟩
    · intro h k hk hb
      rw [pair_bit (by omega) hi] at hb
      simp at hb
      rcases hb with hb | hb
      · rw [hb]; exact h.1
      · rw [hb]; exact h.2
  rw [this]
  simp
def twA (A : TA) (F : Nat → Nat) (h : Nat) : Nat → Nat := sbits (fun o => decide (A 6 o = A 6 h) && (decide (h0 A o = h0 A h) && decide (F o = F h)))
theorem twA_test {A : TA} {F : Nat → Nat} {h o : Nat} : (twA A F h h).testBit o = true ↔ o < h ∧ alk A F o h := by
  unfold twA
  rw [sbits_test]
  unfold alk
  simp
theorem twA_lt {A : TA} {F : Nat → Nat} {h : Nat} (hh : h < 12) : twA A F h h < 4096 := Nat.lt_of_lt_of_le (sbits_lt _ _) (Nat.pow_le_pow_right (by decide) (by omega) : 2 ^ h ≤ 2 ^ 12)
theorem tw_pair {A : TA} {F : Nat → Nat} {j i : Nat} (h12 : A 1 0 ≤ 12) (hj : j < A 1 0) (hi : i < j) : twP A F (2 ^ j + 2 ^ i) (ndiff (twA A F j j ||| twA A F i i) (2 ^ j + 2 ^ i)) := by
  refine ⟨ndiff_le (k := 12) (Nat.or_lt_two_pow (n := 12) (twA_lt (by omega)) (twA_lt (by omega))), fun o ho => ?_⟩
  rw [ndiff_test, Nat.testBit_or, Bool.and_eq_true, Bool.or_eq_true, twA_test, twA_test] at ho
  refine ⟨by simpa using ho.2, ?_⟩
  rcases ho.1 with h | h
  · exact ⟨j, hj, by rw [pair_bit (by omega) hi]; simp, h.1, h.2⟩
  · exact ⟨i, by omega, by rw [pair_bit (by omega) hi]; simp, h.1, h.2⟩
def nL (F : Nat → Nat) (k m : Nat) : Nat := psum (fun h => decide (F h < k)) (fun _ => 1) m
def nE (F : Nat → Nat) (k m : Nat) : Nat := psum (fun h => decide (F h = k)) (fun _ => 1) m
theorem psum_s {p : Nat → Bool} {f : Nat → Nat} {m : Nat} : psum p f (m + 1) = psum p f m + (if p m then f m else 0) := rfl
theorem nL_s {F : Nat → Nat} {k : Nat} : ∀ m, nL F (k + 1) m = nL F k m + nE F k m
  | 0 => rfl
  | m + 1 => by
    have ih := nL_s (F := F) (k := k) m
    unfold nL nE at ih ⊢
    rw [psum_s, psum_s, psum_s, ih]
    by_cases q : F m < k
    · have q2 : F m < k + 1 := by omega
      have q3 : ¬ F m = k := by omega
      simp [q, q2, q3]; omega
    · by_cases q2 : F m = k
      · have q3 : F m < k + 1 := by omega
        simp [q2]; omega
      · have q3 : ¬ F m < k + 1 := by omega
        simp [q, q2, q3]
theorem nF_L {F : Nat → Nat} {k : Nat} : ∀ m, nF F k m = nL F (k + 1) m
  | 0 => rfl
  | m + 1 => by
    have ih := nF_L (F := F) (k := k) m
    unfold nF nL at ih ⊢
    rw [psum_s, psum_s, ih]
    have : (F m ≤ k) = (F m < k + 1) := by simp; omega
    simp [this]
theorem nL_mono {F : Nat → Nat} {m : Nat} {k : Nat} : ∀ j, nL F k m ≤ nL F (k + j) m
  | 0 => Nat.le_refl _
  | j + 1 => by
    have := nL_mono (F := F) (m := m) (k := k) j
    rw [← Nat.add_assoc, nL_s]; omega
theorem nE_mono {F : Nat → Nat} {k m : Nat} : ∀ j, nE F k m ≤ nE F k (m + j)
  | 0 => Nat.le_refl _
  | j + 1 => by
    have := nE_mono (F := F) (k := k) (m := m) j
    unfold nE at this ⊢
    rw [← Nat.add_assoc, psum_s]; omega
theorem nL_le {F : Nat → Nat} {k m : Nat} : nL F k m ≤ m := by
  have := psum_le (p := fun h => decide (F h < k)) (f := fun _ => 1) (c := 1) (m := m) (fun _ _ => Nat.le_refl _)
  unfold nL; omega
theorem nL_0 {F : Nat → Nat} : ∀ m, nL F 0 m = 0
  | 0 => rfl
  | m + 1 => by
    have ih := nL_0 (F := F) m
    unfold nL at ih ⊢
    rw [psum_s, ih]; simp
theorem nL_all {F : Nat → Nat} {k : Nat} : ∀ {m : Nat}, (∀ h, h < m → F h < k) → nL F k m = m
  | 0, _ => rfl
  | m + 1, h => by
    have ih := nL_all (F := F) (k := k) (m := m) (fun j hj => h j (by omega))
    unfold nL at ih ⊢
    rw [psum_s, ih]
    have := h m (by omega)
    simp [this]
theorem LF_0 {F : Nat → Nat} {H : Nat} : LF F H 0 = 0 := by
  have : ∀ k, lfS F H 0 k = 0 := by
    intro k
    induction k with
    | zero => rfl
    | succ k ih => unfold lfS; rw [ih]; omega
  exact this 9
theorem LF_s {F : Nat → Nat} {H k n : Nat} (hk : k ≤ 9) (h1 : nL F k H ≤ n) (h2 : n < nL F (k + 1) H) : LF F H (n + 1) = LF F H n + k := by
  have : ∀ i, lfS F H (n + 1) i = lfS F H n i + min k i := by
    intro i
    induction i with
    | zero => rw [Nat.min_zero]; rfl
    | succ i ih =>
      unfold lfS
      rw [ih, nF_L]
      by_cases q : i < k
      · have := nL_mono (F := F) (m := H) (k := i + 1) (k - (i + 1))
        rw [show i + 1 + (k - (i + 1)) = k by omega] at this
        omega
      · have := nL_mono (F := F) (m := H) (k := k + 1) (i - k)
        rw [show k + 1 + (i - k) = i + 1 by omega] at this
        omega
  have := this 9
  rw [Nat.min_eq_left hk] at this
  exact this
section HC1
variable {d : Nat} {σ : hq_St} {A : TA} {F : Nat → Nat}
theorem s_twinsAhead (R : Rc A σ) (hF : ∀ h, h < A 1 0 → σ.1 37 h = nI (F h) ∧ F h ≤ 9) {h : Nat} (hh : h < A 1 0) : hq_c 13 (d + 3) [.ref 33, .ref 5, .int (nI h)] σ (some (.int (nI (twA A F h h)))) σ := by
  have R0 := R
  obtain ⟨W, -, hN, hD, hH, -⟩ := R
  have b2 := W.2.1
  refine p_X1_twinsAhead_0_1 ?_
  refine hq_m.for (fun j => [some (.ref 33), some (.ref 5), some (.int (nI h)), some (.int (nI (twA A F h j))), some (.int (nI j)), none]) (fun _ => σ) h ?_ ?_ 0 (Nat.zero_le _)
  · intro j hj ih
    have c1 : nI j < nI h := nlt hj (by omega)
    have o1 : vp_in (nI h) 12 := vin (by omega) (by decide)
    have o2 : vp_in (nI j) 12 := vin (by omega) (by decide)
    have cj : (nI j).toNatClampNeg = j := clamp (by omega)
    have ch : (nI h).toNatClampNeg = h := clamp (by omega)
    have jH : j < A 1 0 := by omega
    have g1 := s_hold (d := d) R0 jH
    have g2 := s_hold (d := d) R0 hh
    have a1 : σ.1 12 (nI j).toNatClampNeg = nI (A 6 j) := by rw [cj]; exact (hH j jH).1
    have a2 : σ.1 12 (nI h).toNatClampNeg = nI (A 6 h) := by rw [ch]; exact (hH h hh).1
    have w1 := (W.2.2.2.1 j jH).1
    have w2 := (W.2.2.2.1 h hh).1
    have f1 : σ.1 37 (nI j).toNatClampNeg = nI (F j) := by rw [cj]; exact (hF j jH).1
    have f2 : σ.1 37 (nI h).toNatClampNeg = nI (F h) := by rw [ch]; exact (hF h hh).1
    have v1 := (hF j jH).2
    have v2 := (hF h hh).2
    have u1 := h0_le W j jH
    have u2 := h0_le W h hh
    have no : (decide (A 6 j = A 6 h) && (decide (h0 A j = h0 A h) && decide (F j = F h))) = false → twA A F h (j + 1) = twA A F h j ||| 0 := fun z => by rw [Nat.or_zero]; exact sbits_0 z
    by_cases q1 : A 6 j = A 6 h
    · have c2 : σ.1 12 (nI j).toNatClampNeg = σ.1 12 (nI h).toNatClampNeg := by rw [a1, a2, q1]
      by_cases q2 : h0 A j = h0 A h
      · by_cases q3 : F j = F h
        · refine p_X1_twinsAhead_4_2 c1 o1 o2 c2 g1 g2 (show nI (h0 A j) = nI (h0 A h) by rw [q2]) (by decide) o1 o2 (by rw [f1, f2, q3]) ?_
          have e : twA A F h (j + 1) = twA A F h j ||| 2 ^ j := sbits_1 (by simp [q1, q2, q3])
          rw [e] at ih
          rw [hn_shl j (by omega), orr, nplus]
          exact ih
        · refine p_X1_twinsAhead_4_3 c1 o1 o2 c2 g1 g2 (show nI (h0 A j) = nI (h0 A h) by rw [q2]) (by decide) o1 o2 (by rw [f1, f2, nI_eq (by omega) (by omega)]; exact q3) ?_
          rw [no (by simp [q3])] at ih
          rw [orr, nplus]
          exact ih
      · refine p_X1_twinsAhead_4_4 c1 o1 o2 c2 g1 g2 (show ¬ nI (h0 A j) = nI (h0 A h) by rw [nI_eq (by omega) (by omega)]; exact q2) rfl ?_
        rw [no (by simp [q2])] at ih
        rw [orr, nplus]
        exact ih
    · refine p_X1_twinsAhead_4_7 c1 o1 o2 (by rw [a1, a2, nI_eq (by omega) (by omega)]; exact q1) rfl ?_
      rw [no (by simp [q1])] at ih
      rw [orr, nplus]
      exact ih
  · exact p_X1_twinsAhead_4_10 (nI_nlt (Nat.le_refl _) (by omega))
theorem s_addUp (h14 : σ.1 33 14 = nI (A 1 0)) (h12 : A 1 0 ≤ 12) (hF : ∀ h, h < A 1 0 → σ.1 37 h = nI (F h) ∧ F h ≤ 9) : ∃ τ, hq_c 14 (d + 1) [.ref 33] σ none τ ∧ (∀ m, m ≤ A 1 0 → τ.1 39 m = nI (LF F (A 1 0) m)) ∧ Fr [(39, 0)] σ τ := by
  obtain ⟨τ, w, hv, fr⟩ := hq_w.for (x := 14) (d := d + 1) (i := 9) (fun k => [some (.ref 33), some (.int (nI (nL F k (A 1 0)))), some (.int (nI k)), none]) (fun k ρ => (∀ m, m ≤ nL F k (A 1 0) → ρ.1 39 m = nI (LF F (A 1 0) m)) ∧ Fr [(39, 0)] σ ρ) 10 (fun k hk ρ ⟨hv, fr⟩ => by
    obtain ⟨ρ', w', hv', fr'⟩ := hq_w.for (x := 14) (d := d + 1) (i := 14) (fun j => [some (.ref 33), some (.int (nI (nL F k (A 1 0) + nE F k j))), some (.int (nI k)), some (.int (nI j))]) (fun j ρ' => (∀ m, m ≤ nL F k (A 1 0) + nE F k j → ρ'.1 39 m = nI (LF F (A 1 0) m)) ∧ Fr [(39, 0)] σ ρ') (A 1 0) (fun j hj ρ1 ⟨hv1, fr1⟩ => by
      have c1 : nI j < ρ1.1 33 14 := by rw [fr1.i rfl, h14]; exact nlt hj (by omega)
      have o1 : vp_in (nI j) 12 := vin (by omega) (by decide)
      have cj : (nI j).toNatClampNeg = j := clamp (by omega)
      obtain ⟨f1, f2⟩ := hF j hj
      have e37 : ρ1.1 37 (nI j).toNatClampNeg = nI (F j) := by rw [cj, fr1.i rfl]; exact f1
      have es : nE F k (j + 1) = nE F k j + (if decide (F j = k) then 1 else 0) := rfl
      by_cases q : F j = k
      · have es : nE F k (j + 1) = nE F k j + 1 := by rw [es]; simp [q]
        have u1 := nL_s (F := F) (k := k) (A 1 0)
        have u2 := nE_mono (F := F) (k := k) (m := j + 1) (A 1 0 - (j + 1))
        rw [show j + 1 + (A 1 0 - (j + 1)) = A 1 0 by omega] at u2
        have u3 := nL_le (F := F) (k := k + 1) (m := A 1 0)
        have cm : (nI (nL F k (A 1 0) + nE F k j)).toNatClampNeg = nL F k (A 1 0) + nE F k j := clamp (by omega)
        have cm1 : (nI (nL F k (A 1 0) + nE F k j + 1)).toNatClampNeg = nL F k (A 1 0) + nE F k j + 1 := clamp (by omega)
        refine ⟨hq_sI ρ1 39 (nL F k (A 1 0) + nE F k j + 1) (nI (LF F (A 1 0) (nL F k (A 1 0) + nE F k j + 1))), fun v τ kk => p_X1_addUpLeastFees_14_1 c1 o1 (by rw [e37, q]) (nlt (by omega) (by decide)) (by rw [nplus]; exact vin (by omega) (by decide)) (vin (by omega) (by decide)) ?_, fun m hm => ?_, fr1.sI rfl⟩
        · rw [nplus, nplus, cm, cm1, hv1 _ (Nat.le_refl _), nplus, ← LF_s (k := k) (by omega) (by omega) (by omega)]
          rw [es, ← Nat.add_assoc] at kk
          exact kk
        · rw [es] at hm
          by_cases z : m = nL F k (A 1 0) + nE F k j + 1
          · rw [z, sI_eq]
          · rw [sI_slot z]; exact hv1 m (by omega)
      · have es : nE F k (j + 1) = nE F k j := by rw [es]; simp [q]
        refine ⟨ρ1, fun v τ kk => p_X1_addUpLeastFees_14_3 c1 o1 (by rw [e37, nI_eq (by omega) (by omega)]; exact q) ?_, by rw [es]; exact hv1, fr1⟩
        rw [nplus]
        rw [es] at kk
        exact kk) (σ := ρ) ⟨hv, fr⟩
    refine ⟨ρ', fun v τ kk => p_X1_addUpLeastFees_9_2 (nI_nlt (by omega) (by omega)) (w' v τ (p_X1_addUpLeastFees_14_4 (by rw [fr'.i rfl, h14]; exact nI_nlt (Nat.le_refl _) (by omega)) ?_)), by rw [nL_s]; exact hv', fr'⟩
    rw [nplus, ← nL_s]
    exact kk) (σ := hq_sI σ 39 (nI 0).toNatClampNeg (nI 0)) ⟨fun m hm => by
      rw [nL_0] at hm
      have : m = 0 := by omega
      subst this
      rw [LF_0]; exact sI_eq, (Fr.rf σ).sI rfl⟩
  have w := w none τ (p_X1_addUpLeastFees_9_1 (by decide))
  have e0 : nL F 0 (A 1 0) = 0 := nL_0 _
  rw [e0] at w
  refine ⟨τ, p_X1_addUpLeastFees_0_1 (vin (by decide) (by decide)) w, fun m hm => hv m ?_, fr⟩
  rw [nL_all (fun h hh => by have := (hF h hh).2; omega)]
  exact hm
def apS (σ : hq_St) (e k b p w : Nat) : hq_St := hq_sI (hq_sI (hq_sI (hq_sI σ 34 (66 * e + k) (nI b)) 35 (66 * e + k) (nI p)) 36 (66 * e + k) (nI w)) 40 e (nI (k + 1))
theorem apS_fr {e k b p w : Nat} : Fr [(34, 0), (35, 0), (36, 0), (40, 0)] σ (apS σ e k b p w) := (((((Fr.rf σ).sI rfl).sI rfl).sI rfl).sI rfl)
theorem s_addPair {e k j i w1 w2 p1 p2 : Nat} (he : e < 8) (hk : k < 66) (h40 : σ.1 40 e = nI k) (hj : j < 12) (hi : i < j) (f1 : σ.1 37 j = nI p1) (f2 : σ.1 37 i = nI p2) (t1 : σ.1 38 j = nI w1) (t2 : σ.1 38 i = nI w2) : hq_c 15 (d + 1) [.ref 33, .int (nI e), .int (nI j), .int (nI i)] σ none (apS σ e k (2 ^ j + 2 ^ i) (p1 + p2) (ndiff (w1 ||| w2) (2 ^ j + 2 ^ i))) := by
  have ce : (nI e).toNatClampNeg = e := clamp (by omega)
  have cj : (nI j).toNatClampNeg = j := clamp (by omega)
  have ci : (nI i).toNatClampNeg = i := clamp (by omega)
  have ix : nI e * nI 66 + σ.1 40 (nI e).toNatClampNeg = nI (66 * e + k) := by rw [ce, h40, nmul, nplus, Nat.mul_comm]
  have cx : (nI (66 * e + k)).toNatClampNeg = 66 * e + k := clamp (by omega)
  have ox : vp_in (nI e * nI 66 + σ.1 40 (nI e).toNatClampNeg) 528 := by rw [ix]; exact vin (by omega) (by decide)
  have oj : vp_in (nI j) 12 := vin hj (by decide)
  have oi : vp_in (nI i) 12 := vin (by omega) (by decide)
  have oe : vp_in (nI e) 8 := vin he (by decide)
  have P := p_X1_addPair_0_1 (d := d) (σ := σ) (l1 := nI e) (l2 := nI j) (l3 := nI i) (σ1 := hq_sI (hq_sI (hq_sI σ 34 (66 * e + k) (nI (2 ^ j + 2 ^ i))) 35 (66 * e + k) (nI (p1 + p2))) 36 (66 * e + k) (nI (ndiff (w1 ||| w2) (2 ^ j + 2 ^ i)))) ox ox oi oj ox oi oj ox oe (by
    have bb : (nI 1 <<< (nI j &&& 31)) ||| (nI 1 <<< (nI i &&& 31)) = nI (2 ^ j + 2 ^ i) := by rw [hn_shl j (by omega), hn_shl i (by omega), orr, (pair_or hj hi).1]
    have a37 : ∀ y, (hq_sI σ 34 (66 * e + k) (nI (2 ^ j + 2 ^ i))).1 37 y = σ.1 37 y := fun y => sI_ne (by decide)
    have a38 : ∀ x y, (hq_sI (hq_sI σ 34 (66 * e + k) (nI (2 ^ j + 2 ^ i))) 35 (66 * e + k) x).1 38 y = σ.1 38 y := fun x y => by rw [sI_ne (by decide), sI_ne (by decide)]
    have a34 : ∀ x, (hq_sI (hq_sI σ 34 (66 * e + k) (nI (2 ^ j + 2 ^ i))) 35 (66 * e + k) x).1 34 (66 * e + k) = nI (2 ^ j + 2 ^ i) := fun x => by rw [sI_ne (by decide), sI_eq]
    rw [ix, cx, cj, ci, bb, a37, a37, f1, f2, nplus, a38, a38, a34, t1, t2, orr, and_not]) oe oe
  rw [ce, sI_ne (by decide), sI_ne (by decide), sI_ne (by decide), h40, nplus] at P
  exact P
theorem apS_at {e k b p w : Nat} : (∀ y, (apS σ e k b p w).1 34 y = if y = 66 * e + k then nI b else σ.1 34 y) ∧ (∀ y, (apS σ e k b p w).1 35 y = if y = 66 * e + k then nI p else σ.1 35 y) ∧ (∀ y, (apS σ e k b p w).1 36 y = if y = 66 * e + k then nI w else σ.1 36 y) ∧ (∀ y, (apS σ e k b p w).1 40 y = if y = e then nI (k + 1) else σ.1 40 y) ∧ (∀ y, (apS σ e k b p w).1 46 y = σ.1 46 y) := by
  unfold apS
  refine ⟨fun y => ?_, fun y => ?_, fun y => ?_, fun y => ?_, fun y => ?_⟩
  · rw [sI_ne (by decide), sI_ne (by decide), sI_ne (by decide), sI_at, if_pos rfl]
  · rw [sI_ne (by decide), sI_ne (by decide), sI_at, if_pos rfl, sI_ne (by decide)]
  · rw [sI_ne (by decide), sI_at, if_pos rfl, sI_ne (by decide), sI_ne (by decide)]
  · rw [sI_at, if_pos rfl, sI_ne (by decide), sI_ne (by decide), sI_ne (by decide)]
  · rw [sI_ne (by decide), sI_ne (by decide), sI_ne (by decide), sI_ne (by decide)]
theorem HPq.add {e j i k w : Nat} {Q : List Nat} (h : HPq A F e Q σ) (hk : Q.length = k) {p : Nat} (hp : p = sset (2 ^ j + 2 ^ i) F (A 1 0)) (hw : twP A F (2 ^ j + 2 ^ i) w) : HPq A F e (Q ++ [2 ^ j + 2 ^ i]) (apS σ e k (2 ^ j + 2 ^ i) p w) := by
  obtain ⟨a1, a2, a3, a4, a5⟩ := apS_at (σ := σ) (e := e) (k := k) (b := 2 ^ j + 2 ^ i) (p := p) (w := w)
  refine ⟨by rw [a4, if_pos rfl, List.length_append, hk]; rfl, by rw [a5]; exact h.2.1, fun x b hx => ?_⟩
  rw [a1, a2, a3]
  rcases snoc_get hx with ⟨q1, q2⟩ | ⟨q1, q2⟩
  · have n1 : ¬ 66 * e + x = 66 * e + k := by omega
    rw [if_neg n1, if_neg n1, if_neg n1]
    exact h.2.2 x b q2
  · have n1 : 66 * e + x = 66 * e + k := by omega
    rw [if_pos n1, if_pos n1, if_pos n1, q2, ← hp]
    exact ⟨rfl, rfl, w, hw, rfl⟩
theorem HPq.other {e f k b p w : Nat} {Q : List Nat} (h : HPq A F f Q σ) (ne : f ≠ e) (hk : k < 66) (hQ : Q.length ≤ 66) : HPq A F f Q (apS σ e k b p w) := by
  obtain ⟨a1, a2, a3, a4, a5⟩ := apS_at (σ := σ) (e := e) (k := k) (b := b) (p := p) (w := w)
  refine ⟨by rw [a4, if_neg ne]; exact h.1, by rw [a5]; exact h.2.1, fun x c hx => ?_⟩
  have xl := (List.getElem?_eq_some_iff.mp hx).1
  have n1 : ¬ 66 * f + x = 66 * e + k := by
    intro z
    rcases Nat.lt_or_gt_of_ne ne with y | y
    · omega
    · omega
  rw [a1, a2, a3, if_neg n1, if_neg n1, if_neg n1]
  exact h.2.2 x c hx
end HC1
