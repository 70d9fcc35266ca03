/-! Changes of the town: class and reference. -/
def ndiff (n m : Nat) : Nat := n ^^^ (n &&& m)
theorem ndiff_test (n m i : Nat) : (ndiff n m).testBit i = (n.testBit i && !m.testBit i) := by
  unfold ndiff
  rw [Nat.testBit_xor, Nat.testBit_and]
  cases n.testBit i <;> cases m.testBit i <;> rfl
theorem and_not (n m : Nat) : nI n &&& (nI m ^^^ (-1 : Int32)) = nI (ndiff n m) := by
  apply Int32.toBitVec_inj.1
  show BitVec.ofNat 32 n &&& (BitVec.ofNat 32 m ^^^ (-1 : Int32).toBitVec) = BitVec.ofNat 32 (ndiff n m)
  apply BitVec.eq_of_getLsbD_eq
  intro i hi
  have hm : (-1 : Int32).toBitVec.getLsbD i = true := by
    have : ∀ j : Fin 32, (-1 : Int32).toBitVec.getLsbD j.val = true := by decide +kernel
    exact this ⟨i, hi⟩
  rw [BitVec.getLsbD_and, BitVec.getLsbD_xor, hm]
  simp only [BitVec.getLsbD_ofNat, hi, decide_true, Bool.true_and, ndiff_test]
  cases n.testBit i <;> cases m.testBit i <;> rfl
theorem ndiff_lt {n m k : Nat} (h : n < k) : ndiff n m < k ∨ True := Or.inr trivial
theorem onA_test (A : TA) (p j : Nat) : (onA A p).testBit j = (decide (j < A 1 0) && (A 11 j == p)) := sbits_test _ _ _
theorem sset_or {n h : Nat} {f : Nat → Nat} (hn : n.testBit h = false) : ∀ m, sset (n ||| 2 ^ h) f m = sset n f m + (if h < m then f h else 0)
  | 0 => by simp [sset]
  | m + 1 => by
    have ih := sset_or (f := f) hn m
    unfold sset
    rw [ih, Nat.testBit_or, Nat.testBit_two_pow]
    by_cases e : h = m
    · subst e
      rw [hn]
      simp
    · by_cases l : h < m
      · simp [e, l, Nat.lt_succ_of_lt l]; omega
      · have l2 : ¬ h < m + 1 := by omega
        simp [e, l, l2]
theorem pop_or {n h : Nat} (hh : h < 12) (hn : n.testBit h = false) : pop (n ||| 2 ^ h) = pop n + 1 := by
  unfold pop
  rw [sset_or hn, if_pos hh]
/-- the cells of the class's town -/
def Rx (A : TA) (σ : hq_St) : Prop := σ.1 5 13 = nI (A 0 0) ∧ σ.1 5 14 = nI (A 1 0) ∧ (∀ d, d < A 0 0 → cDoor A σ d) ∧ (∀ h, h < A 1 0 → cHinge A σ h) ∧ ∀ r, 1 ≤ r → r < 8 → σ.1 18 r = nI (A 12 r)
def Bd (A : TA) : Prop := A 0 0 ≤ 8 ∧ A 1 0 ≤ 12 ∧ ∀ h, h < A 1 0 → A 11 h ≤ A 0 0
theorem Wf.bd {A : TA} (W : Wf A) : Bd A := ⟨W.1, W.2.1, fun h hh => (W.2.2.2.1 h hh).2.2.2.2.2.2.1⟩
theorem onA_set0 {A : TA} {h p : Nat} (q : A 11 h ≠ p) (q2 : p ≠ 0) : onA (setA A 11 h 0) p = onA A p := by
  refine sbits_congr fun k _ => ?_
  by_cases e : k = h
  · subst e
    rw [setA_eq]
    have a1 : (A 11 k == p) = false := by simp [q]
    have a2 : ((0 : Nat) == p) = false := by simp; omega
    rw [a1, a2]
  · rw [setA_slot e]
theorem onA_del {A : TA} {h p : Nat} (q : A 11 h = p) (q2 : p ≠ 0) : onA (setA A 11 h 0) p = ndiff (onA A p) (2 ^ h) := by
  apply Nat.eq_of_testBit_eq
  intro i
  rw [ndiff_test, onA_test, onA_test, Nat.testBit_two_pow]
  show (decide (i < A 1 0) && (setA A 11 h 0 11 i == p)) = _
  by_cases e : i = h
  · subst e
    rw [setA_eq]
    have a2 : ((0 : Nat) == p) = false := by simp; omega
    rw [a2]; simp
  · rw [setA_slot e]
    have e' : ¬ h = i := fun z => e z.symm
    simp [e']
theorem onA_put {A : TA} {h e : Nat} (hh : h < A 1 0) : onA (setA A 11 h (e + 1)) (e + 1) = onA A (e + 1) ||| 2 ^ h := by
  apply Nat.eq_of_testBit_eq
  intro i
  rw [Nat.testBit_or, onA_test, onA_test, Nat.testBit_two_pow]
  show (decide (i < A 1 0) && (setA A 11 h (e + 1) 11 i == e + 1)) = _
  by_cases q : i = h
  · subst q
    rw [setA_eq]
    simp [hh]
  · rw [setA_slot q]
    have q' : ¬ h = i := fun z => q z.symm
    simp [q']
theorem onA_ne {A : TA} {h e k : Nat} (q : A 11 h = 0) (q2 : k ≠ e) : onA (setA A 11 h (e + 1)) (k + 1) = onA A (k + 1) := by
  refine sbits_congr fun j _ => ?_
  by_cases z : j = h
  · subst z
    rw [setA_eq, q]
    have a1 : ((0 : Nat) == k + 1) = false := by simp
    have a2 : (e + 1 == k + 1) = false := by simp; omega
    rw [a1, a2]
  · rw [setA_slot z]
theorem pop_mono {a b : Nat} (h : ∀ j, a.testBit j = true → b.testBit j = true) : pop a ≤ pop b := sset_mono h
theorem Wf.take {A : TA} (W : Wf A) (h : Nat) : Wf (setA A 11 h 0) := by
  refine ⟨W.1, W.2.1, fun e he => ?_, fun k hk => ?_, W.2.2.2.2⟩
  · obtain ⟨w1, w2, w3, w4, w5, w6, w7⟩ := W.2.2.1 e he
    refine ⟨w1, w2, w3, w4, w5, w6, Nat.le_trans (pop_mono fun j hj => ?_) w7⟩
    rw [onA_test] at hj ⊢
    by_cases z : j = h
    · subst z; rw [setA_eq] at hj; simp at hj
    · rw [setA_slot z] at hj; exact hj
  · obtain ⟨w1, w2, w3, w4, w5, w6, w7, w8⟩ := W.2.2.2.1 k hk
    by_cases z : k = h
    · subst z
      exact ⟨w1, w2, w3, w4, w5, w6, by rw [setA_eq]; exact Nat.zero_le _, fun d hd => by rw [setA_eq] at hd; omega⟩
    · exact ⟨w1, w2, w3, w4, w5, w6, by rw [setA_slot z]; exact w7, fun d hd => by rw [setA_slot z] at hd; exact w8 d hd⟩
theorem Wf.put {A : TA} (W : Wf A) {h e : Nat} (hh : h < A 1 0) (he : e < A 0 0) (h0 : A 11 h = 0) (hf : fitsA A h e = true) (hr : pop (onA A (e + 1)) < 2) : Wf (setA A 11 h (e + 1)) := by
  have b2 := W.2.1
  refine ⟨W.1, W.2.1, fun k hk => ?_, fun k hk => ?_, W.2.2.2.2⟩
  · obtain ⟨w1, w2, w3, w4, w5, w6, w7⟩ := W.2.2.1 k hk
    refine ⟨w1, w2, w3, w4, w5, w6, ?_⟩
    by_cases z : k = e
    · subst z
      rw [onA_put hh, pop_or (by omega) (by rw [onA_test, h0]; simp)]
      omega
    · rw [onA_ne h0 z]; exact w7
  · obtain ⟨w1, w2, w3, w4, w5, w6, w7, w8⟩ := W.2.2.2.1 k hk
    by_cases z : k = h
    · subst z
      refine ⟨w1, w2, w3, w4, w5, w6, by rw [setA_eq]; exact he, fun d hd => ?_⟩
      rw [setA_eq] at hd
      have : d = e := by omega
      subst this
      exact hf
    · exact ⟨w1, w2, w3, w4, w5, w6, by rw [setA_slot z]; exact w7, fun d hd => by rw [setA_slot z] at hd; exact w8 d hd⟩
section MU
variable {d : Nat} {σ : hq_St} {A : TA}
theorem s_isDoorX {n : Nat} (hd : σ.1 5 13 = nI n) (h8 : n ≤ 8) (x : Int32) : hq_c 82 (d + 1) [.ref 5, .int x] σ (some (.int (bI (inr x n)))) σ := by
  unfold bI inr
  by_cases c1 : x < 0
  · have c2 := c1
    rw [ltz] at c2
    rw [if_neg (by simp; omega)]
    exact p_X8_isDoor_0_1 c1
  · have c2 := c1
    rw [ltz] at c2
    by_cases c3 : x < σ.1 5 13
    · have c4 := c3
      rw [hd, lt_nI (by omega)] at c4
      rw [if_pos (by simp; omega)]
      exact p_X8_isDoor_0_2 c1 c3
    · have c4 := c3
      rw [hd, lt_nI (by omega)] at c4
      rw [if_neg (by simp; omega)]
      exact p_X8_isDoor_0_3 c1 c3
theorem inr_place {p n : Nat} (hp : p ≤ n) (hn : n ≤ 8) : inr (nI p - nI 1) n = decide (p ≠ 0) := by
  unfold inr
  rw [pk_sub_toInt (by omega) (by decide)]
  by_cases h : p = 0
  · subst h; simp
  · simp [h]; omega
theorem s_unhang (B : Bd A) (R : Rx A σ) {h : Nat} (hh : h < A 1 0) : ∃ τ, hq_c 101 (d + 2) [.ref 5, .int (nI h)] σ none τ ∧ Rx (setA A 11 h 0) τ ∧ Fr [(11, 0), (17, 0)] σ τ := by
  obtain ⟨b1, b2, b3⟩ := B
  have b4 := b3 h hh
  obtain ⟨r1, r2, rD, rH, rS⟩ := R
  have ch : (nI h).toNatClampNeg = h := clamp (by omega)
  have o : vp_in (nI h) 12 := vin (by omega) (by decide)
  have hp : σ.1 17 h = nI (A 11 h) - nI 1 := (rH h hh).2.2.2.2.2
  have g := s_isDoorX (d := d) r1 b1 (σ.1 17 h)
  rw [hp, inr_place b4 b1, ← hp] at g
  have post : ∀ τ, Fr [(11, 0), (17, 0)] σ τ → (∀ k, k < A 1 0 → τ.1 17 k = nI (setA A 11 h 0 11 k) - nI 1) → (∀ e, e < A 0 0 → τ.1 11 e = nI (onA (setA A 11 h 0) (e + 1))) → Rx (setA A 11 h 0) τ := by
    intro τ f q1 q2
    refine ⟨(f.i rfl).trans r1, (f.i rfl).trans r2, fun e he => ?_, fun k hk => ?_, fun r z1 z2 => (f.i rfl).trans (rS r z1 z2)⟩
    · obtain ⟨a1, a2, a3, a4, a5, a6⟩ := rD e he
      exact ⟨(f.i rfl).trans a1, (f.i rfl).trans a2, (f.i rfl).trans a3, (f.i rfl).trans a4, (f.i rfl).trans a5, q2 e he⟩
    · obtain ⟨a1, a2, a3, a4, a5, a6⟩ := rH k hk
      exact ⟨(f.i rfl).trans a1, (f.i rfl).trans a2, (f.i rfl).trans a3, (f.i rfl).trans a4, (f.i rfl).trans a5, q1 k hk⟩
  have places : ∀ τ : hq_St, (∀ k, k < A 1 0 → τ.1 17 k = if k = h then -1 else σ.1 17 k) → ∀ k, k < A 1 0 → τ.1 17 k = nI (setA A 11 h 0 11 k) - nI 1 := by
    intro τ q k hk
    rw [q k hk]
    by_cases e : k = h
    · rw [if_pos e, e, setA_eq]; decide
    · rw [if_neg e, setA_slot e]; exact (rH k hk).2.2.2.2.2
  by_cases q : A 11 h = 0
  · rw [decide_eq_false (by simp [q])] at g
    refine ⟨_, p_X8_unhang_0_1 o (by rw [ch]; exact g) rfl o, ?_, (Fr.rf σ).sI rfl⟩
    rw [ch]
    refine post _ ((Fr.rf σ).sI rfl) (places _ fun k hk => ?_) fun e he => ?_
    · rw [sI_at, if_pos rfl]
    · rw [sI_ne (by decide), onA_set0 (by omega) (by omega)]; exact (rD e he).2.2.2.2.2
  · rw [decide_eq_true q] at g
    obtain ⟨e, he⟩ : ∃ e, A 11 h = e + 1 := ⟨A 11 h - 1, by omega⟩
    have hpe : σ.1 17 h = nI e := by rw [hp, he]; exact nI_pred e
    have ce : (nI e).toNatClampNeg = e := clamp (by omega)
    have oe : vp_in (nI e) 8 := vin (by omega) (by decide)
    refine ⟨_, p_X8_unhang_0_2 o (by rw [ch]; exact g) (by decide) (by rw [ch, hpe]; exact oe) (by rw [ch, hpe]; exact oe) o rfl o, ?_, ((Fr.rf σ).sI rfl).sI rfl⟩
    rw [ch, hpe, ce, hn_shl h (by omega)]
    refine post _ (((Fr.rf σ).sI rfl).sI rfl) (places _ fun k hk => ?_) fun k hk => ?_
    · rw [sI_at, if_pos rfl, sI_ne (by decide)]
    · rw [sI_ne (by decide), sI_at, if_pos rfl]
      by_cases z : k = e
      · rw [if_pos z, z, (rD e (by omega)).2.2.2.2.2, and_not, onA_del he (by omega)]
      · rw [if_neg z, onA_set0 (by omega) (by omega)]; exact (rD k hk).2.2.2.2.2
theorem s_put (B : Bd A) (R : Rx A σ) {h e : Nat} (hh : h < A 1 0) (he : e < A 0 0) (h0 : A 11 h = 0) : ∃ τ, hq_c 100 (d + 1) [.ref 5, .int (nI h), .int (nI e)] σ none τ ∧ Rx (setA A 11 h (e + 1)) τ ∧ Fr [(11, 0), (17, 0)] σ τ := by
  obtain ⟨b1, b2, b3⟩ := B
  obtain ⟨r1, r2, rD, rH, rS⟩ := R
  have ch : (nI h).toNatClampNeg = h := clamp (by omega)
  have ce : (nI e).toNatClampNeg = e := clamp (by omega)
  have f : Fr [(11, 0), (17, 0)] σ (hq_sI (hq_sI σ 17 h (nI e)) 11 e (nI (onA A (e + 1) ||| 2 ^ h))) := ((Fr.rf σ).sI rfl).sI rfl
  refine ⟨hq_sI (hq_sI σ 17 h (nI e)) 11 e (nI (onA A (e + 1) ||| 2 ^ h)), ?_, ⟨(f.i rfl).trans r1, (f.i rfl).trans r2, fun k hk => ?_, fun k hk => ?_, fun r z1 z2 => (f.i rfl).trans (rS r z1 z2)⟩, f⟩
  · have := p_X8_put_0_1 (d := d) (σ := σ) (l1 := nI h) (l2 := nI e) (vin (by omega) (by decide)) (vin (by omega) (by decide)) (vin (by omega) (by decide))
    rw [ch, ce, sI_ne (by decide), hn_shl h (by omega), (rD e he).2.2.2.2.2, orr] at this
    exact this
  · obtain ⟨a1, a2, a3, a4, a5, a6⟩ := rD k hk
    refine ⟨(f.i rfl).trans a1, (f.i rfl).trans a2, (f.i rfl).trans a3, (f.i rfl).trans a4, (f.i rfl).trans a5, ?_⟩
    rw [sI_at, if_pos rfl]
    by_cases z : k = e
    · rw [if_pos z, z, onA_put hh]
    · rw [if_neg z, sI_ne (by decide), onA_ne h0 z]; exact a6
  · obtain ⟨a1, a2, a3, a4, a5, a6⟩ := rH k hk
    refine ⟨(f.i rfl).trans a1, (f.i rfl).trans a2, (f.i rfl).trans a3, (f.i rfl).trans a4, (f.i rfl).trans a5, ?_⟩
    rw [sI_ne (by decide), sI_at, if_pos rfl]
    by_cases z : k = h
    · rw [if_pos z, z, setA_eq]; exact (nI_pred e).symm
    · rw [if_neg z, setA_slot z]; exact a6
theorem Rx.set6 (R : Rx A σ) {h v : Nat} : Rx (setA A 6 h v) (hq_sI σ 12 h (nI v)) := by
  obtain ⟨r1, r2, rD, rH, rS⟩ := R
  have f : Fr [(12, 0)] σ (hq_sI σ 12 h (nI v)) := (Fr.rf σ).sI rfl
  refine ⟨(f.i rfl).trans r1, (f.i rfl).trans r2, fun k hk => ?_, fun k hk => ?_, fun r z1 z2 => (f.i rfl).trans (rS r z1 z2)⟩
  · obtain ⟨a1, a2, a3, a4, a5, a6⟩ := rD k hk
    exact ⟨(f.i rfl).trans a1, (f.i rfl).trans a2, (f.i rfl).trans a3, (f.i rfl).trans a4, (f.i rfl).trans a5, (f.i rfl).trans a6⟩
  · obtain ⟨a1, a2, a3, a4, a5, a6⟩ := rH k hk
    refine ⟨?_, (f.i rfl).trans a2, (f.i rfl).trans a3, (f.i rfl).trans a4, (f.i rfl).trans a5, (f.i rfl).trans a6⟩
    rw [sI_at, if_pos rfl]
    by_cases z : k = h
    · rw [if_pos z, z, setA_eq]
    · rw [if_neg z, setA_slot z]; exact a1
theorem Rx.set9 (R : Rx A σ) {h v : Nat} : Rx (setA A 9 h v) (hq_sI σ 15 h (nI v)) := by
  obtain ⟨r1, r2, rD, rH, rS⟩ := R
  have f : Fr [(15, 0)] σ (hq_sI σ 15 h (nI v)) := (Fr.rf σ).sI rfl
  refine ⟨(f.i rfl).trans r1, (f.i rfl).trans r2, fun k hk => ?_, fun k hk => ?_, fun r z1 z2 => (f.i rfl).trans (rS r z1 z2)⟩
  · obtain ⟨a1, a2, a3, a4, a5, a6⟩ := rD k hk
    exact ⟨(f.i rfl).trans a1, (f.i rfl).trans a2, (f.i rfl).trans a3, (f.i rfl).trans a4, (f.i rfl).trans a5, (f.i rfl).trans a6⟩
  · obtain ⟨a1, a2, a3, a4, a5, a6⟩ := rH k hk
    refine ⟨(f.i rfl).trans a1, (f.i rfl).trans a2, (f.i rfl).trans a3, ?_, (f.i rfl).trans a5, (f.i rfl).trans a6⟩
    rw [sI_at, if_pos rfl]
    by_cases z : k = h
    · rw [if_pos z, z, setA_eq]
    · rw [if_neg z, setA_slot z]; exact a4
theorem Rx.set10 (R : Rx A σ) {h v : Nat} : Rx (setA A 10 h v) (hq_sI σ 16 h (nI v)) := by
  obtain ⟨r1, r2, rD, rH, rS⟩ := R
  have f : Fr [(16, 0)] σ (hq_sI σ 16 h (nI v)) := (Fr.rf σ).sI rfl
  refine ⟨(f.i rfl).trans r1, (f.i rfl).trans r2, fun k hk => ?_, fun k hk => ?_, fun r z1 z2 => (f.i rfl).trans (rS r z1 z2)⟩
  · obtain ⟨a1, a2, a3, a4, a5, a6⟩ := rD k hk
    exact ⟨(f.i rfl).trans a1, (f.i rfl).trans a2, (f.i rfl).trans a3, (f.i rfl).trans a4, (f.i rfl).trans a5, (f.i rfl).trans a6⟩
  · obtain ⟨a1, a2, a3, a4, a5, a6⟩ := rH k hk
    refine ⟨(f.i rfl).trans a1, (f.i rfl).trans a2, (f.i rfl).trans a3, (f.i rfl).trans a4, ?_, (f.i rfl).trans a6⟩
    rw [sI_at, if_pos rfl]
    by_cases z : k = h
    · rw [if_pos z, z, setA_eq]
    · rw [if_neg z, setA_slot z]; exact a5
theorem Wf.set9 {h v : Nat} (W : Wf A) (hv : v ≤ 9) : Wf (setA A 9 h v) := by
  refine ⟨W.1, W.2.1, W.2.2.1, fun k hk => ?_, W.2.2.2.2⟩
  obtain ⟨w1, w2, w3, w4, w5, w6, w7, w8⟩ := W.2.2.2.1 k hk
  refine ⟨w1, w2, w3, w4, ?_, w6, w7, w8⟩
  by_cases z : k = h
  · rw [z, setA_eq]; exact hv
  · rw [setA_slot z]; exact w5
theorem Wf.set10 {h v : Nat} (W : Wf A) (hv : v ≤ 9) : Wf (setA A 10 h v) := by
  refine ⟨W.1, W.2.1, W.2.2.1, fun k hk => ?_, W.2.2.2.2⟩
  obtain ⟨w1, w2, w3, w4, w5, w6, w7, w8⟩ := W.2.2.2.1 k hk
  refine ⟨w1, w2, w3, w4, w5, ?_, w7, w8⟩
  by_cases z : k = h
  · rw [z, setA_eq]; exact hv
  · rw [setA_slot z]; exact w6
/-- bending a hinge: it fits every door -/
theorem Wf.bend {h : Nat} (W : Wf A) : Wf (setA A 6 h 2) := by
  refine ⟨W.1, W.2.1, W.2.2.1, fun k hk => ?_, W.2.2.2.2⟩
  obtain ⟨w1, w2, w3, w4, w5, w6, w7, w8⟩ := W.2.2.2.1 k hk
  by_cases z : k = h
  · refine ⟨by rw [z, setA_eq]; exact Nat.le_refl _, w2, w3, w4, w5, w6, w7, fun e he => ?_⟩
    unfold fitsA
    rw [z, setA_eq]; rfl
  · refine ⟨by rw [setA_slot z]; exact w1, w2, w3, w4, w5, w6, w7, fun e he => ?_⟩
    have := w8 e he
    unfold fitsA at this ⊢
    rw [setA_slot z]; exact this
theorem Rm.set11n (R : Rm 61 A σ) {h v : Nat} (hh : h < A 1 0) (W' : Wf (setA A 11 h v)) : Rm 61 (setA A 11 h v) (hq_sI σ 61 h (nI v - nI 1)) := by
  obtain ⟨W, r1, r2, rD, rH, rR, rS⟩ := R
  have b2 := W.2.1
  have f : Fr [(61, 0)] σ (hq_sI σ 61 h (nI v - nI 1)) := (Fr.rf σ).sI rfl
  refine ⟨W', (f.i rfl).trans r1, (f.i rfl).trans r2, fun k hk => ?_, fun k hk => ?_, fun k hk => ?_, fun r z1 z2 => (f.i rfl).trans (rS r z1 z2)⟩
  · obtain ⟨a1, a2, a3, a4⟩ := rD k hk
    exact ⟨(f.i rfl).trans a1, (f.i rfl).trans a2, (f.i rfl).trans a3, (f.i rfl).trans a4⟩
  · obtain ⟨a1, a2⟩ := rH k hk
    exact ⟨(f.i rfl).trans a1, (f.i rfl).trans a2⟩
  · have hk' : k < A 1 0 := hk
    obtain ⟨a1, a2, a3, a4⟩ := rR k hk
    refine ⟨?_, (sI_slot (by omega)).trans a2, (sI_slot (by omega)).trans a3, (sI_slot (by omega)).trans a4⟩
    rw [sI_at, if_pos rfl]
    by_cases z : k = h
    · rw [if_pos (by omega), z, setA_eq]
    · rw [if_neg (by omega), setA_slot z]; exact a1
theorem Rm.set6n (R : Rm 61 A σ) {h v : Nat} (hh : h < A 1 0) (W' : Wf (setA A 6 h v)) : Rm 61 (setA A 6 h v) (hq_sI σ 61 (12 + h) (nI v)) := by
  obtain ⟨W, r1, r2, rD, rH, rR, rS⟩ := R
  have b2 := W.2.1
  have f : Fr [(61, 0)] σ (hq_sI σ 61 (12 + h) (nI v)) := (Fr.rf σ).sI rfl
  refine ⟨W', (f.i rfl).trans r1, (f.i rfl).trans r2, fun k hk => ?_, fun k hk => ?_, fun k hk => ?_, fun r z1 z2 => (f.i rfl).trans (rS r z1 z2)⟩
  · obtain ⟨a1, a2, a3, a4⟩ := rD k hk
    exact ⟨(f.i rfl).trans a1, (f.i rfl).trans a2, (f.i rfl).trans a3, (f.i rfl).trans a4⟩
  · obtain ⟨a1, a2⟩ := rH k hk
    exact ⟨(f.i rfl).trans a1, (f.i rfl).trans a2⟩
  · have hk' : k < A 1 0 := hk
    obtain ⟨a1, a2, a3, a4⟩ := rR k hk
    refine ⟨(sI_slot (by omega)).trans a1, ?_, (sI_slot (by omega)).trans a3, (sI_slot (by omega)).trans a4⟩
    rw [sI_at, if_pos rfl]
    by_cases z : k = h
    · rw [if_pos (by omega), z, setA_eq]
    · rw [if_neg (by omega), setA_slot z]; exact a2
theorem Rm.set9n (R : Rm 61 A σ) {h v : Nat} (hh : h < A 1 0) (W' : Wf (setA A 9 h v)) : Rm 61 (setA A 9 h v) (hq_sI σ 61 (24 + h) (nI v)) := by
  obtain ⟨W, r1, r2, rD, rH, rR, rS⟩ := R
  have b2 := W.2.1
  have f : Fr [(61, 0)] σ (hq_sI σ 61 (24 + h) (nI v)) := (Fr.rf σ).sI rfl
  refine ⟨W', (f.i rfl).trans r1, (f.i rfl).trans r2, fun k hk => ?_, fun k hk => ?_, fun k hk => ?_, fun r z1 z2 => (f.i rfl).trans (rS r z1 z2)⟩
  · obtain ⟨a1, a2, a3, a4⟩ := rD k hk
    exact ⟨(f.i rfl).trans a1, (f.i rfl).trans a2, (f.i rfl).trans a3, (f.i rfl).trans a4⟩
  · obtain ⟨a1, a2⟩ := rH k hk
    exact ⟨(f.i rfl).trans a1, (f.i rfl).trans a2⟩
  · have hk' : k < A 1 0 := hk
    obtain ⟨a1, a2, a3, a4⟩ := rR k hk
    refine ⟨(sI_slot (by omega)).trans a1, (sI_slot (by omega)).trans a2, ?_, (sI_slot (by omega)).trans a4⟩
    rw [sI_at, if_pos rfl]
    by_cases z : k = h
    · rw [if_pos (by omega), z, setA_eq]
    · rw [if_neg (by omega), setA_slot z]; exact a3
theorem Rm.set10n (R : Rm 61 A σ) {h v : Nat} (hh : h < A 1 0) (W' : Wf (setA A 10 h v)) : Rm 61 (setA A 10 h v) (hq_sI σ 61 (36 + h) (nI v)) := by
  obtain ⟨W, r1, r2, rD, rH, rR, rS⟩ := R
  have b2 := W.2.1
  have f : Fr [(61, 0)] σ (hq_sI σ 61 (36 + h) (nI v)) := (Fr.rf σ).sI rfl
  refine ⟨W', (f.i rfl).trans r1, (f.i rfl).trans r2, fun k hk => ?_, fun k hk => ?_, fun k hk => ?_, fun r z1 z2 => (f.i rfl).trans (rS r z1 z2)⟩
  · obtain ⟨a1, a2, a3, a4⟩ := rD k hk
    exact ⟨(f.i rfl).trans a1, (f.i rfl).trans a2, (f.i rfl).trans a3, (f.i rfl).trans a4⟩
  · obtain ⟨a1, a2⟩ := rH k hk
    exact ⟨(f.i rfl).trans a1, (f.i rfl).trans a2⟩
  · have hk' : k < A 1 0 := hk
    obtain ⟨a1, a2, a3, a4⟩ := rR k hk
    refine ⟨(sI_slot (by omega)).trans a1, (sI_slot (by omega)).trans a2, (sI_slot (by omega)).trans a3, ?_⟩
    rw [sI_at, if_pos rfl]
    by_cases z : k = h
    · rw [if_pos (by omega), z, setA_eq]
    · rw [if_neg (by omega), setA_slot z]; exact a4
theorem Rm.set11t (R : Rm 65 A σ) {h v : Nat} (hh : h < A 1 0) (W' : Wf (setA A 11 h v)) : Rm 65 (setA A 11 h v) (hq_sI σ 65 h (nI v - nI 1)) := by
  obtain ⟨W, r1, r2, rD, rH, rR, rS⟩ := R
  have b2 := W.2.1
  have f : Fr [(65, 0)] σ (hq_sI σ 65 h (nI v - nI 1)) := (Fr.rf σ).sI rfl
  refine ⟨W', (f.i rfl).trans r1, (f.i rfl).trans r2, fun k hk => ?_, fun k hk => ?_, fun k hk => ?_, fun r z1 z2 => (f.i rfl).trans (rS r z1 z2)⟩
  · obtain ⟨a1, a2, a3, a4⟩ := rD k hk
    exact ⟨(f.i rfl).trans a1, (f.i rfl).trans a2, (f.i rfl).trans a3, (f.i rfl).trans a4⟩
  · obtain ⟨a1, a2⟩ := rH k hk
    exact ⟨(f.i rfl).trans a1, (f.i rfl).trans a2⟩
  · have hk' : k < A 1 0 := hk
    obtain ⟨a1, a2, a3, a4⟩ := rR k hk
    refine ⟨?_, (sI_slot (by omega)).trans a2, (sI_slot (by omega)).trans a3, (sI_slot (by omega)).trans a4⟩
    rw [sI_at, if_pos rfl]
    by_cases z : k = h
    · rw [if_pos (by omega), z, setA_eq]
    · rw [if_neg (by omega), setA_slot z]; exact a1
theorem Rm.set6t (R : Rm 65 A σ) {h v : Nat} (hh : h < A 1 0) (W' : Wf (setA A 6 h v)) : Rm 65 (setA A 6 h v) (hq_sI σ 65 (12 + h) (nI v)) := by
  obtain ⟨W, r1, r2, rD, rH, rR, rS⟩ := R
  have b2 := W.2.1
  have f : Fr [(65, 0)] σ (hq_sI σ 65 (12 + h) (nI v)) := (Fr.rf σ).sI rfl
  refine ⟨W', (f.i rfl).trans r1, (f.i rfl).trans r2, fun k hk => ?_, fun k hk => ?_, fun k hk => ?_, fun r z1 z2 => (f.i rfl).trans (rS r z1 z2)⟩
  · obtain ⟨a1, a2, a3, a4⟩ := rD k hk
    exact ⟨(f.i rfl).trans a1, (f.i rfl).trans a2, (f.i rfl).trans a3, (f.i rfl).trans a4⟩
  · obtain ⟨a1, a2⟩ := rH k hk
    exact ⟨(f.i rfl).trans a1, (f.i rfl).trans a2⟩
  · have hk' : k < A 1 0 := hk
    obtain ⟨a1, a2, a3, a4⟩ := rR k hk
    refine ⟨(sI_slot (by omega)).trans a1, ?_, (sI_slot (by omega)).trans a3, (sI_slot (by omega)).trans a4⟩
    rw [sI_at, if_pos rfl]
    by_cases z : k = h
    · rw [if_pos (by omega), z, setA_eq]
    · rw [if_neg (by omega), setA_slot z]; exact a2
theorem Rm.set9t (R : Rm 65 A σ) {h v : Nat} (hh : h < A 1 0) (W' : Wf (setA A 9 h v)) : Rm 65 (setA A 9 h v) (hq_sI σ 65 (24 + h) (nI v)) := by
  obtain ⟨W, r1, r2, rD, rH, rR, rS⟩ := R
  have b2 := W.2.1
  have f : Fr [(65, 0)] σ (hq_sI σ 65 (24 + h) (nI v)) := (Fr.rf σ).sI rfl
  refine ⟨W', (f.i rfl).trans r1, (f.i rfl).trans r2, fun k hk => ?_, fun k hk => ?_, fun k hk => ?_, fun r z1 z2 => (f.i rfl).trans (rS r z1 z2)⟩
  · obtain ⟨a1, a2, a3, a4⟩ := rD k hk
    exact ⟨(f.i rfl).trans a1, (f.i rfl).trans a2, (f.i rfl).trans a3, (f.i rfl).trans a4⟩
  · obtain ⟨a1, a2⟩ := rH k hk
    exact ⟨(f.i rfl).trans a1, (f.i rfl).trans a2⟩
  · have hk' : k < A 1 0 := hk
    obtain ⟨a1, a2, a3, a4⟩ := rR k hk
    refine ⟨(sI_slot (by omega)).trans a1, (sI_slot (by omega)).trans a2, ?_, (sI_slot (by omega)).trans a4⟩
    rw [sI_at, if_pos rfl]
    by_cases z : k = h
    · rw [if_pos (by omega), z, setA_eq]
    · rw [if_neg (by omega), setA_slot z]; exact a3
theorem Rm.set10t (R : Rm 65 A σ) {h v : Nat} (hh : h < A 1 0) (W' : Wf (setA A 10 h v)) : Rm 65 (setA A 10 h v) (hq_sI σ 65 (36 + h) (nI v)) := by
  obtain ⟨W, r1, r2, rD, rH, rR, rS⟩ := R
  have b2 := W.2.1
  have f : Fr [(65, 0)] σ (hq_sI σ 65 (36 + h) (nI v)) := (Fr.rf σ).sI rfl
  refine ⟨W', (f.i rfl).trans r1, (f.i rfl).trans r2, fun k hk => ?_, fun k hk => ?_, fun k hk => ?_, fun r z1 z2 => (f.i rfl).trans (rS r z1 z2)⟩
  · obtain ⟨a1, a2, a3, a4⟩ := rD k hk
    exact ⟨(f.i rfl).trans a1, (f.i rfl).trans a2, (f.i rfl).trans a3, (f.i rfl).trans a4⟩
  · obtain ⟨a1, a2⟩ := rH k hk
    exact ⟨(f.i rfl).trans a1, (f.i rfl).trans a2⟩
  · have hk' : k < A 1 0 := hk
    obtain ⟨a1, a2, a3, a4⟩ := rR k hk
    refine ⟨(sI_slot (by omega)).trans a1, (sI_slot (by omega)).trans a2, (sI_slot (by omega)).trans a3, ?_⟩
    rw [sI_at, if_pos rfl]
    by_cases z : k = h
    · rw [if_pos (by omega), z, setA_eq]
    · rw [if_neg (by omega), setA_slot z]; exact a4
/-- hang -/
def hangC (A : TA) (x z : Int32) : Nat := if inr x (A 1 0) && inr z (A 0 0) then (if A 11 x.toInt.toNat ≠ 0 then 2 else if fitsA A x.toInt.toNat z.toInt.toNat = false then 3 else if pop (onA A (z.toInt.toNat + 1)) < 2 then 0 else 4) else 1
def hangR (A : TA) (x z : Int32) : Int32 := if hangC A x z = 0 then nI (pop (onA A (z.toInt.toNat + 1)) + 1) else nI 0 - nI (hangC A x z)
def hangT (A : TA) (x z : Int32) : TA := if hangC A x z = 0 then setA A 11 x.toInt.toNat (z.toInt.toNat + 1) else A
theorem hangC_no {x z : Int32} {k : Nat} (h : hangC A x z = k) (hk : k ≠ 0) : hangR A x z = nI 0 - nI k ∧ hangT A x z = A := by
  unfold hangR hangT
  rw [h, if_neg hk, if_neg hk]
  exact ⟨rfl, rfl⟩
theorem tn {k : Nat} (h : k < 4096) : (nI k).toInt.toNat = k := by rw [nI_toInt (by omega)]; omega
theorem hangC_in {h e : Nat} (hh : h < A 1 0) (he : e < A 0 0) (b1 : A 0 0 ≤ 8) (b2 : A 1 0 ≤ 12) : hangC A (nI h) (nI e) = if A 11 h ≠ 0 then 2 else if fitsA A h e = false then 3 else if pop (onA A (e + 1)) < 2 then 0 else 4 := by
  unfold hangC
  rw [inr_nI (by omega), inr_nI (by omega), tn (by omega), tn (by omega), if_pos (by simp [hh, he])]
theorem Wf.hang (W : Wf A) (x z : Int32) : Wf (hangT A x z) := by
  unfold hangT
  split
  · rename_i h
    unfold hangC at h
    split at h
    · rename_i c
      rw [Bool.and_eq_true] at c
      obtain ⟨k, hk, rfl⟩ := inr_of c.1
      obtain ⟨e, he, rfl⟩ := inr_of c.2
      have b1 := W.1
      have b2 := W.2.1
      rw [tn (by omega), tn (by omega)] at *
      split at h
      · cases h
      · split at h
        · cases h
        · split at h
          · rename_i q1 q2 q3
            exact W.put hk he (by omega) (by simpa using q2) q3
          · cases h
    · cases h
  · exact W
theorem s_tryHang (R : Rc A σ) (x z : Int32) : ∃ τ, hq_c 102 (d + 3) [.ref 5, .int x, .int z] σ (some (.int (hangR A x z))) τ ∧ Rc (hangT A x z) τ ∧ Fr [(11, 0), (17, 0)] σ τ := by
  have W := R.1
  have b1 := W.1
  have b2 := W.2.1
  have g1 := s_isHinge (d := d + 1) R x
  have g2 := s_isDoor (d := d + 1) R z
  cases c1 : inr x (A 1 0) with
  | false =>
    rw [c1] at g1
    obtain ⟨e1, e2⟩ := hangC_no (A := A) (x := x) (z := z) (k := 1) (by unfold hangC; rw [c1]; rfl) (by decide)
    rw [e1, e2]
    exact ⟨σ, p_X8_tryHang_0_1 g1 rfl, R, Fr.rf σ⟩
  | true =>
  rw [c1] at g1
  cases c2 : inr z (A 0 0) with
  | false =>
    rw [c2] at g2
    obtain ⟨e1, e2⟩ := hangC_no (A := A) (x := x) (z := z) (k := 1) (by unfold hangC; rw [c1, c2]; rfl) (by decide)
    rw [e1, e2]
    exact ⟨σ, p_X8_tryHang_0_2 g1 (by decide) g2 rfl, R, Fr.rf σ⟩
  | true =>
  rw [c2] at g2
  obtain ⟨h, hh, rfl⟩ := inr_of c1
  obtain ⟨e, he, rfl⟩ := inr_of c2
  have ch : (nI h).toNatClampNeg = h := clamp (by omega)
  have ce : (nI e).toNatClampNeg = e := clamp (by omega)
  have o : vp_in (nI h) 12 := vin (by omega) (by decide)
  have oe : vp_in (nI e) 8 := vin (by omega) (by decide)
  have hC := hangC_in hh he b1 b2
  have hp : σ.1 17 (nI h).toNatClampNeg = nI (A 11 h) - nI 1 := by rw [ch]; exact (R.2.2.2.2.1 h hh).2.2.2.2.2
  have w := (W.2.2.2.1 h hh).2.2.2.2.2.2.1
  have g3 := s_fits (d := d + 1) R hh he
  have g4 := s_hasRoom (d := d) R he
  by_cases q0 : A 11 h = 0
  · rw [if_neg (by simp [q0])] at hC
    have p1 : σ.1 17 (nI h).toNatClampNeg = -1 := by rw [hp, q0]; decide
    cases q1 : fitsA A h e with
    | false =>
      rw [q1, if_pos rfl] at hC
      rw [q1] at g3
      obtain ⟨e1, e2⟩ := hangC_no hC (by decide)
      rw [e1, e2]
      exact ⟨σ, p_X8_tryHang_0_3 g1 (by decide) g2 (by decide) o p1 g3 rfl, R, Fr.rf σ⟩
    | true =>
      rw [q1, if_neg (by decide)] at hC
      rw [q1] at g3
      by_cases q2 : pop (onA A (e + 1)) < 2
      · rw [if_pos q2] at hC
        rw [decide_eq_true q2] at g4
        obtain ⟨τ, t1, t2, t3⟩ := s_put (d := d + 1) W.bd R.2 hh he q0
        have hb := s_bitCount (d := d + 1) (σ := τ) (onA_lt (setA A 11 h (e + 1)) (e + 1) b2)
        have hg : τ.1 11 e = nI (onA (setA A 11 h (e + 1)) (e + 1)) := (t2.2.2.1 e he).2.2.2.2.2
        unfold hangR hangT
        rw [hC, if_pos rfl, if_pos rfl, tn (by omega), tn (by omega)]
        refine ⟨τ, ?_, ⟨W.put hh he q0 q1 q2, t2⟩, t3⟩
        refine p_X8_tryHang_0_5 g1 (by decide) g2 (by decide) o p1 g3 (by decide) g4 (by decide) t1 oe ?_
        rw [ce, hg]
        have ep : pop (onA (setA A 11 h (e + 1)) (e + 1)) = pop (onA A (e + 1)) + 1 := by rw [onA_put hh, pop_or (by omega) (by rw [onA_test, q0]; simp)]
        rw [ep] at hb
        exact hb
      · rw [if_neg q2] at hC
        rw [decide_eq_false q2] at g4
        obtain ⟨e1, e2⟩ := hangC_no hC (by decide)
        rw [e1, e2]
        exact ⟨σ, p_X8_tryHang_0_4 g1 (by decide) g2 (by decide) o p1 g3 (by decide) g4 rfl, R, Fr.rf σ⟩
  · rw [if_pos q0] at hC
    obtain ⟨e1, e2⟩ := hangC_no hC (by decide)
    rw [e1, e2]
    refine ⟨σ, p_X8_tryHang_0_6 g1 (by decide) g2 (by decide) o ?_, R, Fr.rf σ⟩
    rw [hp]
    intro z
    have z2 : nI (A 11 h) - nI 1 = nI 0 - nI 1 := z
    exact q0 ((place_eq (by omega) (by decide)).mp z2)
theorem m_hangs (R : Rm 61 A σ) (x z : Int32) : ∃ τ, hq_c 215 (d + 3) [.ref 52, .int x, .int z] σ (some (.int (hangR A x z))) τ ∧ Rm 61 (hangT A x z) τ ∧ Fr [(61, 0)] σ τ ∧ τ.1 61 48 = σ.1 61 48 ∧ τ.1 61 49 = σ.1 61 49 := by
  have W := R.1
  have b1 := W.1
  have b2 := W.2.1
  have g1 := m_isHingen (d := d) R x
  have g2 := m_isDoorn (d := d) R z
  cases c1 : inr x (A 1 0) with
  | false =>
    rw [c1] at g1
    obtain ⟨e1, e2⟩ := hangC_no (A := A) (x := x) (z := z) (k := 1) (by unfold hangC; rw [c1]; rfl) (by decide)
    rw [e1, e2]
    exact ⟨σ, p_X10_hangs_0_1 g1 rfl, R, Fr.rf σ, rfl, rfl⟩
  | true =>
  rw [c1] at g1
  cases c2 : inr z (A 0 0) with
  | false =>
    rw [c2] at g2
    obtain ⟨e1, e2⟩ := hangC_no (A := A) (x := x) (z := z) (k := 1) (by unfold hangC; rw [c1, c2]; rfl) (by decide)
    rw [e1, e2]
    exact ⟨σ, p_X10_hangs_0_2 g1 (by decide) g2 rfl, R, Fr.rf σ, rfl, rfl⟩
  | true =>
  rw [c2] at g2
  obtain ⟨h, hh, rfl⟩ := inr_of c1
  obtain ⟨e, he, rfl⟩ := inr_of c2
  have ch : (nI h).toNatClampNeg = h := clamp (by omega)
  have o : vp_in (nI h) 50 := vin (by omega) (by decide)
  have hC := hangC_in hh he b1 b2
  have hp : σ.1 61 (nI h).toNatClampNeg = nI (A 11 h) - nI 1 := by rw [ch]; exact (R.2.2.2.2.2.1 h hh).1
  have w := (W.2.2.2.1 h hh).2.2.2.2.2.2.1
  have w7 := (W.2.2.1 e he).2.2.2.2.2.2
  have g3 := m_onDn (d := d + 1) R he
  have g4 := s_bitCount (d := d + 1) (σ := σ) (onA_lt A (e + 1) b2)
  have g5 := m_fits (d := d + 1) R hh he
  by_cases q0 : A 11 h = 0
  · rw [if_neg (by simp [q0])] at hC
    have p1 : σ.1 61 (nI h).toNatClampNeg < 0 := by rw [hp]; exact (place_lt0 (by omega)).mpr q0
    cases q1 : fitsA A h e with
    | false =>
      rw [q1, if_pos rfl] at hC
      rw [q1] at g5
      obtain ⟨e1, e2⟩ := hangC_no hC (by decide)
      rw [e1, e2]
      exact ⟨σ, p_X10_hangs_0_3 g1 (by decide) g2 (by decide) g3 g4 o p1 g5 rfl (by decide), R, Fr.rf σ, rfl, rfl⟩
    | true =>
      rw [q1, if_neg (by decide)] at hC
      rw [q1] at g5
      by_cases q2 : pop (onA A (e + 1)) < 2
      · rw [if_pos q2] at hC
        unfold hangR hangT
        rw [hC, if_pos rfl, if_pos rfl, tn (by omega), tn (by omega)]
        have hs := R.set11n hh (W.put hh he q0 q1 q2)
        have e1 : nI (e + 1) - nI 1 = nI e := nI_pred e
        rw [e1] at hs
        refine ⟨hq_sI σ 61 h (nI e), ?_, hs, (Fr.rf σ).sI rfl, sI_slot (by omega), sI_slot (by omega)⟩
        have := p_X10_hangs_0_8 (d := d + 2) (σ := σ) (l1 := nI h) (l2 := nI e) g1 (by decide) g2 (by decide) g3 g4 o p1 g5 (by decide) (by rw [nI_eq (by omega) (by omega)]; omega) (by decide) o
        rw [ch, nplus] at this
        exact this
      · rw [if_neg q2] at hC
        obtain ⟨e1, e2⟩ := hangC_no hC (by decide)
        rw [e1, e2]
        exact ⟨σ, p_X10_hangs_0_5 g1 (by decide) g2 (by decide) g3 g4 o p1 g5 (by decide) (by congr 1; omega) (by decide), R, Fr.rf σ, rfl, rfl⟩
  · rw [if_pos q0] at hC
    obtain ⟨e1, e2⟩ := hangC_no hC (by decide)
    rw [e1, e2]
    exact ⟨σ, p_X10_hangs_0_9 g1 (by decide) g2 (by decide) g3 g4 o (by rw [hp]; exact fun z => q0 ((place_lt0 (by omega)).mp z)) (by decide), R, Fr.rf σ, rfl, rfl⟩
/-- take -/
def takeC (A : TA) (x : Int32) : Nat := if inr x (A 1 0) then (if A 11 x.toInt.toNat = 0 then 2 else 0) else 1
def takeR (A : TA) (x : Int32) : Int32 := if takeC A x = 0 then nI (A 11 x.toInt.toNat - 1) else nI 0 - nI (takeC A x)
def takeT (A : TA) (x : Int32) : TA := if takeC A x = 0 then setA A 11 x.toInt.toNat 0 else A
theorem takeT_eq (A : TA) (x : Int32) : takeT A x = if takeC A x = 0 then setA A 11 x.toInt.toNat 0 else A := rfl
theorem takeC_no {x : Int32} {k : Nat} (h : takeC A x = k) (hk : k ≠ 0) : takeR A x = nI 0 - nI k ∧ takeT A x = A := by
  unfold takeR takeT
  rw [h, if_neg hk, if_neg hk]
  exact ⟨rfl, rfl⟩
theorem s_tryTake (R : Rc A σ) (x : Int32) : ∃ τ, hq_c 103 (d + 3) [.ref 5, .int x] σ (some (.int (takeR A x))) τ ∧ Rc (takeT A x) τ ∧ Fr [(11, 0), (17, 0)] σ τ := by
  have W := R.1
  have b1 := W.1
  have b2 := W.2.1
  have g1 := s_isHinge (d := d + 1) R x
  cases c1 : inr x (A 1 0) with
  | false =>
    rw [c1] at g1
    obtain ⟨e1, e2⟩ := takeC_no (A := A) (x := x) (k := 1) (by unfold takeC; rw [c1]; rfl) (by decide)
    rw [e1, e2]
    exact ⟨σ, p_X8_tryTake_0_1 g1 rfl, R, Fr.rf σ⟩
  | true =>
  rw [c1] at g1
  obtain ⟨h, hh, rfl⟩ := inr_of c1
  have ch : (nI h).toNatClampNeg = h := clamp (by omega)
  have o : vp_in (nI h) 12 := vin (by omega) (by decide)
  have hp : σ.1 17 (nI h).toNatClampNeg = nI (A 11 h) - nI 1 := by rw [ch]; exact (R.2.2.2.2.1 h hh).2.2.2.2.2
  have w := (W.2.2.2.1 h hh).2.2.2.2.2.2.1
  have hC : takeC A (nI h) = if A 11 h = 0 then 2 else 0 := by unfold takeC; rw [c1, if_pos rfl, tn (by omega)]
  by_cases q0 : A 11 h = 0
  · rw [if_pos q0] at hC
    obtain ⟨e1, e2⟩ := takeC_no hC (by decide)
    rw [e1, e2]
    exact ⟨σ, p_X8_tryTake_0_2 g1 (by decide) o (by rw [hp, q0]; decide), R, Fr.rf σ⟩
  · rw [if_neg q0] at hC
    obtain ⟨τ, t1, t2, t3⟩ := s_unhang (d := d) W.bd R.2 hh
    unfold takeR takeT
    rw [hC, if_pos rfl, if_pos rfl, tn (by omega)]
    refine ⟨τ, ?_, ⟨W.take h, t2⟩, t3⟩
    have := p_X8_tryTake_0_3 (d := d + 2) (σ := σ) (l1 := nI h) g1 (by decide) o (by
      rw [hp]
      intro z
      have z2 : nI (A 11 h) - nI 1 = nI 0 - nI 1 := z
      exact q0 ((place_eq (by omega) (by decide)).mp z2)) t1
    rw [hp, pk_sub (by omega)] at this
    exact this
theorem m_takesDown (R : Rm 61 A σ) (x : Int32) : ∃ τ, hq_c 216 (d + 3) [.ref 52, .int x] σ (some (.int (takeR A x))) τ ∧ Rm 61 (takeT A x) τ ∧ Fr [(61, 0)] σ τ ∧ τ.1 61 48 = σ.1 61 48 ∧ τ.1 61 49 = σ.1 61 49 := by
  have W := R.1
  have b1 := W.1
  have b2 := W.2.1
  have g1 := m_isHingen (d := d) R x
  cases c1 : inr x (A 1 0) with
  | false =>
    rw [c1] at g1
    obtain ⟨e1, e2⟩ := takeC_no (A := A) (x := x) (k := 1) (by unfold takeC; rw [c1]; rfl) (by decide)
    rw [e1, e2]
    exact ⟨σ, p_X10_takesDown_0_1 g1 rfl, R, Fr.rf σ, rfl, rfl⟩
  | true =>
  rw [c1] at g1
  obtain ⟨h, hh, rfl⟩ := inr_of c1
  have ch : (nI h).toNatClampNeg = h := clamp (by omega)
  have o : vp_in (nI h) 50 := vin (by omega) (by decide)
  have hp : σ.1 61 (nI h).toNatClampNeg = nI (A 11 h) - nI 1 := by rw [ch]; exact (R.2.2.2.2.2.1 h hh).1
  have w := (W.2.2.2.1 h hh).2.2.2.2.2.2.1
  have hC : takeC A (nI h) = if A 11 h = 0 then 2 else 0 := by unfold takeC; rw [c1, if_pos rfl, tn (by omega)]
  have hs := R.set11n hh (W.take h)
  have e0 : nI 0 - nI 1 = -1 := by decide
  rw [e0] at hs
  by_cases q0 : A 11 h = 0
  · rw [if_pos q0] at hC
    obtain ⟨e1, e2⟩ := takeC_no hC (by decide)
    rw [e1, e2]
    have hA : setA A 11 h 0 = A := by
      funext a b
      unfold setA
      split
      · rename_i z1
        split
        · rename_i z2; rw [z1, z2, q0]
        · rfl
      · rfl
    rw [hA] at hs
    refine ⟨_, p_X10_takesDown_0_2 g1 (by decide) o o (by rw [hp]; exact (place_lt0 (by omega)).mpr q0), ?_, (Fr.rf σ).sI rfl, ?_, ?_⟩
    · rw [ch]; exact hs
    · rw [ch]; exact sI_slot (by omega)
    · rw [ch]; exact sI_slot (by omega)
  · rw [if_neg q0] at hC
    unfold takeR takeT
    rw [hC, if_pos rfl, if_pos rfl, tn (by omega)]
    refine ⟨hq_sI σ 61 h (-1), ?_, hs, (Fr.rf σ).sI rfl, sI_slot (by omega), sI_slot (by omega)⟩
    have := p_X10_takesDown_0_3 (d := d + 2) (σ := σ) (l1 := nI h) g1 (by decide) o o (by rw [hp]; exact fun z => q0 ((place_lt0 (by omega)).mp z))
    rw [hp, pk_sub (by omega), ch] at this
    exact this
theorem Wf.takeT (W : Wf A) (x : Int32) : Wf (takeT A x) := by
  rw [takeT_eq]
  split
  · exact W.take _
  · exact W
/-- oil -/
def oilC (A : TA) (x n : Int32) : Bool := inr x (A 1 0) && inb n 1 9
def oilR (A : TA) (x n : Int32) : Int32 := if oilC A x n then nI (max (A 10 x.toInt.toNat) n.toInt.toNat) else nI 0 - nI 1
def oilT (A : TA) (x n : Int32) : TA := if oilC A x n then setA A 10 x.toInt.toNat (max (A 10 x.toInt.toNat) n.toInt.toNat) else A
theorem maxv {a b : Nat} (ha : a < 2 ^ 31) (hb : b < 2 ^ 31) : (if nI a < nI b then nI b else nI a) = nI (max a b) := by
  by_cases h : a < b
  · rw [if_pos (nlt h hb), Nat.max_eq_right (by omega)]
  · rw [if_neg (nI_nlt (by omega) (by omega)), Nat.max_eq_left (by omega)]
theorem s_tryOil (R : Rc A σ) (x n : Int32) : ∃ τ, hq_c 104 (d + 2) [.ref 5, .int x, .int n] σ (some (.int (oilR A x n))) τ ∧ Rc (oilT A x n) τ ∧ Fr [(16, 0)] σ τ := by
  have W := R.1
  have b2 := W.2.1
  have g1 := s_isHinge (d := d) R x
  have no : oilC A x n = false → oilR A x n = -1 ∧ oilT A x n = A := fun h => by unfold oilR oilT; rw [h]; exact ⟨rfl, rfl⟩
  cases c1 : inr x (A 1 0) with
  | false =>
    rw [c1] at g1
    obtain ⟨e1, e2⟩ := no (by unfold oilC; rw [c1]; rfl)
    rw [e1, e2]
    exact ⟨σ, p_X8_tryOil_0_1 g1 rfl, R, Fr.rf σ⟩
  | true =>
  rw [c1] at g1
  by_cases c2 : n < nI 1
  · obtain ⟨e1, e2⟩ := no (by unfold oilC inb; rw [c1]; rw [lt_nI (by decide)] at c2; simp; omega)
    rw [e1, e2]
    exact ⟨σ, p_X8_tryOil_0_2 g1 (by decide) c2, R, Fr.rf σ⟩
  by_cases c3 : nI 9 < n
  · obtain ⟨e1, e2⟩ := no (by unfold oilC inb; rw [c1]; rw [nI_ltx (by decide)] at c3; simp; omega)
    rw [e1, e2]
    exact ⟨σ, p_X8_tryOil_0_3 g1 (by decide) c2 c3, R, Fr.rf σ⟩
  have c4 : inb n 1 9 = true := by
    unfold inb
    rw [lt_nI (by decide)] at c2
    rw [nI_ltx (by decide)] at c3
    simp; omega
  obtain ⟨h, hh, rfl⟩ := inr_of c1
  obtain ⟨m, m1, m2, rfl⟩ := inb_of c4
  have ch : (nI h).toNatClampNeg = h := clamp (by omega)
  have o : vp_in (nI h) 12 := vin (by omega) (by decide)
  have ho : σ.1 16 h = nI (A 10 h) := (R.2.2.2.2.1 h hh).2.2.2.2.1
  have w := (W.2.2.2.1 h hh).2.2.2.2.2.1
  unfold oilR oilT oilC
  rw [c1, c4, if_pos (by decide), if_pos (by decide), tn (by omega), tn (by omega)]
  refine ⟨hq_sI σ 16 h (nI (max (A 10 h) m)), ?_, ⟨W.set10 (by omega), Rx.set10 R.2⟩, (Fr.rf σ).sI rfl⟩
  have := p_X8_tryOil_0_4 (d := d + 1) (σ := σ) (l1 := nI h) (l2 := nI m) g1 (by decide) c2 c3 o o o
  rw [ch, sI_eq, ho, maxv (by omega) (by omega)] at this
  exact this
theorem m_oils (R : Rm 61 A σ) (x n : Int32) : ∃ τ, hq_c 217 (d + 3) [.ref 52, .int x, .int n] σ (some (.int (oilR A x n))) τ ∧ Rm 61 (oilT A x n) τ ∧ Fr [(61, 0)] σ τ ∧ τ.1 61 48 = σ.1 61 48 ∧ τ.1 61 49 = σ.1 61 49 := by
  have W := R.1
  have b2 := W.2.1
  have g1 := m_isHingen (d := d) R x
  have g2 := m_inb (d := d + 1) (σ := σ) n (a := 1) (b := 9) (by decide) (by decide)
  have no : oilC A x n = false → oilR A x n = -1 ∧ oilT A x n = A := fun h => by unfold oilR oilT; rw [h]; exact ⟨rfl, rfl⟩
  cases c1 : inr x (A 1 0) with
  | false =>
    rw [c1] at g1
    obtain ⟨e1, e2⟩ := no (by unfold oilC; rw [c1]; rfl)
    rw [e1, e2]
    exact ⟨σ, p_X10_oils_0_1 g1 rfl, R, Fr.rf σ, rfl, rfl⟩
  | true =>
  rw [c1] at g1
  cases c4 : inb n 1 9 with
  | false =>
    rw [c4] at g2
    obtain ⟨e1, e2⟩ := no (by unfold oilC; rw [c4]; simp)
    rw [e1, e2]
    exact ⟨σ, p_X10_oils_0_2 g1 (by decide) g2 rfl, R, Fr.rf σ, rfl, rfl⟩
  | true =>
  rw [c4] at g2
  obtain ⟨h, hh, rfl⟩ := inr_of c1
  obtain ⟨m, m1, m2, rfl⟩ := inb_of c4
  have ch : (nI 36 + nI h).toNatClampNeg = 36 + h := by rw [nplus]; exact clamp (by omega)
  have o : vp_in (nI 36 + nI h) 50 := by rw [nplus]; exact vin (by omega) (by decide)
  have ho : σ.1 61 (36 + h) = nI (A 10 h) := (R.2.2.2.2.2.1 h hh).2.2.2
  have w := (W.2.2.2.1 h hh).2.2.2.2.2.1
  unfold oilR oilT oilC
  rw [c1, c4, if_pos (by decide), if_pos (by decide), tn (by omega), tn (by omega)]
  refine ⟨hq_sI σ 61 (36 + h) (nI (max (A 10 h) m)), ?_, R.set10n hh (W.set10 (by omega)), (Fr.rf σ).sI rfl, sI_slot (by omega), sI_slot (by omega)⟩
  have := p_X10_oils_0_3 (d := d + 2) (σ := σ) (l1 := nI h) (l2 := nI m) g1 (by decide) g2 (by decide) o o o
  rw [ch, sI_eq, ho, maxv (by omega) (by omega)] at this
  exact this
end MU
