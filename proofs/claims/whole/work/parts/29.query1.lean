/-! Queries: shut, thief, kept, lasts, rent, rusts. -/
def shutL (A : TA) : List Int64 := [(nI (shut0 A)).toInt64, (nI (sbits (fun e => stateA A e == 1) (A 0 0))).toInt64, (nI (sbits (fun e => stateA A e == 0) (A 0 0))).toInt64]
section Q1
variable {d : Nat} {σ : hq_St} {A : TA}
theorem stateA_2 (A : TA) (e : Nat) : (stateA A e == 2) = shutF A (h0 A) e (onA A (e + 1)) := by
  unfold stateA
  cases shutF A (h0 A) e (onA A (e + 1))
  · simp; split <;> simp
  · rfl
theorem stateA_le (A : TA) (e : Nat) : stateA A e ≤ 2 := by unfold stateA; split; omega; split <;> omega
theorem shut0_st (A : TA) : shut0 A = sbits (fun e => stateA A e == 2) (A 0 0) := sbits_congr fun e _ => (stateA_2 A e).symm
theorem sb256 {p : Nat → Bool} (b1 : A 0 0 ≤ 8) : sbits p (A 0 0) < 256 := Nat.lt_of_lt_of_le (sbits_lt _ _) (Nat.pow_le_pow_right (by decide) b1 : 2 ^ A 0 0 ≤ 2 ^ 8)
theorem s_shut (R : Rc A σ) : ∃ τ, hq_c 127 (d + 5) [.ref 0] σ (some (.int (nI (pop (shut0 A))))) τ ∧ cR (shutL A) τ ∧ Fr [(3, 2), (4, 0)] σ τ := by
  have W := R.1
  have b1 := W.1
  have s8 := shut0_lt W
  have lp : ∀ v τ, hq_m 127 (d + 5) v τ 8 [some (.ref 0), some (.int (nI (sbits (fun e => stateA A e == 2) (A 0 0)))), some (.int (nI (sbits (fun e => stateA A e == 1) (A 0 0)))), some (.int (nI (sbits (fun e => stateA A e == 0) (A 0 0)))), some (.int (nI (A 0 0))), none] [] σ → hq_m 127 (d + 5) v τ 8 [some (.ref 0), some (.int (nI 0)), some (.int (nI 0)), some (.int (nI 0)), some (.int (nI 0)), none] [] σ := by
    intro v τ k
    refine hq_m.for (fun j => [some (.ref 0), some (.int (nI (sbits (fun e => stateA A e == 2) j))), some (.int (nI (sbits (fun e => stateA A e == 1) j))), some (.int (nI (sbits (fun e => stateA A e == 0) j))), some (.int (nI j)), none]) (fun _ => σ) (A 0 0) ?_ k 0 (Nat.zero_le _)
    intro j hj ih
    have c1 : nI j < σ.1 5 13 := by rw [R.2.1]; exact nlt hj (by omega)
    have g := s_stateOf (d := d) R hj
    have hle := stateA_le A j
    have h3 : stateA A j = 2 ∨ stateA A j = 1 ∨ stateA A j = 0 := by omega
    rcases h3 with h | h | h
    · rw [h] at g
      rw [sbits_1 (p := fun e => stateA A e == 2) (by simp [h]), sbits_0 (p := fun e => stateA A e == 1) (by simp [h]), sbits_0 (p := fun e => stateA A e == 0) (by simp [h])] at ih
      refine p_X9_shut_8_4 c1 g rfl (by decide) (by decide) ?_
      rw [hn_shl j (by omega), orr, orr, orr, Nat.or_zero, Nat.or_zero, nplus]
      exact ih
    · rw [h] at g
      rw [sbits_0 (p := fun e => stateA A e == 2) (by simp [h]), sbits_1 (p := fun e => stateA A e == 1) (by simp [h]), sbits_0 (p := fun e => stateA A e == 0) (by simp [h])] at ih
      refine p_X9_shut_8_6 c1 g (by decide) rfl (by decide) ?_
      rw [hn_shl j (by omega), orr, orr, orr, Nat.or_zero, Nat.or_zero, nplus]
      exact ih
    · rw [h] at g
      rw [sbits_0 (p := fun e => stateA A e == 2) (by simp [h]), sbits_0 (p := fun e => stateA A e == 1) (by simp [h]), sbits_1 (p := fun e => stateA A e == 0) (by simp [h])] at ih
      refine p_X9_shut_8_7 c1 g (by decide) (by decide) rfl ?_
      rw [hn_shl j (by omega), orr, orr, orr, Nat.or_zero, Nat.or_zero, nplus]
      exact ih
  obtain ⟨σ1, a1, a2, a3⟩ := s_clear (d := d + 3) (σ := σ)
  obtain ⟨σ2, b1', b2, b3⟩ := s_add (d := d + 3) a2 (by decide) (nI (sbits (fun e => stateA A e == 2) (A 0 0))).toInt64
  obtain ⟨σ3, c1, c2, c3⟩ := s_add (d := d + 3) b2 (by simp) (nI (sbits (fun e => stateA A e == 1) (A 0 0))).toInt64
  obtain ⟨σ4, d1, d2, d3⟩ := s_add (d := d + 3) c2 (by simp) (nI (sbits (fun e => stateA A e == 0) (A 0 0))).toInt64
  refine ⟨σ4, ?_, ?_, ((a3.tr b3).tr c3).tr d3⟩
  · rw [shut0_st] at s8 ⊢
    exact p_X9_shut_0_1 (lp _ _ (p_X9_shut_8_9 (by rw [R.2.1]; exact nI_nlt (Nat.le_refl _) (by omega)) a1 b1' c1 d1 (s_bitCount (d := d + 3) (by omega))))
  · unfold shutL
    rw [shut0_st]
    exact d2
theorem lean_eq (A : TA) (b1 : A 0 0 ≤ 8) : ((((nI 1 <<< (nI (A 0 0) &&& 31)) - nI 1) &&& (nI (shut0 A) ^^^ (-1 : Int32))) &&& (nI (sbits (fun e => stateA A e == 1) (A 0 0)) ^^^ (-1 : Int32))) = nI (sbits (fun e => stateA A e == 0) (A 0 0)) := by
  rw [hn_shl _ (by omega), pk_sub (Nat.two_pow_pos _), and_not, and_not]
  congr 1
  apply Nat.eq_of_testBit_eq
  intro i
  rw [ndiff_test, ndiff_test, Nat.testBit_two_pow_sub_one, shut0_st, sbits_test, sbits_test, sbits_test]
  by_cases hi : i < A 0 0
  · have := stateA_le A i
    have h3 : stateA A i = 2 ∨ stateA A i = 1 ∨ stateA A i = 0 := by omega
    rcases h3 with h | h | h <;> simp [hi, h]
  · simp [hi]
theorem mR.th {L : List Int64} {v : Int32} (h : mR L σ) : mR L (hq_sI σ 52 0 v) := mR.dep.fr frth (by decide) h
theorem m_shut (R : Rm 61 A σ) : ∃ τ, hq_c 232 (d + 6) [.ref 52] σ (some (.int (nI (pop (shut0 A))))) τ ∧ mR (shutL A) τ ∧ Fr [(52, 1), (52, 2), (53, 0)] σ τ := by
  have W := R.1
  have b1 := W.1
  have s8 := shut0_lt W
  have f0 : Fr [(52, 1)] σ (hq_sI σ 52 0 (nI 0)) := frth
  have R0 : Rm 61 A (hq_sI σ 52 0 (nI 0)) := Rm.depn.fr f0 (by decide) R
  have lp : ∀ v τ, hq_m 232 (d + 6) v τ 12 [some (.ref 52), some (.int (nI (shut0 A))), some (.int (nI (sbits (fun e => stateA A e == 1) (A 0 0)))), some (.int (nI (A 0 0)))] [] (hq_sI σ 52 0 (nI 0)) → hq_m 232 (d + 6) v τ 12 [some (.ref 52), some (.int (nI (shut0 A))), some (.int (nI 0)), some (.int (nI 0))] [] (hq_sI σ 52 0 (nI 0)) := by
    intro v τ k
    refine hq_m.for (fun j => [some (.ref 52), some (.int (nI (shut0 A))), some (.int (nI (sbits (fun e => stateA A e == 1) j))), some (.int (nI j))]) (fun _ => hq_sI σ 52 0 (nI 0)) (A 0 0) ?_ k 0 (Nat.zero_le _)
    intro j hj ih
    have c1 : nI j < (hq_sI σ 52 0 (nI 0)).1 52 3 := by rw [R0.2.1]; exact nlt hj (by omega)
    have g := m_stateOf (d := d) R0 hj
    have hle := stateA_le A j
    by_cases h : stateA A j = 1
    · rw [h] at g
      rw [sbits_1 (by simp [h])] at ih
      refine p_X10_shut_12_1 c1 g rfl ?_
      rw [hn_shl j (by omega), orr, nplus]
      exact ih
    · rw [sbits_0 (by simp [h])] at ih
      refine p_X10_shut_12_2 c1 g (by rw [nI_eq (by omega) (by decide)]; exact h) ?_
      rw [orr, Nat.or_zero, nplus]
      exact ih
  have f1 : Fr [(52, 2), (53, 0)] (hq_sI σ 52 0 (nI 0)) (hq_sI (hq_sI σ 52 0 (nI 0)) 52 1 (nI 0)) := (Fr.rf _).sI rfl
  obtain ⟨σ2, b1', b2, b3⟩ := m_enters (d := d + 4) (mR.nil (σ := hq_sI σ 52 0 (nI 0))) (by decide) (nI (shut0 A)).toInt64
  obtain ⟨σ3, c1, c2, c3⟩ := m_enters (d := d + 4) b2 (by simp) (nI (sbits (fun e => stateA A e == 1) (A 0 0))).toInt64
  obtain ⟨σ4, d1, d2, d3⟩ := m_enters (d := d + 4) c2 (by simp) (nI (sbits (fun e => stateA A e == 0) (A 0 0))).toInt64
  have e3 : σ3.1 52 3 = nI (A 0 0) := by rw [c3.i rfl, b3.i rfl, f1.i rfl]; exact R0.2.1
  refine ⟨σ4, ?_, d2, (f0.up (by decide)).tr (((f1.up (by decide)).tr (b3.up (by decide))).tr ((c3.up (by decide)).tr (d3.up (by decide))))⟩
  refine p_X10_shut_0_1 (m_shutOfn (d := d) R0) (lp _ _ (p_X10_shut_12_3 (by rw [R0.2.1]; exact nI_nlt (Nat.le_refl _) (by omega)) b1' c1 ?_ (s_bitCount (d := d + 4) (by omega))))
  rw [e3, lean_eq A b1]
  exact d1
/-- thief -/
def thiefR (A : TA) (x : Int32) : Int32 := if inb x 0 7 then nI (reachA A (shut0 A) x.toInt.toNat) else -1
def thiefL (A : TA) (x : Int32) (L : List Int64) : List Int64 := if inb x 0 7 then [(nI (ssec A (fun r => (reachA A (shut0 A) x.toInt.toNat).testBit r) 7)).toInt64] else L
theorem reach_lt (W : Wf A) {s r : Nat} (hr : r < 8) : reachA A s r < 256 := itr_lt W (Nat.pow_lt_pow_right (by decide) hr : 2 ^ r < 2 ^ 8)
theorem s_secN (R : Rc A σ) {n : Nat} : hq_c 95 (d + 1) [.ref 5, .int (nI n)] σ (some (.int (nI (ssec A (fun r => n.testBit r) 7)))) σ := s_secretsOf R (fun r hr => hn_bit (by omega))
theorem m_secN (R : Rm 61 A σ) {n : Nat} (hn : n < 2 ^ 31) : hq_c 196 (d + 2) [.ref 52, .int (nI n)] σ (some (.int (nI (ssec A (fun r => n.testBit r) 7)))) σ := m_secretsOfn R (fun r hr => hn_has hn (by omega))
theorem s_thief {L : List Int64} (R : Rc A σ) (hL : cR L σ) (x : Int32) : ∃ τ, hq_c 128 (d + 5) [.ref 0, .int x] σ (some (.int (thiefR A x))) τ ∧ cR (thiefL A x L) τ ∧ Fr [(3, 2), (4, 0)] σ τ := by
  have g := s_isRoom (d := d + 3) (σ := σ) x
  unfold thiefR thiefL
  cases c : inb x 0 7 with
  | false =>
    rw [c] at g
    exact ⟨σ, p_X9_thief_0_1 g rfl, hL, Fr.rf σ⟩
  | true =>
    rw [c] at g
    obtain ⟨r, r1, r2, rfl⟩ := inb_of c
    rw [if_pos rfl, if_pos rfl, tn (by omega)]
    obtain ⟨σ1, a1, a2, a3⟩ := s_clear (d := d + 3) (σ := σ)
    have R1 := Rc.dep.fr a3 (by decide) R
    obtain ⟨σ2, b1, b2, b3⟩ := s_add (d := d + 3) a2 (by decide) (nI (ssec A (fun r' => (reachA A (shut0 A) r).testBit r') 7)).toInt64
    exact ⟨σ2, p_X9_thief_0_2 g (by decide) (s_shutNow (d := d) R) (s_reach (d := d + 3) R (by omega)) a1 (s_secN (d := d + 3) R1) b1, b2, a3.tr b3⟩
theorem m_thief {L : List Int64} (R : Rm 61 A σ) (hL : mR L σ) (x : Int32) : ∃ τ, hq_c 233 (d + 6) [.ref 52, .int x] σ (some (.int (thiefR A x))) τ ∧ mR (thiefL A x L) τ ∧ Fr [(52, 1), (52, 2), (53, 0)] σ τ := by
  have f0 : Fr [(52, 1)] σ (hq_sI σ 52 0 (nI 0)) := frth
  have R0 : Rm 61 A (hq_sI σ 52 0 (nI 0)) := Rm.depn.fr f0 (by decide) R
  have g := m_isRoom (d := d + 3) (σ := hq_sI σ 52 0 (nI 0)) x
  have s8 := shut0_lt R.1
  unfold thiefR thiefL
  cases c : inb x 0 7 with
  | false =>
    rw [c] at g
    exact ⟨_, p_X10_thief_0_1 g rfl, hL.th, f0.up (by decide)⟩
  | true =>
    rw [c] at g
    obtain ⟨r, r1, r2, rfl⟩ := inb_of c
    rw [if_pos rfl, if_pos rfl, tn (by omega)]
    have f1 : Fr [(52, 2), (53, 0)] (hq_sI σ 52 0 (nI 0)) (hq_sI (hq_sI σ 52 0 (nI 0)) 52 1 (nI 0)) := (Fr.rf _).sI rfl
    have R1 := Rm.depn.fr f1 (by decide) R0
    have hr := reach_lt (s := shut0 A) R.1 (r := r) (by omega)
    obtain ⟨σ2, b1, b2, b3⟩ := m_enters (d := d + 4) (mR.nil (σ := hq_sI σ 52 0 (nI 0))) (by decide) (nI (ssec A (fun r' => (reachA A (shut0 A) r).testBit r') 7)).toInt64
    exact ⟨σ2, p_X10_thief_0_2 g (by decide) (m_shutOfn (d := d) R0) (m_reachedn (d := d + 3) R0 (by omega) (by omega)) (m_secN (d := d + 3) R1 (by omega)) b1, b2, (f0.up (by decide)).tr ((f1.up (by decide)).tr (b3.up (by decide)))⟩
/-- kept -/
def keptN (A : TA) : Nat := ndiff 254 (reachA A (shut0 A) 0)
theorem ndiff_le {n m k : Nat} (h : n < 2 ^ k) : ndiff n m < 2 ^ k := by
  unfold ndiff
  exact Nat.xor_lt_two_pow h (Nat.lt_of_le_of_lt Nat.and_le_left h)
theorem s_kept (R : Rc A σ) : ∃ τ, hq_c 129 (d + 5) [.ref 0] σ (some (.int (nI (ssec A (fun r => (keptN A).testBit r) 7)))) τ ∧ cR [(nI (keptN A)).toInt64] τ ∧ Fr [(3, 2), (4, 0)] σ τ := by
  obtain ⟨σ1, a1, a2, a3⟩ := s_clear (d := d + 3) (σ := σ)
  obtain ⟨σ2, b1, b2, b3⟩ := s_add (d := d + 3) a2 (by decide) (nI 254 &&& (nI (reachA A (shut0 A) 0) ^^^ (-1 : Int32))).toInt64
  have R2 := Rc.dep.fr b3 (by decide) (Rc.dep.fr a3 (by decide) R)
  rw [and_not] at b2
  refine ⟨σ2, p_X9_kept_0_1 (s_shutNow (d := d) R) (s_reach (d := d + 3) R (by decide)) a1 b1 ?_, b2, a3.tr b3⟩
  rw [and_not]
  exact s_secN (d := d + 3) R2
theorem m_kept (R : Rm 61 A σ) : ∃ τ, hq_c 234 (d + 6) [.ref 52] σ (some (.int (nI (ssec A (fun r => (keptN A).testBit r) 7)))) τ ∧ mR [(nI (keptN A)).toInt64] τ ∧ Fr [(52, 1), (52, 2), (53, 0)] σ τ := by
  have f0 : Fr [(52, 1)] σ (hq_sI σ 52 0 (nI 0)) := frth
  have R0 : Rm 61 A (hq_sI σ 52 0 (nI 0)) := Rm.depn.fr f0 (by decide) R
  have s8 := shut0_lt R.1
  have f1 : Fr [(52, 2), (53, 0)] (hq_sI σ 52 0 (nI 0)) (hq_sI (hq_sI σ 52 0 (nI 0)) 52 1 (nI 0)) := (Fr.rf _).sI rfl
  obtain ⟨σ2, b1, b2, b3⟩ := m_enters (d := d + 4) (mR.nil (σ := hq_sI σ 52 0 (nI 0))) (by decide) (nI 254 &&& (nI (reachA A (shut0 A) 0) ^^^ (-1 : Int32))).toInt64
  have R2 := Rm.depn.fr b3 (by decide) (Rm.depn.fr f1 (by decide) R0)
  have hk : keptN A < 256 := ndiff_le (k := 8) (by decide)
  rw [and_not] at b2
  refine ⟨σ2, p_X10_kept_0_1 (m_shutOfn (d := d) R0) (m_reachedn (d := d + 3) R0 (by omega) (by decide)) b1 ?_, b2, (f0.up (by decide)).tr ((f1.up (by decide)).tr (b3.up (by decide)))⟩
  rw [and_not]
  exact m_secN (d := d + 3) R2 (show keptN A < _ by omega)
/-- the first k of 0 .. 60 -/
def fst60 (p : Nat → Bool) : Nat → Nat → Int32
  | 0, _ => -2
  | n + 1, k => if p k then nI k else fst60 p n (k + 1)
theorem fst60_congr {p q : Nat → Bool} : ∀ (n k : Nat), (∀ j, k ≤ j → j < k + n → p j = q j) → fst60 p n k = fst60 q n k
  | 0, _, _ => rfl
  | n + 1, k, h => by
    unfold fst60
    rw [h k (by omega) (by omega), fst60_congr n (k + 1) (fun j h1 h2 => h j (by omega) (by omega))]
theorem m_puts {t y : Int32} (h : mT A t y σ) : ∃ τ, hq_c 211 (d + 1) [.ref 61, .ref 65] σ none τ ∧ Rm 65 A τ ∧ τ.1 65 48 = t ∧ τ.1 65 49 = y ∧ Fr [(65, 0)] σ τ := by
  obtain ⟨τ, w, q1, f⟩ := hq_w.for (x := 211) (d := d + 1) (i := 2) (fun j => [some (.ref 61), some (.ref 65), some (.int (nI j))]) (fun j ρ => (∀ k, k < j → ρ.1 65 k = σ.1 61 k) ∧ Fr [(65, 0)] σ ρ) 50 (fun j hj ρ ⟨q1, f⟩ => by
    have cj : (nI j).toNatClampNeg = j := clamp (by omega)
    refine ⟨hq_sI ρ 65 j (σ.1 61 j), fun v τ k => p_X10_puts_2_1 (nlt hj (by decide)) (vin hj (by decide)) (vin hj (by decide)) ?_, fun k hk => ?_, f.sI rfl⟩
    · rw [cj, f.i rfl, nplus]; exact k
    · rw [sI_at, if_pos rfl]
      by_cases z : k = j
      · rw [if_pos z, z]
      · rw [if_neg z]; exact q1 k (by omega)) (σ := σ) ⟨fun k hk => by omega, Fr.rf σ⟩
  obtain ⟨⟨W, r1, r2, rD, rH, rR, rS⟩, ht, hy⟩ := h
  have b2 := W.2.1
  refine ⟨τ, p_X10_puts_0_1 (w _ _ (p_X10_puts_2_2 (by decide))), ⟨W, (f.i rfl).trans r1, (f.i rfl).trans r2, fun k hk => ?_, fun k hk => ?_, fun k hk => ?_, fun r z1 z2 => (f.i rfl).trans (rS r z1 z2)⟩, (q1 48 (by decide)).trans ht, (q1 49 (by decide)).trans hy, f⟩
  · obtain ⟨a1, a2, a3, a4⟩ := rD k hk
    exact ⟨(f.i rfl).trans a1, (f.i rfl).trans a2, (f.i rfl).trans a3, (f.i rfl).trans a4⟩
  · obtain ⟨a1, a2⟩ := rH k hk
    exact ⟨(f.i rfl).trans a1, (f.i rfl).trans a2⟩
  · obtain ⟨a1, a2, a3, a4⟩ := rR k hk
    exact ⟨(q1 _ (by omega)).trans a1, (q1 _ (by omega)).trans a2, (q1 _ (by omega)).trans a3, (q1 _ (by omega)).trans a4⟩
/-- towns that differ in rust and oil alone -/
theorem daysA_ne {a b : Nat} (h9 : a ≠ 9) (h10 : a ≠ 10) : ∀ n, daysA A n a b = A a b
  | 0 => rfl
  | n + 1 => by
    show dayF (daysA A n) _ a b = _
    unfold dayF
    rw [if_neg h10, if_neg h9]
    exact daysA_ne h9 h10 n
theorem stp_congr {B : TA} (h2 : ∀ e, B 2 e = A 2 e) (h3 : ∀ e, B 3 e = A 3 e) (s e b : Nat) : stp B s e b = stp A s e b := by
  unfold stp endsA
  rw [h2, h3]
theorem swp_congr {B : TA} (h2 : ∀ e, B 2 e = A 2 e) (h3 : ∀ e, B 3 e = A 3 e) (s : Nat) : ∀ m b, swp B s m b = swp A s m b
  | 0, _ => rfl
  | m + 1, b => by
    unfold swp
    rw [swp_congr h2 h3 s m b, stp_congr h2 h3]
theorem reach_congr {B : TA} (h0 : B 0 0 = A 0 0) (h2 : ∀ e, B 2 e = A 2 e) (h3 : ∀ e, B 3 e = A 3 e) (s r : Nat) : reachA B s r = reachA A s r := by
  unfold reachA
  have : ∀ n b, itr B s n b = itr A s n b := by
    intro n
    induction n with
    | zero => intro b; rfl
    | succ n ih => intro b; unfold itr; rw [ih, h0, swp_congr h2 h3]
  exact this _ _
theorem sset_congr' {n : Nat} {f g : Nat → Nat} : ∀ {m : Nat}, (∀ h, h < m → n.testBit h = true → f h = g h) → sset n f m = sset n g m
  | 0, _ => rfl
  | m + 1, h => by
    unfold sset
    rw [sset_congr' (fun k hk => h k (by omega))]
    split
    · rename_i q; rw [h m (by omega) q]
    · rfl
theorem days9 (W : Wf A) {h : Nat} (hh : h < A 1 0) (hp : A 11 h ≠ 0) : ∀ k, daysA A k 10 h = A 10 h - k ∧ daysA A k 9 h = min 9 (A 9 h + (k - A 10 h))
  | 0 => by
    have := (W.2.2.2.1 h hh).2.2.2.2.1
    exact ⟨rfl, by show A 9 h = _; omega⟩
  | k + 1 => by
    obtain ⟨i1, i2⟩ := days9 W hh hp k
    have e11 : daysA A k 11 h = A 11 h := daysA_ne (by decide) (by decide) k
    have e1 : daysA A k 1 0 = A 1 0 := daysA_ne (by decide) (by decide) k
    constructor
    · show (if h < daysA A k 1 0 ∧ daysA A k 11 h ≠ 0 then daysA A k 10 h - 1 else daysA A k 10 h) = _
      rw [e1, e11, if_pos ⟨hh, hp⟩, i1]; omega
    · show (if h < daysA A k 1 0 ∧ daysA A k 11 h ≠ 0 ∧ daysA A k 10 h = 0 then min 9 (daysA A k 9 h + 1) else daysA A k 9 h) = _
      rw [e1, e11, i1, i2]
      by_cases q : A 10 h - k = 0
      · rw [if_pos ⟨hh, hp, q⟩]; omega
      · rw [if_neg (fun z => q z.2.2)]; omega
theorem onA_days (A : TA) (k p : Nat) : onA (daysA A k) p = onA A p := by
  unfold onA
  have e1 : daysA A k 1 0 = A 1 0 := daysA_ne (by decide) (by decide) k
  rw [e1]
  refine sbits_congr fun h _ => ?_
  have e11 : daysA A k 11 h = A 11 h := daysA_ne (by decide) (by decide) k
  rw [e11]
theorem shutF_days (W : Wf A) (k : Nat) {e : Nat} : shutF (daysA A k) (h0 (daysA A k)) e (onA (daysA A k) (e + 1)) = shutF A (hK A k true) e (onA A (e + 1)) := by
  have e1 : daysA A k 1 0 = A 1 0 := daysA_ne (by decide) (by decide) k
  have e5 : daysA A k 5 e = A 5 e := daysA_ne (by decide) (by decide) k
  unfold shutF
  rw [onA_days, e1, e5]
  congr 3
  refine sset_congr' fun h hh hb => ?_
  rw [onA_test] at hb
  have hp : A 11 h = e + 1 := by simp at hb; exact hb.2
  have e7 : daysA A k 7 h = A 7 h := daysA_ne (by decide) (by decide) k
  unfold h0 hK rustA
  rw [e7, (days9 W hh (by omega) k).2, if_pos rfl]
theorem shut_days (W : Wf A) (k : Nat) : shut0 (daysA A k) = shutK A k := by
  unfold shut0 shutK
  have e0 : daysA A k 0 0 = A 0 0 := daysA_ne (by decide) (by decide) k
  rw [e0]
  exact sbits_congr fun e _ => shutF_days W k
/-- lasts -/
def lastsR (A : TA) (x : Int32) : Int32 := if inb x 1 7 then fst60 (fun k => (reachA A (shutK A k) 0).testBit x.toInt.toNat) 61 0 else -1
theorem s_lasts (R : Rc A σ) (x : Int32) : hq_c 131 (d + 4) [.ref 0, .int x] σ (some (.int (lastsR A x))) σ := by
  have g := s_isInside (d := d + 2) (σ := σ) x
  unfold lastsR
  cases c : inb x 1 7 with
  | false =>
    rw [c] at g
    exact p_X9_lasts_0_1 g rfl
  | true =>
    rw [c] at g
    obtain ⟨r, r1, r2, rfl⟩ := inb_of c
    rw [if_pos rfl, tn (by omega)]
    refine p_X9_lasts_0_2 g (by decide) ?_
    have lp : ∀ n k, n + k = 61 → hq_m 131 (d + 4) (some (.int (fst60 (fun k => (reachA A (shutK A k) 0).testBit r) n k))) σ 7 [some (.ref 0), some (.int (nI r)), some (.int (nI k))] [] σ := by
      intro n
      induction n with
      | zero => intro k hk; exact p_X9_lasts_7_1 (nlt (by omega) (by omega))
      | succ n ih =>
        intro k hk
        have c1 : ¬ nI 60 < nI k := nI_nlt (by omega) (by decide)
        unfold fst60
        cases hb : (reachA A (shutK A k) 0).testBit r with
        | true =>
          rw [if_pos rfl]
          exact p_X9_lasts_7_3 c1 (s_shutAfter (d := d) R (by omega)) (s_reach (d := d + 2) R (by decide)) (hn_bit1 (by omega) hb)
        | false =>
          rw [if_neg (by decide)]
          refine p_X9_lasts_7_2 c1 (s_shutAfter (d := d) R (by omega)) (s_reach (d := d + 2) R (by decide)) (hn_bit0 (by omega) hb) ?_
          rw [nplus]
          exact ih (k + 1) (by omega)
    exact lp 61 0 rfl
theorem m_lasts {t y : Int32} (h : mT A t y σ) (x : Int32) : ∃ τ, hq_c 239 (d + 6) [.ref 52, .int x] σ (some (.int (lastsR A x))) τ ∧ Fr [(52, 1), (65, 0)] σ τ := by
  have f0 : Fr [(52, 1)] σ (hq_sI σ 52 0 (nI 0)) := frth
  have h0 : mT A t y (hq_sI σ 52 0 (nI 0)) := h.th
  have g := m_isInside (d := d + 3) (σ := hq_sI σ 52 0 (nI 0)) x
  have W := h.1.1
  unfold lastsR
  cases c : inb x 1 7 with
  | false =>
    rw [c] at g
    exact ⟨_, p_X10_lasts_0_1 g rfl, f0.up (by decide)⟩
  | true =>
    rw [c] at g
    obtain ⟨r, r1, r2, rfl⟩ := inb_of c
    rw [if_pos rfl, tn (by omega)]
    obtain ⟨σ1, a1, a2, a3, a4, a5⟩ := m_puts (d := d + 4) h0
    have lp : ∀ n k ρ, n + k = 61 → Rm 65 (daysA A k) ρ → ∃ τ, hq_m 239 (d + 6) (some (.int (fst60 (fun k => (reachA A (shutK A k) 0).testBit r) n k))) τ 15 [some (.ref 52), some (.int (nI r)), some (.int (nI k))] [] ρ ∧ Fr [(65, 0)] ρ τ := by
      intro n
      induction n with
      | zero => intro k ρ hk _; exact ⟨ρ, p_X10_lasts_15_1 (nlt (by omega) (by omega)), Fr.rf ρ⟩
      | succ n ih =>
        intro k ρ hk R
        have c1 : ¬ nI 60 < nI k := nI_nlt (by omega) (by decide)
        have s8 := shut0_lt R.1
        have er : reachA (daysA A k) (shut0 (daysA A k)) 0 = reachA A (shutK A k) 0 := by
          rw [shut_days W, reach_congr (daysA_ne (by decide) (by decide) k) (fun e => daysA_ne (by decide) (by decide) k) (fun e => daysA_ne (by decide) (by decide) k)]
        have g1 := m_shutOft (d := d) R
        have g2 := m_reachedt (d := d + 3) (s := shut0 (daysA A k)) R (by omega) (r := 0) (by decide)
        rw [er] at g2
        have hr := reach_lt (s := shutK A k) W (r := 0) (by decide)
        have g3 := m_hasN (d := d + 4) (σ := ρ) (n := reachA A (shutK A k) 0) (k := r) (by omega) (by omega)
        unfold fst60
        cases hb : (reachA A (shutK A k) 0).testBit r with
        | true =>
          rw [hb] at g3
          rw [if_pos rfl]
          exact ⟨ρ, p_X10_lasts_15_3 c1 g1 g2 g3 (by decide), Fr.rf ρ⟩
        | false =>
          rw [hb] at g3
          rw [if_neg (by decide)]
          obtain ⟨ρ1, u1, u2, -, -, u3⟩ := m_dayGoest (d := d + 4) R rfl rfl
          obtain ⟨τ, v1, v2⟩ := ih (k + 1) ρ1 (by omega) u2
          refine ⟨τ, p_X10_lasts_15_2 c1 g1 g2 g3 rfl u1 ?_, u3.tr v2⟩
          rw [nplus]
          exact v1
    obtain ⟨τ, v1, v2⟩ := lp 61 0 σ1 rfl a2
    exact ⟨τ, p_X10_lasts_0_2 g (by decide) a1 v1, ((f0.up (by decide)).tr (a5.up (by decide))).tr (v2.up (by decide))⟩
/-- rent -/
def rentS (A : TA) (n : Nat) : Nat → Nat
  | 0 => 0
  | e + 1 => rentS A n e + n * sset (onA A (e + 1)) (A 8) (A 1 0)
def rentL (A : TA) (n : Nat) : Nat → List Int64
  | 0 => []
  | e + 1 => rentL A n e ++ [(nI (n * sset (onA A (e + 1)) (A 8) (A 1 0))).toInt64]
theorem rentL_len (A : TA) (n : Nat) : ∀ e, (rentL A n e).length = e
  | 0 => rfl
  | e + 1 => by simp [rentL, rentL_len A n e]
theorem s_rent (R : Rc A σ) {n : Nat} (hn : n ≤ 99) : ∃ τ, hq_c 132 (d + 2) [.ref 0, .int (nI n)] σ (some (.int (nI (rentS A n (A 0 0))))) τ ∧ cR (rentL A n (A 0 0)) τ ∧ Fr [(3, 2), (4, 0)] σ τ := by
  have b1 := R.1.1
  obtain ⟨σ1, a1, a2, a3⟩ := s_clear (d := d) (σ := σ)
  obtain ⟨τ, w, q1, f⟩ := hq_w.for (x := 132) (d := d + 2) (i := 14) (fun j => [some (.ref 0), some (.int (nI n)), some (.int (nI (rentS A n j))), some (.int (nI j)), none]) (fun j ρ => cR (rentL A n j) ρ ∧ Fr [(3, 2), (4, 0)] σ ρ) (A 0 0) (fun j hj ρ ⟨q, f⟩ => by
    have R1 := Rc.dep.fr f (by decide) R
    have cj : (nI j).toNatClampNeg = j := clamp (by omega)
    have g := s_feesOf (d := d) R1 (n := onA A (j + 1))
    obtain ⟨ρ1, u1, u2, u3⟩ := s_add (d := d) q (by rw [rentL_len]; omega) (nI (n * sset (onA A (j + 1)) (A 8) (A 1 0))).toInt64
    refine ⟨ρ1, fun v τ k => p_X9_rent_14_1 (by rw [R1.2.1]; exact nlt hj (by omega)) (vin (by omega) (by decide)) (by rw [cj, (R1.2.2.2.1 j hj).2.2.2.2.2]; exact g) (by rw [pk_mul]; exact u1) ?_, u2, f.tr u3⟩
    rw [pk_mul, nplus, nplus]
    exact k) (σ := σ1) ⟨a2, a3⟩
  have R1 := Rc.dep.fr f (by decide) R
  exact ⟨τ, p_X9_rent_0_3 (by rw [ltz, nI_toInt (by omega)]; omega) (nI_nlt hn (by decide)) a1 (w _ _ (p_X9_rent_14_2 (by rw [R1.2.1]; exact nI_nlt (Nat.le_refl _) (by omega)))), q1, f⟩
theorem m_rent (R : Rm 61 A σ) {n : Nat} (hn : n ≤ 99) : ∃ τ, hq_c 241 (d + 3) [.ref 52, .int (nI n)] σ (some (.int (nI (rentS A n (A 0 0))))) τ ∧ mR (rentL A n (A 0 0)) τ ∧ Fr [(52, 1), (52, 2), (53, 0)] σ τ := by
  have b1 := R.1.1
  have f0 : Fr [(52, 1), (52, 2), (53, 0)] σ (hq_sI (hq_sI σ 52 0 (nI 0)) 52 1 (nI 0)) := ((Fr.rf σ).sI rfl).sI rfl
  have gi := m_inb (d := d + 1) (σ := hq_sI σ 52 0 (nI 0)) (nI n) (a := 0) (b := 99) (by decide) (by decide)
  have hi : inb (nI n) 0 99 = true := by unfold inb; rw [nI_toInt (by omega)]; simp; omega
  rw [hi] at gi
  obtain ⟨τ, w, q1, f⟩ := hq_w.for (x := 241) (d := d + 3) (i := 18) (fun j => [some (.ref 52), some (.int (nI n)), some (.int (nI (rentS A n j))), some (.int (nI j)), none]) (fun j ρ => mR (rentL A n j) ρ ∧ Fr [(52, 1), (52, 2), (53, 0)] σ ρ) (A 0 0) (fun j hj ρ ⟨q, f⟩ => by
    have R1 := Rm.depn.fr f (by decide) R
    have g1 := m_onDn (d := d + 1) R1 hj
    have g := m_rentOf (d := d) R1 (n := onA A (j + 1)) (onA_lt A _ R.1.2.1)
    obtain ⟨ρ1, u1, u2, u3⟩ := m_enters (d := d + 1) q (by rw [rentL_len]; omega) (nI (n * sset (onA A (j + 1)) (A 8) (A 1 0))).toInt64
    refine ⟨ρ1, fun v τ k => p_X10_rent_18_1 (by rw [R1.2.1]; exact nlt hj (by omega)) g1 g (by rw [pk_mul]; exact u1) ?_, u2, f.tr (u3.up (by decide))⟩
    rw [pk_mul, nplus, nplus]
    exact k) (σ := hq_sI (hq_sI σ 52 0 (nI 0)) 52 1 (nI 0)) ⟨mR.nil, f0⟩
  have R1 := Rm.depn.fr f (by decide) R
  exact ⟨τ, p_X10_rent_0_2 gi (by decide) (w _ _ (p_X10_rent_18_2 (by rw [R1.2.1]; exact nI_nlt (Nat.le_refl _) (by omega)))), q1, f⟩
/-- rusts -/
def rustsR (A : TA) (x : Int32) : Int32 := if inr x (A 0 0) then (if pop (onA A (x.toInt.toNat + 1)) < 2 then -3 else fst60 (fun k => decide (sset (onA A (x.toInt.toNat + 1)) (hK A k false) (A 1 0) < A 5 x.toInt.toNat)) 61 0) else -1
theorem s_rusts (R : Rc A σ) (x : Int32) : hq_c 133 (d + 3) [.ref 0, .int x] σ (some (.int (rustsR A x))) σ := by
  have g := s_isDoor (d := d + 1) R x
  have W := R.1
  have b1 := W.1
  unfold rustsR
  cases c : inr x (A 0 0) with
  | false =>
    rw [c] at g
    exact p_X9_rusts_0_1 g rfl
  | true =>
    rw [c] at g
    obtain ⟨e, he, rfl⟩ := inr_of c
    rw [if_pos rfl, tn (by omega)]
    have ce : (nI e).toNatClampNeg = e := clamp (by omega)
    have o : vp_in (nI e) 8 := vin (by omega) (by decide)
    have hd := R.2.2.2.1 e he
    have hb := s_bitCount (d := d + 1) (σ := σ) (onA_lt A (e + 1) W.2.1)
    have hp := pop_le (onA A (e + 1))
    have hw := (W.2.2.1 e he).2.2.2.2
    by_cases q : pop (onA A (e + 1)) < 2
    · rw [if_pos q]
      exact p_X9_rusts_0_2 g (by decide) o (by rw [ce, hd.2.2.2.2.2]; exact hb) (nlt q (by decide))
    · rw [if_neg q]
      refine p_X9_rusts_0_3 g (by decide) o (by rw [ce, hd.2.2.2.2.2]; exact hb) (nI_nlt (by omega) (by omega)) ?_
      have lp : ∀ n k, n + k = 61 → hq_m 133 (d + 3) (some (.int (fst60 (fun k => decide (sset (onA A (e + 1)) (hK A k false) (A 1 0) < A 5 e)) n k))) σ 19 [some (.ref 0), some (.int (nI e)), some (.int (nI k))] [] σ := by
        intro n
        induction n with
        | zero => intro k hk; exact p_X9_rusts_19_1 (nlt (by omega) (by omega))
        | succ n ih =>
          intro k hk
          have c1 : ¬ nI 60 < nI k := nI_nlt (by omega) (by decide)
          have g2 := s_holdsAfter (d := d) R (n := onA A (e + 1)) (k := k) (by omega) false
          have hs := sum_lt W (hK_le W k false) (onA A (e + 1))
          unfold fst60
          by_cases q2 : sset (onA A (e + 1)) (hK A k false) (A 1 0) < A 5 e
          · rw [if_pos (by simpa using q2)]
            exact p_X9_rusts_19_2 c1 o (by rw [ce, hd.2.2.2.2.2]; exact g2) o (by rw [ce, hd.2.2.2.2.1]; exact nlt q2 (by omega))
          · rw [if_neg (by simpa using q2)]
            refine p_X9_rusts_19_3 c1 o (by rw [ce, hd.2.2.2.2.2]; exact g2) o (by rw [ce, hd.2.2.2.2.1]; exact nI_nlt (by omega) (by omega)) ?_
            rw [nplus]
            exact ih (k + 1) (by omega)
      exact lp 61 0 rfl
/-- no oil on a set -/
def dryF (A : TA) (S j : Nat) : TA := fun a b => if a = 10 then (if b < j ∧ S.testBit b = true then 0 else A 10 b) else A a b
theorem dryF0 (S : Nat) : dryF A S 0 = A := by
  funext a b
  unfold dryF
  split
  · rename_i h; rw [if_neg (by omega), h]
  · rfl
theorem dryF_no {S j : Nat} (h : S.testBit j = false) : dryF A S (j + 1) = dryF A S j := by
  funext a b
  unfold dryF
  by_cases e : b = j
  · subst e; simp [h]
  · have : b < j + 1 ↔ b < j := by omega
    simp only [this]
theorem dryF_yes {S j : Nat} (h : S.testBit j = true) : dryF A S (j + 1) = setA (dryF A S j) 10 j 0 := by
  funext a b
  unfold setA dryF
  by_cases e : b = j
  · subst e
    by_cases a1 : a = 10
    · simp [a1, h]
    · simp [a1]
  · have : b < j + 1 ↔ b < j := by omega
    simp only [this, if_neg e]
    simp
theorem Wf.dry (W : Wf A) (S : Nat) : ∀ j, Wf (dryF A S j)
  | 0 => by rw [dryF0]; exact W
  | j + 1 => by
    have ih := W.dry S j
    cases h : S.testBit j with
    | false => rw [dryF_no h]; exact ih
    | true => rw [dryF_yes h]; exact ih.set10 (by omega)
theorem m_rusts {t y : Int32} (h : mT A t y σ) (x : Int32) : ∃ τ, hq_c 242 (d + 6) [.ref 52, .int x] σ (some (.int (rustsR A x))) τ ∧ Fr [(52, 1), (65, 0)] σ τ := by
  have f0 : Fr [(52, 1)] σ (hq_sI σ 52 0 (nI 0)) := frth
  have h0' : mT A t y (hq_sI σ 52 0 (nI 0)) := h.th
  have g := m_isDoorn (d := d + 3) h0'.1 x
  have W := h.1.1
  have b1 := W.1
  have b2 := W.2.1
  unfold rustsR
  cases c : inr x (A 0 0) with
  | false =>
    rw [c] at g
    exact ⟨_, p_X10_rusts_0_1 g rfl, f0.up (by decide)⟩
  | true =>
    rw [c] at g
    obtain ⟨e, he, rfl⟩ := inr_of c
    rw [if_pos rfl, tn (by omega)]
    have on4 := onA_lt A (e + 1) W.2.1
    have g1 := m_onDn (d := d + 4) h0'.1 he
    have hb := s_bitCount (d := d + 4) (σ := hq_sI σ 52 0 (nI 0)) on4
    have hp := pop_le (onA A (e + 1))
    have hw := (W.2.2.1 e he).2.2.2.2
    by_cases q : pop (onA A (e + 1)) < 2
    · rw [if_pos q]
      exact ⟨_, p_X10_rusts_0_2 g (by decide) g1 hb (nlt q (by decide)), f0.up (by decide)⟩
    · rw [if_neg q]
      obtain ⟨σ1, a1, a2, a3, a4, a5⟩ := m_puts (d := d + 4) h0'
      -- the oil goes
      obtain ⟨σ2, w2, R2, f2⟩ := hq_w.for (x := 242) (d := d + 6) (i := 28) (fun j => [some (.ref 52), some (.int (nI e)), some (.int (nI (onA A (e + 1)))), some (.int (nI j))]) (fun j ρ => Rm 65 (dryF A (onA A (e + 1)) j) ρ ∧ Fr [(65, 0)] σ1 ρ) (A 1 0) (fun j hj ρ ⟨R, f⟩ => by
        have cj : (nI 36 + nI j).toNatClampNeg = 36 + j := by rw [nplus]; exact clamp (by omega)
        have o : vp_in (nI 36 + nI j) 50 := by rw [nplus]; exact vin (by omega) (by decide)
        have c1 : nI j < ρ.1 52 4 := by rw [R.2.2.1]; exact nlt (show j < A 1 0 from hj) (show A 1 0 < _ by omega)
        have gb := m_hasN (d := d + 4) (σ := ρ) (n := onA A (e + 1)) (k := j) (by omega) (by omega)
        cases hb : (onA A (e + 1)).testBit j with
        | false =>
          rw [hb] at gb
          refine ⟨hq_sI ρ 65 (36 + j) (ρ.1 65 (36 + j)), fun v τ k => p_X10_rusts_28_1 c1 gb rfl o o (by rw [cj, nplus]; exact k), ?_, f.sI rfl⟩
          rw [dryF_no hb]
          have hv : ρ.1 65 (36 + j) = nI (dryF A (onA A (e + 1)) j 10 j) := (R.2.2.2.2.2.1 j hj).2.2.2
          have hs : setA (dryF A (onA A (e + 1)) j) 10 j (dryF A (onA A (e + 1)) j 10 j) = dryF A (onA A (e + 1)) j := by
            funext a b
            unfold setA
            split
            · rename_i z1
              split
              · rename_i z2; rw [z1, z2]
              · rfl
            · rfl
          have := R.set10t (h := j) (v := dryF A (onA A (e + 1)) j 10 j) hj (by rw [hs]; exact R.1)
          rw [hs, ← hv] at this
          exact this
        | true =>
          rw [hb] at gb
          refine ⟨hq_sI ρ 65 (36 + j) (nI 0), fun v τ k => p_X10_rusts_28_2 c1 gb (by decide) o (by rw [cj, nplus]; exact k), ?_, f.sI rfl⟩
          rw [dryF_yes hb]
          exact R.set10t hj (R.1.set10 (by omega))) (σ := σ1) ⟨by rw [dryF0]; exact a2, Fr.rf σ1⟩
      have lp : ∀ n k ρ, n + k = 61 → Rm 65 (daysA (dryF A (onA A (e + 1)) (A 1 0)) k) ρ → ∃ τ, hq_m 242 (d + 6) (some (.int (fst60 (fun k => decide (sset (onA A (e + 1)) (hK A k false) (A 1 0) < A 5 e)) n k))) τ 54 [some (.ref 52), some (.int (nI e)), none, some (.int (nI k))] [] ρ ∧ Fr [(65, 0)] ρ τ := by
        intro n
        induction n with
        | zero => intro k ρ hk _; exact ⟨ρ, p_X10_rusts_54_1 (nlt (by omega) (by omega)), Fr.rf ρ⟩
        | succ n ih =>
          intro k ρ hk R
          have c1 : ¬ nI 60 < nI k := nI_nlt (by omega) (by decide)
          have W' := W.dry (onA A (e + 1)) (A 1 0)
          have e0 : daysA (dryF A (onA A (e + 1)) (A 1 0)) k 0 0 = A 0 0 := daysA_ne (by decide) (by decide) k
          have g2 := m_isShutt (d := d + 1) R (e := e) (by rw [e0]; exact he)
          have es : shutF (daysA (dryF A (onA A (e + 1)) (A 1 0)) k) (h0 (daysA (dryF A (onA A (e + 1)) (A 1 0)) k)) e (onA (daysA (dryF A (onA A (e + 1)) (A 1 0)) k) (e + 1)) = decide (A 5 e ≤ sset (onA A (e + 1)) (hK A k false) (A 1 0)) := by
            rw [shutF_days W' k]
            have eo : onA (dryF A (onA A (e + 1)) (A 1 0)) (e + 1) = onA A (e + 1) := rfl
            unfold shutF
            rw [eo]
            have p2 : pop (onA A (e + 1)) = 2 := by omega
            rw [p2]
            have : sset (onA A (e + 1)) (hK (dryF A (onA A (e + 1)) (A 1 0)) k true) (A 1 0) = sset (onA A (e + 1)) (hK A k false) (A 1 0) := by
              refine sset_congr' fun h hh hb => ?_
              show holdN (A 7 h) (min 9 (A 9 h + (k - (if h < A 1 0 ∧ (onA A (e + 1)).testBit h = true then 0 else A 10 h)))) = holdN (A 7 h) (min 9 (A 9 h + (k - 0)))
              rw [if_pos ⟨hh, hb⟩]
            show (decide (2 = 2) && decide (A 5 e ≤ sset (onA A (e + 1)) (hK (dryF A (onA A (e + 1)) (A 1 0)) k true) (A 1 0))) = _
            rw [this]; rfl
          rw [es] at g2
          unfold fst60
          by_cases q2 : sset (onA A (e + 1)) (hK A k false) (A 1 0) < A 5 e
          · rw [if_pos (by simpa using q2)]
            rw [decide_eq_false (by omega)] at g2
            exact ⟨ρ, p_X10_rusts_54_2 c1 g2 rfl, Fr.rf ρ⟩
          · rw [if_neg (by simpa using q2)]
            rw [decide_eq_true (by omega)] at g2
            obtain ⟨ρ1, u1, u2, -, -, u3⟩ := m_dayGoest (d := d + 4) R rfl rfl
            obtain ⟨τ, v1, v2⟩ := ih (k + 1) ρ1 (by omega) u2
            refine ⟨τ, p_X10_rusts_54_3 c1 g2 (by decide) u1 ?_, u3.tr v2⟩
            rw [nplus]
            exact v1
      obtain ⟨τ, v1, v2⟩ := lp 61 0 σ2 rfl R2
      refine ⟨τ, p_X10_rusts_0_3 g (by decide) g1 hb (nI_nlt (by omega) (by omega)) a1 (w2 _ _ (p_X10_rusts_28_3 ?_ v1)), ((f0.up (by decide)).tr (a5.up (by decide))).tr ((f2.up (by decide)).tr (v2.up (by decide)))⟩
      rw [R2.2.2.1]
      exact nI_nlt (Nat.le_refl _) (show A 1 0 < _ by omega)
end Q1
