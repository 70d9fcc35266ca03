/-! Where a thief gets to; what is kept. -/
theorem sset_mono {b c : Nat} {f : Nat → Nat} : ∀ {m : Nat}, (∀ j, b.testBit j = true → c.testBit j = true) → sset b f m ≤ sset c f m
  | 0, _ => Nat.le_refl _
  | m + 1, h => by
    have ih := sset_mono (f := f) (m := m) h
    unfold sset
    cases hb : b.testBit m with
    | false => simp; omega
    | true => rw [h m hb]; simp; omega
theorem sset_strict {b c : Nat} : ∀ {m : Nat}, (∀ j, b.testBit j = true → c.testBit j = true) → (∃ j, j < m ∧ b.testBit j = false ∧ c.testBit j = true) → sset b (fun _ => 1) m < sset c (fun _ => 1) m
  | 0, _, ⟨j, hj, _⟩ => absurd hj (Nat.not_lt_zero j)
  | m + 1, h, ⟨j, hj, h1, h2⟩ => by
    have mo := sset_mono (f := fun _ => 1) (m := m) h
    unfold sset
    by_cases e : j = m
    · subst e
      rw [h1, h2]
      simp; omega
    · have ih := sset_strict (m := m) h ⟨j, by omega, h1, h2⟩
      cases hb : b.testBit m with
      | false => simp; omega
      | true => rw [h m hb]; simp; omega
theorem sub_ne {b c : Nat} (hb : b < 4096) (hc : c < 4096) (h : ∀ j, b.testBit j = true → c.testBit j = true) (hn : b ≠ c) : pop b < pop c := by
  refine sset_strict h ?_
  apply Classical.byContradiction
  intro hx
  apply hn
  apply Nat.eq_of_testBit_eq
  intro j
  by_cases hj : j < 12
  · cases e1 : b.testBit j with
    | true => rw [h j e1]
    | false =>
      cases e2 : c.testBit j with
      | false => rfl
      | true => exact absurd ⟨j, hj, e1, e2⟩ hx
  · have p : (2 : Nat) ^ 12 ≤ 2 ^ j := Nat.pow_le_pow_right (by decide) (by omega)
    rw [Nat.testBit_lt_two_pow (Nat.lt_of_lt_of_le hb p), Nat.testBit_lt_two_pow (Nat.lt_of_lt_of_le hc p)]
def endsA (A : TA) (e : Nat) : Nat := 2 ^ A 2 e ||| 2 ^ A 3 e
def stp (A : TA) (s e b : Nat) : Nat := if s.testBit e then b else if b.testBit (A 2 e) || b.testBit (A 3 e) then b ||| endsA A e else b
def swp (A : TA) (s : Nat) : Nat → Nat → Nat
  | 0, b => b
  | m + 1, b => stp A s m (swp A s m b)
def itr (A : TA) (s : Nat) : Nat → Nat → Nat
  | 0, b => b
  | n + 1, b => swp A s (A 0 0) (itr A s n b)
def reachA (A : TA) (s r : Nat) : Nat := itr A s 8 (2 ^ r)
section RE
variable {d : Nat} {σ : hq_St} {A : TA} {s : Nat}
theorem ends_lt (W : Wf A) {e : Nat} (he : e < A 0 0) : endsA A e < 256 := by
  have w := W.2.2.1 e he
  exact Nat.or_lt_two_pow (n := 8) (Nat.pow_lt_pow_right (by decide) w.1) (Nat.pow_lt_pow_right (by decide) w.2.1)
theorem stp_lt (W : Wf A) {e b : Nat} (he : e < A 0 0) (hb : b < 256) : stp A s e b < 256 := by
  unfold stp
  split
  · exact hb
  · split
    · exact Nat.or_lt_two_pow (n := 8) hb (ends_lt W he)
    · exact hb
theorem stp_sub {e b j : Nat} (h : b.testBit j = true) : (stp A s e b).testBit j = true := by
  unfold stp
  split
  · exact h
  · split
    · rw [Nat.testBit_or, h]; rfl
    · exact h
theorem swp_lt (W : Wf A) {b : Nat} (hb : b < 256) : ∀ {m : Nat}, m ≤ A 0 0 → swp A s m b < 256
  | 0, _ => hb
  | m + 1, h => stp_lt W (by omega) (swp_lt W hb (m := m) (by omega))
theorem swp_sub {b j : Nat} (h : b.testBit j = true) : ∀ {m : Nat}, (swp A s m b).testBit j = true
  | 0 => h
  | m + 1 => stp_sub (swp_sub h (m := m))
theorem itr_lt (W : Wf A) {b : Nat} (hb : b < 256) : ∀ {n : Nat}, itr A s n b < 256
  | 0 => hb
  | n + 1 => swp_lt W (itr_lt W hb (n := n)) (Nat.le_refl _)
theorem itr_stay {b k : Nat} (h : itr A s (k + 1) b = itr A s k b) : ∀ {n : Nat}, k ≤ n → itr A s n b = itr A s k b := by
  intro n hn
  induction hn with
  | refl => rfl
  | step _ ih =>
    show swp A s (A 0 0) (itr A s _ b) = _
    rw [ih]
    exact h
/-- the first round that changes nothing -/
theorem itr_fix (W : Wf A) {b : Nat} (hb : b < 256) (hp : 1 ≤ pop b) : ∃ k, k ≤ 7 ∧ itr A s (k + 1) b = itr A s k b ∧ ∀ j, j < k → itr A s (j + 1) b ≠ itr A s j b := by
  obtain ⟨k, hk, hl⟩ := pk_least (fun k => itr A s (k + 1) b = itr A s k b ∨ k = 8) ⟨8, Or.inr rfl⟩
  have gr : ∀ j, j ≤ k → 1 + j ≤ pop (itr A s j b) := by
    intro j
    induction j with
    | zero => intro _; exact hp
    | succ j ih =>
      intro hj
      have h1 := ih (by omega)
      have hne : itr A s (j + 1) b ≠ itr A s j b := fun q => hl j (by omega) (Or.inl q)
      have h2 := itr_lt (s := s) W hb (n := j)
      have h3 := itr_lt (s := s) W hb (n := j + 1)
      have := sub_ne (b := itr A s j b) (c := itr A s (j + 1) b) (by omega) (by omega) (fun i hi => swp_sub hi) (fun q => hne q.symm)
      omega
  have p8 : ∀ x, x < 256 → pop x ≤ 8 := by
    intro x hx
    have e : ∀ m, sset x (fun _ => 1) (8 + m) ≤ 8 := by
      intro m
      induction m with
      | zero =>
        have := sset_le (n := x) (c := 1) (f := fun _ => 1) (m := 8) (fun _ _ => Nat.le_refl _)
        omega
      | succ m ih =>
        have p : (2 : Nat) ^ 8 ≤ 2 ^ (8 + m) := Nat.pow_le_pow_right (by decide) (by omega)
        rw [← Nat.add_assoc, sset_0 (Nat.testBit_lt_two_pow (Nat.lt_of_lt_of_le hx p))]
        exact ih
    exact e 4
  have hk7 : k ≤ 7 := by
    apply Classical.byContradiction
    intro q
    have := gr k (Nat.le_refl _)
    have h4 := p8 _ (itr_lt (s := s) W hb (n := k))
    omega
  refine ⟨k, hk7, ?_, fun j hj q => hl j hj (Or.inl q)⟩
  rcases hk with h | h
  · exact h
  · omega
theorem and_ends {b a c : Nat} : (b &&& (2 ^ a ||| 2 ^ c)) = 0 ↔ (b.testBit a || b.testBit c) = false := by
  constructor
  · intro h
    have h1 : (b &&& (2 ^ a ||| 2 ^ c)).testBit a = false := by rw [h]; simp
    have h2 : (b &&& (2 ^ a ||| 2 ^ c)).testBit c = false := by rw [h]; simp
    rw [Nat.testBit_and, Nat.testBit_or, Nat.testBit_two_pow_self] at h1 h2
    simp at h1 h2
    rw [h1, h2]; rfl
  · intro h
    rw [Bool.or_eq_false_iff] at h
    apply Nat.eq_of_testBit_eq
    intro i
    rw [Nat.testBit_and, Nat.testBit_or, Nat.testBit_two_pow, Nat.testBit_two_pow]
    by_cases e1 : a = i
    · subst e1; simp [h.1]
    · by_cases e2 : c = i
      · subst e2; simp [h.2]
      · simp [e1, e2]
theorem stp_shut {e b : Nat} (h : s.testBit e = true) : stp A s e b = b := by simp [stp, h]
theorem stp_no {e b : Nat} (h : s.testBit e = false) (h2 : (b.testBit (A 2 e) || b.testBit (A 3 e)) = false) : stp A s e b = b := by simp [stp, h, h2]
theorem stp_yes {e b : Nat} (h : s.testBit e = false) (h2 : (b.testBit (A 2 e) || b.testBit (A 3 e)) = true) : stp A s e b = b ||| endsA A e := by simp [stp, h, h2]
theorem pop_two : ∀ r, r < 8 → pop (2 ^ r) = 1 := by decide +kernel
theorem s_reach (R : Rc A σ) {r : Nat} (hr : r < 8) : hq_c 94 (d + 1) [.ref 5, .int (nI r), .int (nI s)] σ (some (.int (nI (reachA A s r)))) σ := by
  obtain ⟨W, hN, -, hD, hH, -⟩ := R
  have b1 := W.1
  have hb0 : (2 : Nat) ^ r < 256 := Nat.pow_lt_pow_right (by decide) hr (n := 8)
  obtain ⟨k, hk7, hfix, hne⟩ := itr_fix (s := s) W hb0 (by rw [pop_two r hr]; exact Nat.le_refl _)
  have hres : reachA A s r = itr A s k (2 ^ r) := itr_stay hfix (by omega)
  -- one sweep
  have inner : ∀ {v : Option Value} {τ : hq_St} (b j : Nat), b < 256 → hq_m 94 (d + 1) v τ 13 [some (.ref 5), none, some (.int (nI s)), some (.int (nI (swp A s (A 0 0) b))), some (.int (nI j)), some (.int (nI b)), some (.int (nI (A 0 0)))] [] σ → hq_m 94 (d + 1) v τ 13 [some (.ref 5), none, some (.int (nI s)), some (.int (nI b)), some (.int (nI j)), some (.int (nI b)), some (.int (nI 0))] [] σ := by
    intro v τ b j hb hend
    refine hq_m.for (fun e => [some (.ref 5), none, some (.int (nI s)), some (.int (nI (swp A s e b))), some (.int (nI j)), some (.int (nI b)), some (.int (nI e))]) (fun _ => σ) (A 0 0) ?_ hend 0 (Nat.zero_le _)
    intro e he ih
    have c1 : nI e < σ.1 5 13 := by rw [hN]; exact nlt he (by omega)
    have ce : (nI e).toNatClampNeg = e := clamp (by omega)
    have o : vp_in (nI e) 8 := vin (by omega) (by decide)
    have hx := swp_lt (s := s) W hb (m := e) (by omega)
    have hen := ends_lt W he
    have e1 : swp A s (e + 1) b = stp A s e (swp A s e b) := rfl
    rw [e1] at ih
    have hand : (nI (swp A s e b) &&& σ.1 8 (nI e).toNatClampNeg) = nI (swp A s e b &&& endsA A e) := by rw [ce, (hD e he).2.2.1, fa_and]; rfl
    cases hs : s.testBit e with
    | true =>
      rw [stp_shut hs] at ih
      refine p_X8_reach_13_3 c1 (hn_bit1 (by omega) hs) ?_
      rw [nplus]
      exact ih
    | false =>
      cases h2 : ((swp A s e b).testBit (A 2 e) || (swp A s e b).testBit (A 3 e)) with
      | false =>
        rw [stp_no hs h2] at ih
        refine p_X8_reach_13_1 c1 (hn_bit0 (by omega) hs) o ?_ ?_
        · rw [hand]
          unfold endsA
          rw [and_ends.mpr h2]; rfl
        · rw [nplus]
          exact ih
      | true =>
        rw [stp_yes hs h2] at ih
        refine p_X8_reach_13_2 c1 (hn_bit0 (by omega) hs) o ?_ o ?_
        · rw [hand]
          have : swp A s e b &&& endsA A e ≠ 0 := fun q => by unfold endsA at q; rw [and_ends.mp q] at h2; cases h2
          have hle : swp A s e b &&& endsA A e ≤ swp A s e b := Nat.and_le_left
          exact nI_ne0 (by omega) (by omega)
        · rw [ce, (hD e he).2.2.1, orr, nplus]
          exact ih
  refine p_X8_reach_0_1 ?_
  rw [hn_shl r (by omega), hres]
  refine hq_m.for (fun j => [some (.ref 5), none, some (.int (nI s)), some (.int (nI (itr A s j (2 ^ r)))), some (.int (nI j)), none, none]) (fun _ => σ) k ?_ ?_ 0 (Nat.zero_le _)
  · intro j hj ih
    have hx := itr_lt (s := s) W hb0 (n := j)
    have hx1 := itr_lt (s := s) W hb0 (n := j + 1)
    refine p_X8_reach_6_1 (nlt (by omega) (by decide)) (inner _ j hx ?_)
    refine p_X8_reach_13_5 (by rw [hN]; exact nI_nlt (Nat.le_refl _) (by omega)) ?_ ?_
    · have := hne j hj
      rw [nI_eq (by show itr A s (j + 1) (2 ^ r) < _; omega) (by omega)]
      exact this
    · rw [nplus]
      exact ih
  · have hx := itr_lt (s := s) W hb0 (n := k)
    refine p_X8_reach_6_1 (nlt (by omega) (by decide)) (inner _ k hx ?_)
    have e : swp A s (A 0 0) (itr A s k (2 ^ r)) = itr A s k (2 ^ r) := hfix
    rw [e]
    exact p_X8_reach_13_4 (by rw [hN]; exact nI_nlt (Nat.le_refl _) (by omega)) rfl
/-- secrets of the rooms 1 .. j that p has -/
def ssec (A : TA) (p : Nat → Bool) : Nat → Nat
  | 0 => 0
  | j + 1 => ssec A p j + (if p (j + 1) then A 12 (j + 1) else 0)
theorem s_secretsOf (R : Rc A σ) {x : Int32} {p : Nat → Bool} (hx : ∀ r, r < 8 → ((x &&& (nI 1 <<< (nI r &&& 31))) = 0 ↔ p r = false)) : hq_c 95 (d + 1) [.ref 5, .int x] σ (some (.int (nI (ssec A p 7)))) σ := by
  obtain ⟨W, -, -, -, -, hS⟩ := R
  refine p_X8_secretsOf_0_1 ?_
  refine hq_m.for (fun j => [some (.ref 5), some (.int x), some (.int (nI (ssec A p j))), some (.int (nI (j + 1)))]) (fun _ => σ) 7 ?_ ?_ 0 (Nat.zero_le _)
  · intro j hj ih
    have c1 : nI (j + 1) < nI 8 := nlt (by omega) (by decide)
    have cj : (nI (j + 1)).toNatClampNeg = j + 1 := clamp (by omega)
    cases hp : p (j + 1) with
    | false =>
      have e : ssec A p (j + 1) = ssec A p j + 0 := by simp [ssec, hp]
      rw [e] at ih
      refine p_X8_secretsOf_4_1 c1 ((hx _ (by omega)).mpr hp) ?_
      rw [nplus, nplus]
      exact ih
    | true =>
      have e : ssec A p (j + 1) = ssec A p j + A 12 (j + 1) := by simp [ssec, hp]
      rw [e] at ih
      refine p_X8_secretsOf_4_2 c1 (fun q => by rw [(hx _ (by omega)).mp q] at hp; cases hp) (vin (by omega) (by decide)) ?_
      rw [cj, hS (j + 1) (by omega) (by omega), nplus, nplus]
      exact ih
  · exact p_X8_secretsOf_4_3 (nI_nlt (by decide) (by decide))
/-- what is kept, some doors being shut -/
def keptA (A : TA) (s : Nat) : Nat := ssec A (fun r => !(reachA A s 0).testBit r) 7
theorem bit_not {n r : Nat} (hr : r < 31) : ((nI n ^^^ (-1 : Int32)) &&& (nI 1 <<< (nI r &&& 31))) = 0 ↔ n.testBit r = true := by
  rw [hn_shl r hr]
  have e : (nI n ^^^ (-1 : Int32)) &&& nI (2 ^ r) = nI ((n &&& 2 ^ r) ^^^ 2 ^ r) := by
    apply Int32.toBitVec_inj.1
    show (BitVec.ofNat 32 n ^^^ (-1 : Int32).toBitVec) &&& BitVec.ofNat 32 (2 ^ r) = BitVec.ofNat 32 ((n &&& 2 ^ r) ^^^ 2 ^ r)
    apply BitVec.eq_of_getLsbD_eq
    intro i hi
    have hm : (-1 : Int32).toBitVec.getLsbD i = true := by
      have : ∀ j : Fin 32, (-1 : Int32).toBitVec.getLsbD j.val = true := by decide +kernel
      exact this ⟨i, hi⟩
    rw [BitVec.getLsbD_and, BitVec.getLsbD_xor, hm]
    simp only [BitVec.getLsbD_ofNat, hi, decide_true, Bool.true_and, Nat.testBit_xor, Nat.testBit_and]
    cases n.testBit i <;> cases (2 ^ r).testBit i <;> rfl
  rw [e]
  have h2 : (2 : Nat) ^ r < 2 ^ 31 := Nat.pow_lt_pow_right (by decide) hr
  have hlt : (n &&& 2 ^ r) ^^^ 2 ^ r < 2 ^ 31 := Nat.xor_lt_two_pow (Nat.lt_of_le_of_lt Nat.and_le_right h2) h2
  have key : (n &&& 2 ^ r) ^^^ 2 ^ r = 0 ↔ n.testBit r = true := by
    constructor
    · intro h
      have h1 : ((n &&& 2 ^ r) ^^^ 2 ^ r).testBit r = false := by rw [h]; simp
      rw [Nat.testBit_xor, Nat.testBit_and, Nat.testBit_two_pow_self] at h1
      simpa using h1
    · intro h
      apply Nat.eq_of_testBit_eq
      intro i
      rw [Nat.testBit_xor, Nat.testBit_and, Nat.testBit_two_pow]
      by_cases e1 : r = i
      · subst e1; simp [h]
      · simp [e1]
  constructor
  · intro h
    apply key.mp
    apply Classical.byContradiction
    intro z
    exact nI_ne0 (by omega) hlt h
  · intro h
    rw [key.mpr h]; rfl
theorem s_secretsKept (R : Rc A σ) : hq_c 96 (d + 2) [.ref 5, .int (nI s)] σ (some (.int (nI (keptA A s)))) σ := by
  refine p_X8_secretsKept_0_1 (s_reach R (by decide)) (s_secretsOf R (fun r hr => ?_))
  rw [bit_not (by omega)]
  cases (reachA A s 0).testBit r <;> simp
end RE
