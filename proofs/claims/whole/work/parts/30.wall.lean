/-! wall, guard -/
def oN : Option Nat → Int32
  | none => -1
  | some k => nI k
/-- the fewest doors, of as few the least -/
def few (p : Nat → Bool) : Nat → Option Nat
  | 0 => none
  | m + 1 => match few p m with
    | none => if p m then some m else none
    | some b => if p m && decide (pop m < pop b) then some m else some b
def dnw (p : Nat → Bool) : Nat → Nat → Nat
  | 0, f => f
  | m + 1, f => dnw p m (if decide (pop m ≤ pop f) && p m then m else f)
theorem few_some {p : Nat → Bool} : ∀ {n b : Nat}, few p n = some b → b < n ∧ p b = true ∧ ∀ c, c < n → p c = true → pop b < pop c ∨ (pop b = pop c ∧ b ≤ c)
  | 0, _, h => by cases h
  | m + 1, b, h => by
    unfold few at h
    cases hm : few p m with
    | none =>
      rw [hm] at h
      have hn : ∀ c, c < m → p c = false := by
        have : ∀ k, few p k = none → ∀ c, c < k → p c = false := by
          intro k
          induction k with
          | zero => intro _ c hc; omega
          | succ k ih =>
            intro hk c hc
            unfold few at hk
            cases hk2 : few p k with
            | none =>
              rw [hk2] at hk
              by_cases e : c = k
              · subst e
                cases hp : p c with
                | false => rfl
                | true => simp [hp] at hk
              · exact ih hk2 c (by omega)
            | some z =>
              rw [hk2] at hk
              dsimp only at hk
              split at hk <;> cases hk
        exact this m hm
      dsimp only at h
      split at h
      · rename_i hp
        cases h
        refine ⟨by omega, hp, fun c hc hpc => ?_⟩
        by_cases e : c = m
        · subst e; exact Or.inr ⟨rfl, Nat.le_refl _⟩
        · rw [hn c (by omega)] at hpc; cases hpc
      · cases h
    | some z =>
      rw [hm] at h
      obtain ⟨i1, i2, i3⟩ := few_some hm
      dsimp only at h
      split at h
      · rename_i hp
        rw [Bool.and_eq_true, decide_eq_true_eq] at hp
        cases h
        refine ⟨by omega, hp.1, fun c hc hpc => ?_⟩
        by_cases e : c = m
        · subst e; exact Or.inr ⟨rfl, Nat.le_refl _⟩
        · have := i3 c (by omega) hpc
          left; omega
      · rename_i hp
        cases h
        refine ⟨by omega, i2, fun c hc hpc => ?_⟩
        by_cases e : c = m
        · subst e
          rw [hpc] at hp
          simp at hp
          omega
        · exact i3 c (by omega) hpc
theorem few_ex {p : Nat → Bool} : ∀ {n c : Nat}, c < n → p c = true → ∃ b, few p n = some b
  | 0, _, h, _ => by omega
  | m + 1, c, h, hp => by
    unfold few
    cases hm : few p m with
    | none =>
      dsimp only
      by_cases e : c = m
      · subst e; rw [hp]; exact ⟨c, rfl⟩
      · obtain ⟨b, hb⟩ := few_ex (n := m) (c := c) (by omega) hp
        rw [hm] at hb; cases hb
    | some z =>
      dsimp only
      split
      · exact ⟨_, rfl⟩
      · exact ⟨_, rfl⟩
theorem dnw_best {p : Nat → Bool} {n : Nat} : ∀ {m f : Nat}, f < n → p f = true → m ≤ n → (∀ c, m ≤ c → c < n → p c = true → pop f < pop c ∨ (pop f = pop c ∧ f ≤ c)) → dnw p m f < n ∧ p (dnw p m f) = true ∧ ∀ c, c < n → p c = true → pop (dnw p m f) < pop c ∨ (pop (dnw p m f) = pop c ∧ dnw p m f ≤ c)
  | 0, f, h1, h2, _, h4 => ⟨h1, h2, fun c hc hp => h4 c (Nat.zero_le _) hc hp⟩
  | m + 1, f, h1, h2, h3, h4 => by
    unfold dnw
    split
    · rename_i q
      rw [Bool.and_eq_true, decide_eq_true_eq] at q
      refine dnw_best (by omega) q.2 (by omega) (fun c c1 c2 hp => ?_)
      by_cases e : c = m
      · subst e; exact Or.inr ⟨rfl, Nat.le_refl _⟩
      · have := h4 c (by omega) c2 hp
        have := q.1
        by_cases e2 : pop m < pop c
        · exact Or.inl e2
        · right; omega
    · rename_i q
      refine dnw_best h1 h2 (by omega) (fun c c1 c2 hp => ?_)
      by_cases e : c = m
      · subst e
        rw [hp] at q
        simp at q
        left; omega
      · exact h4 c (by omega) c2 hp
theorem dnw_few {p : Nat → Bool} {n : Nat} (h : p n = true) : few p (n + 1) = some (dnw p (n + 1) n) := by
  obtain ⟨b, hb⟩ := few_ex (p := p) (n := n + 1) (c := n) (by omega) h
  obtain ⟨a1, a2, a3⟩ := few_some hb
  have hd := dnw_best (p := p) (n := n + 1) (m := n + 1) (f := n) (by omega) h (Nat.le_refl _) (fun c c1 c2 _ => by omega)
  have x1 := a3 _ hd.1 hd.2.1
  have x2 := hd.2.2 b a1 a2
  rw [hb]
  congr 1
  omega
section WA
variable {d : Nat} {σ : hq_St} {A : TA}
theorem swp_all {s : Nat} (b : Nat) : ∀ {m : Nat}, (∀ e, e < m → s.testBit e = true) → swp A s m b = b
  | 0, _ => rfl
  | m + 1, h => by
    unfold swp
    rw [swp_all b (fun e he => h e (by omega)), stp_shut (h m (by omega))]
theorem reach_all {r : Nat} : reachA A (2 ^ A 0 0 - 1) r = 2 ^ r := by
  unfold reachA
  have : ∀ n, itr A (2 ^ A 0 0 - 1) n (2 ^ r) = 2 ^ r := by
    intro n
    induction n with
    | zero => rfl
    | succ n ih =>
      unfold itr
      rw [ih]
      exact swp_all _ (fun e he => by rw [Nat.testBit_two_pow_sub_one]; simpa using he)
  exact this 8
theorem two_le {n : Nat} (h : n ≤ 8) : 1 ≤ 2 ^ n ∧ 2 ^ n ≤ 256 := ⟨Nat.two_pow_pos n, (Nat.pow_le_pow_right (by decide) h : 2 ^ n ≤ 2 ^ 8)⟩
def wallP (A : TA) (r m : Nat) : Bool := !(reachA A m 0).testBit r
def wallB (A : TA) (r : Nat) : Nat := (few (wallP A r) (2 ^ A 0 0)).getD 0
theorem wall_some (A : TA) {r : Nat} (hr : 1 ≤ r) : few (wallP A r) (2 ^ A 0 0) = some (wallB A r) ∧ wallB A r < 2 ^ A 0 0 ∧ wallB A r = dnw (wallP A r) (2 ^ A 0 0) (2 ^ A 0 0 - 1) := by
  have hp : 0 < 2 ^ A 0 0 := Nat.two_pow_pos _
  have hw : wallP A r (2 ^ A 0 0 - 1) = true := by
    unfold wallP
    rw [reach_all, Nat.testBit_two_pow]
    simp; omega
  have h1 := dnw_few hw
  rw [Nat.sub_add_cancel hp] at h1
  have h2 : wallB A r = dnw (wallP A r) (2 ^ A 0 0) (2 ^ A 0 0 - 1) := by unfold wallB; rw [h1]; rfl
  exact ⟨by rw [h2]; exact h1, by rw [h2]; exact (few_some h1).1, h2⟩
def wallR (A : TA) (x : Int32) : Int32 := if inb x 1 7 then nI (pop (wallB A x.toInt.toNat)) else -1
def wallL (A : TA) (x : Int32) (L : List Int64) : List Int64 := if inb x 1 7 then [(nI (wallB A x.toInt.toNat)).toInt64] else L
theorem s_fewestAround (R : Rc A σ) {r : Nat} (hr : 1 ≤ r) (hr2 : r ≤ 7) : hq_c 9 (d + 2) [.ref 33, .ref 5, .int (nI r)] σ (some (.int (nI (wallB A r)))) σ := by
  have b1 := R.1.1
  obtain ⟨t1, t2⟩ := two_le b1
  have e1 : (nI 1 <<< (σ.1 5 13 &&& 31)) - nI 1 = nI (2 ^ A 0 0 - 1) := by rw [R.2.1, hn_shl _ (by omega), pk_sub t1]
  have lp : ∀ m f, m ≤ 256 → f < 256 → hq_m 9 (d + 2) (some (.int (nI (dnw (wallP A r) m f)))) σ 9 [none, some (.ref 5), some (.int (nI r)), some (.int (nI f)), some (.int (nI m - nI 1))] [] σ := by
    intro m
    induction m with
    | zero => intro f _ _; exact p_X1_fewestAround_9_1 (by decide)
    | succ m ih =>
      intro f hm hf
      have e2 : nI (m + 1) - nI 1 = nI m := nI_pred m
      rw [e2]
      have c1 : ¬ nI m < 0 := by rw [ltz, nI_toInt (by omega)]; omega
      have e3 : nI m + (-1) = nI m - nI 1 := by rw [Int32.sub_eq_add_neg]; rfl
      have g1 := s_bitCount (d := d) (σ := σ) (n := m) (by omega)
      have g2 := s_bitCount (d := d) (σ := σ) (n := f) (by omega)
      have p1 := pop_le m
      have p2 := pop_le f
      unfold dnw
      by_cases q : pop m ≤ pop f
      · have g3 := s_reach (d := d) (s := m) R (r := 0) (by decide)
        cases hb : (reachA A m 0).testBit r with
        | true =>
          rw [if_neg (by simp [wallP, hb])]
          refine p_X1_fewestAround_9_4 c1 g1 g2 (nI_nlt q (by omega)) g3 (hn_bit1 (by omega) hb) ?_
          rw [e3]; exact ih f (by omega) hf
        | false =>
          rw [if_pos (by simp [wallP, hb, q])]
          refine p_X1_fewestAround_9_3 c1 g1 g2 (nI_nlt q (by omega)) g3 (hn_bit0 (by omega) hb) ?_
          rw [e3]; exact ih m (by omega) (by omega)
      · rw [if_neg (by simp [q])]
        refine p_X1_fewestAround_9_2 c1 g1 g2 (nlt (by omega) (by omega)) ?_
        rw [e3]; exact ih f (by omega) hf
  refine p_X1_fewestAround_0_1 ?_
  rw [e1, (wall_some A hr).2.2, ← pk_sub t1]
  have := lp (2 ^ A 0 0) (2 ^ A 0 0 - 1) t2 (by omega)
  rw [← pk_sub t1] at this
  exact this
theorem s_wall {L : List Int64} (R : Rc A σ) (hL : cR L σ) (x : Int32) : ∃ τ, hq_c 134 (d + 3) [.ref 0, .int x] σ (some (.int (wallR A x))) τ ∧ cR (wallL A x L) τ ∧ Fr [(3, 2), (4, 0)] σ τ := by
  have g := s_isInside (d := d + 1) (σ := σ) x
  have b1 := R.1.1
  obtain ⟨t1, t2⟩ := two_le b1
  unfold wallR wallL
  cases c : inb x 1 7 with
  | false =>
    rw [c] at g
    exact ⟨σ, p_X9_wall_0_1 g rfl, hL, Fr.rf σ⟩
  | true =>
    rw [c] at g
    obtain ⟨r, r1, r2, rfl⟩ := inb_of c
    rw [if_pos rfl, if_pos rfl, tn (by omega)]
    obtain ⟨σ1, a1, a2, a3⟩ := s_clear (d := d + 1) (σ := σ)
    obtain ⟨σ2, b1', b2, b3⟩ := s_add (d := d + 1) a2 (by decide) (nI (wallB A r)).toInt64
    have hw := (wall_some A r1).2.1
    exact ⟨σ2, p_X9_wall_0_2 g (by decide) (s_fewestAround (d := d) R r1 r2) a1 b1' (s_bitCount (d := d + 1) (by omega)), b2, a3.tr b3⟩
theorem oN_lt {o : Option Nat} (h : ∀ b, o = some b → b < 2 ^ 31) : oN o < 0 ↔ o = none := by
  cases o with
  | none => simp [oN]
  | some b =>
    have := h b rfl
    simp [oN]
    rw [← Int32.not_lt, ltz, nI_toInt this]; omega
theorem m_wall {L : List Int64} (R : Rm 61 A σ) (hL : mR L σ) (x : Int32) : ∃ τ, hq_c 243 (d + 3) [.ref 52, .int x] σ (some (.int (wallR A x))) τ ∧ mR (wallL A x L) τ ∧ Fr [(52, 1), (52, 2), (53, 0)] σ τ := by
  have f0 : Fr [(52, 1)] σ (hq_sI σ 52 0 (nI 0)) := frth
  have R0 : Rm 61 A (hq_sI σ 52 0 (nI 0)) := Rm.depn.fr f0 (by decide) R
  have g := m_isInside (d := d) (σ := hq_sI σ 52 0 (nI 0)) x
  have W := R.1
  have b1 := W.1
  obtain ⟨t1, t2⟩ := two_le b1
  unfold wallR wallL
  cases c : inb x 1 7 with
  | false =>
    rw [c] at g
    exact ⟨_, p_X10_wall_0_1 g rfl, hL.th, f0.up (by decide)⟩
  | true =>
    rw [c] at g
    obtain ⟨r, r1, r2, rfl⟩ := inb_of c
    rw [if_pos rfl, if_pos rfl, tn (by omega)]
    obtain ⟨hw0, hw, -⟩ := wall_some A r1
    have lp : ∀ v τ, hq_m 243 (d + 3) v τ 12 [some (.ref 52), some (.int (nI r)), some (.int (oN (few (wallP A r) (2 ^ A 0 0)))), some (.int (nI (2 ^ A 0 0))), none] [] (hq_sI σ 52 0 (nI 0)) → hq_m 243 (d + 3) v τ 12 [some (.ref 52), some (.int (nI r)), some (.int (-1)), some (.int (nI 0)), none] [] (hq_sI σ 52 0 (nI 0)) := by
      intro v τ k
      refine hq_m.for (fun m => [some (.ref 52), some (.int (nI r)), some (.int (oN (few (wallP A r) m))), some (.int (nI m)), none]) (fun _ => hq_sI σ 52 0 (nI 0)) (2 ^ A 0 0) ?_ k 0 (Nat.zero_le _)
      intro m hm ih
      have c1 : nI m < nI 1 <<< ((hq_sI σ 52 0 (nI 0)).1 52 3 &&& 31) := by rw [R0.2.1, hn_shl _ (by omega)]; exact nlt hm (by omega)
      have g1 := m_reachedn (d := d) (s := m) R0 (by omega) (r := 0) (by decide)
      have hr8 := reach_lt (s := m) W (r := 0) (by decide)
      have g2 := m_hasN (d := d + 1) (σ := hq_sI σ 52 0 (nI 0)) (n := reachA A m 0) (k := r) (by omega) (by omega)
      have g3 := s_bitCount (d := d + 1) (σ := hq_sI σ 52 0 (nI 0)) (n := m) (by omega)
      have p1 := pop_le m
      unfold few at ih
      cases hf : few (wallP A r) m with
      | none =>
        rw [hf] at ih
        dsimp only at ih
        cases hb : (reachA A m 0).testBit r with
        | true =>
          rw [hb] at g2
          rw [if_neg (by simp [wallP, hb])] at ih
          refine p_X10_wall_12_3 c1 (by decide) (by decide) g1 g2 (by decide) ?_
          rw [nplus]; exact ih
        | false =>
          rw [hb] at g2
          rw [if_pos (by simp [wallP, hb])] at ih
          refine p_X10_wall_12_2 c1 (by decide) (by decide) g1 g2 rfl ?_
          rw [nplus]; exact ih
      | some b =>
        rw [hf] at ih
        dsimp only at ih
        have hb2 := (few_some hf).1
        have p2 := pop_le b
        have n0 : ¬ oN (some b) < 0 := by show ¬ nI b < 0; rw [ltz, nI_toInt (by omega)]; omega
        have g4 := s_bitCount (d := d + 1) (σ := hq_sI σ 52 0 (nI 0)) (n := b) (by omega)
        by_cases q : pop m < pop b
        · cases hb : (reachA A m 0).testBit r with
          | true =>
            rw [hb] at g2
            rw [if_neg (by simp [wallP, hb])] at ih
            refine p_X10_wall_12_6 c1 n0 g3 g4 (nlt q (by omega)) (by decide) g1 g2 (by decide) ?_
            rw [nplus]; exact ih
          | false =>
            rw [hb] at g2
            rw [if_pos (by simp [wallP, hb, q])] at ih
            refine p_X10_wall_12_5 c1 n0 g3 g4 (nlt q (by omega)) (by decide) g1 g2 rfl ?_
            rw [nplus]; exact ih
        · rw [if_neg (by simp [q])] at ih
          refine p_X10_wall_12_7 c1 n0 g3 g4 (nI_nlt (by omega) (by omega)) rfl ?_
          rw [nplus]; exact ih
    have f1 : Fr [(52, 2), (53, 0)] (hq_sI σ 52 0 (nI 0)) (hq_sI (hq_sI σ 52 0 (nI 0)) 52 1 (nI 0)) := (Fr.rf _).sI rfl
    obtain ⟨σ2, b1', b2, b3⟩ := m_enters (d := d + 1) (mR.nil (σ := hq_sI σ 52 0 (nI 0))) (by decide) (nI (wallB A r)).toInt64
    refine ⟨σ2, p_X10_wall_0_2 g (by decide) (lp _ _ ?_), b2, (f0.up (by decide)).tr ((f1.up (by decide)).tr (b3.up (by decide)))⟩
    rw [hw0]
    exact p_X10_wall_12_10 (by rw [R0.2.1, hn_shl _ (by omega)]; exact nI_nlt (Nat.le_refl _) (by omega)) b1' (s_bitCount (d := d + 1) (by omega))
/-- what is kept by each set of doors -/
def kbOK (A : TA) (σ : hq_St) : Prop := σ.1 33 13 = nI (A 0 0) ∧ ∀ m, m < 2 ^ A 0 0 → σ.1 44 m = nI (keptA A m)
theorem kbOK.dep : Dep [(33, 14), (44, 0)] (kbOK A) := fun σ τ e h => ⟨(e 33 13 rfl).1.trans h.1, fun m hm => (e 44 m rfl).1.trans (h.2 m hm)⟩
theorem ssec_le (W : Wf A) (p : Nat → Bool) : ∀ j, ssec A p j ≤ 9 * j
  | 0 => Nat.le_refl _
  | j + 1 => by
    have ih := ssec_le W p j
    have := W.2.2.2.2 (j + 1)
    unfold ssec
    split <;> omega
theorem keptA_le (W : Wf A) (s : Nat) : keptA A s ≤ 63 := ssec_le W _ 7
theorem s_lookRound (R : Rc A σ) : ∃ τ, hq_c 10 (d + 3) [.ref 33, .ref 5] σ none τ ∧ kbOK A τ ∧ Fr [(33, 14), (44, 0)] σ τ := by
  have b1 := R.1.1
  obtain ⟨t1, t2⟩ := two_le b1
  have f0 : Fr [(33, 14), (44, 0)] σ (hq_sI σ 33 13 (nI (A 0 0))) := (Fr.rf σ).sI rfl
  obtain ⟨τ, w, q0, q1, f⟩ := hq_w.for (x := 10) (d := d + 3) (i := 6) (fun m => [some (.ref 33), some (.ref 5), some (.int (nI m))]) (fun m ρ => ρ.1 33 13 = nI (A 0 0) ∧ (∀ k, k < m → ρ.1 44 k = nI (keptA A k)) ∧ Fr [(33, 14), (44, 0)] σ ρ) (2 ^ A 0 0) (fun m hm ρ ⟨q0, q1, f⟩ => by
    have R1 := Rc.dep.fr f (by decide) R
    have cm : (nI m).toNatClampNeg = m := clamp (by omega)
    refine ⟨hq_sI ρ 44 m (nI (keptA A m)), fun v τ k => p_X1_lookRound_6_1 (by rw [q0, hn_shl _ (by omega)]; exact nlt hm (by omega)) (s_secretsKept (d := d) R1) (vin (by omega) (by decide)) (by rw [cm, nplus]; exact k), ?_, fun k hk => ?_, f.sI rfl⟩
    · rw [sI_ne (by decide)]; exact q0
    · rw [sI_at, if_pos rfl]
      by_cases e : k = m
      · rw [if_pos e, e]
      · rw [if_neg e]; exact q1 k (by omega)) (σ := hq_sI σ 33 13 (nI (A 0 0))) ⟨sI_eq, fun k hk => by omega, f0⟩
  exact ⟨τ, p_X1_lookRound_0_1 (by rw [R.2.1]; exact w _ _ (p_X1_lookRound_6_2 (by rw [q0, hn_shl _ (by omega)]; exact nI_nlt (Nat.le_refl _) (by omega)))), ⟨q0, q1⟩, f⟩
def grdP (A : TA) (v m : Nat) : Bool := decide (v ≤ keptA A m)
def grdB (A : TA) (v : Nat) : Option Nat := few (grdP A v) (2 ^ A 0 0)
def grdR (A : TA) (x : Int32) : Int32 := if inb x 0 63 then (match grdB A x.toInt.toNat with
  | none => -2
  | some b => nI (pop b)) else -1
def grdL (A : TA) (x : Int32) (L : List Int64) : List Int64 := if inb x 0 63 then (match grdB A x.toInt.toNat with
  | none => L
  | some b => [(nI b).toInt64, (nI (keptA A b)).toInt64]) else L
theorem s_fewestKeeping (W : Wf A) (hk : kbOK A σ) {v : Nat} (hv : v ≤ 63) : hq_c 11 (d + 2) [.ref 33, .int (nI v)] σ (some (.int (oN (grdB A v)))) σ := by
  have b1 := W.1
  obtain ⟨t1, t2⟩ := two_le b1
  refine p_X1_fewestKeeping_0_1 ?_
  refine hq_m.for (fun m => [some (.ref 33), some (.int (nI v)), some (.int (oN (few (grdP A v) m))), some (.int (nI m)), none]) (fun _ => σ) (2 ^ A 0 0) ?_ ?_ 0 (Nat.zero_le _)
  · intro m hm ih
    have c1 : nI m < nI 1 <<< (σ.1 33 13 &&& 31) := by rw [hk.1, hn_shl _ (by omega)]; exact nlt hm (by omega)
    have cm : (nI m).toNatClampNeg = m := clamp (by omega)
    have o : vp_in (nI m) 256 := vin (by omega) (by decide)
    have g3 := s_bitCount (d := d) (σ := σ) (n := m) (by omega)
    have p1 := pop_le m
    have k1 := keptA_le W m
    have hq : σ.1 44 (nI m).toNatClampNeg < nI v ↔ ¬ v ≤ keptA A m := by rw [cm, hk.2 m hm, nI_ltI (by omega) (by omega)]; omega
    unfold few at ih
    cases hf : few (grdP A v) m with
    | none =>
      rw [hf] at ih
      dsimp only at ih
      by_cases hb : v ≤ keptA A m
      · rw [if_pos (by simp [grdP, hb])] at ih
        refine p_X1_fewestKeeping_4_3 c1 rfl (by decide) o (fun z => hq.mp z hb) ?_
        rw [nplus]; exact ih
      · rw [if_neg (by simp [grdP, hb])] at ih
        refine p_X1_fewestKeeping_4_2 c1 rfl (by decide) o (hq.mpr hb) ?_
        rw [nplus]; exact ih
    | some b =>
      rw [hf] at ih
      dsimp only at ih
      have hb2 := (few_some hf).1
      have p2 := pop_le b
      have n0 : ¬ oN (some b) = -1 := by
        show ¬ nI b = -1
        intro z
        have : (nI b).toInt = (-1 : Int32).toInt := by rw [z]
        rw [nI_toInt (by omega)] at this
        have e : (-1 : Int32).toInt = -1 := by decide
        omega
      have g4 := s_bitCount (d := d) (σ := σ) (n := b) (by omega)
      by_cases q : pop m < pop b
      · by_cases hb : v ≤ keptA A m
        · rw [if_pos (by simp [grdP, hb, q])] at ih
          refine p_X1_fewestKeeping_4_6 c1 n0 g3 g4 (nlt q (by omega)) (by decide) o (fun z => hq.mp z hb) ?_
          rw [nplus]; exact ih
        · rw [if_neg (by simp [grdP, hb])] at ih
          refine p_X1_fewestKeeping_4_5 c1 n0 g3 g4 (nlt q (by omega)) (by decide) o (hq.mpr hb) ?_
          rw [nplus]; exact ih
      · rw [if_neg (by simp [q])] at ih
        refine p_X1_fewestKeeping_4_7 c1 n0 g3 g4 (nI_nlt (by omega) (by omega)) rfl ?_
        rw [nplus]; exact ih
  · exact p_X1_fewestKeeping_4_10 (by rw [hk.1, hn_shl _ (by omega)]; exact nI_nlt (Nat.le_refl _) (by omega))
theorem s_guard {L : List Int64} (R : Rc A σ) (hL : cR L σ) (x : Int32) : ∃ τ, hq_c 135 (d + 4) [.ref 0, .int x] σ (some (.int (grdR A x))) τ ∧ cR (grdL A x L) τ ∧ Fr [(3, 2), (4, 0), (33, 14), (44, 0)] σ τ := by
  have g := s_isAmount (d := d + 2) (σ := σ) x
  have W := R.1
  have b1 := W.1
  obtain ⟨t1, t2⟩ := two_le b1
  unfold grdR grdL
  cases c : inb x 0 63 with
  | false =>
    rw [c] at g
    exact ⟨σ, p_X9_guard_0_1 g rfl, hL, Fr.rf σ⟩
  | true =>
    rw [c] at g
    obtain ⟨v, v1, v2, rfl⟩ := inb_of c
    rw [if_pos rfl, if_pos rfl, tn (by omega)]
    obtain ⟨σ1, a1, a2, a3⟩ := s_lookRound (d := d) R
    have g1 := s_fewestKeeping (d := d + 1) W a2 v2
    have R1 := Rc.dep.fr a3 (by decide) R
    cases hf : grdB A v with
    | none =>
      rw [hf] at g1
      exact ⟨σ1, p_X9_guard_0_2 g (by decide) a1 g1 (by decide), cR.dep.fr a3 (by decide) hL, a3.up (by decide)⟩
    | some b =>
      rw [hf] at g1
      have hb := (few_some hf).1
      have n0 : ¬ oN (some b) < 0 := by show ¬ nI b < 0; rw [ltz, nI_toInt (by omega)]; omega
      obtain ⟨σ2, c1, c2, c3⟩ := s_clear (d := d + 2) (σ := σ1)
      obtain ⟨σ3, d1, d2, d3⟩ := s_add (d := d + 2) c2 (by decide) (nI b).toInt64
      have R3 := Rc.dep.fr d3 (by decide) (Rc.dep.fr c3 (by decide) R1)
      obtain ⟨σ4, e1, e2, e3⟩ := s_add (d := d + 2) d2 (by simp) (nI (keptA A b)).toInt64
      exact ⟨σ4, p_X9_guard_0_3 g (by decide) a1 g1 n0 c1 d1 (s_secretsKept (d := d + 1) R3) e1 (s_bitCount (d := d + 2) (by omega)), e2, ((a3.up (by decide)).tr (c3.up (by decide))).tr ((d3.up (by decide)).tr (e3.up (by decide)))⟩
theorem m_guard {L : List Int64} (R : Rm 61 A σ) (hL : mR L σ) (x : Int32) : ∃ τ, hq_c 244 (d + 4) [.ref 52, .int x] σ (some (.int (grdR A x))) τ ∧ mR (grdL A x L) τ ∧ Fr [(52, 1), (52, 2), (53, 0)] σ τ := by
  have f0 : Fr [(52, 1)] σ (hq_sI σ 52 0 (nI 0)) := frth
  have R0 : Rm 61 A (hq_sI σ 52 0 (nI 0)) := Rm.depn.fr f0 (by decide) R
  have g := m_inb (d := d + 2) (σ := hq_sI σ 52 0 (nI 0)) x (a := 0) (b := 63) (by decide) (by decide)
  have W := R.1
  have b1 := W.1
  obtain ⟨t1, t2⟩ := two_le b1
  unfold grdR grdL
  cases c : inb x 0 63 with
  | false =>
    rw [c] at g
    exact ⟨_, p_X10_guard_0_1 g rfl, hL.th, f0.up (by decide)⟩
  | true =>
    rw [c] at g
    obtain ⟨v, v1, v2, rfl⟩ := inb_of c
    rw [if_pos rfl, if_pos rfl, tn (by omega)]
    have lp : ∀ w τ, hq_m 244 (d + 4) w τ 15 [some (.ref 52), some (.int (nI v)), some (.int (oN (grdB A v))), some (.int (nI (2 ^ A 0 0))), none] [] (hq_sI σ 52 0 (nI 0)) → hq_m 244 (d + 4) w τ 15 [some (.ref 52), some (.int (nI v)), some (.int (-1)), some (.int (nI 0)), none] [] (hq_sI σ 52 0 (nI 0)) := by
      intro w τ k
      refine hq_m.for (fun m => [some (.ref 52), some (.int (nI v)), some (.int (oN (few (grdP A v) m))), some (.int (nI m)), none]) (fun _ => hq_sI σ 52 0 (nI 0)) (2 ^ A 0 0) ?_ k 0 (Nat.zero_le _)
      intro m hm ih
      have c1 : nI m < nI 1 <<< ((hq_sI σ 52 0 (nI 0)).1 52 3 &&& 31) := by rw [R0.2.1, hn_shl _ (by omega)]; exact nlt hm (by omega)
      have g1 := m_keptByn (d := d) (s := m) R0 (by omega)
      have g3 := s_bitCount (d := d + 2) (σ := hq_sI σ 52 0 (nI 0)) (n := m) (by omega)
      have p1 := pop_le m
      have k1 := keptA_le W m
      have hq : nI (keptA A m) < nI v ↔ ¬ v ≤ keptA A m := by rw [nI_ltI (by omega) (by omega)]; omega
      unfold few at ih
      cases hf : few (grdP A v) m with
      | none =>
        rw [hf] at ih
        dsimp only at ih
        by_cases hb : v ≤ keptA A m
        · rw [if_pos (by simp [grdP, hb])] at ih
          refine p_X10_guard_15_3 c1 (by decide) (by decide) g1 (fun z => hq.mp z hb) ?_
          rw [nplus]; exact ih
        · rw [if_neg (by simp [grdP, hb])] at ih
          refine p_X10_guard_15_2 c1 (by decide) (by decide) g1 (hq.mpr hb) ?_
          rw [nplus]; exact ih
      | some b =>
        rw [hf] at ih
        dsimp only at ih
        have hb2 := (few_some hf).1
        have p2 := pop_le b
        have n0 : ¬ oN (some b) < 0 := by show ¬ nI b < 0; rw [ltz, nI_toInt (by omega)]; omega
        have g4 := s_bitCount (d := d + 2) (σ := hq_sI σ 52 0 (nI 0)) (n := b) (by omega)
        by_cases q : pop m < pop b
        · by_cases hb : v ≤ keptA A m
          · rw [if_pos (by simp [grdP, hb, q])] at ih
            refine p_X10_guard_15_6 c1 n0 g3 g4 (nlt q (by omega)) (by decide) g1 (fun z => hq.mp z hb) ?_
            rw [nplus]; exact ih
          · rw [if_neg (by simp [grdP, hb])] at ih
            refine p_X10_guard_15_5 c1 n0 g3 g4 (nlt q (by omega)) (by decide) g1 (hq.mpr hb) ?_
            rw [nplus]; exact ih
        · rw [if_neg (by simp [q])] at ih
          refine p_X10_guard_15_7 c1 n0 g3 g4 (nI_nlt (by omega) (by omega)) rfl ?_
          rw [nplus]; exact ih
    have c1 : ¬ nI (2 ^ A 0 0) < nI 1 <<< ((hq_sI σ 52 0 (nI 0)).1 52 3 &&& 31) := by rw [R0.2.1, hn_shl _ (by omega)]; exact nI_nlt (Nat.le_refl _) (by omega)
    cases hf : grdB A v with
    | none =>
      rw [hf] at lp
      exact ⟨_, p_X10_guard_0_2 g (by decide) (lp _ _ (p_X10_guard_15_10 c1 (by decide))), hL.th, f0.up (by decide)⟩
    | some b =>
      rw [hf] at lp
      have hb := (few_some hf).1
      have n0 : ¬ oN (some b) < 0 := by show ¬ nI b < 0; rw [ltz, nI_toInt (by omega)]; omega
      have f1 : Fr [(52, 2), (53, 0)] (hq_sI σ 52 0 (nI 0)) (hq_sI (hq_sI σ 52 0 (nI 0)) 52 1 (nI 0)) := (Fr.rf _).sI rfl
      obtain ⟨σ3, d1, d2, d3⟩ := m_enters (d := d + 2) (mR.nil (σ := hq_sI σ 52 0 (nI 0))) (by decide) (nI b).toInt64
      have R3 := Rm.depn.fr d3 (by decide) (Rm.depn.fr f1 (by decide) R0)
      obtain ⟨σ4, e1, e2, e3⟩ := m_enters (d := d + 2) d2 (by simp) (nI (keptA A b)).toInt64
      exact ⟨σ4, p_X10_guard_0_2 g (by decide) (lp _ _ (p_X10_guard_15_11 c1 n0 d1 (m_keptByn (d := d) R3 (by omega)) e1 (s_bitCount (d := d + 2) (by omega)))), e2, (f0.up (by decide)).tr ((f1.up (by decide)).tr ((d3.up (by decide)).tr (e3.up (by decide))))⟩
end WA
