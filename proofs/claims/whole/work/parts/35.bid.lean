/-! bid -/
/-- one door's turn: the price, who bade last (0 none, e + 1 the door e) -/
def bs (w : Nat → Nat) (s : Nat × Nat) (e : Nat) : Nat × Nat := if e + 1 ≠ s.2 ∧ s.1 < w e then (s.1 + 1, e + 1) else s
def bst (w : Nat → Nat) (D : Nat) : Nat → Nat × Nat
  | 0 => (0, 0)
  | n + 1 => bs w (bst w D n) (n % D)
def bps (w : Nat → Nat) (D : Nat) : Nat → Nat
  | 0 => 0
  | n + 1 => if n % D + 1 ≠ (bst w D n).2 ∧ (bst w D n).1 < w (n % D) then 0 else bps w D n + 1
section BD
variable {w : Nat → Nat} {D : Nat}
theorem bps_le : ∀ n, bps w D n ≤ n
  | 0 => Nat.le_refl _
  | n + 1 => by
    have := bps_le n
    unfold bps
    split <;> omega
theorem bps_pass : ∀ n j, n - bps w D n ≤ j → j < n → ¬ (j % D + 1 ≠ (bst w D j).2 ∧ (bst w D j).1 < w (j % D))
  | 0, j, _, h => by omega
  | n + 1, j, h1, h2 => by
    have hl := bps_le (w := w) (D := D) n
    unfold bps at h1
    by_cases q : n % D + 1 ≠ (bst w D n).2 ∧ (bst w D n).1 < w (n % D)
    · rw [if_pos q] at h1; omega
    · rw [if_neg q] at h1
      by_cases e : j = n
      · subst e; exact q
      · exact bps_pass n j (by omega) (by omega)
theorem bst_pass {j : Nat} (h : ¬ (j % D + 1 ≠ (bst w D j).2 ∧ (bst w D j).1 < w (j % D))) : bst w D (j + 1) = bst w D j := by
  show bs w (bst w D j) (j % D) = _
  unfold bs
  rw [if_neg h]
theorem bps_run {n : Nat} : ∀ k, (∀ j, n ≤ j → j < n + k → ¬ (j % D + 1 ≠ (bst w D j).2 ∧ (bst w D j).1 < w (j % D))) → k ≤ bps w D (n + k)
  | 0, _ => Nat.zero_le _
  | k + 1, h => by
    have ih := bps_run (n := n) k (fun j h1 h2 => h j h1 (by omega))
    have := h (n + k) (by omega) (by omega)
    show k + 1 ≤ bps w D (n + k + 1)
    unfold bps
    rw [if_neg this]; omega
theorem bst_const {n k : Nat} (h : ∀ j, n ≤ j → j < n + k → ¬ (j % D + 1 ≠ (bst w D j).2 ∧ (bst w D j).1 < w (j % D))) : ∀ i, i ≤ k → bst w D (n + i) = bst w D n
  | 0, _ => rfl
  | i + 1, hi => by
    rw [← Nat.add_assoc, bst_pass (h (n + i) (by omega) (by omega))]
    exact bst_const h i (by omega)
/-- once all doors passed, nothing changes -/
theorem bst_stable (hD : 0 < D) {N : Nat} (h : D ≤ bps w D N) : ∀ m, bst w D (N + m) = bst w D N := by
  have hl := bps_le (w := w) (D := D) N
  have hp := fun j h1 h2 => bps_pass (w := w) (D := D) N j h1 h2
  have hc : ∀ i, i ≤ D → bst w D (N - D + i) = bst w D (N - D) := bst_const (n := N - D) (k := D) (fun j h1 h2 => hp j (by omega) (by omega))
  have hN : bst w D N = bst w D (N - D) := by
    have := hc D (Nat.le_refl _)
    rwa [Nat.sub_add_cancel (by omega)] at this
  have all : ∀ e, e < D → ¬ (e + 1 ≠ (bst w D N).2 ∧ (bst w D N).1 < w e) := by
    intro e he
    -- a turn of this door among the last D
    obtain ⟨j, j1, j2, j3⟩ : ∃ j, N - D ≤ j ∧ j < N ∧ j % D = e := by
      have hr : (N - D) % D < D := Nat.mod_lt _ hD
      by_cases q : (N - D) % D ≤ e
      · refine ⟨N - D + (e - (N - D) % D), by omega, by omega, ?_⟩
        rw [Nat.add_mod, Nat.mod_eq_of_lt (a := e - (N - D) % D) (by omega), Nat.mod_eq_of_lt (by omega)]
        omega
      · refine ⟨N - D + (e + D - (N - D) % D), by omega, by omega, ?_⟩
        rw [Nat.add_mod, Nat.mod_eq_of_lt (a := e + D - (N - D) % D) (by omega), show (N - D) % D + (e + D - (N - D) % D) = e + D by omega, Nat.add_mod_right, Nat.mod_eq_of_lt he]
    have := hp j (by omega) j2
    rw [j3] at this
    have hj : bst w D j = bst w D N := by
      have := hc (j - (N - D)) (by omega)
      rw [show N - D + (j - (N - D)) = j by omega] at this
      rw [this, hN]
    rwa [hj] at this
  intro m
  induction m with
  | zero => rfl
  | succ m ih =>
    rw [← Nat.add_assoc]
    rw [bst_pass (by rw [ih]; exact all _ (Nat.mod_lt _ hD))]
    exact ih
theorem bst_price (hw : ∀ e, e < D → w e ≤ 9) (hD : 0 < D) : ∀ n, (bst w D n).1 ≤ 9 ∧ (bst w D n).2 ≤ D
  | 0 => ⟨Nat.zero_le _, Nat.zero_le _⟩
  | n + 1 => by
    have ih := bst_price hw hD n
    have hm := Nat.mod_lt n hD
    have := hw (n % D) hm
    show (bs w (bst w D n) (n % D)).1 ≤ 9 ∧ (bs w (bst w D n) (n % D)).2 ≤ D
    unfold bs
    split
    · exact ⟨by show (bst w D n).1 + 1 ≤ 9; omega, by show n % D + 1 ≤ D; omega⟩
    · exact ih
theorem bst_mono (n : Nat) : (bst w D n).1 ≤ (bst w D (n + 1)).1 := by
  show _ ≤ (bs w (bst w D n) (n % D)).1
  unfold bs
  split
  · exact Nat.le_succ _
  · exact Nat.le_refl _
theorem bst_mono' (n : Nat) : ∀ k, (bst w D n).1 ≤ (bst w D (n + k)).1
  | 0 => Nat.le_refl _
  | k + 1 => Nat.le_trans (bst_mono' n k) (bst_mono (n + k))
theorem least_of {P : Nat → Prop} : ∀ n, P n → ∃ N, N ≤ n ∧ P N ∧ ∀ m, m < N → ¬ P m := by
  intro n
  induction n using Nat.strongRecOn with
  | _ n ih =>
    intro h
    by_cases q : ∃ m, m < n ∧ P m
    · obtain ⟨m, h1, h2⟩ := q
      obtain ⟨N, a, b, c⟩ := ih m h1 h2
      exact ⟨N, by omega, b, c⟩
    · exact ⟨n, Nat.le_refl _, h, fun m hm hp => q ⟨m, hm, hp⟩⟩
theorem bst_bid {j : Nat} (h : j % D + 1 ≠ (bst w D j).2 ∧ (bst w D j).1 < w (j % D)) : bst w D (j + 1) = ((bst w D j).1 + 1, j % D + 1) := by
  show bs w (bst w D j) (j % D) = _
  unfold bs
  rw [if_pos h]
theorem bid_block (n k : Nat) (h : (bst w D (n + k)).1 ≤ (bst w D n).1) : k ≤ bps w D (n + k) := by
  apply bps_run k
  intro j h1 h2 hb
  have m1 := bst_mono' (w := w) (D := D) n (j - n)
  rw [show n + (j - n) = j by omega] at m1
  have m2 := bst_mono' (w := w) (D := D) (j + 1) (n + k - (j + 1))
  rw [show j + 1 + (n + k - (j + 1)) = n + k by omega, bst_bid hb] at m2
  dsimp only at m2
  omega
theorem bid_end (hw : ∀ e, e < D → w e ≤ 9) (hD : 0 < D) : ∃ N, N ≤ 10 * D ∧ D ≤ bps w D N ∧ ∀ m, m < N → ¬ D ≤ bps w D m := by
  have key : ∀ r, (∃ q, q < r ∧ D ≤ bps w D (q * D + D)) ∨ r ≤ (bst w D (r * D)).1 := by
    intro r
    induction r with
    | zero => exact Or.inr (Nat.zero_le _)
    | succ r ih =>
      rcases ih with ⟨q, q1, q2⟩ | ih
      · exact Or.inl ⟨q, by omega, q2⟩
      · by_cases c : (bst w D (r * D + D)).1 ≤ (bst w D (r * D)).1
        · exact Or.inl ⟨r, by omega, bid_block _ _ c⟩
        · right
          rw [Nat.succ_mul]; omega
  have pr := (bst_price hw hD (10 * D)).1
  rcases key 10 with ⟨q, q1, q2⟩ | h
  · obtain ⟨N, a, b, c⟩ := least_of (P := fun n => D ≤ bps w D n) _ q2
    refine ⟨N, ?_, b, c⟩
    have : q * D + D ≤ 10 * D := by
      rw [← Nat.succ_mul]
      exact Nat.mul_le_mul_right _ (by omega)
    omega
  · omega
end BD
theorem worth_le {A : TA} (W : Wf A) {h e : Nat} (he : e < A 0 0) : worthA A h e ≤ 9 := by
  have := (W.2.2.1 e he).2.2.2.2.2.1
  unfold worthA
  split <;> omega
def bidS (A : TA) (h : Nat) : Nat × Nat := bst (worthA A h) (A 0 0) (10 * A 0 0)
def lbd (l : Nat) : Int32 := if l = 0 then -2 else nI (l - 1)
theorem lbd_eq {e l : Nat} (he : e < 8) (hl : l ≤ 8) : nI e = lbd l ↔ e + 1 = l := by
  have : ∀ e, e < 8 → ∀ l, l < 9 → (nI e = lbd l ↔ e + 1 = l) := by decide +kernel
  exact this e he l (by omega)
theorem lbd_lt {l : Nat} (hl : l ≤ 8) : lbd l < 0 ↔ l = 0 := by
  have : ∀ l, l < 9 → (lbd l < 0 ↔ l = 0) := by decide +kernel
  exact this l (by omega)
theorem modn {j D : Nat} (hj : j < 8) (hD : D ≤ 8) : (nI j + nI 1) - (nI j + nI 1) / nI D * nI D = nI ((j + 1) % D) := by
  have : ∀ D, D < 9 → ∀ j, j < 8 → (nI j + nI 1) - (nI j + nI 1) / nI D * nI D = nI ((j + 1) % D) := by decide +kernel
  exact this D (by omega) j hj
/-- what bid answers, and its row -/
def bidR (A : TA) (x : Int32) : Int32 := if inr x (A 1 0) then (if A 11 x.toNatClampNeg = 0 then lbd (bidS A x.toNatClampNeg).2 else -3) else -1
def bidL (A : TA) (x : Int32) (L : List Int64) : List Int64 := if inr x (A 1 0) ∧ A 11 x.toNatClampNeg = 0 ∧ (bidS A x.toNatClampNeg).2 ≠ 0 then [(nI (bidS A x.toNatClampNeg).1).toInt64] else L
section BID
variable {d : Nat} {σ : hq_St} {A : TA}
theorem bst0 (w : Nat → Nat) {D : Nat} (hD : ¬ 0 < D) : bst w D (10 * D) = (0, 0) := by
  have : D = 0 := by omega
  subst this; rfl
theorem bidS_le (W : Wf A) (h : Nat) : (bidS A h).1 ≤ 9 ∧ (bidS A h).2 ≤ A 0 0 := by
  unfold bidS
  by_cases hD : 0 < A 0 0
  · exact bst_price (fun e he => worth_le W he) hD _
  · rw [bst0 _ hD]; exact ⟨by decide, Nat.zero_le _⟩
theorem bidn_le (W : Wf A) (h n : Nat) (hn : 0 < A 0 0) : (bst (worthA A h) (A 0 0) n).1 ≤ 9 ∧ (bst (worthA A h) (A 0 0) n).2 ≤ A 0 0 := bst_price (fun e he => worth_le W he) hn _
theorem s_bid (R : Rc A σ) {L : List Int64} (hL : cR L σ) (x : Int32) : ∃ τ, hq_c 151 (d + 5) [.ref 0, .int x] σ (some (.int (bidR A x))) τ ∧ cR (bidL A x L) τ ∧ Fr [(3, 2), (4, 0)] σ τ := by
  have W := R.1
  have b1 := W.1
  have b2 := W.2.1
  have g1 := s_isHinge (d := d + 3) R x
  unfold bidR bidL
  cases hx : inr x (A 1 0) with
  | false =>
    rw [hx] at g1
    refine ⟨σ, p_X9_bid_0_1 g1 rfl, ?_, Fr.rf σ⟩
    rw [if_neg (fun z => by cases z.1)]; exact hL
  | true =>
    rw [hx] at g1
    obtain ⟨h, hh, rfl⟩ := inr_of hx
    have ch : (nI h).toNatClampNeg = h := clamp (by omega)
    have o : vp_in (nI h) 12 := vin (by omega) (by decide)
    have f17 := (R.2.2.2.2.1 h hh).2.2.2.2.2
    have w7 := (W.2.2.2.1 h hh).2.2.2.2.2.2.1
    rw [ch, if_pos rfl]
    by_cases q : A 11 h = 0
    · rw [if_pos q]
      have lp : ∀ v τ, hq_m 151 (d + 5) v τ 22 [some (.ref 0), some (.int (nI h)), some (.int (nI (bidS A h).1)), some (.int (lbd (bidS A h).2)), some (.int (nI 10)), none] [] σ → hq_m 151 (d + 5) v τ 22 [some (.ref 0), some (.int (nI h)), some (.int (nI 0)), some (.int (-2)), some (.int (nI 0)), none] [] σ := by
        intro v τ k
        have := hq_m.for (fun r => [some (.ref 0), some (.int (nI h)), some (.int (nI (bst (worthA A h) (A 0 0) (r * A 0 0)).1)), some (.int (lbd (bst (worthA A h) (A 0 0) (r * A 0 0)).2)), some (.int (nI r)), none]) (fun _ => σ) 10 ?_ k 0 (Nat.zero_le _)
        · rw [Nat.zero_mul] at this; exact this
        intro r hr ih
        refine p_X9_bid_22_3 (nI_nlt (by omega) (by omega)) ?_
        refine hq_m.for (fun e => [some (.ref 0), some (.int (nI h)), some (.int (nI (bst (worthA A h) (A 0 0) (r * A 0 0 + e)).1)), some (.int (lbd (bst (worthA A h) (A 0 0) (r * A 0 0 + e)).2)), some (.int (nI r)), some (.int (nI e))]) (fun _ => σ) (A 0 0) ?_ ?_ 0 (Nat.zero_le _)
        · intro e he ih2
          have c1 : nI e < σ.1 5 13 := by rw [R.2.1]; exact nlt he (by omega)
          obtain ⟨p1, p2⟩ := bidn_le W h (r * A 0 0 + e) (by omega)
          have hm : (r * A 0 0 + e) % A 0 0 = e := by rw [Nat.add_comm, Nat.add_mul_mod_self_right, Nat.mod_eq_of_lt he]
          have hs : bst (worthA A h) (A 0 0) (r * A 0 0 + (e + 1)) = bs (worthA A h) (bst (worthA A h) (A 0 0) (r * A 0 0 + e)) e := by
            show bs (worthA A h) (bst (worthA A h) (A 0 0) (r * A 0 0 + e)) ((r * A 0 0 + e) % A 0 0) = _
            rw [hm]
          have wl := worth_le (h := h) W he
          rw [hs] at ih2
          unfold bs at ih2
          by_cases z1 : e + 1 = (bst (worthA A h) (A 0 0) (r * A 0 0 + e)).2
          · rw [if_neg (fun z => z.1 z1)] at ih2
            refine p_X9_bid_27_1 c1 ((lbd_eq (by omega) (by omega)).mpr z1) ?_
            rw [nplus]; exact ih2
          · have n1 : ¬ nI e = lbd (bst (worthA A h) (A 0 0) (r * A 0 0 + e)).2 := fun z => z1 ((lbd_eq (by omega) (by omega)).mp z)
            have g := s_worth (d := d + 1) R hh he
            by_cases z2 : (bst (worthA A h) (A 0 0) (r * A 0 0 + e)).1 < worthA A h e
            · rw [if_pos ⟨z1, z2⟩] at ih2
              refine p_X9_bid_27_2 c1 n1 g (nlt z2 (by omega)) ?_
              rw [nplus, nplus]; exact ih2
            · rw [if_neg (fun z => z2 z.2)] at ih2
              refine p_X9_bid_27_3 c1 n1 g (nI_nlt (by omega) (by omega)) ?_
              rw [nplus]; exact ih2
        · refine p_X9_bid_27_4 (by rw [R.2.1]; exact nI_nlt (Nat.le_refl _) (by omega)) ?_
          rw [nplus]
          rw [show r * A 0 0 + A 0 0 = (r + 1) * A 0 0 from (Nat.succ_mul _ _).symm]
          exact ih
      have c2 : σ.1 17 (nI h).toNatClampNeg = (-1 : Int32) := by rw [ch, f17, q]; rfl
      obtain ⟨p1, p2⟩ := bidS_le W h
      by_cases z : (bidS A h).2 = 0
      · rw [if_neg (fun y => y.2.2 z)]
        exact ⟨σ, p_X9_bid_0_2 g1 (by decide) o c2 (lp _ _ (p_X9_bid_22_1 (by decide) ((lbd_lt (by omega)).mpr z))), hL, Fr.rf σ⟩
      · rw [if_pos ⟨rfl, q, z⟩]
        obtain ⟨σ1, a1, a2, a3⟩ := s_clear (d := d + 3) (σ := σ)
        obtain ⟨σ2, d1, d2, d3⟩ := s_add (d := d + 3) a2 (by decide) (nI (bidS A h).1).toInt64
        exact ⟨σ2, p_X9_bid_0_2 g1 (by decide) o c2 (lp _ _ (p_X9_bid_22_2 (by decide) (fun y => z ((lbd_lt (by omega)).mp y)) a1 d1)), d2, a3.tr d3⟩
    · rw [if_neg q, if_neg (fun y => q y.2.1)]
      refine ⟨σ, p_X9_bid_0_3 g1 (by decide) o ?_, hL, Fr.rf σ⟩
      rw [ch, f17, place_m1 (by omega)]; exact q
theorem m_bid (R : Rm 61 A σ) {L : List Int64} (hL : mR L σ) (x : Int32) : ∃ τ, hq_c 272 (d + 5) [.ref 52, .int x] σ (some (.int (bidR A x))) τ ∧ mR (bidL A x L) τ ∧ Fr [(52, 1), (52, 2), (53, 0)] σ τ := by
  have W := R.1
  have b1 := W.1
  have b2 := W.2.1
  have f0 : Fr [(52, 1)] σ (hq_sI σ 52 0 (nI 0)) := frth
  have R0 : Rm 61 A (hq_sI σ 52 0 (nI 0)) := Rm.depn.fr f0 (by decide) R
  have hL0 : mR L (hq_sI σ 52 0 (nI 0)) := mR.dep.fr f0 (by decide) hL
  have g1 := m_isHingen (d := d + 2) R0 x
  have ff := f0.up (G := [(52, 1), (52, 2), (53, 0)]) (by decide)
  revert ff g1 hL0 R0
  generalize e0 : hq_sI σ 52 0 (nI 0) = ρ
  intro R0 hL0 g1 ff
  unfold bidR bidL
  cases hx : inr x (A 1 0) with
  | false =>
    rw [hx] at g1
    refine ⟨ρ, p_X10_bid_0_1 (r1 := bI false) (by rw [e0]; exact g1) rfl, ?_, ff⟩
    rw [if_neg (fun z => by cases z.1)]; exact hL0
  | true =>
    rw [hx] at g1
    obtain ⟨h, hh, rfl⟩ := inr_of hx
    have ch : (nI h).toNatClampNeg = h := clamp (by omega)
    have o : vp_in (nI h) 50 := vin (by omega) (by decide)
    have f11 := (R0.2.2.2.2.2.1 h hh).1
    have w7 := (W.2.2.2.1 h hh).2.2.2.2.2.2.1
    rw [ch, if_pos rfl]
    by_cases q : A 11 h = 0
    · rw [if_pos q]
      obtain ⟨N, hN1, hN2⟩ : ∃ N, (bst (worthA A h) (A 0 0) N = bidS A h ∧ A 0 0 ≤ bps (worthA A h) (A 0 0) N ∧ N ≤ 80) ∧ ∀ m, m < N → bps (worthA A h) (A 0 0) m < A 0 0 := by
        by_cases hD : 0 < A 0 0
        · obtain ⟨N, a, b, c⟩ := bid_end (w := worthA A h) (fun e he => worth_le W he) hD
          refine ⟨N, ⟨?_, b, by omega⟩, fun m hm => Nat.lt_of_not_le (c m hm)⟩
          have := bst_stable hD b (10 * A 0 0 - N)
          rw [show N + (10 * A 0 0 - N) = 10 * A 0 0 by omega] at this
          exact this.symm
        · exact ⟨0, ⟨by unfold bidS; rw [bst0 _ hD]; rfl, by omega, by omega⟩, fun m hm => by omega⟩
      have pl := bps_le (w := worthA A h) (D := A 0 0) N
      have lp : ∀ v τ, hq_m 272 (d + 5) v τ 24 [some (.ref 52), some (.int (nI h)), some (.int (lbd (bidS A h).2)), some (.int (nI (bidS A h).1)), some (.int (nI (bps (worthA A h) (A 0 0) N))), some (.int (nI (N % A 0 0))), none, none, none] [] ρ → hq_m 272 (d + 5) v τ 24 [some (.ref 52), some (.int (nI h)), some (.int (-2)), some (.int (nI 0)), some (.int (nI 0)), some (.int (nI 0)), none, none, none] [] ρ := by
        intro v τ k
        rw [← hN1.1] at k
        have z0 : 0 % A 0 0 = 0 := Nat.zero_mod _
        have := hq_m.for (fun n => [some (.ref 52), some (.int (nI h)), some (.int (lbd (bst (worthA A h) (A 0 0) n).2)), some (.int (nI (bst (worthA A h) (A 0 0) n).1)), some (.int (nI (bps (worthA A h) (A 0 0) n))), some (.int (nI (n % A 0 0))), none, none, none]) (fun _ => ρ) N ?_ k 0 (Nat.zero_le _)
        · rw [z0] at this; exact this
        intro n hn ih
        have hp := hN2 n hn
        have he : n % A 0 0 < A 0 0 := Nat.mod_lt _ (by omega)
        have hs : bst (worthA A h) (A 0 0) (n + 1) = bs (worthA A h) (bst (worthA A h) (A 0 0) n) (n % A 0 0) := rfl
        have ht : bps (worthA A h) (A 0 0) (n + 1) = if n % A 0 0 + 1 ≠ (bst (worthA A h) (A 0 0) n).2 ∧ (bst (worthA A h) (A 0 0) n).1 < worthA A h (n % A 0 0) then 0 else bps (worthA A h) (A 0 0) n + 1 := rfl
        have hd : (n + 1) % A 0 0 = (n % A 0 0 + 1) % A 0 0 := by rw [Nat.add_mod (n % A 0 0), Nat.mod_mod, ← Nat.add_mod]
        obtain ⟨p1, p2⟩ := bidn_le W h n (by omega)
        have wl := worth_le (h := h) W he
        rw [hs, ht, hd] at ih
        revert ih
        generalize bst (worthA A h) (A 0 0) n = S at p1 p2 ⊢
        generalize bps (worthA A h) (A 0 0) n = B at hp ⊢
        generalize n % A 0 0 = e at he wl ⊢
        intro ih
        unfold bs at ih
        have c1 : nI B < ρ.1 52 3 := by rw [R0.2.1]; exact nlt hp (by omega)
        have oe : vp_in (nI e) 8 := vin (by omega) (by decide)
        have ce : (nI e).toNatClampNeg = e := clamp (by omega)
        have on := onA_lt A (e + 1) b2
        have g2 := m_onDn (d := d + 3) R0 he
        have g3 := m_holdsOfn (d := d + 2) R0 on
        have n0 : ¬ ρ.1 52 3 = 0 := by rw [R0.2.1]; exact nI_ne0 (by omega) (by omega)
        have md : (nI e + nI 1) - (nI e + nI 1) / ρ.1 52 3 * ρ.1 52 3 = nI ((e + 1) % A 0 0) := by rw [R0.2.1]; exact modn (by omega) b1
        have fl0 := m_flag (d := d + 3) (σ := ρ) false
        have fl1 := m_flag (d := d + 3) (σ := ρ) true
        by_cases z1 : e + 1 = S.2
        · rw [if_neg (fun z => z.1 z1), if_neg (fun z => z.1 z1)] at ih
          refine p_X10_bid_24_1 c1 g2 oe g3 ((lbd_eq (by omega) (by omega)).mpr z1) fl0 rfl rfl n0 ?_
          rw [md, nplus]
          show hq_m _ _ _ _ _ [_, _, _, some (.int (nI S.1 + nI 0)), _, _, _, _, _] _ _
          rw [nplus]; exact ih
        · have n1 : ¬ nI e = lbd S.2 := fun z => z1 ((lbd_eq (by omega) (by omega)).mp z)
          have g4 := m_fits (d := d + 3) R0 hh he
          have g5 := s_bitCount (d := d + 3) (σ := ρ) on
          have pp := pop_le (onA A (e + 1))
          have ws : worthA A h e = if fitsA A h e && decide (pop (onA A (e + 1)) < 2) then A 5 e - sset (onA A (e + 1)) (h0 A) (A 1 0) else 0 := rfl
          cases qf : fitsA A h e with
          | false =>
            rw [qf] at g4 ws
            have w0 : worthA A h e = 0 := ws
            rw [if_neg (fun z => by omega), if_neg (fun z => by omega)] at ih
            refine p_X10_bid_24_5 c1 g2 oe g3 n1 g4 rfl fl0 rfl rfl n0 ?_
            rw [md, nplus]
            show hq_m _ _ _ _ _ [_, _, _, some (.int (nI S.1 + nI 0)), _, _, _, _, _] _ _
            rw [nplus]; exact ih
          | true =>
            rw [qf] at g4 ws
            by_cases q2 : pop (onA A (e + 1)) < 2
            · have w1 : worthA A h e = A 5 e - sset (onA A (e + 1)) (h0 A) (A 1 0) := by rw [ws]; simp [q2]
              have hsl := sum_lt W (h0_le W) (onA A (e + 1))
              have w5 := (W.2.2.1 e he).2.2.2.2.2.1
              have mx : (if nI 0 < (ρ.1 57 (nI e).toNatClampNeg - nI (sset (onA A (e + 1)) (h0 A) (A 1 0))) then (ρ.1 57 (nI e).toNatClampNeg - nI (sset (onA A (e + 1)) (h0 A) (A 1 0))) else nI 0) = nI (worthA A h e) := by
                rw [ce, (R0.2.2.2.1 e he).2.2.2, max_val (by omega) (by omega), w1]
              by_cases z2 : S.1 < worthA A h e
              · rw [if_pos ⟨z1, z2⟩, if_pos ⟨z1, z2⟩] at ih
                rw [show lbd (e + 1) = nI e from by unfold lbd; rw [if_neg (by omega)]; rfl] at ih
                refine p_X10_bid_24_16 c1 g2 oe g3 n1 g4 (by decide) g5 (nlt q2 (by decide)) ?_ fl1 (by decide) (by decide) n0 ?_
                · rw [mx, nplus]; exact nI_nlt (by omega) (by omega)
                · rw [md]
                  show hq_m _ _ _ _ _ [_, _, _, some (.int (nI S.1 + nI 1)), _, _, _, _, _] _ _
                  rw [nplus]
                  exact ih
              · rw [if_neg (fun z => z2 z.2), if_neg (fun z => z2 z.2)] at ih
                refine p_X10_bid_24_9 c1 g2 oe g3 n1 g4 (by decide) g5 (nlt q2 (by decide)) ?_ fl0 rfl rfl n0 ?_
                · rw [mx, nplus]; exact nlt (by omega) (by omega)
                · rw [md, nplus]
                  show hq_m _ _ _ _ _ [_, _, _, some (.int (nI S.1 + nI 0)), _, _, _, _, _] _ _
                  rw [nplus]; exact ih
            · have w0 : worthA A h e = 0 := by rw [ws]; simp [q2]
              rw [if_neg (fun z => by omega), if_neg (fun z => by omega)] at ih
              refine p_X10_bid_24_17 c1 g2 oe g3 n1 g4 (by decide) g5 (nI_nlt (by omega) (by omega)) fl0 rfl rfl n0 ?_
              rw [md, nplus]
              show hq_m _ _ _ _ _ [_, _, _, some (.int (nI S.1 + nI 0)), _, _, _, _, _] _ _
              rw [nplus]; exact ih
      have c2 : ρ.1 61 (nI h).toNatClampNeg < 0 := by rw [ch, f11, q]; decide
      have c3 : ¬ nI (bps (worthA A h) (A 0 0) N) < ρ.1 52 3 := by rw [R0.2.1]; exact nI_nlt hN1.2.1 (by omega)
      obtain ⟨p1, p2⟩ := bidS_le W h
      by_cases z : (bidS A h).2 = 0
      · rw [if_neg (fun y => y.2.2 z)]
        have l2 : lbd (bidS A h).2 = -2 := by rw [z]; rfl
        rw [l2]
        exact ⟨ρ, p_X10_bid_0_2 (r1 := bI true) (ρ1 := ρ) (by rw [e0]; exact g1) (by decide) o c2 (lp _ _ (p_X10_bid_24_21 c3 ((lbd_lt (by omega)).mpr z))), hL0, ff⟩
      · rw [if_pos ⟨rfl, q, z⟩]
        have f3 : Fr [(52, 2), (53, 0)] ρ (hq_sI ρ 52 1 (nI 0)) := (Fr.rf _).sI rfl
        obtain ⟨σ2, d1, d2, d3⟩ := m_enters (d := d + 3) (mR.nil (σ := ρ)) (by decide) (nI (bidS A h).1).toInt64
        exact ⟨σ2, p_X10_bid_0_2 (r1 := bI true) (ρ1 := ρ) (by rw [e0]; exact g1) (by decide) o c2 (lp _ _ (p_X10_bid_24_22 c3 (fun y => z ((lbd_lt (by omega)).mp y)) d1)), d2, ff.tr ((f3.tr d3).up (by decide))⟩
    · rw [if_neg q, if_neg (fun y => q y.2.1)]
      refine ⟨ρ, p_X10_bid_0_3 (r1 := bI true) (ρ1 := ρ) (by rw [e0]; exact g1) (by decide) o ?_, hL0, ff⟩
      rw [ch, f11, ltz, pk_sub (by omega), nI_toInt (by omega)]
      omega
end BID
