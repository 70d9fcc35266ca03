/-! hangings: which set of doors (pure) -/
def zF : Nat → Nat := fun _ => 0
def fea (A : TA) (m : Nat) : Prop := ∃ c, Hg A zF (ds m (A 0 0)) 0 c
theorem fea_iff {A : TA} {m : Nat} (F : Nat → Nat) : fea A m ↔ ∃ c, Hg A F (ds m (A 0 0)) 0 c := ⟨fun ⟨_, h⟩ => Hg_any h, fun ⟨_, h⟩ => Hg_any h⟩
theorem fea_0 (A : TA) : fea A 0 := ⟨0, by
  have : ds 0 (A 0 0) = [] := dsF_none (fun x _ _ => by simp)
  rw [this]
  exact rfl⟩
theorem Hg_less {A : TA} {F : Nat → Nat} {m e c : Nat} (hb : m.testBit e = true) (he : e < A 0 0) (h : Hg A F (ds m (A 0 0)) 0 c) : ∃ c', c' ≤ c ∧ Hg A F (ds (ndiff m (2 ^ e)) (A 0 0)) 0 c' := by
  have p := dsF_del hb (k := A 0 0) (e := 0) (Nat.zero_le _) (by omega)
  obtain ⟨b, _, _, c', h3, h4⟩ := Hg_perm p h
  exact ⟨c', by omega, Hg_sub (fun i hi => by simp at hi) h3⟩
theorem fea_sub {A : TA} {m e : Nat} (hb : m.testBit e = true) (he : e < A 0 0) (h : fea A m) : fea A (ndiff m (2 ^ e)) := by
  obtain ⟨c, h⟩ := h
  obtain ⟨c', _, h'⟩ := Hg_less hb he h
  exact ⟨c', h'⟩
theorem ndiff_bit_lt {m e : Nat} (hb : m.testBit e = true) : ndiff m (2 ^ e) < m := by
  have h := ndiff_or hb
  have le : ndiff m (2 ^ e) ≤ m := by
    have := Nat.left_le_or (n := ndiff m (2 ^ e)) (m := 2 ^ e)
    rw [h] at this
    exact this
  have ne : ndiff m (2 ^ e) ≠ m := fun z => by
    have t := ndiff_self (b := m) (h := e)
    rw [z, hb] at t
    cases t
  omega
theorem fea_2 {A : TA} (W : Wf A) {m : Nat} (hm : m < 2 ^ A 0 0) (h : fea A m) : 2 * pop m ≤ A 1 0 := by
  obtain ⟨c, h⟩ := h
  have := (Hg_lo W.2.1 (F := zF) (fun _ _ => Nat.zero_le _) h).2.2
  rw [ds_len hm (by have := W.1; omega)] at this
  exact this
/-- most: the first of the largest -/
noncomputable def moB (A : TA) : Nat → Nat
  | 0 => 0
  | k + 1 => if decide (pop (moB A k) < pop k) && cb (fea A k) then k else moB A k
theorem moB_s {A : TA} {k : Nat} : moB A (k + 1) = if decide (pop (moB A k) < pop k) && cb (fea A k) then k else moB A k := rfl
theorem moB_lt {A : TA} : ∀ k, moB A k < k ∨ moB A k = 0
  | 0 => Or.inr rfl
  | k + 1 => by
    unfold moB
    split
    · left; omega
    · rcases moB_lt (A := A) k with h | h
      · left; omega
      · exact Or.inr h
theorem moB_fea {A : TA} : ∀ k, fea A (moB A k)
  | 0 => fea_0 A
  | k + 1 => by
    unfold moB
    split
    · rename_i h
      rw [Bool.and_eq_true] at h
      exact cb_t.mp h.2
    · exact moB_fea k
/-- best -/
def btr (A : TA) (b c : Nat) : Prop := keptA A c < keptA A b ∨ (keptA A c = keptA A b ∧ (pop b < pop c ∨ (pop b = pop c ∧ b ≤ c)))
def isB (A : TA) (b : Nat) : Prop := b < 2 ^ A 0 0 ∧ fea A b ∧ ∀ c, c < 2 ^ A 0 0 → fea A c → btr A b c
theorem isB_uq {A : TA} {b c : Nat} (h : isB A b) (k : isB A c) : b = c := by
  have h1 := h.2.2 c k.1 k.2.1
  have h2 := k.2.2 b h.1 h.2.1
  unfold btr at h1 h2
  omega
noncomputable def bsB (A : TA) : Nat → Nat
  | 0 => 0
  | k + 1 => if (decide (keptA A (bsB A k) < keptA A k) || (decide (keptA A k = keptA A (bsB A k)) && decide (pop k < pop (bsB A k)))) && cb (fea A k) then k else bsB A k
theorem bsB_ok {A : TA} : ∀ k, (bsB A k < k ∨ bsB A k = 0) ∧ fea A (bsB A k) ∧ ∀ c, c < k → fea A c → btr A (bsB A k) c
  | 0 => ⟨Or.inr rfl, fea_0 A, fun c hc => by omega⟩
  | k + 1 => by
    obtain ⟨h1, h2, h3⟩ := bsB_ok (A := A) k
    unfold bsB
    generalize bsB A k = b at h1 h2 h3
    by_cases q : ((decide (keptA A b < keptA A k) || (decide (keptA A k = keptA A b) && decide (pop k < pop b))) && cb (fea A k)) = true
    · rw [if_pos q]
      rw [Bool.and_eq_true] at q
      refine ⟨by omega, cb_t.mp q.2, fun c hc fc => ?_⟩
      have q1 := q.1
      simp at q1
      unfold btr
      by_cases z : c = k
      · subst z; omega
      · have := h3 c (by omega) fc
        unfold btr at this
        omega
    · rw [if_neg q]
      refine ⟨by omega, h2, fun c hc fc => ?_⟩
      by_cases z : c = k
      · subst z
        have q1 : ¬ ((decide (keptA A b < keptA A c) || (decide (keptA A c = keptA A b) && decide (pop c < pop b))) = true) := fun x => q (by rw [Bool.and_eq_true]; exact ⟨x, cb_t.mpr fc⟩)
        simp at q1
        unfold btr
        omega
      · exact h3 c (by omega) fc
noncomputable def bst2 (A : TA) : Nat := bsB A (2 ^ A 0 0)
theorem bst2_ok (A : TA) : isB A (bst2 A) := by
  obtain ⟨h1, h2, h3⟩ := bsB_ok (A := A) (2 ^ A 0 0)
  refine ⟨?_, h2, h3⟩
  rcases h1 with h | h
  · exact h
  · show bsB A (2 ^ A 0 0) < _
    rw [h]; exact Nat.two_pow_pos _
/-- cheap -/
def gdC (A : TA) (F : Nat → Nat) (v c l : Nat) : Prop := c < 2 ^ A 0 0 ∧ v ≤ keptA A c ∧ isM (Hg A F (ds c (A 0 0)) 0) l
def chP (A : TA) (F : Nat → Nat) (v : Nat) (o : Option Nat) : Prop := match o with
  | none => ∀ c l, ¬ gdC A F v c l
  | some b => ∃ l, gdC A F v b l ∧ ∀ c l', gdC A F v c l' → l < l' ∨ (l = l' ∧ b ≤ c)
theorem isM_uq {P : Nat → Prop} {a b : Nat} (h : isM P a) (k : isM P b) : a = b := Nat.le_antisymm (h.2 b k.1) (k.2 a h.1)
theorem chP_uq {A : TA} {F : Nat → Nat} {v : Nat} {o o' : Option Nat} (h : chP A F v o) (k : chP A F v o') : o = o' := by
  cases o with
  | none =>
    cases o' with
    | none => rfl
    | some b =>
      obtain ⟨l, g, _⟩ := k
      exact absurd g (h b l)
  | some a =>
    obtain ⟨l, g, g'⟩ := h
    cases o' with
    | none => exact absurd g (k a l)
    | some b =>
      obtain ⟨l2, f, f'⟩ := k
      have h1 := g' b l2 f
      have h2 := f' a l g
      congr 1
      omega
def ndd (A : TA) (v m : Nat) : Bool := decide (v ≤ keptA A m) && allb (fun e => !m.testBit e || decide (keptA A (ndiff m (2 ^ e)) < v)) (A 0 0)
theorem isM_ex {P : Nat → Prop} {c : Nat} (h : P c) : ∃ l, l ≤ c ∧ isM P l := by
  obtain ⟨N, h1, h2, h3⟩ := least_of c h
  exact ⟨N, h1, h2, fun c hc => by
    apply Classical.byContradiction
    intro q
    exact h3 c (by omega) hc⟩
theorem ndd_down {A : TA} {F : Nat → Nat} {v : Nat} : ∀ (n c l : Nat), c ≤ n → gdC A F v c l → ∃ c0 l0, ndd A v c0 = true ∧ gdC A F v c0 l0 ∧ c0 ≤ c ∧ l0 ≤ l := by
  intro n
  induction n with
  | zero =>
    intro c l hc g
    have : c = 0 := by omega
    subst this
    refine ⟨0, l, ?_, g, Nat.le_refl _, Nat.le_refl _⟩
    unfold ndd
    rw [Bool.and_eq_true]
    exact ⟨by simpa using g.2.1, allb_true.mpr (fun j _ => by simp)⟩
  | succ n ih =>
    intro c l hc g
    cases q : ndd A v c with
    | true => exact ⟨c, l, q, g, Nat.le_refl _, Nat.le_refl _⟩
    | false =>
      unfold ndd at q
      rw [decide_eq_true g.2.1, Bool.true_and] at q
      obtain ⟨e, he, hf, _⟩ := allb_false q
      simp at hf
      have lt := ndiff_bit_lt hf.1
      obtain ⟨c', l1, h1⟩ := Hg_less hf.1 he g.2.2.1
      obtain ⟨l2, k1, k2⟩ := isM_ex h1
      obtain ⟨c0, l0, a1, a2, a3, a4⟩ := ih (ndiff c (2 ^ e)) l2 (by omega) ⟨by have := g.1; omega, hf.2, k2⟩
      exact ⟨c0, l0, a1, a2, by omega, by omega⟩
/-- values that are chosen by what they are -/
noncomputable def mcV (A : TA) (F : Nat → Nat) (m : Nat) : Nat := Classical.epsilon (fun l => isM (Hg A F (ds m (A 0 0)) 0) l)
noncomputable def chQ (A : TA) (F : Nat → Nat) (m : Nat) : List Nat := Classical.epsilon (fun Q => CH A F m (A 0 0) 0 0 (mcV A F m) Q)
noncomputable def chO (A : TA) (F : Nat → Nat) (v : Nat) : Option Nat := Classical.epsilon (fun o => chP A F v o)
theorem mcV_eq {A : TA} {F : Nat → Nat} {m l : Nat} (h : isM (Hg A F (ds m (A 0 0)) 0) l) : l = mcV A F m := isM_uq h (Classical.epsilon_spec (p := fun l => isM (Hg A F (ds m (A 0 0)) 0) l) ⟨l, h⟩)
theorem chQ_eq {A : TA} {F : Nat → Nat} {m l : Nat} {Q : List Nat} (h : isM (Hg A F (ds m (A 0 0)) 0) l) (k : CH A F m (A 0 0) 0 0 l Q) : Q = chQ A F m := by
  rw [mcV_eq h] at k
  exact CH_uq k (Classical.epsilon_spec (p := fun Q => CH A F m (A 0 0) 0 0 (mcV A F m) Q) ⟨Q, k⟩)
theorem chO_eq {A : TA} {F : Nat → Nat} {v : Nat} {o : Option Nat} (h : chP A F v o) : o = chO A F v := chP_uq h (Classical.epsilon_spec (p := fun o => chP A F v o) ⟨o, h⟩)
theorem LC_M {P : Nat → Prop} {v I : Nat} (h : LC I P v) (b : ∀ c, P c → c < I) : (v = I ∧ ∀ c, ¬ P c) ∨ (v ≠ I ∧ isM P v) := by
  rcases h with ⟨h1, h2⟩ | ⟨h1, h2⟩
  · exact Or.inr ⟨by have := b v h1; omega, h1, h2⟩
  · exact Or.inl ⟨h2, h1⟩
noncomputable def allR (A : TA) (x : Int32) : Int32 := if inr x (2 ^ A 0 0) then (if cb (fea A x.toInt.toNat) then nI (A 1 0) - nI (2 * pop x.toInt.toNat) else -2) else -1
noncomputable def allL (A : TA) (x : Int32) (L : List Int64) : List Int64 := if inr x (2 ^ A 0 0) && cb (fea A x.toInt.toNat) then qL (chQ A zF x.toInt.toNat) else L
noncomputable def mstB (A : TA) : Nat := moB A (2 ^ A 0 0)
noncomputable def bstL (A : TA) : List Int64 := (nI (bst2 A)).toInt64 :: qL (chQ A zF (bst2 A))
noncomputable def cheR (A : TA) (x : Int32) : Int32 := if inb x 0 63 then (match chO A (A 8) x.toInt.toNat with
  | none => -2
  | some b => nI (mcV A (A 8) b)) else -1
noncomputable def cheL (A : TA) (x : Int32) (L : List Int64) : List Int64 := if inb x 0 63 then (match chO A (A 8) x.toInt.toNat with
  | none => L
  | some b => (nI b).toInt64 :: qL (chQ A (A 8) b)) else L
