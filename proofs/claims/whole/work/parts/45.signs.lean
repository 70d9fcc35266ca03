/-! Reading signs: n signs f, of which the first T are seen; p the place. -/
def cZ (n : Nat) (f : Nat → Nat) (T p : Nat) (σ : hq_St) : Prop := cX n f σ ∧ T ≤ n ∧ p ≤ T ∧ σ.1 1 2 = nI p ∧ σ.1 1 3 = nI T
theorem cZ.dep {n T p : Nat} {f : Nat → Nat} : Dep [(1, 2), (1, 3), (1, 4), (2, 0)] (cZ n f T p) := fun σ τ e h => by
  have g : ∀ c j, inF [(1, 2), (1, 3), (1, 4), (2, 0)] c j = true → τ.1 c j = σ.1 c j := fun c j q => (e c j q).1
  obtain ⟨⟨h1, h2, h3⟩, h4, h5, h6, h7⟩ := h
  exact ⟨⟨h1, (g 1 1 rfl).trans h2, fun j hj => ⟨(h3 j hj).1, (g 2 j rfl).trans (h3 j hj).2⟩⟩, h4, h5, (g 1 2 rfl).trans h6, (g 1 3 rfl).trans h7⟩
def mZ (n : Nat) (f : Nat → Nat) (T p : Nat) (σ : hq_St) : Prop := (n ≤ 80 ∧ ∀ j, j < n → f j < 256 ∧ σ.1 62 j = nI (f j)) ∧ T ≤ n ∧ p ≤ T ∧ σ.1 52 16 = nI p ∧ σ.1 52 17 = nI T
theorem mZ.dep {n T p : Nat} {f : Nat → Nat} : Dep [(52, 17), (52, 18), (62, 0)] (mZ n f T p) := fun σ τ e h => by
  have g : ∀ c j, inF [(52, 17), (52, 18), (62, 0)] c j = true → τ.1 c j = σ.1 c j := fun c j q => (e c j q).1
  obtain ⟨⟨h1, h3⟩, h4, h5, h6, h7⟩ := h
  exact ⟨⟨h1, fun j hj => ⟨(h3 j hj).1, (g 62 j rfl).trans (h3 j hj).2⟩⟩, h4, h5, (g 52 16 rfl).trans h6, (g 52 17 rfl).trans h7⟩
def pkA (f : Nat → Nat) (T p : Nat) : Int32 := if p < T then nI (f p) else -1
def isA (f : Nat → Nat) (T p w : Nat) : Bool := decide (p < T ∧ f p = w)
def dgA (f : Nat → Nat) (T p lo hi : Nat) : Bool := decide (p < T ∧ lo + 48 ≤ f p ∧ f p ≤ hi + 48)
def stB (b : Bool) (p : Nat) : Nat := if b then p + 1 else p
section SG
variable {d : Nat} {σ : hq_St} {n T p : Nat} {f : Nat → Nat}
theorem cZ.ch (h : cZ n f T p σ) (hp : p < T) : f p < 256 ∧ σ.1 2 p = nI (f p) := h.1.2.2 p (by have := h.2.1; omega)
theorem mZ.ch (h : mZ n f T p σ) (hp : p < T) : f p < 256 ∧ σ.1 62 p = nI (f p) := h.1.2 p (by have := h.2.1; omega)
theorem s_peek (h : cZ n f T p σ) : hq_c 65 (d + 1) [.ref 1] σ (some (.int (pkA f T p))) σ := by
  have h80 := h.1.1
  have hT := h.2.1
  have hp := h.2.2.1
  have n0 : ¬ σ.1 1 2 < 0 := by rw [h.2.2.2.1, ltz, nI_toInt (by omega)]; omega
  unfold pkA
  by_cases q : p < T
  · rw [if_pos q]
    have H := p_X6_peek_0_2 (d := d) (σ := σ) n0 (by rw [h.2.2.2.1, h.2.2.2.2]; exact nlt q (by omega)) (by rw [h.2.2.2.1]; exact vin (by omega) (by decide))
    rw [h.2.2.2.1, clamp (by omega), (h.ch q).2] at H
    exact H
  · rw [if_neg q]
    exact p_X6_peek_0_3 n0 (by rw [h.2.2.2.1, h.2.2.2.2]; exact nI_nlt (by omega) (by omega))
theorem cZ.step (h : cZ n f T p σ) (hp : p < T) : cZ n f T (p + 1) (hq_sI σ 1 2 (nI (p + 1))) := by
  have fr : Fr [(1, 3)] σ (hq_sI σ 1 2 (nI (p + 1))) := (Fr.rf σ).sI rfl
  exact ⟨cX.dep.fr fr (by decide) h.1, h.2.1, by omega, sI_eq, (fr.i rfl).trans h.2.2.2.2⟩
theorem pkA_eq (h : cZ n f T p σ) {w : Nat} (hw : w < 256) : pkA f T p = nI w ↔ isA f T p w = true := by
  unfold pkA isA
  by_cases q : p < T
  · have := (h.ch q).1
    rw [if_pos q, nI_eq (by omega) (by omega)]
    simp [q]
  · rw [if_neg q]
    simp [q]
    intro z
    rw [fa_eq, nI_toInt (by omega)] at z
    have : (-1 : Int32).toInt = -1 := rfl
    omega
theorem s_eat (h : cZ n f T p σ) {w : Nat} (hw : w < 256) : ∃ τ, hq_c 66 (d + 2) [.ref 1, .int (nI w)] σ (some (.int (bI (isA f T p w)))) τ ∧ cZ n f T (stB (isA f T p w) p) τ ∧ Fr [(1, 3)] σ τ := by
  have g := s_peek (d := d) h
  have h80 := h.1.1
  have hT := h.2.1
  cases q : isA f T p w with
  | true =>
    have hp : p < T := by unfold isA at q; simp at q; exact q.1
    have H := p_X6_eat_0_1 g ((pkA_eq h hw).mpr q)
    rw [h.2.2.2.1, nplus] at H
    exact ⟨_, H, h.step hp, (Fr.rf σ).sI rfl⟩
  | false => exact ⟨σ, p_X6_eat_0_2 g (fun z => by rw [(pkA_eq h hw).mp z] at q; cases q), h, Fr.rf σ⟩
theorem s_digit (h : cZ n f T p σ) {lo hi : Nat} (hlo : lo ≤ 9) (hhi : hi ≤ 9) : ∃ τ, hq_c 67 (d + 2) [.ref 1, .int (nI lo), .int (nI hi)] σ (some (.int (if dgA f T p lo hi then nI (f p - 48) else -1))) τ ∧ cZ n f T (stB (dgA f T p lo hi) p) τ ∧ Fr [(1, 3)] σ τ := by
  have h80 := h.1.1
  have hT := h.2.1
  have hp := h.2.2.1
  have e48 : (nI 48).toInt = 48 := rfl
  have n0 : ¬ σ.1 1 2 < 0 := by rw [h.2.2.2.1, ltz, nI_toInt (by omega)]; omega
  by_cases q : p < T
  · have n1 : σ.1 1 2 < σ.1 1 3 := by rw [h.2.2.2.1, h.2.2.2.2]; exact nlt q (by omega)
    have o1 : vp_in (σ.1 1 2) 80 := by rw [h.2.2.2.1]; exact vin (by omega) (by decide)
    have ev : σ.1 2 (σ.1 1 2).toNatClampNeg = nI (f p) := by rw [h.2.2.2.1, clamp (by omega), (h.ch q).2]
    have h256 := (h.ch q).1
    have ei : (nI (f p) - nI 48).toInt = (f p : Int) - 48 := by
      rw [Int32.toInt_sub, nI_toInt (by omega), e48]
      exact Int.bmod_eq_of_le (by omega) (by omega)
    by_cases q1 : lo + 48 ≤ f p
    · by_cases q2 : f p ≤ hi + 48
      · have e : dgA f T p lo hi = true := by unfold dgA; simp [q, q1, q2]
        rw [e, if_pos rfl]
        have H := p_X6_digit_0_6 (d := d + 1) (l1 := nI lo) (l2 := nI hi) n0 n1 o1 (by rw [ev, fa_lt, ei, nI_toInt (by omega)]; omega) (by rw [ev, fa_lt, ei, nI_toInt (by omega)]; omega)
        rw [ev, h.2.2.2.1, nplus, pk_sub (by omega)] at H
        exact ⟨_, H, h.step q, (Fr.rf σ).sI rfl⟩
      · have e : dgA f T p lo hi = false := by unfold dgA; simp [q, q1, q2]
        rw [e, if_neg (by decide)]
        exact ⟨σ, p_X6_digit_0_5 (d := d + 1) n0 n1 o1 (by rw [ev, fa_lt, ei, nI_toInt (by omega)]; omega) (by rw [ev, fa_lt, ei, nI_toInt (by omega)]; omega), h, Fr.rf σ⟩
    · have e : dgA f T p lo hi = false := by unfold dgA; simp [q, q1]
      rw [e, if_neg (by decide)]
      exact ⟨σ, p_X6_digit_0_4 (d := d + 1) n0 n1 o1 (by rw [ev, fa_lt, ei, nI_toInt (by omega)]; omega), h, Fr.rf σ⟩
  · have n1 : ¬ σ.1 1 2 < σ.1 1 3 := by rw [h.2.2.2.1, h.2.2.2.2]; exact nI_nlt (by omega) (by omega)
    have e : dgA f T p lo hi = false := by unfold dgA; simp [q]
    rw [e, if_neg (by decide)]
    refine ⟨σ, p_X6_digit_0_7 (d := d + 1) n0 n1 ?_, h, Fr.rf σ⟩
    rw [lt_nI (by omega)]
    have : (-1 : Int32).toInt = -1 := rfl
    omega
theorem s_isOver (h : cZ n f T p σ) : hq_c 64 (d + 2) [.ref 1] σ (some (.int (bI (decide (p = T))))) σ := by
  have g := s_peek (d := d) h
  have hp := h.2.2.1
  unfold pkA at g
  by_cases q : p < T
  · rw [if_pos q] at g
    have := (h.ch q).1
    rw [show decide (p = T) = false by simp; omega]
    refine p_X6_isOver_0_2 g ?_
    rw [fa_eq, nI_toInt (by omega)]
    have : (-1 : Int32).toInt = -1 := rfl
    omega
  · rw [if_neg q] at g
    rw [show decide (p = T) = true by simp; omega]
    exact p_X6_isOver_0_1 g rfl
theorem s_isWhole (h : cZ n f T p σ) : hq_c 63 (d + 1) [.ref 1] σ (some (.int (bI (decide (p = n))))) σ := by
  have h80 := h.1.1
  have hT := h.2.1
  have hp := h.2.2.1
  by_cases q : p = n
  · rw [show decide (p = n) = true by simp; exact q]
    exact p_X6_isWhole_0_1 (by rw [h.2.2.2.1, h.1.2.1, q])
  · rw [show decide (p = n) = false by simp; exact q]
    exact p_X6_isWhole_0_2 (by rw [h.2.2.2.1, h.1.2.1, nI_eq (by omega) (by omega)]; exact q)
theorem s_open (h : cX n f σ) {k : Nat} (hk : k < 2 ^ 31) : ∃ τ, hq_c 62 (d + 1) [.ref 1, .int (nI k)] σ none τ ∧ cZ n f (min n k) 0 τ ∧ Fr [(1, 3), (1, 4)] σ τ := by
  have fr : Fr [(1, 3), (1, 4)] σ (hq_sI (hq_sI σ 1 2 (nI 0)) 1 3 (nI (min n k))) := ((Fr.rf σ).sI rfl).sI rfl
  have H := p_X6_open_0_1 (d := d) (σ := σ) (l1 := nI k)
  have e : (if nI k < (hq_sI σ 1 2 (nI 0)).1 1 1 then nI k else (hq_sI σ 1 2 (nI 0)).1 1 1) = nI (min n k) := by
    rw [sI_slot (by decide), h.2.1]
    have h80 := h.1
    exact min_val (by omega) hk
  rw [e] at H
  exact ⟨_, H, ⟨cX.dep.fr fr (by decide) h, by omega, Nat.zero_le _, by rw [sI_slot (by decide), sI_eq], sI_eq⟩, fr⟩
-- the reference
theorem mZ.step (h : mZ n f T p σ) (hp : p < T) : mZ n f T (p + 1) (hq_sI σ 52 16 (nI (p + 1))) := by
  have fr : Fr [(52, 17)] σ (hq_sI σ 52 16 (nI (p + 1))) := (Fr.rf σ).sI rfl
  exact ⟨⟨h.1.1, fun j hj => ⟨(h.1.2 j hj).1, (fr.i rfl).trans (h.1.2 j hj).2⟩⟩, h.2.1, by omega, sI_eq, (fr.i rfl).trans h.2.2.2.2⟩
theorem mZ.same (h : mZ n f T p σ) : mZ n f T p (hq_sI σ 52 16 (nI p)) := by
  have fr : Fr [(52, 17)] σ (hq_sI σ 52 16 (nI p)) := (Fr.rf σ).sI rfl
  exact ⟨⟨h.1.1, fun j hj => ⟨(h.1.2 j hj).1, (fr.i rfl).trans (h.1.2 j hj).2⟩⟩, h.2.1, h.2.2.1, sI_eq, (fr.i rfl).trans h.2.2.2.2⟩
theorem m_takes (h : mZ n f T p σ) {w : Nat} (hw : w < 256) : ∃ τ, hq_c 179 (d + 2) [.ref 52, .int (nI w)] σ (some (.int (bI (isA f T p w)))) τ ∧ mZ n f T (stB (isA f T p w) p) τ ∧ Fr [(52, 17)] σ τ := by
  have h80 := h.1.1
  have hT := h.2.1
  have hp := h.2.2.1
  have fr : ∀ v, Fr [(52, 17)] σ (hq_sI σ 52 16 v) := fun v => (Fr.rf σ).sI rfl
  unfold isA
  by_cases q : p < T
  · have c1 : σ.1 52 16 < σ.1 52 17 := by rw [h.2.2.2.1, h.2.2.2.2]; exact nlt q (by omega)
    have o1 : vp_in (σ.1 52 16) 80 := by rw [h.2.2.2.1]; exact vin (by omega) (by decide)
    have ec : σ.1 62 (σ.1 52 16).toNatClampNeg = nI (f p) := by rw [h.2.2.2.1, clamp (by omega), (h.ch q).2]
    have h256 := (h.ch q).1
    by_cases q1 : f p = w
    · rw [show decide (p < T ∧ f p = w) = true by simp [q, q1]]
      have H := p_X10_takes_0_1 (d := d + 1) (σ := σ) (l1 := nI w) c1 o1 (by rw [ec, q1]) (m_flag (d := d) true)
      rw [h.2.2.2.1, show bI true = nI 1 from rfl, nplus] at H
      exact ⟨_, H, h.step q, fr _⟩
    · rw [show decide (p < T ∧ f p = w) = false by simp [q1]]
      have H := p_X10_takes_0_2 (d := d + 1) (σ := σ) (l1 := nI w) c1 o1 (by rw [ec, nI_eq (by omega) (by omega)]; exact q1) (m_flag (d := d) false)
      rw [h.2.2.2.1, show bI false = nI 0 from rfl, nplus] at H
      exact ⟨_, H, h.same, fr _⟩
  · rw [show decide (p < T ∧ f p = w) = false by simp [q]]
    have H := p_X10_takes_0_3 (d := d + 1) (σ := σ) (l1 := nI w) (by rw [h.2.2.2.1, h.2.2.2.2]; exact nI_nlt (by omega) (by omega)) (m_flag (d := d) false)
    rw [h.2.2.2.1, show bI false = nI 0 from rfl, nplus] at H
    exact ⟨_, H, h.same, fr _⟩
theorem m_isDigit (h : mZ n f T p σ) : hq_c 180 (d + 2) [.ref 52] σ (some (.int (bI (dgA f T p 0 9)))) σ := by
  have h80 := h.1.1
  have hT := h.2.1
  have hp := h.2.2.1
  unfold dgA
  by_cases q : p < T
  · have c1 : σ.1 52 16 < σ.1 52 17 := by rw [h.2.2.2.1, h.2.2.2.2]; exact nlt q (by omega)
    have o1 : vp_in (σ.1 52 16) 80 := by rw [h.2.2.2.1]; exact vin (by omega) (by decide)
    have ec : σ.1 62 (σ.1 52 16).toNatClampNeg = nI (f p) := by rw [h.2.2.2.1, clamp (by omega), (h.ch q).2]
    have h256 := (h.ch q).1
    have g := m_inb (d := d) (σ := σ) (nI (f p)) (a := 48) (b := 57) (by decide) (by decide)
    have e : inb (nI (f p)) 48 57 = decide (p < T ∧ 0 + 48 ≤ f p ∧ f p ≤ 9 + 48) := by
      unfold inb
      rw [nI_toInt (by omega)]
      apply decide_eq_decide.mpr
      constructor <;> (intro z; omega)
    rw [e] at g
    cases q2 : decide (p < T ∧ 0 + 48 ≤ f p ∧ f p ≤ 9 + 48) with
    | true => rw [q2] at g; exact p_X10_isDigit_0_2 (r1 := bI true) c1 o1 (by rw [ec]; exact g) (by decide)
    | false => rw [q2] at g; exact p_X10_isDigit_0_1 (r1 := bI false) c1 o1 (by rw [ec]; exact g) rfl
  · rw [show decide (p < T ∧ 0 + 48 ≤ f p ∧ f p ≤ 9 + 48) = false by simp [q]]
    exact p_X10_isDigit_0_3 (by rw [h.2.2.2.1, h.2.2.2.2]; exact nI_nlt (by omega) (by omega))
/-- which of some signs it is: 0 none -/
def tbS (j : Nat) : List Nat :=
  match j with
  | 5 => [100] | 6 => [48, 49, 50, 51, 52, 53, 54, 55] | 7 => [108, 114] | 8 => [49, 50, 51, 52, 53, 54, 55, 56, 57] | 9 => [104] | 10 => [108, 114, 98] | 11 => [48, 49, 50, 51, 52, 53, 54, 55, 56, 57] | 12 => [114, 115, 111, 119, 110, 116, 105, 100, 120] | 13 => [60, 62, 61] | 14 => [43, 45] | 15 => [42, 47] | 16 => [104, 116, 111, 110] | _ => []
def ixS (j c : Nat) : Nat := match (tbS j).findIdx? (fun x => x == c) with
  | some k => k + 1
  | none => 0
theorem ixS_ok : ∀ j, j < 17 → 5 ≤ j → ∀ c, c < 256 → (match (hq_sbyt.getD j []).findIdx? (fun x => x == nI c) with | some k => nI k | none => (-1 : Int32)) = nI (ixS j c) - nI 1 ∧ ixS j c ≤ 10 := by decide +kernel
def ixA (f : Nat → Nat) (T p j : Nat) : Nat := if p < T then ixS j (f p) else 0
theorem m_among (h : mZ n f T p σ) {j : Nat} (h5 : 5 ≤ j) (hj : j < 17) : hq_prim 181 [.ref 52, .ref (1000 + j)] σ (some (.int (nI (ixA f T p j) - nI 1))) σ := by
  have h80 := h.1.1
  have hT := h.2.1
  have hp := h.2.2.1
  left
  refine ⟨rfl, j, hj, rfl, rfl, ?_, fun z => by
    rw [h.2.2.2.1, h.2.2.2.2, lt_nI (by omega), nI_toInt (by omega)] at z
    rw [h.2.2.2.1]
    exact vin (by omega) (by decide)⟩
  unfold hq_amongN ixA
  by_cases q : p < T
  · have c1 : σ.1 52 16 < σ.1 52 17 := by rw [h.2.2.2.1, h.2.2.2.2]; exact nlt q (by omega)
    rw [if_pos c1, if_pos q, h.2.2.2.1, clamp (by omega), (h.ch q).2]
    exact congrArg (fun x => some (Value.int x)) (ixS_ok j hj h5 (f p) (h.ch q).1).1.symm
  · have c1 : ¬ σ.1 52 16 < σ.1 52 17 := by rw [h.2.2.2.1, h.2.2.2.2]; exact nI_nlt (by omega) (by omega)
    rw [if_neg c1, if_neg q]
    rfl
theorem ixA_le (h : mZ n f T p σ) {j : Nat} (h5 : 5 ≤ j) (hj : j < 17) : ixA f T p j ≤ 10 ∧ (ixA f T p j ≠ 0 → p < T) := by
  unfold ixA
  by_cases q : p < T
  · rw [if_pos q]
    exact ⟨(ixS_ok j hj h5 (f p) (h.ch q).1).2, fun _ => q⟩
  · rw [if_neg q]
    exact ⟨by omega, fun z => absurd rfl z⟩
theorem m_takesOf (h : mZ n f T p σ) {j : Nat} (h5 : 5 ≤ j) (hj : j < 17) (hd : 8 ≤ d) : ∃ τ, hq_c 182 (d + 1) [.ref 52, .ref (1000 + j)] σ (some (.int (nI (ixA f T p j) - nI 1))) τ ∧ mZ n f T (stB (decide (ixA f T p j ≠ 0)) p) τ ∧ Fr [(52, 17)] σ τ := by
  have h80 := h.1.1
  have hT := h.2.1
  obtain ⟨il, ip⟩ := ixA_le h h5 hj
  have g := m_among h h5 hj
  have fr : ∀ v, Fr [(52, 17)] σ (hq_sI σ 52 16 v) := fun v => (Fr.rf σ).sI rfl
  obtain ⟨d', rfl⟩ : ∃ d', d = d' + 1 := ⟨d - 1, by omega⟩
  by_cases q : ixA f T p j = 0
  · have c1 : nI (ixA f T p j) - nI 1 < 0 := by rw [q]; decide
    have H := p_X10_takesOf_0_1 g hd c1 (m_flag (d := d') false)
    rw [h.2.2.2.1, show bI false = nI 0 from rfl, nplus] at H
    rw [show decide (ixA f T p j ≠ 0) = false by simp [q]]
    exact ⟨_, H, h.same, fr _⟩
  · have c1 : ¬ nI (ixA f T p j) - nI 1 < 0 := by rw [pk_sub (by omega), ltz, nI_toInt (by omega)]; omega
    have H := p_X10_takesOf_0_2 g hd c1 (m_flag (d := d') true)
    rw [h.2.2.2.1, show bI true = nI 1 from rfl, nplus] at H
    rw [show decide (ixA f T p j ≠ 0) = true by simp [q]]
    exact ⟨_, H, h.step (ip q), fr _⟩
theorem m_begins (h : mX n f σ) {k : Nat} (hk : k < 2 ^ 31) : ∃ τ, hq_c 178 (d + 1) [.ref 52, .int (nI k)] σ (some (.int (nI n))) τ ∧ mZ n f (min n k) 0 τ ∧ mX 0 f τ ∧ τ.1 52 18 = nI 0 ∧ Fr [(52, 16), (52, 17), (52, 18), (52, 19)] σ τ := by
  have H := p_X10_begins_0_1 (d := d) (σ := σ) (l1 := nI k)
  have h80 := h.1
  have e : (if nI k < σ.1 52 15 then nI k else σ.1 52 15) = nI (min n k) := by rw [h.2.1]; exact min_val (by omega) hk
  rw [e, h.2.1] at H
  have fr : Fr [(52, 16), (52, 17), (52, 18), (52, 19)] σ (hq_sI (hq_sI (hq_sI (hq_sI σ 52 15 (nI 0)) 52 16 (nI 0)) 52 18 (nI 0)) 52 17 (nI (min n k))) := ((((Fr.rf σ).sI rfl).sI rfl).sI rfl).sI rfl
  refine ⟨_, H, ⟨⟨h80, fun j hj => ⟨(h.2.2 j hj).1, (fr.i rfl).trans (h.2.2 j hj).2⟩⟩, by omega, Nat.zero_le _, ?_, sI_eq⟩, ⟨by omega, ?_, fun j hj => by omega⟩, ?_, fr⟩
  · rw [sI_slot (by decide), sI_slot (by decide), sI_eq]
  · rw [sI_slot (by decide), sI_slot (by decide), sI_slot (by decide), sI_eq]
  · rw [sI_slot (by decide), sI_eq]
/-- what a reader ends with: g it went, p where it stands -/
def fltA (n K : Nat) (g : Bool) (p : Nat) : Int32 := if g = true ∧ p = n ∧ n ≤ K then 0 else (-1 : Int32) - nI p
theorem m_faultOf {K : Nat} (h : mZ n f (min n K) p σ) (hK : K ≤ 80) (g : Bool) : hq_c 183 (d + 1) [.ref 52, .int (nI n), .int (nI K), .int (bI g)] σ (some (.int (fltA n K g p))) σ := by
  have h80 := h.1.1
  have hp := h.2.2.1
  have e1 := h.2.2.2.1
  have e2 := h.2.2.2.2
  unfold fltA
  cases g with
  | false =>
    rw [if_neg (fun z => by cases z.1)]
    by_cases q : K < n
    · by_cases q2 : p < K
      · rw [← e1]
        exact p_X10_faultOf_0_1 rfl (nlt q (by omega)) rfl (by rw [e1]; exact nlt q2 (by omega)) rfl
      · have : p = K := by omega
        subst this
        exact p_X10_faultOf_0_3 rfl (nlt q (by omega)) rfl (by rw [e1]; exact nI_nlt (by omega) (by omega))
    · rw [← e1]
      exact p_X10_faultOf_0_5 rfl (nI_nlt (by omega) (by omega)) rfl
  | true =>
    by_cases q0 : p = min n K
    · have c2 : σ.1 52 16 = σ.1 52 17 := by rw [e1, e2, q0]
      by_cases q : K < n
      · have : p = K := by omega
        subst this
        rw [if_neg (fun z => by omega)]
        exact p_X10_faultOf_0_10 (by decide) c2 (nlt q (by omega)) (by decide)
      · rw [if_pos ⟨rfl, by omega, by omega⟩]
        exact p_X10_faultOf_0_12 (by decide) c2 (nI_nlt (by omega) (by omega)) (by decide)
    · have c2 : ¬ σ.1 52 16 = σ.1 52 17 := by rw [e1, e2, nI_eq (by omega) (by omega)]; exact q0
      rw [if_neg (fun z => by omega)]
      by_cases q : K < n
      · rw [← e1]
        exact p_X10_faultOf_0_13 (by decide) c2 (nlt q (by omega)) rfl (by rw [e1]; exact nlt (by omega) (by omega)) rfl
      · rw [← e1]
        exact p_X10_faultOf_0_17 (by decide) c2 (nI_nlt (by omega) (by omega)) rfl
end SG
