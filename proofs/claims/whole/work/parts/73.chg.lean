/-! change: pure -/
theorem psum_congr {p q : Nat → Bool} {f : Nat → Nat} : ∀ {m : Nat}, (∀ h, h < m → p h = q h) → psum p f m = psum q f m
  | 0, _ => rfl
  | m + 1, h => by rw [psum_s, psum_s, psum_congr (fun k hk => h k (by omega)), h m (by omega)]
theorem sset_psum {n : Nat} {f : Nat → Nat} : ∀ m, sset n f m = psum (fun h => n.testBit h) f m
  | 0 => rfl
  | m + 1 => by rw [psum_s, ← sset_psum m]; rfl
theorem sub_le {a b : Nat} (h : ∀ i, a.testBit i = true → b.testBit i = true) : a ≤ b := by
  have : a ||| b = b := by
    apply Nat.eq_of_testBit_eq
    intro i
    rw [Nat.testBit_or]
    cases q : a.testBit i with
    | false => rfl
    | true => rw [h i q]; rfl
  rw [← this]
  exact Nat.left_le_or
theorem ssec_mono {A : TA} {p q : Nat → Bool} (h : ∀ r, p r = true → q r = true) : ∀ j, ssec A p j ≤ ssec A q j
  | 0 => Nat.le_refl _
  | j + 1 => by
    have := ssec_mono (A := A) h j
    unfold ssec
    cases e : p (j + 1) with
    | false => simp; omega
    | true => rw [h _ e]; simp; omega
theorem stp_mono {A : TA} {s t e b c : Nat} (hs : ∀ i, s.testBit i = true → t.testBit i = true) (hb : ∀ i, b.testBit i = true → c.testBit i = true) : ∀ i, (stp A t e b).testBit i = true → (stp A s e c).testBit i = true := by
  intro i hi
  cases ht : t.testBit e with
  | true =>
    rw [stp_shut ht] at hi
    exact stp_sub (hb i hi)
  | false =>
    have hs0 : s.testBit e = false := by
      cases q : s.testBit e with
      | false => rfl
      | true => rw [hs e q] at ht; cases ht
    cases h2 : (b.testBit (A 2 e) || b.testBit (A 3 e)) with
    | false =>
      rw [stp_no ht h2] at hi
      exact stp_sub (hb i hi)
    | true =>
      rw [stp_yes ht h2] at hi
      have h3 : (c.testBit (A 2 e) || c.testBit (A 3 e)) = true := by
        rw [Bool.or_eq_true] at h2 ⊢
        rcases h2 with h | h
        · exact Or.inl (hb _ h)
        · exact Or.inr (hb _ h)
      rw [stp_yes hs0 h3, Nat.testBit_or, Bool.or_eq_true]
      rw [Nat.testBit_or, Bool.or_eq_true] at hi
      rcases hi with h | h
      · exact Or.inl (hb _ h)
      · exact Or.inr h
theorem swp_mono {A : TA} {s t : Nat} (hs : ∀ i, s.testBit i = true → t.testBit i = true) : ∀ m {b c : Nat}, (∀ i, b.testBit i = true → c.testBit i = true) → ∀ i, (swp A t m b).testBit i = true → (swp A s m c).testBit i = true
  | 0, _, _, hb => hb
  | m + 1, _, _, hb => stp_mono hs (swp_mono hs m hb)
theorem itr_mono {A : TA} {s t : Nat} (hs : ∀ i, s.testBit i = true → t.testBit i = true) : ∀ n {b : Nat} (i : Nat), (itr A t n b).testBit i = true → (itr A s n b).testBit i = true
  | 0, _, _ => fun h => h
  | n + 1, _, i => swp_mono hs _ (fun i => itr_mono hs n i) i
theorem kept_mono {A : TA} {s t : Nat} (hs : ∀ i, s.testBit i = true → t.testBit i = true) : keptA A s ≤ keptA A t := by
  unfold keptA
  refine ssec_mono (fun r hr => ?_) 7
  cases q : (reachA A t 0).testBit r with
  | false => rfl
  | true =>
    have : (reachA A s 0).testBit r = true := itr_mono hs 8 r q
    rw [this] at hr
    cases hr
theorem ndd_in {A : TA} {v : Nat} : ∀ (n s : Nat), s ≤ n → s < 2 ^ A 0 0 → v ≤ keptA A s → ∃ m, (∀ i, m.testBit i = true → s.testBit i = true) ∧ ndd A v m = true := by
  intro n
  induction n with
  | zero =>
    intro s hs _ hv
    have : s = 0 := by omega
    subst this
    refine ⟨0, fun i h => h, ?_⟩
    unfold ndd
    rw [Bool.and_eq_true]
    exact ⟨by simpa using hv, allb_true.mpr (fun j _ => by simp)⟩
  | succ n ih =>
    intro s hs hD hv
    cases q : ndd A v s with
    | true => exact ⟨s, fun i h => h, q⟩
    | false =>
      unfold ndd at q
      rw [decide_eq_true hv, Bool.true_and] at q
      obtain ⟨e, he, hf, _⟩ := allb_false q
      simp at hf
      have lt := ndiff_bit_lt hf.1
      obtain ⟨m, a1, a2⟩ := ih (ndiff s (2 ^ e)) (by omega) (by omega) hf.2
      exact ⟨m, fun i h => by have := a1 i h; rw [ndiff_test] at this; simp at this; exact this.1, a2⟩
/-- a hanging: sets of hinges by doors -/
def thN (X : Nat → Nat) (h : Nat) : Nat → Nat
  | 0 => 0
  | o + 1 => if (X o).testBit h then o + 1 else thN X h o
def unX (X : Nat → Nat) : Nat → Nat
  | 0 => 0
  | e + 1 => unX X e ||| X e
def VX (A : TA) (X : Nat → Nat) (n : Nat) : Prop := ∀ f, f < n → X f < 2 ^ A 1 0 ∧ pop (X f) ≤ 2 ∧ fitA A (X f) f (A 1 0) = true ∧ X f &&& unX X f = 0
def shX (A : TA) (X : Nat → Nat) : Nat → Nat := sbits (fun f => shutF A (h0 A) f (X f))
def ncX (A : TA) (X : Nat → Nat) : Nat := psum (fun h => decide (thN X h (A 0 0) ≠ A 11 h)) (fun _ => 1) (A 1 0)
def hvX (X : Nat → Nat) : Nat → Nat
  | 0 => 0
  | e + 1 => hvX X e * 4096 + X e
def kyX (A : TA) (X : Nat → Nat) : Nat := ncX A X * 4096 ^ A 0 0 + hvX X (A 0 0)
def gdX (A : TA) (v : Nat) (X : Nat → Nat) : Prop := VX A X (A 0 0) ∧ v ≤ keptA A (shX A X (A 0 0))
theorem unX_test {X : Nat → Nat} {h : Nat} : ∀ n, (unX X n).testBit h = true ↔ ∃ f, f < n ∧ (X f).testBit h = true
  | 0 => ⟨fun z => by simp [unX] at z, fun ⟨f, hf, _⟩ => by omega⟩
  | n + 1 => by
    unfold unX
    rw [Nat.testBit_or, Bool.or_eq_true, unX_test n]
    constructor
    · rintro (⟨f, h1, h2⟩ | h1)
      · exact ⟨f, by omega, h2⟩
      · exact ⟨n, by omega, h1⟩
    · rintro ⟨f, h1, h2⟩
      by_cases q : f = n
      · subst q; exact Or.inr h2
      · exact Or.inl ⟨f, by omega, h2⟩
theorem VX_dj {A : TA} {X : Nat → Nat} {n e f h : Nat} (V : VX A X n) (he : e < n) (hf : f < n) (h1 : (X e).testBit h = true) (h2 : (X f).testBit h = true) : e = f := by
  have key : ∀ {e f : Nat}, e < f → f < n → (X e).testBit h = true → (X f).testBit h = true → False := fun {e f} lt hf h1 h2 => by
    have := dj_iff.mp (V f hf).2.2.2 h h2
    rw [(unX_test f).mpr ⟨e, lt, h1⟩] at this
    cases this
  rcases Nat.lt_trichotomy e f with z | z | z
  · exact (key z hf h1 h2).elim
  · exact z
  · exact (key z he h2 h1).elim
theorem thN_mem {X : Nat → Nat} {h e : Nat} : ∀ n, thN X h n = e + 1 → e < n ∧ (X e).testBit h = true
  | 0, z => by cases z
  | n + 1, z => by
    unfold thN at z
    split at z
    · rename_i q
      have : e = n := by omega
      subst this
      exact ⟨by omega, q⟩
    · have := thN_mem n z
      exact ⟨by omega, this.2⟩
theorem thN_le {X : Nat → Nat} {h : Nat} : ∀ n, thN X h n ≤ n
  | 0 => Nat.le_refl _
  | n + 1 => by
    have := thN_le (X := X) (h := h) n
    unfold thN
    split <;> omega
theorem thN_in {A : TA} {X : Nat → Nat} {n h e : Nat} (V : VX A X n) (he : e < n) (hb : (X e).testBit h = true) : thN X h n = e + 1 := by
  have : ∀ k, k ≤ n → e < k → thN X h k = e + 1 := by
    intro k
    induction k with
    | zero => intro _ h; omega
    | succ k ih =>
      intro hk hek
      unfold thN
      by_cases q : k = e
      · subst q; rw [hb, if_pos rfl]
      · have : (X k).testBit h = false := by
          cases z : (X k).testBit h with
          | false => rfl
          | true => exact absurd (VX_dj V (by omega) he z hb) q
        rw [this, if_neg (by decide)]
        exact ih (by omega) (by omega)
  exact this n (Nat.le_refl _) he
theorem hvX_lt {X : Nat → Nat} : ∀ n, (∀ f, f < n → X f < 4096) → hvX X n < 4096 ^ n
  | 0, _ => by simp [hvX]
  | n + 1, h => by
    have := hvX_lt n (fun f hf => h f (by omega))
    have := h n (by omega)
    unfold hvX
    rw [Nat.pow_succ]
    omega
theorem hvX_le {X Y : Nat → Nat} : ∀ n, (∀ f, f < n → X f < 4096 ∧ Y f ≤ X f) → hvX Y n ≤ hvX X n ∧ (hvX Y n = hvX X n → ∀ f, f < n → Y f = X f)
  | 0, _ => ⟨Nat.le_refl _, fun _ f hf => by omega⟩
  | n + 1, h => by
    obtain ⟨h1, h2⟩ := hvX_le n (fun f hf => h f (by omega))
    obtain ⟨h3, h4⟩ := h n (by omega)
    unfold hvX
    refine ⟨by omega, fun z f hf => ?_⟩
    by_cases q : f = n
    · subst q; omega
    · exact h2 (by omega) f (by omega)
theorem thN_congr {X Y : Nat → Nat} {h : Nat} : ∀ n, (∀ f, f < n → X f = Y f) → thN X h n = thN Y h n
  | 0, _ => rfl
  | n + 1, e => by
    unfold thN
    rw [e n (by omega), thN_congr n (fun f hf => e f (by omega))]
theorem hvX_congr {X Y : Nat → Nat} : ∀ n, (∀ f, f < n → X f = Y f) → hvX X n = hvX Y n
  | 0, _ => rfl
  | n + 1, e => by
    unfold hvX
    rw [e n (by omega), hvX_congr n (fun f hf => e f (by omega))]
theorem kyX_congr {A : TA} {X Y : Nat → Nat} (e : ∀ f, f < A 0 0 → X f = Y f) : kyX A X = kyX A Y := by
  unfold kyX ncX
  rw [hvX_congr _ e, psum_congr (fun h _ => by rw [thN_congr _ e])]
/-- the class's candidates: pairs for the doors of a set, elsewhere what is left -/
def unM (m : Nat) (c : Nat → Nat) : Nat → Nat
  | 0 => 0
  | e + 1 => unM m c e ||| (if m.testBit e then c e else 0)
def PDc (A : TA) (m : Nat) (c : Nat → Nat) (n : Nat) : Prop := ∀ f, f < n → m.testBit f = true → c f ∈ prs A f ∧ c f &&& unM m c f = 0
def yX (A : TA) (m : Nat) (c : Nat → Nat) (e : Nat) : Nat := if m.testBit e then c e else ndiff (onA A (e + 1)) (unM m c (A 0 0))
def mvX (A : TA) (m : Nat) (c : Nat → Nat) : Nat → Nat
  | 0 => 0
  | e + 1 => mvX A m c e ||| (if m.testBit e then ndiff (c e) (onA A (e + 1)) else 0)
def dpX (A : TA) (m u : Nat) : Nat → Nat
  | 0 => 0
  | e + 1 => dpX A m u e ||| (if m.testBit e then ndiff (onA A (e + 1)) u else 0)
def wkC (A : TA) (m : Nat) (c : Nat → Nat) : Nat := pop (mvX A m c (A 0 0) ||| dpX A m (unM m c (A 0 0)) (A 0 0)) * 4096 ^ A 0 0 + hvX (yX A m c) (A 0 0)
theorem unM_test {m : Nat} {c : Nat → Nat} {h : Nat} : ∀ n, (unM m c n).testBit h = true ↔ ∃ f, f < n ∧ m.testBit f = true ∧ (c f).testBit h = true
  | 0 => ⟨fun z => by simp [unM] at z, fun ⟨f, hf, _⟩ => by omega⟩
  | n + 1 => by
    unfold unM
    rw [Nat.testBit_or, Bool.or_eq_true, unM_test n]
    constructor
    · rintro (⟨f, h1, h2⟩ | h1)
      · exact ⟨f, by omega, h2⟩
      · split at h1
        · rename_i q; exact ⟨n, by omega, q, h1⟩
        · simp at h1
    · rintro ⟨f, h1, h2, h3⟩
      by_cases q : f = n
      · subst q; rw [if_pos h2]; exact Or.inr h3
      · exact Or.inl ⟨f, by omega, h2, h3⟩
theorem mvX_test {A : TA} {m : Nat} {c : Nat → Nat} {h : Nat} : ∀ n, (mvX A m c n).testBit h = true ↔ ∃ f, f < n ∧ m.testBit f = true ∧ (c f).testBit h = true ∧ (onA A (f + 1)).testBit h = false
  | 0 => ⟨fun z => by simp [mvX] at z, fun ⟨f, hf, _⟩ => by omega⟩
  | n + 1 => by
    unfold mvX
    rw [Nat.testBit_or, Bool.or_eq_true, mvX_test n]
    constructor
    · rintro (⟨f, h1, h2⟩ | h1)
      · exact ⟨f, by omega, h2⟩
      · split at h1
        · rename_i q
          rw [ndiff_test] at h1
          simp at h1
          exact ⟨n, by omega, q, h1.1, h1.2⟩
        · simp at h1
    · rintro ⟨f, h1, h2, h3, h4⟩
      by_cases q : f = n
      · subst q; rw [if_pos h2, ndiff_test, h3, h4]; exact Or.inr rfl
      · exact Or.inl ⟨f, by omega, h2, h3, h4⟩
theorem dpX_test {A : TA} {m u : Nat} {h : Nat} : ∀ n, (dpX A m u n).testBit h = true ↔ ∃ f, f < n ∧ m.testBit f = true ∧ (onA A (f + 1)).testBit h = true ∧ u.testBit h = false
  | 0 => ⟨fun z => by simp [dpX] at z, fun ⟨f, hf, _⟩ => by omega⟩
  | n + 1 => by
    unfold dpX
    rw [Nat.testBit_or, Bool.or_eq_true, dpX_test n]
    constructor
    · rintro (⟨f, h1, h2⟩ | h1)
      · exact ⟨f, by omega, h2⟩
      · split at h1
        · rename_i q
          rw [ndiff_test] at h1
          simp at h1
          exact ⟨n, by omega, q, h1.1, h1.2⟩
        · simp at h1
    · rintro ⟨f, h1, h2, h3, h4⟩
      by_cases q : f = n
      · subst q; rw [if_pos h2, ndiff_test, h3, h4]; exact Or.inr rfl
      · exact Or.inl ⟨f, by omega, h2, h3, h4⟩
theorem on_bit {A : TA} {e h : Nat} : (onA A e).testBit h = true ↔ h < A 1 0 ∧ A 11 h = e := by
  rw [onA_test]
  simp
section CG
variable {A : TA} {v m : Nat} {c : Nat → Nat}
theorem on_lt (A : TA) (e : Nat) : onA A e < 2 ^ A 1 0 := sbits_lt _ _
theorem un_lt (P : PDc A m c (A 0 0)) : unM m c (A 0 0) < 2 ^ A 1 0 := lt_bits (fun i hi => by
  obtain ⟨f, h1, h2, h3⟩ := (unM_test _).mp hi
  exact bit_lt (prs_mem.mp (P f h1 h2).1).1 h3)
theorem yX_V (W : Wf A) (P : PDc A m c (A 0 0)) : VX A (yX A m c) (A 0 0) := by
  have b2 := W.2.1
  intro f hf
  have dj : yX A m c f &&& unX (yX A m c) f = 0 := by
    rw [dj_iff]
    intro h hh
    cases q : (unX (yX A m c) f).testBit h with
    | false => rfl
    | true =>
      exfalso
      obtain ⟨g, g1, g2⟩ := (unX_test f).mp q
      unfold yX at hh g2
      cases mf : m.testBit f with
      | true =>
        rw [mf, if_pos rfl] at hh
        cases mg : m.testBit g with
        | true =>
          rw [mg, if_pos rfl] at g2
          have := dj_iff.mp (P f hf mf).2 h hh
          rw [(unM_test f).mpr ⟨g, g1, mg, g2⟩] at this
          cases this
        | false =>
          rw [mg, if_neg (by decide), ndiff_test] at g2
          rw [(unM_test (A 0 0)).mpr ⟨f, hf, mf, hh⟩] at g2
          simp at g2
      | false =>
        rw [mf, if_neg (by decide), ndiff_test, Bool.and_eq_true] at hh
        cases mg : m.testBit g with
        | true =>
          rw [mg, if_pos rfl] at g2
          rw [(unM_test (A 0 0)).mpr ⟨g, by omega, mg, g2⟩] at hh
          simp at hh
        | false =>
          rw [mg, if_neg (by decide), ndiff_test, Bool.and_eq_true] at g2
          have a1 := (on_bit.mp hh.1).2
          have a2 := (on_bit.mp g2.1).2
          omega
  refine ⟨?_, ?_, ?_, dj⟩
  · unfold yX
    split
    · rename_i q; exact (prs_mem.mp (P f hf q).1).1
    · exact ndiff_le (on_lt A _)
  · unfold yX
    split
    · rename_i q; exact Nat.le_of_eq (okP_2 (prs_mem.mp (P f hf q).1).2)
    · exact Nat.le_trans (pop_mono (fun j hj => by rw [ndiff_test] at hj; simp at hj; exact hj.1)) (W.2.2.1 f hf).2.2.2.2.2.2
  · unfold yX
    split
    · rename_i q
      have := (prs_mem.mp (P f hf q).1).2
      unfold okP at this
      rw [Bool.and_eq_true] at this
      exact this.2
    · refine fitA_iff.mpr (fun i hi hb => ?_)
      rw [ndiff_test, Bool.and_eq_true] at hb
      exact (W.2.2.2.1 i hi).2.2.2.2.2.2.2 f (on_bit.mp hb.1).2
theorem yX_sh (P : PDc A m c (A 0 0)) : ∀ i, (m.testBit i = true ∧ i < A 0 0) → (shX A (yX A m c) (A 0 0)).testBit i = true := fun i ⟨hi, hD⟩ => by
  unfold shX
  rw [sbits_test]
  have : shutF A (h0 A) i (yX A m c i) = true := by
    unfold yX
    rw [hi, if_pos rfl]
    have := (prs_mem.mp (P i hD hi).1).2
    unfold okP at this
    rw [Bool.and_eq_true] at this
    exact this.1
  rw [this]
  simp [hD]
theorem yX_good (W : Wf A) (hm : m < 2 ^ A 0 0) (hn : ndd A v m = true) (P : PDc A m c (A 0 0)) : gdX A v (yX A m c) := by
  refine ⟨yX_V W P, ?_⟩
  unfold ndd at hn
  rw [Bool.and_eq_true] at hn
  have h1 : v ≤ keptA A m := by simpa using hn.1
  exact Nat.le_trans h1 (kept_mono (fun i hi => yX_sh P i ⟨hi, bit_lt hm hi⟩))
theorem yX_nc (W : Wf A) (hm : m < 2 ^ A 0 0) (P : PDc A m c (A 0 0)) : ncX A (yX A m c) = pop (mvX A m c (A 0 0) ||| dpX A m (unM m c (A 0 0)) (A 0 0)) := by
  have b2 := W.2.1
  have V := yX_V W P
  have lt : mvX A m c (A 0 0) ||| dpX A m (unM m c (A 0 0)) (A 0 0) < 2 ^ A 1 0 := by
    apply lt_bits
    intro i hi
    rw [Nat.testBit_or, Bool.or_eq_true] at hi
    rcases hi with h | h
    · obtain ⟨f, h1, h2, h3, _⟩ := (mvX_test _).mp h
      exact bit_lt (prs_mem.mp (P f h1 h2).1).1 h3
    · obtain ⟨f, h1, h2, h3, _⟩ := (dpX_test _).mp h
      exact (on_bit.mp h3).1
  rw [← pop_H lt b2, sset_psum]
  unfold ncX
  refine psum_congr (fun h hh => ?_)
  rw [Bool.eq_iff_iff, Nat.testBit_or, Bool.or_eq_true, mvX_test, dpX_test, decide_eq_true_iff]
  have w7 := (W.2.2.2.1 h hh).2.2.2.2.2.2.1
  constructor
  · intro ch
    cases hu : (unM m c (A 0 0)).testBit h with
    | true =>
      left
      obtain ⟨f, h1, h2, h3⟩ := (unM_test _).mp hu
      refine ⟨f, h1, h2, h3, ?_⟩
      have : thN (yX A m c) h (A 0 0) = f + 1 := thN_in V h1 (by unfold yX; rw [h2, if_pos rfl]; exact h3)
      cases q : (onA A (f + 1)).testBit h with
      | false => rfl
      | true => rw [this] at ch; exact absurd (on_bit.mp q).2.symm ch
    | false =>
      right
      have n0 : A 11 h ≠ 0 := fun z => by
        apply ch
        rw [z]
        cases t : thN (yX A m c) h (A 0 0) with
        | zero => rfl
        | succ g =>
          exfalso
          obtain ⟨g1, g2⟩ := thN_mem _ t
          unfold yX at g2
          split at g2
          · rename_i q
            rw [(unM_test _).mpr ⟨g, g1, q, g2⟩] at hu
            cases hu
          · rw [ndiff_test, Bool.and_eq_true] at g2
            have := (on_bit.mp g2.1).2
            omega
      have hon : (onA A (A 11 h - 1 + 1)).testBit h = true := on_bit.mpr ⟨hh, by omega⟩
      refine ⟨A 11 h - 1, by omega, ?_, hon, rfl⟩
      cases q : m.testBit (A 11 h - 1) with
      | true => rfl
      | false =>
        exfalso
        apply ch
        have : thN (yX A m c) h (A 0 0) = A 11 h - 1 + 1 := thN_in V (by omega) (by
          unfold yX
          rw [q, if_neg (by decide), ndiff_test, hon, hu]; rfl)
        omega
  · rintro (⟨f, h1, h2, h3, h4⟩ | ⟨f, h1, h2, h3, h4⟩) z
    · have : thN (yX A m c) h (A 0 0) = f + 1 := thN_in V h1 (by unfold yX; rw [h2, if_pos rfl]; exact h3)
      rw [on_bit.mpr ⟨hh, by omega⟩] at h4
      cases h4
    · have a := (on_bit.mp h3).2
      rw [a] at z
      obtain ⟨_, g2⟩ := thN_mem _ z
      unfold yX at g2
      rw [h2, if_pos rfl] at g2
      rw [(unM_test _).mpr ⟨f, h1, h2, g2⟩] at h4
      cases h4
theorem yX_key (W : Wf A) (hm : m < 2 ^ A 0 0) (P : PDc A m c (A 0 0)) : kyX A (yX A m c) = wkC A m c := by
  unfold kyX wkC
  rw [yX_nc W hm P]
end CG
theorem psum_le2 {p q : Nat → Bool} : ∀ {m : Nat}, (∀ h, h < m → p h = true → q h = true) → psum p (fun _ => 1) m ≤ psum q (fun _ => 1) m ∧ (psum p (fun _ => 1) m = psum q (fun _ => 1) m → ∀ h, h < m → q h = true → p h = true)
  | 0, _ => ⟨Nat.le_refl _, fun _ h hh => by omega⟩
  | m + 1, h => by
    obtain ⟨h1, h2⟩ := psum_le2 (p := p) (q := q) (m := m) (fun k hk => h k (by omega))
    rw [psum_s, psum_s]
    cases hp : p m with
    | true =>
      rw [h m (by omega) hp]
      refine ⟨by simp; exact h1, fun z k hk qk => ?_⟩
      by_cases e : k = m
      · subst e; exact hp
      · exact h2 (by simpa using z) k (by omega) qk
    | false =>
      cases hq : q m with
      | true => exact ⟨by simp; omega, fun z => by simp at z; omega⟩
      | false =>
        refine ⟨by simp; exact h1, fun z k hk qk => ?_⟩
        by_cases e : k = m
        · subst e; rw [hq] at qk; cases qk
        · exact h2 (by simpa using z) k (by omega) qk
/-- the best hanging is a candidate -/
theorem best_cand {A : TA} {v : Nat} (W : Wf A) {X : Nat → Nat} (g : gdX A v X) (opt : ∀ Y, gdX A v Y → kyX A X ≤ kyX A Y) : ∃ m c, m < 2 ^ A 0 0 ∧ ndd A v m = true ∧ PDc A m c (A 0 0) ∧ kyX A X = wkC A m c := by
  have b2 := W.2.1
  have p12 : (2 : Nat) ^ A 1 0 ≤ 2 ^ 12 := Nat.pow_le_pow_right (by decide) b2
  obtain ⟨V, hk⟩ := g
  have sl : shX A X (A 0 0) < 2 ^ A 0 0 := sbits_lt _ _
  obtain ⟨m, ms, mn⟩ := ndd_in _ _ (Nat.le_refl _) sl hk
  have shm : ∀ e, m.testBit e = true → e < A 0 0 ∧ shutF A (h0 A) e (X e) = true := fun e he => by
    have := ms e he
    unfold shX at this
    rw [sbits_test] at this
    simp at this
    exact this
  have hm : m < 2 ^ A 0 0 := lt_bits (fun i hi => (shm i hi).1)
  have usub : ∀ n h, (unM m X n).testBit h = true → (unX X n).testBit h = true := fun n h hh => by
    obtain ⟨f, h1, _, h3⟩ := (unM_test n).mp hh
    exact (unX_test n).mpr ⟨f, h1, h3⟩
  have P : PDc A m X (A 0 0) := fun f hf hb => by
    obtain ⟨v1, v2, v3, v4⟩ := V f hf
    refine ⟨prs_mem.mpr ⟨v1, ?_⟩, ?_⟩
    · unfold okP
      rw [(shm f hb).2, v3]; rfl
    · rw [dj_iff] at v4 ⊢
      intro i hi
      cases q : (unM m X f).testBit i with
      | false => rfl
      | true => have := usub f i q; rw [v4 i hi] at this; cases this
  refine ⟨m, X, hm, mn, P, ?_⟩
  have gY := yX_good W hm mn P
  have VY := gY.1
  rw [← yX_key W hm P]
  have ko := opt _ gY
  -- what stays in X stays in Y
  have stay : ∀ h, h < A 1 0 → thN X h (A 0 0) = A 11 h → thN (yX A m X) h (A 0 0) = A 11 h := fun h hh e => by
    cases a : A 11 h with
    | zero =>
      rw [a] at e
      cases t : thN (yX A m X) h (A 0 0) with
      | zero => rfl
      | succ k =>
        exfalso
        obtain ⟨g1, g2⟩ := thN_mem _ t
        unfold yX at g2
        split at g2
        · have := thN_in V g1 g2
          omega
        · rw [ndiff_test, Bool.and_eq_true] at g2
          have := (on_bit.mp g2.1).2
          omega
    | succ f =>
      rw [a] at e
      obtain ⟨g1, g2⟩ := thN_mem _ e
      refine thN_in VY g1 ?_
      unfold yX
      cases q : m.testBit f with
      | true => exact g2
      | false =>
        rw [if_neg (by decide), ndiff_test, on_bit.mpr ⟨hh, a⟩]
        cases hu : (unM m X (A 0 0)).testBit h with
        | false => rfl
        | true =>
          exfalso
          obtain ⟨k, k1, k2, k3⟩ := (unM_test _).mp hu
          have := VX_dj V k1 g1 k3 g2
          subst this
          rw [k2] at q; cases q
  obtain ⟨n1, n2⟩ := psum_le2 (p := fun h => decide (thN (yX A m X) h (A 0 0) ≠ A 11 h)) (q := fun h => decide (thN X h (A 0 0) ≠ A 11 h)) (m := A 1 0) (fun h hh z => by
    rw [decide_eq_true_iff] at z ⊢
    exact fun y => z (stay h hh y))
  have x4 : ∀ f, f < A 0 0 → X f < 4096 := fun f hf => by have := (V f hf).1; omega
  have y4 : ∀ f, f < A 0 0 → yX A m X f < 4096 := fun f hf => by have := (VY f hf).1; omega
  have lx := hvX_lt _ x4
  have ly := hvX_lt _ y4
  have ko' : ncX A X * 4096 ^ A 0 0 + hvX X (A 0 0) ≤ ncX A (yX A m X) * 4096 ^ A 0 0 + hvX (yX A m X) (A 0 0) := ko
  have n1 : ncX A (yX A m X) ≤ ncX A X := n1
  have ne : ncX A (yX A m X) = ncX A X := by
    apply Nat.le_antisymm n1
    apply Classical.byContradiction
    intro q
    have : (ncX A (yX A m X) + 1) * 4096 ^ A 0 0 ≤ ncX A X * 4096 ^ A 0 0 := Nat.mul_le_mul_right _ (by omega)
    rw [Nat.succ_mul] at this
    omega
  have n2 := n2 ne
  have sub : ∀ f, f < A 0 0 → yX A m X f ≤ X f := fun f hf => by
    refine sub_le (fun h hh => ?_)
    have hH : h < A 1 0 := bit_lt (VY f hf).1 hh
    have ty := thN_in VY hf hh
    unfold yX at hh
    split at hh
    · exact hh
    · rw [ndiff_test, Bool.and_eq_true] at hh
      have a := (on_bit.mp hh.1).2
      have : thN X h (A 0 0) = A 11 h := by
        apply Classical.byContradiction
        intro q
        have := n2 h hH (by rw [decide_eq_true_iff]; exact q)
        rw [decide_eq_true_iff] at this
        exact this (by rw [ty, a])
      rw [a] at this
      exact (thN_mem _ this).2
  obtain ⟨h1, h2⟩ := hvX_le (X := X) (Y := yX A m X) (A 0 0) (fun f hf => ⟨x4 f hf, sub f hf⟩)
  have he : hvX (yX A m X) (A 0 0) = hvX X (A 0 0) := by
    rw [ne] at ko'
    omega
  exact kyX_congr (fun f hf => (h2 he f hf).symm)
/-- the least key, or none -/
def kP (A : TA) (v : Nat) (o : Option Nat) : Prop := match o with
  | none => ∀ X, ¬ gdX A v X
  | some K => (∃ X, gdX A v X ∧ kyX A X = K) ∧ ∀ X, gdX A v X → K ≤ kyX A X
theorem kP_uq {A : TA} {v : Nat} {o o' : Option Nat} (h : kP A v o) (k : kP A v o') : o = o' := by
  cases o with
  | none =>
    cases o' with
    | none => rfl
    | some K => obtain ⟨⟨X, g, _⟩, _⟩ := k; exact absurd g (h X)
  | some K =>
    obtain ⟨⟨X, g, e⟩, g'⟩ := h
    cases o' with
    | none => exact absurd g (k X)
    | some K' =>
      obtain ⟨⟨Y, f, e'⟩, f'⟩ := k
      have h1 := g' Y f
      have h2 := f' X g
      congr 1
      omega
noncomputable def kO (A : TA) (v : Nat) : Option Nat := Classical.epsilon (fun o => kP A v o)
theorem kO_eq {A : TA} {v : Nat} {o : Option Nat} (h : kP A v o) : o = kO A v := kP_uq h (Classical.epsilon_spec (p := fun o => kP A v o) ⟨o, h⟩)
/-- the candidates give it -/
theorem kP_cand {A : TA} {v : Nat} (W : Wf A) {o : Option Nat} (h1 : ∀ K, o = some K → ∃ m c, m < 2 ^ A 0 0 ∧ ndd A v m = true ∧ PDc A m c (A 0 0) ∧ wkC A m c = K) (h2 : ∀ m c, m < 2 ^ A 0 0 → ndd A v m = true → PDc A m c (A 0 0) → ∃ K, o = some K ∧ K ≤ wkC A m c) : kP A v o := by
  have opt : ∀ X, gdX A v X → ∃ K, o = some K ∧ K ≤ kyX A X := fun X g => by
    obtain ⟨N, n1, ⟨Y, y1, y2⟩, n3⟩ := least_of (P := fun k => ∃ Y, gdX A v Y ∧ kyX A Y = k) (kyX A X) ⟨X, g, rfl⟩
    obtain ⟨m, c, a1, a2, a3, a4⟩ := best_cand W y1 (fun Z gz => by
      apply Classical.byContradiction
      intro q
      exact n3 (kyX A Z) (by omega) ⟨Z, gz, rfl⟩)
    obtain ⟨K, k1, k2⟩ := h2 m c a1 a2 a3
    exact ⟨K, k1, by omega⟩
  cases o with
  | none =>
    intro X g
    obtain ⟨K, k, _⟩ := opt X g
    cases k
  | some K =>
    obtain ⟨m, c, a1, a2, a3, a4⟩ := h1 K rfl
    refine ⟨⟨yX A m c, yX_good W a1 a2 a3, by rw [yX_key W a1 a3]; exact a4⟩, fun X g => ?_⟩
    obtain ⟨K', k, k2⟩ := opt X g
    cases k
    exact k2
