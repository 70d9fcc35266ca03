/-! hangings: pairs of hinges, sets of doors, costs (pure) -/
theorem dj_iff {a b : Nat} : a &&& b = 0 ↔ ∀ i, a.testBit i = true → b.testBit i = false := by
  constructor
  · intro h i hi
    have := congrArg (fun n => n.testBit i) h
    simp [Nat.testBit_and, hi] at this
    exact this
  · intro h
    apply Nat.eq_of_testBit_eq
    intro i
    rw [Nat.testBit_and]
    cases e : a.testBit i with
    | false => simp
    | true => rw [h i e]; simp
theorem dj_or {a u b : Nat} : a &&& (u ||| b) = 0 ↔ a &&& u = 0 ∧ a &&& b = 0 := by
  rw [dj_iff, dj_iff, dj_iff]
  constructor
  · intro h
    refine ⟨fun i hi => ?_, fun i hi => ?_⟩
    · have := h i hi
      rw [Nat.testBit_or, Bool.or_eq_false_iff] at this
      exact this.1
    · have := h i hi
      rw [Nat.testBit_or, Bool.or_eq_false_iff] at this
      exact this.2
  · intro h i hi
    rw [Nat.testBit_or, h.1 i hi, h.2 i hi]; rfl
theorem dj_sym {a b : Nat} (h : a &&& b = 0) : b &&& a = 0 := by rw [Nat.and_comm]; exact h
theorem sset_dj {a b : Nat} {f : Nat → Nat} (h : a &&& b = 0) : ∀ m, sset (a ||| b) f m = sset a f m + sset b f m
  | 0 => rfl
  | m + 1 => by
    have ih := sset_dj (f := f) h m
    unfold sset
    rw [ih, Nat.testBit_or]
    cases ha : a.testBit m with
    | false => cases b.testBit m <;> simp <;> omega
    | true => rw [dj_iff.mp h m ha]; simp; omega
theorem sset_z {f : Nat → Nat} : ∀ m, sset 0 f m = 0
  | 0 => rfl
  | m + 1 => by unfold sset; rw [sset_z m]; simp
theorem sset_two {f : Nat → Nat} {i m : Nat} (h : i < m) : sset (2 ^ i) f m = f i := by
  have := sset_or (n := 0) (h := i) (f := f) (by simp) m
  rw [Nat.zero_or, sset_z, if_pos h] at this
  omega
theorem sset_zero {n : Nat} : ∀ m, sset n (fun _ => 0) m = 0
  | 0 => rfl
  | m + 1 => by unfold sset; rw [sset_zero m]; simp
theorem bit_lt {n m i : Nat} (h : n < 2 ^ m) (hi : n.testBit i = true) : i < m := by
  apply Classical.byContradiction
  intro q
  have p : (2 : Nat) ^ m ≤ 2 ^ i := Nat.pow_le_pow_right (by decide) (by omega)
  rw [Nat.testBit_lt_two_pow (Nat.lt_of_lt_of_le h p)] at hi
  cases hi
theorem lt_bits {n m : Nat} (h : ∀ i, n.testBit i = true → i < m) : n < 2 ^ m := by
  apply Nat.lt_pow_two_of_testBit
  intro i hi
  cases e : n.testBit i with
  | false => rfl
  | true => have := h i e; omega
/-- pairs that shut a door -/
def okP (A : TA) (e n : Nat) : Bool := shutF A (h0 A) e n && fitA A n e (A 1 0)
def prL (A : TA) (e : Nat) : Nat → List Nat
  | 0 => []
  | m + 1 => prL A e m ++ (if okP A e m then [m] else [])
def prs (A : TA) (e : Nat) : List Nat := prL A e (2 ^ A 1 0)
theorem prL_mem {A : TA} {e b : Nat} : ∀ m, b ∈ prL A e m ↔ b < m ∧ okP A e b = true
  | 0 => by simp [prL]
  | m + 1 => by
    unfold prL
    rw [List.mem_append, prL_mem m]
    constructor
    · rintro (h | h)
      · exact ⟨by omega, h.2⟩
      · split at h
        · rename_i q
          rw [List.mem_singleton.mp h]
          exact ⟨by omega, q⟩
        · simp at h
    · rintro ⟨h1, h2⟩
      by_cases q : b = m
      · right
        rw [← q, if_pos h2]; simp
      · left
        exact ⟨by omega, h2⟩
theorem prs_mem {A : TA} {e b : Nat} : b ∈ prs A e ↔ b < 2 ^ A 1 0 ∧ okP A e b = true := prL_mem _
theorem prL_sort {A : TA} {e : Nat} : ∀ (m : Nat) {i j x y : Nat}, i < j → (prL A e m)[i]? = some x → (prL A e m)[j]? = some y → x < y
  | 0, _, _, _, _, _, h, _ => by simp [prL] at h
  | m + 1, i, j, x, y, hij, hi, hj => by
    unfold prL at hi hj
    split at hi
    · rename_i q
      rw [if_pos q] at hj
      rcases snoc_get hj with ⟨a1, a2⟩ | ⟨a1, a2⟩
      · rcases snoc_get hi with ⟨b1, b2⟩ | ⟨b1, b2⟩
        · exact prL_sort m hij b2 a2
        · omega
      · rcases snoc_get hi with ⟨b1, b2⟩ | ⟨b1, b2⟩
        · have := (prL_mem m).mp (mem_get b2)
          omega
        · omega
    · rename_i q
      rw [if_neg q] at hj
      rw [List.append_nil] at hi hj
      exact prL_sort m hij hi hj
theorem okP_2 {A : TA} {e n : Nat} (h : okP A e n = true) : pop n = 2 := by
  unfold okP shutF at h
  simp at h
  exact h.1.1
theorem prL_gap {A : TA} {e a : Nat} : ∀ k, (∀ n, a ≤ n → n < a + k → pop n ≠ 2) → prL A e (a + k) = prL A e a
  | 0, _ => rfl
  | k + 1, h => by
    show prL A e (a + k) ++ _ = _
    rw [prL_gap k (fun n h1 h2 => h n h1 (by omega)), if_neg, List.append_nil]
    intro q
    exact h (a + k) (by omega) (by omega) (okP_2 q)
theorem prL_hi {A : TA} {e j : Nat} (hj : j < 12) : prL A e (2 ^ j + 2 ^ 0) = prL A e (2 ^ j) := by
  refine prL_gap 1 (fun n h1 h2 => ?_)
  have : n = 2 ^ j := by omega
  rw [this]
  have : ∀ j, j < 12 → pop (2 ^ j) ≠ 2 := by decide +kernel
  exact this j hj
theorem prL_step {A : TA} {e j i : Nat} (hj : j < 12) (hi : i < j) : prL A e (2 ^ j + 2 ^ (i + 1)) = prL A e (2 ^ j + 2 ^ i) ++ (if okP A e (2 ^ j + 2 ^ i) then [2 ^ j + 2 ^ i] else []) := by
  have p1 : (2 : Nat) ^ (i + 1) = 2 ^ i + 2 ^ i := by rw [Nat.pow_succ]; omega
  have p0 : 1 ≤ (2 : Nat) ^ i := Nat.two_pow_pos i
  have pj : (2 : Nat) ^ (i + 1) ≤ 2 ^ j := Nat.pow_le_pow_right (by decide) (by omega)
  have p12 : (2 : Nat) ^ j ≤ 2 ^ 11 := Nat.pow_le_pow_right (by decide) (by omega)
  have e1 : 2 ^ j + 2 ^ (i + 1) = (2 ^ j + 2 ^ i + 1) + (2 ^ i - 1) := by omega
  rw [e1, prL_gap]
  · rfl
  · intro n h1 h2 h3
    have hm : n = 2 ^ j + (n - 2 ^ j) := by omega
    rw [hm, pow_split hj (by omega)] at h3
    have := pop_big i (by omega) (n - 2 ^ j) (by omega) (by omega) (by omega)
    omega
/-- two bits exchanged -/
def tp (g h n : Nat) : Nat := sbits (fun i => n.testBit (if i = g then h else if i = h then g else i)) 12
theorem tp_test {g h n i : Nat} (hg : g < 12) (hh : h < 12) (hn : n < 2 ^ 12) : (tp g h n).testBit i = n.testBit (if i = g then h else if i = h then g else i) := by
  unfold tp
  rw [sbits_test]
  by_cases q : i < 12
  · simp [q]
  · rw [decide_eq_false q, Bool.false_and, if_neg (by omega), if_neg (by omega)]
    cases e : n.testBit i with
    | false => rfl
    | true => exact absurd (bit_lt hn e) q
theorem tp_or {g h a b : Nat} (hg : g < 12) (hh : h < 12) (ha : a < 2 ^ 12) (hb : b < 2 ^ 12) : tp g h (a ||| b) = tp g h a ||| tp g h b := by
  apply Nat.eq_of_testBit_eq
  intro i
  rw [Nat.testBit_or, tp_test hg hh (Nat.or_lt_two_pow ha hb), tp_test hg hh ha, tp_test hg hh hb, Nat.testBit_or]
theorem tp_id {g h a : Nat} (hg : g < 12) (hh : h < 12) (ha : a < 2 ^ 12) (e : a.testBit g = a.testBit h) : tp g h a = a := by
  apply Nat.eq_of_testBit_eq
  intro i
  rw [tp_test hg hh ha]
  by_cases q : i = g
  · rw [if_pos q, q]; exact e.symm
  · rw [if_neg q]
    by_cases q2 : i = h
    · rw [if_pos q2, q2]; exact e
    · rw [if_neg q2]
theorem tp_dj {g h a b : Nat} (hg : g < 12) (hh : h < 12) (ha : a < 2 ^ 12) (hb : b < 2 ^ 12) (e : a &&& b = 0) : tp g h a &&& tp g h b = 0 := by
  rw [dj_iff] at e ⊢
  intro i hi
  rw [tp_test hg hh ha] at hi
  rw [tp_test hg hh hb]
  exact e _ hi
theorem ndiff_or {b h : Nat} (e : b.testBit h = true) : ndiff b (2 ^ h) ||| 2 ^ h = b := by
  apply Nat.eq_of_testBit_eq
  intro i
  rw [Nat.testBit_or, ndiff_test, Nat.testBit_two_pow]
  by_cases q : h = i
  · subst q; simp [e]
  · simp [q]
theorem ndiff_self {b h : Nat} : (ndiff b (2 ^ h)).testBit h = false := by rw [ndiff_test]; simp
theorem tp_1 {g h b : Nat} (hg : g < 12) (hh : h < 12) (hb : b < 2 ^ 12) (e1 : b.testBit h = true) (e2 : b.testBit g = false) : tp g h b = ndiff b (2 ^ h) ||| 2 ^ g := by
  have ne : g ≠ h := fun q => by rw [q, e1] at e2; cases e2
  apply Nat.eq_of_testBit_eq
  intro i
  rw [tp_test hg hh hb, Nat.testBit_or, ndiff_test, Nat.testBit_two_pow, Nat.testBit_two_pow]
  by_cases q : i = g
  · rw [if_pos q, q, e1]; simp
  · rw [if_neg q]
    by_cases q2 : i = h
    · rw [if_pos q2, q2, e2]; simp [ne]
    · rw [if_neg q2]
      have n1 : ¬ g = i := fun z => q z.symm
      have n2 : ¬ h = i := fun z => q2 z.symm
      simp [n1, n2]
theorem tp_sym {g h b : Nat} : tp g h b = tp h g b := by
  unfold tp
  refine sbits_congr (fun i _ => ?_)
  by_cases q : i = g
  · by_cases q2 : i = h
    · rw [if_pos q, if_pos q2, ← q, ← q2]
    · rw [if_pos q, if_neg q2, if_pos q]
  · by_cases q2 : i = h
    · rw [if_neg q, if_pos q2, if_pos q2]
    · rw [if_neg q, if_neg q2, if_neg q2, if_neg q]
theorem tp_sum {g h b : Nat} {f : Nat → Nat} {m : Nat} (hg : g < 12) (hh : h < 12) (gm : g < m) (hm : h < m) (hb : b < 2 ^ 12) (e : f g = f h) : sset (tp g h b) f m = sset b f m := by
  have one : ∀ {g h : Nat}, g < 12 → h < 12 → g < m → h < m → f g = f h → b.testBit h = true → b.testBit g = false → sset (tp g h b) f m = sset b f m := fun {g h} hg hh gm hm e e1 e2 => by
    have s1 := sset_or (f := f) (ndiff_self (b := b) (h := h)) m
    rw [ndiff_or e1, if_pos hm] at s1
    have z : (ndiff b (2 ^ h)).testBit g = false := by rw [ndiff_test, e2]; rfl
    have s2 := sset_or (f := f) z m
    rw [if_pos gm] at s2
    rw [tp_1 hg hh hb e1 e2, s2, s1, e]
  cases e1 : b.testBit h with
  | true =>
    cases e2 : b.testBit g with
    | true => rw [tp_id hg hh hb (by rw [e1, e2])]
    | false => exact one hg hh gm hm e e1 e2
  | false =>
    cases e2 : b.testBit g with
    | true => rw [tp_sym]; exact one hh hg hm gm e.symm e2 e1
    | false => rw [tp_id hg hh hb (by rw [e1, e2])]
theorem sset_val {n : Nat} : ∀ m, sset n (fun i => 2 ^ i) m = n % 2 ^ m
  | 0 => by simp [sset, Nat.mod_one]
  | m + 1 => by
    rw [Nat.pow_succ, Nat.mod_mul, ← sset_val m]
    have e := Nat.testBit_eq_decide_div_mod_eq (x := n) (i := m)
    have l : n / 2 ^ m % 2 < 2 := Nat.mod_lt _ (by decide)
    cases q : n.testBit m with
    | true =>
      rw [q] at e
      have e := (of_decide_eq_true e.symm)
      rw [sset_1 q, e]; simp
    | false =>
      rw [q] at e
      have e := (of_decide_eq_false e.symm)
      rw [sset_0 q, show n / 2 ^ m % 2 = 0 by omega]; simp
theorem tp_lt {g h b : Nat} (hg : g < 12) (hh : h < 12) (hb : b < 2 ^ 12) (e1 : b.testBit h = true) (e2 : b.testBit g = false) (gh : g < h) : tp g h b < b := by
  have s1 := sset_or (f := fun i => 2 ^ i) (ndiff_self (b := b) (h := h)) 12
  rw [ndiff_or e1, if_pos hh] at s1
  have z : (ndiff b (2 ^ h)).testBit g = false := by rw [ndiff_test, e2]; rfl
  have s2 := sset_or (f := fun i => 2 ^ i) z 12
  rw [if_pos hg, ← tp_1 hg hh hb e1 e2] at s2
  have l1 : tp g h b < 2 ^ 12 := sbits_lt _ _
  rw [sset_val, Nat.mod_eq_of_lt hb] at s1
  rw [sset_val, Nat.mod_eq_of_lt l1] at s2
  have p : (2 : Nat) ^ g < 2 ^ h := Nat.pow_lt_pow_right (by decide) gh
  omega
theorem tp_le {g h b m : Nat} (hg : g < 12) (hh : h < 12) (gm : g < m) (hm : h < m) (m12 : m ≤ 12) (hb : b < 2 ^ m) : tp g h b < 2 ^ m := by
  have hb2 : b < 2 ^ 12 := Nat.lt_of_lt_of_le hb (Nat.pow_le_pow_right (by decide) m12)
  apply lt_bits
  intro i hi
  rw [tp_test hg hh hb2] at hi
  by_cases q : i = g
  · omega
  · by_cases q2 : i = h
    · omega
    · rw [if_neg q, if_neg q2] at hi
      exact bit_lt hb hi
/-- hinges that serve as well -/
def alk (A : TA) (F : Nat → Nat) (o h : Nat) : Prop := A 6 o = A 6 h ∧ h0 A o = h0 A h ∧ F o = F h
theorem fitA_iff {A : TA} {n e m : Nat} : fitA A n e m = true ↔ ∀ i, i < m → n.testBit i = true → fitsA A i e = true := by
  unfold fitA
  rw [allb_true]
  constructor
  · intro h i hi hb
    have := h i hi
    rw [hb] at this
    simpa using this
  · intro h i hi
    cases hb : n.testBit i with
    | false => rfl
    | true => rw [h i hi hb]; rfl
theorem okP_tp {A : TA} {F : Nat → Nat} {e g h b : Nat} (h12 : A 1 0 ≤ 12) (gm : g < A 1 0) (hm : h < A 1 0) (hb : b < 2 ^ A 1 0) (k : alk A F g h) (ok : okP A e b = true) : okP A e (tp g h b) = true := by
  have hg : g < 12 := by omega
  have hh : h < 12 := by omega
  have hb2 : b < 2 ^ 12 := Nat.lt_of_lt_of_le hb (Nat.pow_le_pow_right (by decide) h12)
  have e1 : pop (tp g h b) = pop b := tp_sum hg hh hg hh hb2 rfl
  have e2 : sset (tp g h b) (h0 A) (A 1 0) = sset b (h0 A) (A 1 0) := tp_sum hg hh gm hm hb2 k.2.1
  unfold okP shutF at ok ⊢
  rw [e1, e2]
  rw [Bool.and_eq_true] at ok ⊢
  refine ⟨ok.1, fitA_iff.mpr (fun i hi hbi => ?_)⟩
  have f1 := fitA_iff.mp ok.2
  rw [tp_test hg hh hb2] at hbi
  by_cases q : i = g
  · rw [if_pos q] at hbi
    have := f1 h hm hbi
    unfold fitsA at this ⊢
    rw [q, k.1]; exact this
  · rw [if_neg q] at hbi
    by_cases q2 : i = h
    · rw [if_pos q2] at hbi
      have := f1 g gm hbi
      unfold fitsA at this ⊢
      rw [q2, ← k.1]; exact this
    · rw [if_neg q2] at hbi
      exact f1 i hi hbi
/-- doors of a row can be shut at once at this cost -/
def Hg (A : TA) (F : Nat → Nat) : List Nat → Nat → Nat → Prop
  | [], _, c => c = 0
  | e :: es, u, c => ∃ b, b ∈ prs A e ∧ b &&& u = 0 ∧ ∃ c', Hg A F es (u ||| b) c' ∧ c = sset b F (A 1 0) + c'
theorem or_right_comm (a b c : Nat) : a ||| b ||| c = a ||| c ||| b := by rw [Nat.or_assoc, Nat.or_comm b c, ← Nat.or_assoc]
theorem Hg_perm {A : TA} {F : Nat → Nat} {es es' : List Nat} (h : es.Perm es') : ∀ {u c : Nat}, Hg A F es u c → Hg A F es' u c := by
  induction h with
  | nil => exact fun k => k
  | cons x _ ih =>
    intro u c ⟨b, h1, h2, c', h3, h4⟩
    exact ⟨b, h1, h2, c', ih h3, h4⟩
  | swap x y l =>
    intro u c ⟨b, h1, h2, c', ⟨b2, k1, k2, c2, k3, k4⟩, h4⟩
    rw [dj_or] at k2
    refine ⟨b2, k1, k2.1, sset b F (A 1 0) + c2, ⟨b, h1, dj_or.mpr ⟨h2, dj_sym k2.2⟩, c2, ?_, rfl⟩, by omega⟩
    rw [or_right_comm]; exact k3
  | trans _ _ ih1 ih2 => exact fun k => ih2 (ih1 k)
theorem Hg_sub {A : TA} {F : Nat → Nat} : ∀ {es : List Nat} {u v c : Nat}, (∀ i, v.testBit i = true → u.testBit i = true) → Hg A F es u c → Hg A F es v c
  | [], _, _, _, _, h => h
  | e :: es, u, v, c, hs, ⟨b, h1, h2, c', h3, h4⟩ => by
    refine ⟨b, h1, ?_, c', Hg_sub (fun i hi => ?_) h3, h4⟩
    · rw [dj_iff] at h2 ⊢
      intro i hi
      cases q : v.testBit i with
      | false => rfl
      | true => have := hs i q; rw [h2 i hi] at this; cases this
    · rw [Nat.testBit_or, Bool.or_eq_true] at hi ⊢
      rcases hi with hi | hi
      · exact Or.inl (hs i hi)
      · exact Or.inr hi
theorem Hg_any {A : TA} {F G : Nat → Nat} : ∀ {es : List Nat} {u c : Nat}, Hg A F es u c → ∃ c', Hg A G es u c'
  | [], _, _, _ => ⟨0, rfl⟩
  | e :: es, u, c, ⟨b, h1, h2, c', h3, h4⟩ => by
    obtain ⟨c2, k⟩ := Hg_any (G := G) h3
    exact ⟨_, b, h1, h2, c2, k, rfl⟩
theorem Hg_zero {A : TA} : ∀ {es : List Nat} {u c : Nat}, Hg A (fun _ => 0) es u c → c = 0
  | [], _, _, h => h
  | e :: es, u, c, ⟨b, h1, h2, c', h3, h4⟩ => by
    rw [h4, Hg_zero h3, sset_zero]
theorem Hg_set {A : TA} {F : Nat → Nat} (h12 : A 1 0 ≤ 12) : ∀ {es : List Nat} {u c : Nat}, Hg A F es u c → ∃ S, S < 2 ^ A 1 0 ∧ pop S = 2 * es.length ∧ S &&& u = 0 ∧ c = sset S F (A 1 0)
  | [], u, c, h => ⟨0, Nat.two_pow_pos _, rfl, by simp, by rw [sset_z]; exact h⟩
  | e :: es, u, c, ⟨b, h1, h2, c', h3, h4⟩ => by
    obtain ⟨S, s1, s2, s3, s4⟩ := Hg_set h12 h3
    obtain ⟨m1, m2⟩ := prs_mem.mp h1
    rw [dj_or] at s3
    have d : b &&& S = 0 := dj_sym s3.2
    refine ⟨b ||| S, Nat.or_lt_two_pow m1 s1, ?_, ?_, ?_⟩
    · unfold pop at s2 ⊢
      rw [sset_dj d, s2]
      have := okP_2 m2
      unfold pop at this
      rw [this, List.length_cons]; omega
    · have := dj_or.mpr ⟨dj_sym h2, dj_sym s3.1⟩
      exact dj_sym this
    · rw [sset_dj d, ← s4]; exact h4
theorem Hg_tp {A : TA} {F : Nat → Nat} {g h : Nat} (h12 : A 1 0 ≤ 12) (gm : g < A 1 0) (hm : h < A 1 0) (k : alk A F g h) : ∀ {es : List Nat} {u c : Nat}, u < 2 ^ A 1 0 → Hg A F es u c → Hg A F es (tp g h u) c
  | [], _, _, _, h => h
  | e :: es, u, c, hu, ⟨b, h1, h2, c', h3, h4⟩ => by
    obtain ⟨m1, m2⟩ := prs_mem.mp h1
    have p12 : (2 : Nat) ^ A 1 0 ≤ 2 ^ 12 := Nat.pow_le_pow_right (by decide) h12
    have hg : g < 12 := by omega
    have hh : h < 12 := by omega
    have hb2 : b < 2 ^ 12 := by omega
    have hu2 : u < 2 ^ 12 := by omega
    refine ⟨tp g h b, prs_mem.mpr ⟨tp_le hg hh gm hm h12 m1, okP_tp h12 gm hm m1 k m2⟩, tp_dj hg hh hb2 hu2 h2, c', ?_, ?_⟩
    · rw [← tp_or hg hh hu2 hb2]
      exact Hg_tp h12 gm hm k (Nat.or_lt_two_pow hu m1) h3
    · rw [tp_sum hg hh gm hm hb2 k.2.2]; exact h4
/-- a pair that no lower twin could stand for -/
def cano (A : TA) (F : Nat → Nat) (b u : Nat) : Prop := ∀ o h, h < A 1 0 → b.testBit h = true → o < h → alk A F o h → b.testBit o = false → u.testBit o = true
theorem Hg_cano {A : TA} {F : Nat → Nat} (h12 : A 1 0 ≤ 12) {e : Nat} {es : List Nat} {u c : Nat} (hu : u < 2 ^ A 1 0) (h : Hg A F (e :: es) u c) : ∃ b, b ∈ prs A e ∧ b &&& u = 0 ∧ cano A F b u ∧ ∃ c', Hg A F es (u ||| b) c' ∧ c = sset b F (A 1 0) + c' := by
  obtain ⟨b0, h1, h2, h3⟩ := h
  obtain ⟨b, -, ⟨m1, m2, c', m3, m4⟩, hl⟩ := least_of (P := fun b => b ∈ prs A e ∧ b &&& u = 0 ∧ ∃ c', Hg A F es (u ||| b) c' ∧ c = sset b F (A 1 0) + c') b0 ⟨h1, h2, h3⟩
  refine ⟨b, m1, m2, fun o h hh hb oh al ob => ?_, c', m3, m4⟩
  cases uo : u.testBit o with
  | true => rfl
  | false =>
    exfalso
    obtain ⟨b1, b2⟩ := prs_mem.mp m1
    have p12 : (2 : Nat) ^ A 1 0 ≤ 2 ^ 12 := Nat.pow_le_pow_right (by decide) h12
    have ho : o < A 1 0 := by omega
    have hb2 : b < 2 ^ 12 := by omega
    have hu2 : u < 2 ^ 12 := by omega
    have uh : u.testBit h = false := dj_iff.mp m2 h hb
    have tu : tp o h u = u := tp_id (by omega) (by omega) hu2 (by rw [uo, uh])
    have hl' := hl (tp o h b) (tp_lt (by omega) (by omega) hb2 hb ob oh)
    apply hl'
    refine ⟨prs_mem.mpr ⟨tp_le (by omega) (by omega) ho hh h12 b1, okP_tp h12 ho hh b1 al b2⟩, ?_, c', ?_, ?_⟩
    · have := tp_dj (g := o) (h := h) (by omega) (by omega) hb2 hu2 m2
      rw [tu] at this; exact this
    · have := Hg_tp h12 ho hh al (Nat.or_lt_two_pow hu b1) m3
      rw [tp_or (by omega) (by omega) hu2 hb2, tu] at this
      exact this
    · rw [tp_sum (by omega) (by omega) ho hh hb2 al.2.2]; exact m4
/-- the least fees of m hinges -/
def nF (F : Nat → Nat) (k m : Nat) : Nat := psum (fun h => decide (F h ≤ k)) (fun _ => 1) m
def lfS (F : Nat → Nat) (H m : Nat) : Nat → Nat
  | 0 => 0
  | k + 1 => lfS F H m k + (m - nF F k H)
def LF (F : Nat → Nat) (H m : Nat) : Nat := lfS F H m 9
def hiS (F : Nat → Nat) (S m : Nat) : Nat → Nat
  | 0 => 0
  | k + 1 => hiS F S m k + sset S (fun h => if k < F h then 1 else 0) m
theorem hiS_succ {F : Nat → Nat} {S m : Nat} : ∀ k, hiS F S (m + 1) k = hiS F S m k + (if S.testBit m then min (F m) k else 0)
  | 0 => by simp [hiS]
  | k + 1 => by
    unfold hiS
    rw [hiS_succ k]
    cases q : S.testBit m with
    | false => rw [sset_0 q]; simp
    | true =>
      rw [sset_1 q]
      simp
      by_cases z : k < F m
      · rw [if_pos z]; omega
      · rw [if_neg z]; omega
theorem hiS_eq {F : Nat → Nat} {S : Nat} : ∀ {m : Nat}, (∀ h, h < m → F h ≤ 9) → hiS F S m 9 = sset S F m
  | 0, _ => by
    have : ∀ k, hiS F S 0 k = 0 := by
      intro k
      induction k with
      | zero => rfl
      | succ k ih => unfold hiS; rw [ih]; rfl
    exact this 9
  | m + 1, h => by
    rw [hiS_succ, hiS_eq (fun k hk => h k (by omega))]
    have := h m (by omega)
    rw [Nat.min_eq_left this]
    rfl
theorem lo_le {F : Nat → Nat} {S k : Nat} : ∀ m, sset S (fun _ => 1) m ≤ nF F k m + sset S (fun h => if k < F h then 1 else 0) m
  | 0 => by simp [sset]
  | m + 1 => by
    have ih := lo_le (F := F) (S := S) (k := k) m
    have e : nF F k (m + 1) = nF F k m + (if F m ≤ k then 1 else 0) := by
      show nF F k m + (if decide (F m ≤ k) then 1 else 0) = _
      by_cases q : F m ≤ k
      · simp [q]
      · simp [q]
    rw [e]
    cases q : S.testBit m with
    | false => rw [sset_0 q, sset_0 q]; omega
    | true =>
      rw [sset_1 q, sset_1 q]
      by_cases z : k < F m
      · rw [if_pos z, if_neg (by omega)]; omega
      · rw [if_neg z, if_pos (by omega)]; omega
theorem pop_H {S m : Nat} (h : S < 2 ^ m) (hm : m ≤ 12) : sset S (fun _ => 1) m = pop S := by
  have : ∀ k, sset S (fun _ => 1) (m + k) = sset S (fun _ => 1) m := by
    intro k
    induction k with
    | zero => rfl
    | succ k ih =>
      rw [← Nat.add_assoc, sset_0]
      · exact ih
      · cases q : S.testBit (m + k) with
        | false => rfl
        | true => have := bit_lt h q; omega
  have := this (12 - m)
  rw [show m + (12 - m) = 12 by omega] at this
  exact this.symm
theorem LF_le {F : Nat → Nat} {S H : Nat} (hF : ∀ h, h < H → F h ≤ 9) (hS : S < 2 ^ H) (h12 : H ≤ 12) : LF F H (pop S) ≤ sset S F H := by
  rw [← hiS_eq hF]
  have : ∀ k, lfS F H (pop S) k ≤ hiS F S H k := by
    intro k
    induction k with
    | zero => exact Nat.le_refl _
    | succ k ih =>
      unfold lfS hiS
      have := lo_le (F := F) (S := S) (k := k) H
      rw [pop_H hS h12] at this
      omega
  exact this 9
theorem LF_mono {F : Nat → Nat} {H m n : Nat} (h : m ≤ n) : LF F H m ≤ LF F H n := by
  have : ∀ k, lfS F H m k ≤ lfS F H n k := by
    intro k
    induction k with
    | zero => exact Nat.le_refl _
    | succ k ih => unfold lfS; omega
  exact this 9
theorem Hg_lo {A : TA} {F : Nat → Nat} (h12 : A 1 0 ≤ 12) (hF : ∀ h, h < A 1 0 → F h ≤ 9) {es : List Nat} {u c : Nat} (h : Hg A F es u c) : LF F (A 1 0) (2 * es.length) ≤ c ∧ c ≤ 108 ∧ 2 * es.length ≤ A 1 0 := by
  obtain ⟨S, s1, s2, s3, s4⟩ := Hg_set h12 h
  refine ⟨?_, ?_, ?_⟩
  · rw [← s2, s4]; exact LF_le hF s1 h12
  · rw [s4]
    have := sset_le (n := S) hF
    omega
  · rw [← s2, ← pop_H s1 h12]
    have := sset_le (n := S) (c := 1) (f := fun _ => 1) (m := A 1 0) (fun _ _ => Nat.le_refl _)
    omega
/-- the least of some costs, or a mark -/
def LC (I : Nat) (P : Nat → Prop) (v : Nat) : Prop := (P v ∧ ∀ c, P c → v ≤ c) ∨ ((∀ c, ¬ P c) ∧ v = I)
theorem LC_ex (I : Nat) (P : Nat → Prop) : ∃ v, LC I P v := by
  by_cases h : ∃ c, P c
  · obtain ⟨c, hc⟩ := h
    obtain ⟨N, -, h2, h3⟩ := least_of c hc
    exact ⟨N, Or.inl ⟨h2, fun c hc => by
      apply Classical.byContradiction
      intro q
      exact h3 c (by omega) hc⟩⟩
  · exact ⟨I, Or.inr ⟨fun c hc => h ⟨c, hc⟩, rfl⟩⟩
theorem LC_uq {I : Nat} {P : Nat → Prop} {v w : Nat} (h : LC I P v) (k : LC I P w) : v = w := by
  rcases h with ⟨h1, h2⟩ | ⟨h1, h2⟩
  · rcases k with ⟨k1, k2⟩ | ⟨k1, k2⟩
    · exact Nat.le_antisymm (h2 w k1) (k2 v h1)
    · exact absurd h1 (k1 v)
  · rcases k with ⟨k1, k2⟩ | ⟨k1, k2⟩
    · exact absurd k1 (h1 w)
    · rw [h2, k2]
theorem LC_iff {I : Nat} {P Q : Nat → Prop} {v : Nat} (h : ∀ c, P c ↔ Q c) (k : LC I P v) : LC I Q v := by
  rcases k with ⟨k1, k2⟩ | ⟨k1, k2⟩
  · exact Or.inl ⟨(h v).mp k1, fun c hc => k2 c ((h c).mpr hc)⟩
  · exact Or.inr ⟨fun c hc => k1 c ((h c).mpr hc), k2⟩
/-- doors of a set, from one on -/
def dsF (m : Nat) : Nat → Nat → List Nat
  | _, 0 => []
  | e, k + 1 => if m.testBit e then e :: dsF m (e + 1) k else dsF m (e + 1) k
def ds (m D : Nat) : List Nat := dsF m 0 D
theorem dsF_mem {m x : Nat} : ∀ {k e : Nat}, x ∈ dsF m e k ↔ e ≤ x ∧ x < e + k ∧ m.testBit x = true
  | 0, e => by simp [dsF]; omega
  | k + 1, e => by
    unfold dsF
    cases q : m.testBit e with
    | true =>
      rw [if_pos rfl, List.mem_cons, dsF_mem]
      constructor
      · rintro (h | h)
        · rw [h]; exact ⟨Nat.le_refl _, by omega, q⟩
        · exact ⟨by omega, by omega, h.2.2⟩
      · rintro ⟨h1, h2, h3⟩
        by_cases z : x = e
        · exact Or.inl z
        · exact Or.inr ⟨by omega, by omega, h3⟩
    | false =>
      rw [if_neg (by decide), dsF_mem]
      constructor
      · rintro ⟨h1, h2, h3⟩
        exact ⟨by omega, by omega, h3⟩
      · rintro ⟨h1, h2, h3⟩
        have : x ≠ e := fun z => by rw [z, q] at h3; cases h3
        exact ⟨by omega, by omega, h3⟩
theorem dsF_none {m : Nat} : ∀ {k e : Nat}, (∀ x, e ≤ x → x < e + k → m.testBit x = false) → dsF m e k = []
  | 0, _, _ => rfl
  | k + 1, e, h => by
    unfold dsF
    rw [h e (Nat.le_refl _) (by omega), if_neg (by decide)]
    exact dsF_none (fun x h1 h2 => h x (by omega) (by omega))
theorem dsF_congr {m n : Nat} : ∀ {k e : Nat}, (∀ x, e ≤ x → x < e + k → m.testBit x = n.testBit x) → dsF m e k = dsF n e k
  | 0, _, _ => rfl
  | k + 1, e, h => by
    unfold dsF
    rw [h e (Nat.le_refl _) (by omega), dsF_congr (fun x h1 h2 => h x (by omega) (by omega))]
theorem dsF_del {m x : Nat} (hx : m.testBit x = true) : ∀ {k e : Nat}, e ≤ x → x < e + k → (dsF m e k).Perm (x :: dsF (ndiff m (2 ^ x)) e k)
  | 0, e, h1, h2 => by omega
  | k + 1, e, h1, h2 => by
    unfold dsF
    by_cases q : e = x
    · subst q
      rw [hx, if_pos rfl, ndiff_self, if_neg (by decide)]
      rw [dsF_congr (n := m) (m := ndiff m (2 ^ e)) (fun y h3 h4 => ?_)]
      · rw [ndiff_test, Nat.testBit_two_pow]
        have : ¬ e = y := by omega
        simp [this]
    · have e1 : (ndiff m (2 ^ x)).testBit e = m.testBit e := by
        rw [ndiff_test, Nat.testBit_two_pow]
        have : ¬ x = e := fun z => q z.symm
        simp [this]
      rw [e1]
      have ih := dsF_del hx (k := k) (e := e + 1) (by omega) (by omega)
      cases m.testBit e with
      | true =>
        rw [if_pos rfl, if_pos rfl]
        exact (List.Perm.cons e ih).trans (List.Perm.swap x e _)
      | false =>
        rw [if_neg (by decide), if_neg (by decide)]
        exact ih
theorem dsF_len {m : Nat} : ∀ {k e : Nat}, (dsF m e k).length + sset m (fun _ => 1) e = sset m (fun _ => 1) (e + k)
  | 0, e => by simp [dsF]
  | k + 1, e => by
    unfold dsF
    have ih := dsF_len (m := m) (k := k) (e := e + 1)
    rw [show e + (k + 1) = e + 1 + k by omega, ← ih]
    cases q : m.testBit e with
    | true => rw [if_pos rfl, sset_1 q, List.length_cons]; omega
    | false => rw [if_neg (by decide), sset_0 q]
theorem ds_len {m D : Nat} (h : m < 2 ^ D) (hD : D ≤ 12) : (ds m D).length = pop m := by
  have := dsF_len (m := m) (k := D) (e := 0)
  rw [Nat.zero_add, pop_H h hD] at this
  exact this
