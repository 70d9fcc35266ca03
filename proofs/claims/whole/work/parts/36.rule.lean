/-! The rule: a log G of moves: a number < 1000, 1000 + k the thing k, 2000 + k the act k, 3000 a minus, 3001 two minus signs that the class leaves out. -/
def ltr : Nat → Nat
  | 0 => 114 | 1 => 115 | 2 => 111 | 3 => 119 | 4 => 110 | 5 => 116 | 6 => 105 | 7 => 100 | _ => 120
def opr : Nat → Nat
  | 0 => 60 | 1 => 62 | 2 => 61 | 3 => 43 | 4 => 45 | 5 => 42 | _ => 47
def cmp (t : Nat) : Nat := if t < 1000 then t else if t < 2000 then 1000 + ltr (t - 1000) else if t < 3000 then 2000 + opr (t - 2000) else t
def cS : List Nat → List Nat
  | [] => []
  | t :: G => if t = 3001 then cS G else cmp t :: cS G
def mS : List Nat → List Nat
  | [] => []
  | t :: G => if t = 3001 then 3000 :: 3000 :: mS G else t :: mS G
/-- a log is good from a height of the stack on, and ends at one -/
def okG : Nat → List Nat → Prop
  | n, [] => n = 1
  | n, t :: G => if t < 2000 then (t < 1009 ∧ okG (n + 1) G) else if t < 2007 then 2 ≤ n ∧ okG (n - 1) G else (t = 3000 ∨ t = 3001) ∧ 1 ≤ n ∧ okG n G
/-- an act worked -/
def wrk (k : Nat) (a b : Int32) : Int32 :=
  match k with
  | 0 => if a < b then nI 1 else nI 0
  | 1 => if b < a then nI 1 else nI 0
  | 2 => if a = b then nI 1 else nI 0
  | 3 => a + b
  | 4 => a - b
  | 5 => a * b
  | _ => if b = 0 then nI 0 else a / b
def thg (A : TA) (y : Int32) (h e m : Nat) (s : Bool) (k : Nat) : Int32 :=
  match k with
  | 0 => nI (A 9 h)
  | 1 => nI (A 7 h)
  | 2 => nI (A 10 h)
  | 3 => nI (A 5 e)
  | 4 => nI m
  | 5 => y
  | 6 => nI h
  | 7 => nI e
  | _ => bI s
/-- the stack behind a log, the last in front -/
def evG (T : Nat → Int32) : List Nat → List Int32 → List Int32
  | [], s => s
  | t :: G, s => if t < 1000 then evG T G (nI t :: s) else if t < 2000 then evG T G (T (t - 1000) :: s) else if t < 3000 then (match s with | b :: a :: r => evG T G (wrk (t - 2000) a b :: r) | _ => []) else if t = 3000 then (match s with | a :: r => evG T G (-a :: r) | _ => []) else evG T G s
theorem evG_cons (T : Nat → Int32) (t : Nat) (G : List Nat) (s : List Int32) : evG T (t :: G) s = if t < 1000 then evG T G (nI t :: s) else if t < 2000 then evG T G (T (t - 1000) :: s) else if t < 3000 then (match s with | b :: a :: r => evG T G (wrk (t - 2000) a b :: r) | _ => []) else if t = 3000 then (match s with | a :: r => evG T G (-a :: r) | _ => []) else evG T G s := rfl
def clp (v : Int32) : Nat := if v.toInt < 0 then 0 else if 99 < v.toInt then 99 else v.toInt.toNat
def tel (A : TA) (y : Int32) (G : List Nat) (h e n : Nat) : Int32 := (evG (thg A y h e (pop n) (shutF A (h0 A) e n)) G []).headD 0
def rul (A : TA) (y : Int32) (G : List Nat) (h e n : Nat) : Nat := if G = [] then A 9 h else clp (tel A y G h e n)
/-- how a door creaks with a set of hinges -/
def crk (A : TA) (y : Int32) (G : List Nat) (e n : Nat) : Nat := sset n (fun h => rul A y G h e n) (A 1 0)
def okU (G : List Nat) : Prop := (G = [] ∨ okG 0 G) ∧ (cS G).length ≤ 40 ∧ (mS G).length ≤ 40
def cU (G : List Nat) (σ : hq_St) : Prop := okU G ∧ σ.1 24 3 = nI (cS G).length ∧ ∀ j t, (cS G)[j]? = some t → σ.1 25 j = nI t
theorem cU.dep {G : List Nat} : Dep [(24, 4), (25, 0)] (cU G) := fun σ τ e h => ⟨h.1, ((e 24 3 rfl).1).trans h.2.1, fun j t hj => ((e 25 j rfl).1).trans (h.2.2 j t hj)⟩
def mU (G : List Nat) (σ : hq_St) : Prop := okU G ∧ σ.1 52 26 = nI (mS G).length ∧ ∀ j t, (mS G)[j]? = some t → σ.1 66 j = nI t
theorem mU.dep {G : List Nat} : Dep [(52, 27), (66, 0)] (mU G) := fun σ τ e h => ⟨h.1, ((e 52 26 rfl).1).trans h.2.1, fun j t hj => ((e 66 j rfl).1).trans (h.2.2 j t hj)⟩
theorem cS_ne {G : List Nat} (h : okG 0 G) : (cS G).length ≠ 0 := by
  cases G with
  | nil => simp [okG] at h
  | cons t G =>
    unfold okG at h
    unfold cS
    split at h
    · rw [if_neg (by omega)]; simp
    · split at h <;> omega
theorem mS_ne {G : List Nat} (h : okG 0 G) : (mS G).length ≠ 0 := by
  cases G with
  | nil => simp [okG] at h
  | cons t G =>
    unfold mS
    split <;> simp
theorem clp_le (v : Int32) : clp v ≤ 99 := by unfold clp; split <;> (try split) <;> omega
theorem clp_val (v : Int32) : (if nI 0 < (if v < nI 99 then v else nI 99) then (if v < nI 99 then v else nI 99) else nI 0) = nI (clp v) := by
  have h9 : (nI 99).toInt = 99 := rfl
  have h00 : (nI 0).toInt = 0 := rfl
  unfold clp
  by_cases c1 : v < nI 99
  · rw [if_pos c1]
    rw [fa_lt, h9] at c1
    by_cases c2 : nI 0 < v
    · rw [if_pos c2]
      rw [fa_lt, h00] at c2
      rw [if_neg (by omega), if_neg (by omega), fa_eq, nI_toInt (by omega)]; omega
    · rw [if_neg c2]
      rw [fa_lt, h00] at c2
      by_cases c3 : v.toInt < 0
      · rw [if_pos c3]
      · rw [if_neg c3, if_neg (by omega)]
        rw [show v.toInt.toNat = 0 by omega]
  · rw [if_neg c1, if_pos (by decide)]
    rw [fa_lt, h9] at c1
    by_cases c3 : 99 < v.toInt
    · rw [if_neg (by omega), if_pos c3]
    · rw [if_neg (by omega), if_neg c3, show v.toInt.toNat = 99 by omega]
/-- the stack in a cell -/
def stk (c : Nat) (s : List Int32) (σ : hq_St) : Prop := ∀ j v, s.reverse[j]? = some v → σ.1 c j = v
theorem stk.dep {c : Nat} {s : List Int32} : Dep [(c, 0)] (stk c s) := fun σ τ e h j v hj => ((e c j (by simp [inF])).1).trans (h j v hj)
theorem stk.push {c : Nat} {s : List Int32} {σ : hq_St} {v : Int32} (h : stk c s σ) : stk c (v :: s) (hq_sI σ c s.length v) := by
  intro j w hj
  rw [sI_at, if_pos rfl]
  rw [List.reverse_cons, List.getElem?_append] at hj
  split at hj
  · rename_i hl
    simp at hl
    rw [if_neg (by omega)]
    exact h j w hj
  · rename_i hl
    simp at hl
    by_cases e : j = s.length
    · rw [if_pos e]
      subst e
      simpa using hj
    · rw [List.getElem?_eq_none (by simp; omega)] at hj; cases hj
theorem stk.pop {c : Nat} {s : List Int32} {σ : hq_St} {v : Int32} (h : stk c (v :: s) σ) : stk c s σ := by
  intro j w hj
  apply h j w
  rw [List.reverse_cons, List.getElem?_append]
  have := (List.getElem?_eq_some_iff.mp hj).1
  rw [if_pos this]; exact hj
theorem stk.top {c : Nat} {s : List Int32} {σ : hq_St} {v : Int32} (h : stk c (v :: s) σ) : σ.1 c s.length = v := by
  apply h
  rw [List.reverse_cons, List.getElem?_append]
  simp
section RU
variable {d : Nat} {σ : hq_St} {A : TA}
theorem s_thingOf (R : Rc A σ) {y : Int32} (hy : σ.1 5 16 = y) {h e m : Nat} {s : Bool} (hh : h < A 1 0) (he : e < A 0 0) : ∀ k, k < 9 → hq_c 59 (d + 1) [.int (nI (ltr k)), .ref 5, .int (nI h), .int (nI e), .int (nI m), .int (bI s)] σ (some (.int (thg A y h e m s k))) σ := by
  have b1 := R.1.1
  have b2 := R.1.2.1
  have oh : vp_in (nI h) 12 := vin (by omega) (by decide)
  have oe : vp_in (nI e) 8 := vin (by omega) (by decide)
  have ch : (nI h).toNatClampNeg = h := clamp (by omega)
  have ce : (nI e).toNatClampNeg = e := clamp (by omega)
  intro k hk
  exact match k, hk with
  | 0, _ => by
    have H := p_X5_thingOf_0_25 (d := d) (σ := σ) (l0 := nI 114) (l2 := nI h) (l3 := nI e) (l4 := nI m) (l5 := bI s) (by decide) (by decide) (by decide) (by decide) (by decide) (by decide) (by decide) (by decide) (by decide) (by decide) (by decide) (by decide) (by decide) (by decide) (by decide) oh
    rw [ch, (R.2.2.2.2.1 h hh).2.2.2.1] at H
    exact H
  | 1, _ => by
    have H := p_X5_thingOf_0_26 (d := d) (σ := σ) (l0 := nI 115) (l2 := nI h) (l3 := nI e) (l4 := nI m) (l5 := bI s) (by decide) (by decide) (by decide) (by decide) (by decide) (by decide) (by decide) (by decide) (by decide) (by decide) (by decide) (by decide) (by decide) (by decide) (by decide) (by decide) oh
    rw [ch, (R.2.2.2.2.1 h hh).2.1] at H
    exact H
  | 2, _ => by
    have H := p_X5_thingOf_0_20 (d := d) (σ := σ) (l0 := nI 111) (l2 := nI h) (l3 := nI e) (l4 := nI m) (l5 := bI s) (by decide) (by decide) (by decide) (by decide) (by decide) (by decide) (by decide) (by decide) (by decide) (by decide) (by decide) (by decide) oh
    rw [ch, (R.2.2.2.2.1 h hh).2.2.2.2.1] at H
    exact H
  | 3, _ => by
    have H := p_X5_thingOf_0_32 (d := d) (σ := σ) (l0 := nI 119) (l2 := nI h) (l3 := nI e) (l4 := nI m) (l5 := bI s) (by decide) (by decide) (by decide) (by decide) (by decide) (by decide) (by decide) (by decide) (by decide) (by decide) (by decide) (by decide) (by decide) (by decide) (by decide) (by decide) (by decide) (by decide) (by decide) (by decide) oe
    rw [ce, (R.2.2.2.1 e he).2.2.2.2.1] at H
    exact H
  | 4, _ => p_X5_thingOf_0_19 (l0 := nI 110) (by decide) (by decide) (by decide) (by decide) (by decide) (by decide) (by decide) (by decide) (by decide) (by decide) (by decide)
  | 5, _ => by
    have H := p_X5_thingOf_0_27 (d := d) (σ := σ) (l0 := nI 116) (l2 := nI h) (l3 := nI e) (l4 := nI m) (l5 := bI s) (by decide) (by decide) (by decide) (by decide) (by decide) (by decide) (by decide) (by decide) (by decide) (by decide) (by decide) (by decide) (by decide) (by decide) (by decide) (by decide) (by decide)
    rw [hy] at H
    exact H
  | 6, _ => p_X5_thingOf_0_10 (l0 := nI 105) (by decide) (by decide) (by decide) (by decide) (by decide) (by decide)
  | 7, _ => p_X5_thingOf_0_1 (l0 := nI 100) (by decide)
  | 8, _ => by
    cases s with
    | false => exact p_X5_thingOf_0_33 (l0 := nI 120) (by decide) (by decide) (by decide) (by decide) (by decide) (by decide) (by decide) (by decide) (by decide) (by decide) (by decide) (by decide) (by decide) (by decide) (by decide) (by decide) (by decide) (by decide) (by decide) (by decide) rfl
    | true => exact p_X5_thingOf_0_34 (l0 := nI 120) (by decide) (by decide) (by decide) (by decide) (by decide) (by decide) (by decide) (by decide) (by decide) (by decide) (by decide) (by decide) (by decide) (by decide) (by decide) (by decide) (by decide) (by decide) (by decide) (by decide) (by decide)
  | k + 9, hk => absurd hk (by omega)
theorem s_reckon {a b : Int32} : ∀ k, k < 7 → hq_c 60 (d + 1) [.int (nI (opr k)), .int a, .int b] σ (some (.int (wrk k a b))) σ
  | 0, _ => by
    unfold wrk
    by_cases q : a < b
    · rw [if_pos q]; exact p_X5_reckon_0_4 (l0 := nI 60) (by decide) (by decide) (by decide) (by decide) q
    · rw [if_neg q]; exact p_X5_reckon_0_5 (l0 := nI 60) (by decide) (by decide) (by decide) (by decide) q
  | 1, _ => by
    unfold wrk
    by_cases q : b < a
    · rw [if_pos q]; exact p_X5_reckon_0_8 (l0 := nI 62) (by decide) (by decide) (by decide) (by decide) (by decide) (by decide) q
    · rw [if_neg q]; exact p_X5_reckon_0_9 (l0 := nI 62) (by decide) (by decide) (by decide) (by decide) (by decide) (by decide) q
  | 2, _ => by
    unfold wrk
    by_cases q : a = b
    · rw [if_pos q]; exact p_X5_reckon_0_6 (l0 := nI 61) (by decide) (by decide) (by decide) (by decide) (by decide) q
    · rw [if_neg q]; exact p_X5_reckon_0_7 (l0 := nI 61) (by decide) (by decide) (by decide) (by decide) (by decide) q
  | 3, _ => p_X5_reckon_0_2 (l0 := nI 43) (by decide) (by decide)
  | 4, _ => p_X5_reckon_0_3 (l0 := nI 45) (by decide) (by decide) (by decide)
  | 5, _ => p_X5_reckon_0_1 (l0 := nI 42) (by decide)
  | 6, _ => by
    unfold wrk
    by_cases q : b = 0
    · rw [if_pos q]; exact p_X5_reckon_0_10 (l0 := nI 47) (by decide) (by decide) (by decide) (by decide) (by decide) (by decide) q
    · rw [if_neg q]; exact p_X5_reckon_0_11 (l0 := nI 47) (by decide) (by decide) (by decide) (by decide) (by decide) (by decide) q q
  | k + 7, hk => absurd hk (by omega)
theorem m_worked {a b : Int32} : ∀ k, k < 7 → hq_c 203 (d + 2) [.int (nI k), .int a, .int b] σ (some (.int (wrk k a b))) σ
  | 0, _ => by
    unfold wrk
    by_cases q : a < b
    · rw [if_pos q]; exact p_X10_worked_0_1 (l0 := nI 0) (by decide) q (m_flag (b := true))
    · rw [if_neg q]; exact p_X10_worked_0_2 (l0 := nI 0) (by decide) q (m_flag (b := false))
  | 1, _ => by
    unfold wrk
    by_cases q : b < a
    · rw [if_pos q]; exact p_X10_worked_0_3 (l0 := nI 1) (by decide) (by decide) q (m_flag (b := true))
    · rw [if_neg q]; exact p_X10_worked_0_4 (l0 := nI 1) (by decide) (by decide) q (m_flag (b := false))
  | 2, _ => by
    unfold wrk
    by_cases q : a = b
    · rw [if_pos q]; exact p_X10_worked_0_5 (l0 := nI 2) (by decide) (by decide) (by decide) q (m_flag (b := true))
    · rw [if_neg q]; exact p_X10_worked_0_6 (l0 := nI 2) (by decide) (by decide) (by decide) q (m_flag (b := false))
  | 3, _ => p_X10_worked_0_7 (l0 := nI 3) (by decide) (by decide) (by decide) (by decide)
  | 4, _ => p_X10_worked_0_8 (l0 := nI 4) (by decide) (by decide) (by decide) (by decide) (by decide)
  | 5, _ => p_X10_worked_0_9 (l0 := nI 5) (by decide) (by decide) (by decide) (by decide) (by decide) (by decide)
  | 6, _ => by
    unfold wrk
    by_cases q : b = 0
    · rw [if_pos q]; exact p_X10_worked_0_10 (l0 := nI 6) (by decide) (by decide) (by decide) (by decide) (by decide) (by decide) q
    · rw [if_neg q]; exact p_X10_worked_0_11 (l0 := nI 6) (by decide) (by decide) (by decide) (by decide) (by decide) (by decide) q q
  | k + 7, hk => absurd hk (by omega)
theorem nI_dec (n : Nat) : nI (n + 1) + (-1) = nI n := by
  rw [← nplus, Int32.add_assoc, show nI 1 + (-1 : Int32) = 0 by decide, Int32.add_zero]
theorem nI_dec1 (n : Nat) : nI (n + 1) - nI 1 = nI n := by rw [pk_sub (by omega), Nat.add_sub_cancel]
theorem s_tell_go {y : Int32} {h e m : Nat} {b : Bool} (hh : h < A 1 0) (he : e < A 0 0) : ∀ (G : List Nat) (k : Nat) (s : List Int32) (σ : hq_St), okG s.length G → Rc A σ → σ.1 5 16 = y → (∀ j t, (cS G)[j]? = some t → σ.1 25 (k + j) = nI t) → σ.1 24 3 = nI (k + (cS G).length) → k + (cS G).length ≤ 40 → s.length + (cS G).length ≤ 40 → stk 27 s σ → ∃ τ, hq_m 58 (d + 2) (some (.int ((evG (thg A y h e m b) G s).headD 0))) τ 4 [some (.ref 24), some (.ref 5), some (.int (nI h)), some (.int (nI e)), some (.int (nI m)), some (.int (bI b)), some (.int (nI s.length)), some (.int (nI k)), none] [] σ ∧ Fr [(27, 0)] σ τ := by
  intro G
  induction G with
  | nil =>
    intro k s σ ok R hy h25 hn b1 b2 hs
    unfold okG at ok
    match s, ok with
    | [v], _ =>
      have := hs.top
      have H := p_X5_tellOf_4_9 (d := d + 1) (σ := σ) (l2 := nI h) (l3 := nI e) (l4 := nI m) (l5 := bI b) (l6 := nI 1) (l7 := nI k) (by rw [hn]; exact nI_nlt (Nat.le_refl _) (by simp [cS] at b1 ⊢; omega)) (vin (by decide) (by decide))
      rw [show (nI 0).toNatClampNeg = 0 from rfl] at H
      rw [show σ.1 27 0 = v from this] at H
      exact ⟨σ, H, Fr.rf σ⟩
  | cons t G ih =>
    intro k s σ ok R hy h25 hn b1 b2 hs
    unfold okG at ok
    by_cases t1 : t = 3001
    · rw [if_neg (by omega), if_neg (by omega)] at ok
      have e1 : cS (t :: G) = cS G := by show (if t = 3001 then cS G else cmp t :: cS G) = _; rw [if_pos t1]
      have e2 : evG (thg A y h e m b) (t :: G) s = evG (thg A y h e m b) G s := by
        rw [evG_cons, if_neg (by omega), if_neg (by omega), if_neg (by omega), if_neg (by omega)]
      rw [e1] at h25 hn b1 b2
      rw [e2]
      exact ih k s σ ok.2.2 R hy h25 hn b1 b2 hs
    · have e1 : cS (t :: G) = cmp t :: cS G := by show (if _ then _ else _) = _; rw [if_neg t1]
      rw [e1] at h25 hn b1 b2
      simp only [List.length_cons] at hn b1 b2
      have hk := h25 0 _ rfl
      rw [Nat.add_zero] at hk
      have h25' : ∀ j t, (cS G)[j]? = some t → σ.1 25 (k + 1 + j) = nI t := fun j u hu => by
        have := h25 (j + 1) u (by rw [List.getElem?_cons_succ]; exact hu)
        rwa [show k + (j + 1) = k + 1 + j by omega] at this
      have ck : (nI k).toNatClampNeg = k := clamp (by omega)
      have cs : (nI s.length).toNatClampNeg = s.length := clamp (by omega)
      have ok1 : vp_in (nI k) 40 := vin (by omega) (by decide)
      have os1 : vp_in (nI s.length) 41 := vin (by omega) (by decide)
      have c1 : nI k < σ.1 24 3 := by rw [hn]; exact nlt (by omega) (by omega)
      have c2 : nI s.length < nI 41 := nlt (by omega) (by decide)
      have hn' : σ.1 24 3 = nI (k + 1 + (cS G).length) := by rw [hn]; exact congrArg nI (by omega)
      -- what is kept when the stack alone changes
      have keep : ∀ {j : Nat} {v : Int32}, Rc A (hq_sI σ 27 j v) ∧ (hq_sI σ 27 j v).1 5 16 = y ∧ (∀ i t, (cS G)[i]? = some t → (hq_sI σ 27 j v).1 25 (k + 1 + i) = nI t) ∧ (hq_sI σ 27 j v).1 24 3 = nI (k + 1 + (cS G).length) ∧ Fr [(27, 0)] σ (hq_sI σ 27 j v) := fun {j v} => by
        have f : Fr [(27, 0)] σ (hq_sI σ 27 j v) := (Fr.rf σ).sI (by simp [inF])
        exact ⟨Rc.dep.fr f (by decide) R, (f.i rfl).trans hy, fun i t hi => (f.i rfl).trans (h25' i t hi), (f.i rfl).trans hn', f⟩
      by_cases t2 : t < 1000
      · rw [if_pos (by omega)] at ok
        have e2 : evG (thg A y h e m b) (t :: G) s = evG (thg A y h e m b) G (nI t :: s) := by
          rw [evG_cons, if_pos t2]
        have hc : cmp t = t := by unfold cmp; rw [if_pos t2]
        rw [hc] at hk
        obtain ⟨k1, k2, k3, k4, k5⟩ := keep (j := s.length) (v := nI t)
        obtain ⟨τ, i1, i2⟩ := ih (k + 1) (nI t :: s) _ ok.2 k1 k2 k3 k4 (by omega) (by simp only [List.length_cons]; omega) hs.push
        rw [e2]
        refine ⟨τ, p_X5_tellOf_4_1 c1 c2 ok1 (by rw [ck, hk]; exact nlt t2 (by decide)) os1 ?_, k5.tr i2⟩
        rw [ck, cs, hk, nplus, nplus]; exact i1
      · by_cases t3 : t < 2000
        · rw [if_pos t3] at ok
          have e2 : evG (thg A y h e m b) (t :: G) s = evG (thg A y h e m b) G (thg A y h e m b (t - 1000) :: s) := by
            rw [evG_cons, if_neg t2, if_pos t3]
          have hc : cmp t = 1000 + ltr (t - 1000) := by unfold cmp; rw [if_neg t2, if_pos t3]
          have hl : ltr (t - 1000) < 200 := by
            have : ∀ j, j < 9 → ltr j < 200 := by decide
            exact this _ (by omega)
          rw [hc] at hk
          have g := s_thingOf (d := d) (σ := σ) R hy (m := m) (s := b) hh he (t - 1000) (by omega)
          have es : σ.1 25 (nI k).toNatClampNeg - nI 1000 = nI (ltr (t - 1000)) := by rw [ck, hk, pk_sub (by omega), Nat.add_sub_cancel_left]
          obtain ⟨k1, k2, k3, k4, k5⟩ := keep (j := s.length) (v := thg A y h e m b (t - 1000))
          obtain ⟨τ, i1, i2⟩ := ih (k + 1) (thg A y h e m b (t - 1000) :: s) _ ok.2 k1 k2 k3 k4 (by omega) (by simp only [List.length_cons]; omega) hs.push
          rw [e2]
          refine ⟨τ, p_X5_tellOf_4_2 c1 c2 ok1 (by rw [ck, hk]; exact nI_nlt (by omega) (by omega)) (by rw [ck, hk]; exact nlt (by omega) (by decide)) (by rw [es]; exact g) os1 ?_, k5.tr i2⟩
          rw [cs, nplus, nplus]; exact i1
        · rw [if_neg t3] at ok
          by_cases t4 : t < 2007
          · rw [if_pos t4] at ok
            match s, ok, hs, b2, cs, os1, c2 with
            | v :: a :: r, ok, hs, b2, cs, os1, c2 =>
              simp only [List.length_cons] at ok b2 cs os1 c2
              have e2 : evG (thg A y h e m b) (t :: G) (v :: a :: r) = evG (thg A y h e m b) G (wrk (t - 2000) a v :: r) := by
                rw [evG_cons, if_neg t2, if_neg t3, if_pos (by omega)]
              have hc : cmp t = 2000 + opr (t - 2000) := by unfold cmp; rw [if_neg t2, if_neg t3, if_pos (by omega)]
              have hl : opr (t - 2000) < 100 := by
                have : ∀ j, j < 7 → opr j < 100 := by decide
                exact this _ (by omega)
              rw [hc] at hk
              have v1 : σ.1 27 (r.length + 1) = v := hs.top
              have v2 : σ.1 27 r.length = a := hs.pop.top
              have es : σ.1 25 (nI k).toNatClampNeg - nI 2000 = nI (opr (t - 2000)) := by rw [ck, hk, pk_sub (by omega), Nat.add_sub_cancel_left]
              have g := s_reckon (d := d) (σ := σ) (a := a) (b := v) (t - 2000) (by omega)
              have d1 : nI (r.length + 1 + 1) + (-1) = nI (r.length + 1) := nI_dec _
              have d2 : nI (r.length + 1 + 1) + (-1) - nI 1 = nI r.length := by rw [d1, nI_dec1]
              have cr : (nI r.length).toNatClampNeg = r.length := clamp (by omega)
              have cr1 : (nI (r.length + 1)).toNatClampNeg = r.length + 1 := clamp (by omega)
              obtain ⟨k1, k2, k3, k4, k5⟩ := keep (j := r.length) (v := wrk (t - 2000) a v)
              obtain ⟨τ, i1, i2⟩ := ih (k + 1) (wrk (t - 2000) a v :: r) _ ok.2 k1 k2 k3 k4 (by omega) (by simp only [List.length_cons]; omega) hs.pop.pop.push
              rw [e2]
              refine ⟨τ, p_X5_tellOf_4_6 (l6 := nI (r.length + 1 + 1)) (r1 := wrk (t - 2000) a v) (ρ1 := σ) c1 c2 ok1 (by rw [ck, hk]; exact nI_nlt (by omega) (by omega)) (by rw [ck, hk]; exact nI_nlt (by omega) (by omega)) (by rw [ck, hk, nI_eq (by omega) (by omega)]; omega) (nlt (by omega) (by omega)) (by rw [d1]; exact vin (by omega) (by decide)) (by rw [d2]; exact vin (by omega) (by decide)) (by rw [es, d2, d1, cr, cr1, v1, v2]; exact g) (by rw [d2]; exact vin (by omega) (by decide)) ?_, k5.tr i2⟩
              rw [d2, d1, cr, nplus]; exact i1
          · rw [if_neg t4] at ok
            have t5 : t = 3000 := by omega
            subst t5
            match s, ok, hs, b2, cs, os1, c2 with
            | a :: r, ok, hs, b2, cs, os1, c2 =>
              simp only [List.length_cons] at ok b2 cs os1 c2
              have e2 : evG (thg A y h e m b) (3000 :: G) (a :: r) = evG (thg A y h e m b) G (-a :: r) := rfl
              rw [show cmp 3000 = 3000 from rfl] at hk
              have v1 : σ.1 27 r.length = a := hs.top
              have cr : (nI r.length).toNatClampNeg = r.length := clamp (by omega)
              have d1 : nI (r.length + 1) - nI 1 = nI r.length := nI_dec1 _
              obtain ⟨k1, k2, k3, k4, k5⟩ := keep (j := r.length) (v := -a)
              obtain ⟨τ, i1, i2⟩ := ih (k + 1) (-a :: r) _ ok.2.2 k1 k2 k3 k4 (by omega) (by simp only [List.length_cons]; omega) hs.pop.push
              rw [e2]
              refine ⟨τ, p_X5_tellOf_4_3 (l6 := nI (r.length + 1)) c1 c2 ok1 (by rw [ck, hk]; decide) (by rw [ck, hk]; decide) (by rw [ck, hk]) ?_ (by rw [d1]; exact vin (by omega) (by decide)) (by rw [d1]; exact vin (by omega) (by decide)) ?_, k5.tr i2⟩
              · show nI 0 < nI (r.length + 1)
                exact nlt (by omega) (by omega)
              · rw [d1, cr, v1, nplus]; exact i1
theorem s_tellOf (R : Rc A σ) {y : Int32} (hy : σ.1 5 16 = y) {G : List Nat} (hG : cU G σ) (h0 : G ≠ []) {h e m : Nat} {b : Bool} (hh : h < A 1 0) (he : e < A 0 0) : ∃ τ, hq_c 58 (d + 2) [.ref 24, .ref 5, .int (nI h), .int (nI e), .int (nI m), .int (bI b)] σ (some (.int ((evG (thg A y h e m b) G []).headD 0))) τ ∧ Fr [(27, 0)] σ τ := by
  obtain ⟨⟨o1, o2, o3⟩, u1, u2⟩ := hG
  obtain ⟨τ, i1, i2⟩ := s_tell_go (d := d) (A := A) (y := y) (m := m) (b := b) hh he G 0 [] σ (o1.resolve_left h0) R hy (fun j t hj => by rw [Nat.zero_add]; exact u2 j t hj) (by rw [u1, Nat.zero_add]) (by omega) (by simp; omega) (fun j v hj => by simp at hj)
  exact ⟨τ, p_X5_tellOf_0_1 i1, i2⟩
theorem rul_le (W : Wf A) {y : Int32} {G : List Nat} {h e n : Nat} (hh : h < A 1 0) : rul A y G h e n ≤ 99 := by
  unfold rul
  have := (W.2.2.2.1 h hh).2.2.2.2.1
  split
  · omega
  · exact clp_le _
theorem crk_le (W : Wf A) {y : Int32} {G : List Nat} {e n : Nat} : crk A y G e n ≤ 1188 := by
  have := sset_le (n := n) (c := 99) (f := fun h => rul A y G h e n) (m := A 1 0) (fun h hh => rul_le W hh)
  have b2 := W.2.1
  unfold crk
  omega
theorem s_creakOf (R : Rc A σ) {y : Int32} (hy : σ.1 5 16 = y) {G : List Nat} (hG : cU G σ) {e n : Nat} (he : e < A 0 0) (hn : n < 4096) : ∃ τ, hq_c 57 (d + 4) [.ref 24, .ref 5, .int (nI e), .int (nI n)] σ (some (.int (nI (crk A y G e n)))) τ ∧ Fr [(27, 0)] σ τ := by
  have W := R.1
  have b2 := W.2.1
  have g0 := s_shutBy (d := d) R he hn
  obtain ⟨τ, w, f⟩ := hq_w.for (x := 57) (d := d + 4) (i := 9) (fun j => [some (.ref 24), some (.ref 5), some (.int (nI e)), some (.int (nI n)), some (.int (nI (sset n (fun h => rul A y G h e n) j))), some (.int (bI (shutF A (h0 A) e n))), some (.int (nI j)), none]) (fun _ ρ => Fr [(27, 0)] σ ρ) (A 1 0) (fun j hj ρ fr => by
    have R1 := Rc.dep.fr fr (by decide) R
    have hG1 := cU.dep.fr fr (by decide) hG
    have hy1 : ρ.1 5 16 = y := (fr.i rfl).trans hy
    have c1 : nI j < ρ.1 5 14 := by rw [R1.2.2.1]; exact nlt hj (by omega)
    have oj : vp_in (nI j) 12 := vin (by omega) (by decide)
    have cj : (nI j).toNatClampNeg = j := clamp (by omega)
    cases hb : n.testBit j with
    | false =>
      refine ⟨ρ, fun v τ k => p_X5_creakOf_9_1 c1 (hn_bit0 (by omega) hb) ?_, fr⟩
      rw [sset_0 hb] at k
      rw [nplus]; exact k
    | true =>
      by_cases hg : G = []
      · have c3 : ρ.1 24 3 = 0 := by rw [hG1.2.1, hg]; rfl
        refine ⟨ρ, fun v τ k => p_X5_creakOf_9_2 c1 (hn_bit1 (by omega) hb) c3 oj ?_, fr⟩
        have w9 := (W.2.2.2.1 j hj).2.2.2.2.1
        have e9 : rul A y G j e n = A 9 j := by unfold rul; rw [if_pos hg]
        have ec : clp (nI (A 9 j)) = A 9 j := by
          unfold clp
          rw [nI_toInt (by omega), if_neg (by omega), if_neg (by omega)]; omega
        rw [sset_1 hb, e9] at k
        rw [clp_val, cj, (R1.2.2.2.2.1 j hj).2.2.2.1, ec, nplus, nplus]; exact k
      · obtain ⟨ρ2, t1, t2⟩ := s_tellOf (d := d + 1) R1 hy1 hG1 hg (m := pop n) (b := shutF A (h0 A) e n) hj he
        have c3 : ¬ ρ.1 24 3 = 0 := by
          rw [hG1.2.1]
          have := cS_ne (hG1.1.1.resolve_left hg)
          have := hG1.1.2.1
          exact nI_ne0 (by omega) (by omega)
        refine ⟨ρ2, fun v τ k => p_X5_creakOf_9_3 c1 (hn_bit1 (by omega) hb) c3 (s_bitCount (d := d + 2) hn) t1 ?_, fr.tr t2⟩
        have e9 : rul A y G j e n = clp (tel A y G j e n) := by unfold rul; rw [if_neg hg]
        rw [sset_1 hb, e9] at k
        rw [clp_val, nplus, nplus]; exact k) (σ := σ) (Fr.rf σ)
  refine ⟨τ, p_X5_creakOf_0_1 g0 (w _ _ (p_X5_creakOf_9_4 ?_)), f⟩
  rw [(Rc.dep.fr f (by decide) R).2.2.1]; exact nI_nlt (Nat.le_refl _) (by omega)
theorem m_thingOf (R : Rm 61 A σ) {y : Int32} (hy : σ.1 61 49 = y) {h e n : Nat} (hh : h < A 1 0) (he : e < A 0 0) (hn : n < 4096) : ∀ k, k < 9 → hq_c 202 (d + 4) [.ref 52, .ref 61, .int (nI h), .int (nI e), .int (nI n), .int (nI k)] σ (some (.int (thg A y h e (pop n) (shutF A (h0 A) e n) k))) σ := by
  have b1 := R.1.1
  have b2 := R.1.2.1
  have oh : vp_in (nI h) 12 := vin (by omega) (by decide)
  have oe : vp_in (nI e) 8 := vin (by omega) (by decide)
  have ch : (nI h).toNatClampNeg = h := clamp (by omega)
  have ce : (nI e).toNatClampNeg = e := clamp (by omega)
  have o24 : vp_in (nI 24 + nI h) 50 := by rw [nplus]; exact vin (by omega) (by decide)
  have o36 : vp_in (nI 36 + nI h) 50 := by rw [nplus]; exact vin (by omega) (by decide)
  have c24 : (nI 24 + nI h).toNatClampNeg = 24 + h := by rw [nplus]; exact clamp (by omega)
  have c36 : (nI 36 + nI h).toNatClampNeg = 36 + h := by rw [nplus]; exact clamp (by omega)
  intro k hk
  exact match k, hk with
  | 0, _ => by
    have H := p_X10_thingOfn_0_1 (d := d + 3) (σ := σ) (l2 := nI h) (l3 := nI e) (l4 := nI n) (l5 := nI 0) (by decide) o24
    rw [c24, (R.2.2.2.2.2.1 h hh).2.2.1] at H
    exact H
  | 1, _ => by
    have H := p_X10_thingOfn_0_2 (d := d + 3) (σ := σ) (l2 := nI h) (l3 := nI e) (l4 := nI n) (l5 := nI 1) (by decide) (by decide) oh
    rw [ch, (R.2.2.2.2.1 h hh).1] at H
    exact H
  | 2, _ => by
    have H := p_X10_thingOfn_0_3 (d := d + 3) (σ := σ) (l2 := nI h) (l3 := nI e) (l4 := nI n) (l5 := nI 2) (by decide) (by decide) (by decide) o36
    rw [c36, (R.2.2.2.2.2.1 h hh).2.2.2] at H
    exact H
  | 3, _ => by
    have H := p_X10_thingOfn_0_4 (d := d + 3) (σ := σ) (l2 := nI h) (l3 := nI e) (l4 := nI n) (l5 := nI 3) (by decide) (by decide) (by decide) (by decide) oe
    rw [ce, (R.2.2.2.1 e he).2.2.2] at H
    exact H
  | 4, _ => p_X10_thingOfn_0_5 (l5 := nI 4) (by decide) (by decide) (by decide) (by decide) (by decide) (s_bitCount (d := d + 2) hn)
  | 5, _ => by
    have H := p_X10_thingOfn_0_6 (d := d + 3) (σ := σ) (l2 := nI h) (l3 := nI e) (l4 := nI n) (l5 := nI 5) (by decide) (by decide) (by decide) (by decide) (by decide) (by decide) (vin (by decide) (by decide))
    rw [show (nI 49).toNatClampNeg = 49 from rfl, hy] at H
    exact H
  | 6, _ => p_X10_thingOfn_0_7 (l5 := nI 6) (by decide) (by decide) (by decide) (by decide) (by decide) (by decide) (by decide)
  | 7, _ => p_X10_thingOfn_0_8 (l5 := nI 7) (by decide) (by decide) (by decide) (by decide) (by decide) (by decide) (by decide) (by decide)
  | 8, _ => p_X10_thingOfn_0_9 (l5 := nI 8) (by decide) (by decide) (by decide) (by decide) (by decide) (by decide) (by decide) (by decide) (m_shutsn (d := d) R he hn) (m_flag (d := d + 2) _)
  | k + 9, hk => absurd hk (by omega)
theorem m_rul_go {y : Int32} {h e n : Nat} (hh : h < A 1 0) (he : e < A 0 0) (hn : n < 4096) : ∀ (G : List Nat) (k : Nat) (s : List Int32) (σ : hq_St), okG s.length G → Rm 61 A σ → σ.1 61 49 = y → (∀ j t, (mS G)[j]? = some t → σ.1 66 (k + j) = nI t) → σ.1 52 26 = nI (k + (mS G).length) → k + (mS G).length ≤ 40 → s.length + (mS G).length ≤ 40 → stk 68 s σ → ∃ τ, hq_m 204 (d + 5) (some (.int (nI (clp ((evG (thg A y h e (pop n) (shutF A (h0 A) e n)) G s).headD 0))))) τ 13 [some (.ref 52), some (.ref 61), some (.int (nI h)), some (.int (nI e)), some (.int (nI n)), some (.int (nI s.length)), some (.int (nI k)), none] [] σ ∧ Fr [(68, 0)] σ τ := by
  intro G
  induction G with
  | nil =>
    intro k s σ ok R hy h25 hm b1 b2 hs
    unfold okG at ok
    match s, ok with
    | [v], _ =>
      have := hs.top
      have H := p_X10_ruledn_13_5 (d := d + 4) (σ := σ) (l2 := nI h) (l3 := nI e) (l4 := nI n) (l5 := nI 1) (l6 := nI k) (by rw [hm]; exact nI_nlt (Nat.le_refl _) (by simp [mS] at b1 ⊢; omega)) (vin (by decide) (by decide))
      rw [show (nI 0).toNatClampNeg = 0 from rfl, show σ.1 68 0 = v from this, clp_val] at H
      exact ⟨σ, H, Fr.rf σ⟩
  | cons t G ih =>
    intro k s σ ok R hy h25 hm b1 b2 hs
    unfold okG at ok
    by_cases t1 : t = 3001
    · subst t1
      rw [if_neg (by omega), if_neg (by omega)] at ok
      have e1 : mS (3001 :: G) = 3000 :: 3000 :: mS G := rfl
      have e2 : evG (thg A y h e (pop n) (shutF A (h0 A) e n)) (3001 :: G) s = evG (thg A y h e (pop n) (shutF A (h0 A) e n)) G s := rfl
      rw [e1] at h25 hm b1 b2
      simp only [List.length_cons] at hm b1 b2
      rw [e2]
      match s, ok, hs, b2 with
      | a :: r, ok, hs, b2 =>
        simp only [List.length_cons] at ok b2
        have hk0 := h25 0 _ rfl
        have hk1 := h25 1 _ rfl
        rw [Nat.add_zero] at hk0
        have ck : (nI k).toNatClampNeg = k := clamp (by omega)
        have ck1 : (nI (k + 1)).toNatClampNeg = k + 1 := clamp (by omega)
        have cr : (nI r.length).toNatClampNeg = r.length := clamp (by omega)
        have d1 : nI (r.length + 1) - nI 1 = nI r.length := nI_dec1 _
        have v1 : σ.1 68 r.length = a := hs.top
        have f1 : Fr [(68, 0)] σ (hq_sI σ 68 r.length (-a)) := (Fr.rf σ).sI (by simp [inF])
        have f2 : Fr [(68, 0)] σ (hq_sI (hq_sI σ 68 r.length (-a)) 68 r.length (- -a)) := f1.sI (by simp [inF])
        have st2 : stk 68 (a :: r) (hq_sI (hq_sI σ 68 r.length (-a)) 68 r.length (- -a)) := by
          rw [Int32.neg_neg]
          exact (stk.pop (stk.push (v := -a) hs.pop)).push
        obtain ⟨τ, i1, i2⟩ := ih (k + 2) (a :: r) _ ok.2.2 (Rm.depn.fr f2 (by decide) R) ((f2.i rfl).trans hy) (fun j t hj => by
          have := h25 (j + 2) t (by rw [List.getElem?_cons_succ, List.getElem?_cons_succ]; exact hj)
          rw [show k + (j + 2) = k + 2 + j by omega] at this
          exact (f2.i rfl).trans this) ((f2.i rfl).trans (by rw [hm]; exact congrArg nI (by omega))) (by omega) (by simp only [List.length_cons]; omega) st2
        refine ⟨τ, p_X10_ruledn_13_1 (l5 := nI (r.length + 1)) (by rw [hm]; exact nlt (by omega) (by omega)) (vin (by omega) (by decide)) (by rw [ck, hk0]) (by rw [d1]; exact vin (by omega) (by decide)) (by rw [d1]; exact vin (by omega) (by decide)) ?_, f2.tr i2⟩
        rw [d1, cr, v1, nplus]
        refine p_X10_ruledn_13_1 (l5 := nI (r.length + 1)) (by rw [f1.i rfl, hm]; exact nlt (by omega) (by omega)) (vin (by omega) (by decide)) (by rw [ck1, f1.i rfl, hk1]) (by rw [d1]; exact vin (by omega) (by decide)) (by rw [d1]; exact vin (by omega) (by decide)) ?_
        rw [d1, cr, sI_eq, nplus]
        exact i1
    · have e1 : mS (t :: G) = t :: mS G := by show (if _ then _ else _) = _; rw [if_neg t1]
      rw [e1] at h25 hm b1 b2
      simp only [List.length_cons] at hm b1 b2
      have hk := h25 0 _ rfl
      rw [Nat.add_zero] at hk
      have h25' : ∀ j t, (mS G)[j]? = some t → σ.1 66 (k + 1 + j) = nI t := fun j u hu => by
        have := h25 (j + 1) u (by rw [List.getElem?_cons_succ]; exact hu)
        rwa [show k + (j + 1) = k + 1 + j by omega] at this
      have ck : (nI k).toNatClampNeg = k := clamp (by omega)
      have cs : (nI s.length).toNatClampNeg = s.length := clamp (by omega)
      have ok1 : vp_in (nI k) 80 := vin (by omega) (by decide)
      have os1 : vp_in (nI s.length) 80 := vin (by omega) (by decide)
      have c1 : nI k < σ.1 52 26 := by rw [hm]; exact nlt (by omega) (by omega)
      have hm' : σ.1 52 26 = nI (k + 1 + (mS G).length) := by rw [hm]; exact congrArg nI (by omega)
      have keep : ∀ {j : Nat} {v : Int32}, Rm 61 A (hq_sI σ 68 j v) ∧ (hq_sI σ 68 j v).1 61 49 = y ∧ (∀ i t, (mS G)[i]? = some t → (hq_sI σ 68 j v).1 66 (k + 1 + i) = nI t) ∧ (hq_sI σ 68 j v).1 52 26 = nI (k + 1 + (mS G).length) ∧ Fr [(68, 0)] σ (hq_sI σ 68 j v) := fun {j v} => by
        have f : Fr [(68, 0)] σ (hq_sI σ 68 j v) := (Fr.rf σ).sI (by simp [inF])
        exact ⟨Rm.depn.fr f (by decide) R, (f.i rfl).trans hy, fun i t hi => (f.i rfl).trans (h25' i t hi), (f.i rfl).trans hm', f⟩
      by_cases t2 : t < 1000
      · rw [if_pos (by omega)] at ok
        have e2 : evG (thg A y h e (pop n) (shutF A (h0 A) e n)) (t :: G) s = evG (thg A y h e (pop n) (shutF A (h0 A) e n)) G (nI t :: s) := by
          rw [evG_cons, if_pos t2]
        obtain ⟨k1, k2, k3, k4, k5⟩ := keep (j := s.length) (v := nI t)
        obtain ⟨τ, i1, i2⟩ := ih (k + 1) (nI t :: s) _ ok.2 k1 k2 k3 k4 (by omega) (by simp only [List.length_cons]; omega) hs.push
        rw [e2]
        refine ⟨τ, p_X10_ruledn_13_2 c1 ok1 (by rw [ck, hk, nI_eq (by omega) (by omega)]; omega) (by rw [ck, hk]; exact nlt (by omega) (by decide)) (by rw [ck, hk]; exact nlt t2 (by decide)) os1 ?_, k5.tr i2⟩
        rw [ck, cs, hk, nplus, nplus]; exact i1
      · by_cases t3 : t < 2000
        · rw [if_pos t3] at ok
          have e2 : evG (thg A y h e (pop n) (shutF A (h0 A) e n)) (t :: G) s = evG (thg A y h e (pop n) (shutF A (h0 A) e n)) G (thg A y h e (pop n) (shutF A (h0 A) e n) (t - 1000) :: s) := by
            rw [evG_cons, if_neg t2, if_pos t3]
          have g := m_thingOf (d := d) (σ := σ) R hy (n := n) hh he hn (t - 1000) (by omega)
          have es : σ.1 66 (nI k).toNatClampNeg - nI 1000 = nI (t - 1000) := by rw [ck, hk, pk_sub (by omega)]
          obtain ⟨k1, k2, k3, k4, k5⟩ := keep (j := s.length) (v := thg A y h e (pop n) (shutF A (h0 A) e n) (t - 1000))
          obtain ⟨τ, i1, i2⟩ := ih (k + 1) (thg A y h e (pop n) (shutF A (h0 A) e n) (t - 1000) :: s) _ ok.2 k1 k2 k3 k4 (by omega) (by simp only [List.length_cons]; omega) hs.push
          rw [e2]
          refine ⟨τ, p_X10_ruledn_13_3 c1 ok1 (by rw [ck, hk, nI_eq (by omega) (by omega)]; omega) (by rw [ck, hk]; exact nlt (by omega) (by decide)) (by rw [ck, hk]; exact nI_nlt (by omega) (by omega)) (by rw [es]; exact g) os1 ?_, k5.tr i2⟩
          rw [cs, nplus, nplus]; exact i1
        · rw [if_neg t3] at ok
          by_cases t4 : t < 2007
          · rw [if_pos t4] at ok
            match s, ok, hs, b2, cs, os1 with
            | v :: a :: r, ok, hs, b2, cs, os1 =>
              simp only [List.length_cons] at ok b2 cs os1
              have e2 : evG (thg A y h e (pop n) (shutF A (h0 A) e n)) (t :: G) (v :: a :: r) = evG (thg A y h e (pop n) (shutF A (h0 A) e n)) G (wrk (t - 2000) a v :: r) := by
                rw [evG_cons, if_neg t2, if_neg t3, if_pos (by omega)]
              have v1 : σ.1 68 (r.length + 1) = v := hs.top
              have v2 : σ.1 68 r.length = a := hs.pop.top
              have es : σ.1 66 (nI k).toNatClampNeg - nI 2000 = nI (t - 2000) := by rw [ck, hk, pk_sub (by omega)]
              have g := m_worked (d := d + 2) (σ := σ) (a := a) (b := v) (t - 2000) (by omega)
              have d1 : nI (r.length + 1 + 1) + (-1) = nI (r.length + 1) := nI_dec _
              have d2 : nI (r.length + 1 + 1) + (-1) - nI 1 = nI r.length := by rw [d1, nI_dec1]
              have cr : (nI r.length).toNatClampNeg = r.length := clamp (by omega)
              have cr1 : (nI (r.length + 1)).toNatClampNeg = r.length + 1 := clamp (by omega)
              obtain ⟨k1, k2, k3, k4, k5⟩ := keep (j := r.length) (v := wrk (t - 2000) a v)
              obtain ⟨τ, i1, i2⟩ := ih (k + 1) (wrk (t - 2000) a v :: r) _ ok.2 k1 k2 k3 k4 (by omega) (by simp only [List.length_cons]; omega) hs.pop.pop.push
              rw [e2]
              refine ⟨τ, p_X10_ruledn_13_4 (l5 := nI (r.length + 1 + 1)) (r1 := wrk (t - 2000) a v) (ρ1 := σ) c1 ok1 (by rw [ck, hk, nI_eq (by omega) (by omega)]; omega) (by rw [ck, hk]; exact nI_nlt (by omega) (by omega)) (by rw [d1]; exact vin (by omega) (by decide)) (by rw [d2]; exact vin (by omega) (by decide)) (by rw [es, d2, d1, cr, cr1, v1, v2]; exact g) (by rw [d2]; exact vin (by omega) (by decide)) ?_, k5.tr i2⟩
              rw [d2, d1, cr, nplus]; exact i1
          · rw [if_neg t4] at ok
            have t5 : t = 3000 := by omega
            subst t5
            match s, ok, hs, b2, cs, os1 with
            | a :: r, ok, hs, b2, cs, os1 =>
              simp only [List.length_cons] at ok b2 cs os1
              have e2 : evG (thg A y h e (pop n) (shutF A (h0 A) e n)) (3000 :: G) (a :: r) = evG (thg A y h e (pop n) (shutF A (h0 A) e n)) G (-a :: r) := rfl
              have v1 : σ.1 68 r.length = a := hs.top
              have cr : (nI r.length).toNatClampNeg = r.length := clamp (by omega)
              have d1 : nI (r.length + 1) - nI 1 = nI r.length := nI_dec1 _
              obtain ⟨k1, k2, k3, k4, k5⟩ := keep (j := r.length) (v := -a)
              obtain ⟨τ, i1, i2⟩ := ih (k + 1) (-a :: r) _ ok.2.2 k1 k2 k3 k4 (by omega) (by simp only [List.length_cons]; omega) hs.pop.push
              rw [e2]
              refine ⟨τ, p_X10_ruledn_13_1 (l5 := nI (r.length + 1)) c1 ok1 (by rw [ck, hk]) (by rw [d1]; exact vin (by omega) (by decide)) (by rw [d1]; exact vin (by omega) (by decide)) ?_, k5.tr i2⟩
              rw [d1, cr, v1, nplus]; exact i1
theorem m_ruled (R : Rm 61 A σ) {y : Int32} (hy : σ.1 61 49 = y) {G : List Nat} (hG : mU G σ) {h e n : Nat} (hh : h < A 1 0) (he : e < A 0 0) (hn : n < 4096) : ∃ τ, hq_c 204 (d + 5) [.ref 52, .ref 61, .int (nI h), .int (nI e), .int (nI n)] σ (some (.int (nI (rul A y G h e n)))) τ ∧ Fr [(68, 0)] σ τ := by
  obtain ⟨⟨o1, o2, o3⟩, u1, u2⟩ := hG
  have b2 := R.1.2.1
  unfold rul
  by_cases hg : G = []
  · rw [if_pos hg]
    have H := p_X10_ruledn_0_1 (d := d + 4) (σ := σ) (l2 := nI h) (l3 := nI e) (l4 := nI n) (by rw [u1, hg]; rfl) (by rw [nplus]; exact vin (by omega) (by decide))
    rw [nplus, clamp (by omega), (R.2.2.2.2.2.1 h hh).2.2.1] at H
    exact ⟨σ, H, Fr.rf σ⟩
  · rw [if_neg hg]
    have ne := mS_ne (o1.resolve_left hg)
    obtain ⟨τ, i1, i2⟩ := m_rul_go (d := d) (A := A) (y := y) hh he hn G 0 [] σ (o1.resolve_left hg) R hy (fun j t hj => by rw [Nat.zero_add]; exact u2 j t hj) (by rw [u1, Nat.zero_add]) (by omega) (by simp; omega) (fun j v hj => by simp at hj)
    exact ⟨τ, p_X10_ruledn_0_2 (by rw [u1]; exact nI_ne0 (by omega) (by omega)) i1, i2⟩
theorem m_creakOf (R : Rm 61 A σ) {y : Int32} (hy : σ.1 61 49 = y) {G : List Nat} (hG : mU G σ) {e n : Nat} (he : e < A 0 0) (hn : n < 4096) : ∃ τ, hq_c 205 (d + 6) [.ref 52, .ref 61, .int (nI e), .int (nI n)] σ (some (.int (nI (crk A y G e n)))) τ ∧ Fr [(68, 0)] σ τ := by
  have W := R.1
  have b2 := W.2.1
  obtain ⟨τ, w, f⟩ := hq_w.for (x := 205) (d := d + 6) (i := 4) (fun j => [some (.ref 52), some (.ref 61), some (.int (nI e)), some (.int (nI n)), some (.int (nI (sset n (fun h => rul A y G h e n) j))), some (.int (nI j))]) (fun _ ρ => Fr [(68, 0)] σ ρ) (A 1 0) (fun j hj ρ fr => by
    have R1 := Rm.depn.fr fr (by decide) R
    have hG1 := mU.dep.fr fr (by decide) hG
    have hy1 : ρ.1 61 49 = y := (fr.i rfl).trans hy
    have c1 : nI j < ρ.1 52 4 := by rw [R1.2.2.1]; exact nlt hj (by omega)
    have hs := m_has (d := d + 4) (σ := ρ) (x := nI n) (k := j) (hn_has (n := n) (by omega) (by omega))
    cases hb : n.testBit j with
    | false =>
      rw [hb] at hs
      refine ⟨ρ, fun v τ k => p_X10_creakOfn_4_1 c1 hs rfl ?_, fr⟩
      rw [sset_0 hb] at k
      rw [nplus, nplus]; exact k
    | true =>
      rw [hb] at hs
      obtain ⟨ρ2, t1, t2⟩ := m_ruled (d := d) R1 hy1 hG1 (n := n) hj he hn
      refine ⟨ρ2, fun v τ k => p_X10_creakOfn_4_2 c1 hs (by decide) t1 ?_, fr.tr t2⟩
      rw [sset_1 hb] at k
      rw [nplus, nplus]; exact k) (σ := σ) (Fr.rf σ)
  refine ⟨τ, p_X10_creakOfn_0_1 (w _ _ (p_X10_creakOfn_4_3 ?_)), f⟩
  rw [(Rm.depn.fr f (by decide) R).2.2.1]; exact nI_nlt (Nat.le_refl _) (by omega)
end RU
