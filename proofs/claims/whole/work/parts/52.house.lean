/-! house: lines read -/
abbrev DI : Type := Nat × Nat × Nat × Nat
abbrev HI : Type := Nat × Nat × Nat
def dR (f : Nat → Nat) (T p : Nat) : Bool × Nat × DI :=
  if dgA f T p 0 7 then
    if isA f T (p + 1) (f p) then (false, p + 1, (0, 0, 0, 0))
    else if dgA f T (p + 1) 0 7 then
      if ixA f T (p + 2) 7 ≠ 0 then
        if dgA f T (p + 3) 1 9 then (true, p + 4, (f p - 48, f (p + 1) - 48, ixA f T (p + 2) 7 - 1, f (p + 3) - 48)) else (false, p + 3, (0, 0, 0, 0))
      else (false, p + 2, (0, 0, 0, 0))
    else (false, p + 1, (0, 0, 0, 0))
  else (false, p, (0, 0, 0, 0))
def hR (f : Nat → Nat) (T p : Nat) : Bool × Nat × HI :=
  if ixA f T p 10 ≠ 0 then
    if dgA f T (p + 1) 1 9 then
      if isA f T (p + 2) 42 then
        if dgA f T (p + 3) 0 9 then (true, p + 4, (ixA f T p 10 - 1, f (p + 1) - 48, f (p + 3) - 48)) else (false, p + 3, (0, 0, 0))
      else (true, p + 2, (ixA f T p 10 - 1, f (p + 1) - 48, 1))
    else (false, p + 1, (0, 0, 0))
  else (false, p, (0, 0, 0))
abbrev LR : Type := Bool × Nat × List DI × List HI
def lR (f : Nat → Nat) (T dn hn p : Nat) (DL : List DI) (HL : List HI) : LR :=
  if dn + DL.length < 8 ∧ isA f T p 100 = true then ((dR f T (p + 1)).1, (dR f T (p + 1)).2.1, if (dR f T (p + 1)).1 then DL ++ [(dR f T (p + 1)).2.2] else DL, HL)
  else if hn + HL.length < 12 ∧ isA f T p 104 = true then ((hR f T (p + 1)).1, (hR f T (p + 1)).2.1, DL, if (hR f T (p + 1)).1 then HL ++ [(hR f T (p + 1)).2.2] else HL)
  else (false, p, DL, HL)
def hsR (f : Nat → Nat) (T dn hn : Nat) : Nat → Nat → List DI → List HI → LR
  | 0, p, DL, HL => (false, p, DL, HL)
  | m + 1, p, DL, HL => if (lR f T dn hn p DL HL).1 = true ∧ isA f T (lR f T dn hn p DL HL).2.1 59 = true then hsR f T dn hn m ((lR f T dn hn p DL HL).2.1 + 1) (lR f T dn hn p DL HL).2.2.1 (lR f T dn hn p DL HL).2.2.2 else lR f T dn hn p DL HL
def okDi (t : DI) : Prop := t.1 < 8 ∧ t.2.1 < 8 ∧ t.1 ≠ t.2.1 ∧ t.2.2.1 < 2 ∧ 1 ≤ t.2.2.2 ∧ t.2.2.2 ≤ 9
def okHi (t : HI) : Prop := t.1 ≤ 2 ∧ 1 ≤ t.2.1 ∧ t.2.1 ≤ 9 ∧ t.2.2 ≤ 9
def okDH (dn hn : Nat) (DL : List DI) (HL : List HI) : Prop := (∀ t, t ∈ DL → okDi t) ∧ (∀ t, t ∈ HL → okHi t) ∧ dn + DL.length ≤ 8 ∧ hn + HL.length ≤ 12
def pkD (t : DI) : Nat := 4096 * t.1 + 256 * t.2.1 + 16 * t.2.2.1 + t.2.2.2
def pkH (t : HI) : Nat := 256 * t.1 + 16 * t.2.1 + t.2.2
theorem ixS_h : ∀ c, c < 256 → ixS 5 c = (if c = 100 then 1 else 0) ∧ ixS 6 c = (if 48 ≤ c ∧ c ≤ 55 then c - 47 else 0) ∧ ixS 7 c = (if c = 108 then 1 else if c = 114 then 2 else 0) ∧ ixS 8 c = (if 49 ≤ c ∧ c ≤ 57 then c - 48 else 0) ∧ ixS 9 c = (if c = 104 then 1 else 0) ∧ ixS 10 c = (if c = 108 then 1 else if c = 114 then 2 else if c = 98 then 3 else 0) ∧ ixS 11 c = (if 48 ≤ c ∧ c ≤ 57 then c - 47 else 0) := by decide +kernel
section HO
variable {f : Nat → Nat} {T : Nat}
theorem ix_5 (hf : ∀ p, p < T → f p < 256) (p : Nat) : ixA f T p 5 = if isA f T p 100 then 1 else 0 := by
  unfold ixA isA
  by_cases q : p < T
  · rw [if_pos q, (ixS_h _ (hf p q)).1]; simp [q]
  · rw [if_neg q]; simp [q]
theorem ix_9 (hf : ∀ p, p < T → f p < 256) (p : Nat) : ixA f T p 9 = if isA f T p 104 then 1 else 0 := by
  unfold ixA isA
  by_cases q : p < T
  · rw [if_pos q, (ixS_h _ (hf p q)).2.2.2.2.1]; simp [q]
  · rw [if_neg q]; simp [q]
theorem ix_6 (hf : ∀ p, p < T → f p < 256) (p : Nat) : ixA f T p 6 = if dgA f T p 0 7 then f p - 47 else 0 := by
  unfold ixA dgA
  by_cases q : p < T
  · rw [if_pos q, (ixS_h _ (hf p q)).2.1]; simp [q]
  · rw [if_neg q]; simp [q]
theorem ix_8 (hf : ∀ p, p < T → f p < 256) (p : Nat) : ixA f T p 8 = if dgA f T p 1 9 then f p - 48 else 0 := by
  unfold ixA dgA
  by_cases q : p < T
  · rw [if_pos q, (ixS_h _ (hf p q)).2.2.2.1]; simp [q]
  · rw [if_neg q]; simp [q]
theorem ix_11 (hf : ∀ p, p < T → f p < 256) (p : Nat) : ixA f T p 11 = if dgA f T p 0 9 then f p - 47 else 0 := by
  unfold ixA dgA
  by_cases q : p < T
  · rw [if_pos q, (ixS_h _ (hf p q)).2.2.2.2.2.2]; simp [q]
  · rw [if_neg q]; simp [q]
theorem ix_7 (hf : ∀ p, p < T → f p < 256) (p : Nat) : ixA f T p 7 = if isA f T p 108 then 1 else if isA f T p 114 then 2 else 0 := by
  unfold ixA isA
  by_cases q : p < T
  · rw [if_pos q, (ixS_h _ (hf p q)).2.2.1]; simp [q]
  · rw [if_neg q]; simp [q]
theorem ix_10 (hf : ∀ p, p < T → f p < 256) (p : Nat) : ixA f T p 10 = if isA f T p 108 then 1 else if isA f T p 114 then 2 else if isA f T p 98 then 3 else 0 := by
  unfold ixA isA
  by_cases q : p < T
  · rw [if_pos q, (ixS_h _ (hf p q)).2.2.2.2.2.1]; simp [q]
  · rw [if_neg q]; simp [q]
theorem dR_ok (hf : ∀ p, p < T → f p < 256) {p : Nat} (hp : p ≤ T) : p ≤ (dR f T p).2.1 ∧ (dR f T p).2.1 ≤ T ∧ ((dR f T p).1 = true → okDi (dR f T p).2.2) := by
  unfold dR
  split
  · rename_i q1
    have d1 := dg_lt q1
    split
    · rename_i q2
      exact ⟨by dsimp only; omega, by dsimp only; omega, fun z => by cases z⟩
    · rename_i q2
      split
      · rename_i q3
        have d3 := dg_lt q3
        split
        · rename_i q4
          have d4 := ixA_pos q4
          have i7 := ix_7 hf (p + 2)
          split
          · rename_i q5
            have d5 := dg_lt q5
            refine ⟨by dsimp only; omega, by dsimp only; omega, fun _ => ⟨by dsimp only; omega, by dsimp only; omega, ?_, ?_, by dsimp only; omega, by dsimp only; omega⟩⟩
            · dsimp only
              intro z
              apply q2
              unfold isA
              simp
              exact ⟨d3.1, by omega⟩
            · dsimp only
              rw [i7]
              split
              · decide
              · split <;> decide
          · exact ⟨by dsimp only; omega, by dsimp only; omega, fun z => by cases z⟩
        · exact ⟨by dsimp only; omega, by dsimp only; omega, fun z => by cases z⟩
      · exact ⟨by dsimp only; omega, by dsimp only; omega, fun z => by cases z⟩
  · exact ⟨Nat.le_refl _, hp, fun z => by cases z⟩
theorem hR_ok (hf : ∀ p, p < T → f p < 256) {p : Nat} (hp : p ≤ T) : p ≤ (hR f T p).2.1 ∧ (hR f T p).2.1 ≤ T ∧ ((hR f T p).1 = true → okHi (hR f T p).2.2) := by
  unfold hR
  split
  · rename_i q1
    have d1 := ixA_pos q1
    have i10 := ix_10 hf p
    have il : ixA f T p 10 - 1 ≤ 2 := by
      rw [i10]
      split
      · decide
      · split
        · decide
        · split <;> decide
    split
    · rename_i q2
      have d2 := dg_lt q2
      split
      · rename_i q3
        have d3 := is_lt q3
        split
        · rename_i q4
          have d4 := dg_lt q4
          exact ⟨by dsimp only; omega, by dsimp only; omega, fun _ => ⟨il, by dsimp only; omega, by dsimp only; omega, by dsimp only; omega⟩⟩
        · exact ⟨by dsimp only; omega, by dsimp only; omega, fun z => by cases z⟩
      · exact ⟨by dsimp only; omega, by dsimp only; omega, fun _ => ⟨il, by dsimp only; omega, by dsimp only; omega, by show 1 ≤ 9; decide⟩⟩
    · exact ⟨by dsimp only; omega, by dsimp only; omega, fun z => by cases z⟩
  · exact ⟨Nat.le_refl _, hp, fun z => by cases z⟩
theorem okDH_D {dn hn : Nat} {DL : List DI} {HL : List HI} {t : DI} (h : okDH dn hn DL HL) (ht : okDi t) (hl : dn + DL.length < 8) : okDH dn hn (DL ++ [t]) HL := by
  obtain ⟨h1, h2, h3, h4⟩ := h
  refine ⟨fun u hu => ?_, h2, by simp; omega, h4⟩
  rcases List.mem_append.mp hu with z | z
  · exact h1 u z
  · rw [List.mem_singleton.mp z]; exact ht
theorem okDH_H {dn hn : Nat} {DL : List DI} {HL : List HI} {t : HI} (h : okDH dn hn DL HL) (ht : okHi t) (hl : hn + HL.length < 12) : okDH dn hn DL (HL ++ [t]) := by
  obtain ⟨h1, h2, h3, h4⟩ := h
  refine ⟨h1, fun u hu => ?_, h3, by simp; omega⟩
  rcases List.mem_append.mp hu with z | z
  · exact h2 u z
  · rw [List.mem_singleton.mp z]; exact ht
theorem lR_ok (hf : ∀ p, p < T → f p < 256) {dn hn p : Nat} {DL : List DI} {HL : List HI} (hp : p ≤ T) (h : okDH dn hn DL HL) : p ≤ (lR f T dn hn p DL HL).2.1 ∧ (lR f T dn hn p DL HL).2.1 ≤ T ∧ okDH dn hn (lR f T dn hn p DL HL).2.2.1 (lR f T dn hn p DL HL).2.2.2 ∧ ((lR f T dn hn p DL HL).1 = true → DL.length + HL.length < (lR f T dn hn p DL HL).2.2.1.length + (lR f T dn hn p DL HL).2.2.2.length) := by
  unfold lR
  by_cases q1 : dn + DL.length < 8 ∧ isA f T p 100 = true
  · rw [if_pos q1]
    have pT := (is_lt q1.2).1
    obtain ⟨a1, a2, a3⟩ := dR_ok hf (p := p + 1) (by omega)
    cases h1 : (dR f T (p + 1)).1 with
    | false => exact ⟨by dsimp only; omega, a2, h, fun z => by cases z⟩
    | true =>
      refine ⟨by dsimp only; omega, a2, ?_, fun _ => ?_⟩
      · dsimp only
        rw [if_pos rfl]
        exact okDH_D h (a3 h1) q1.1
      · dsimp only
        rw [if_pos rfl]; simp
  · rw [if_neg q1]
    by_cases q2 : hn + HL.length < 12 ∧ isA f T p 104 = true
    · rw [if_pos q2]
      have pT := (is_lt q2.2).1
      obtain ⟨a1, a2, a3⟩ := hR_ok hf (p := p + 1) (by omega)
      cases h1 : (hR f T (p + 1)).1 with
      | false => exact ⟨by dsimp only; omega, a2, h, fun z => by cases z⟩
      | true =>
        refine ⟨by dsimp only; omega, a2, ?_, fun _ => ?_⟩
        · dsimp only
          rw [if_pos rfl]
          exact okDH_H h (a3 h1) q2.1
        · dsimp only
          rw [if_pos rfl]; simp
    · rw [if_neg q2]
      exact ⟨Nat.le_refl _, hp, h, fun z => by cases z⟩
theorem hsR_ok (hf : ∀ p, p < T → f p < 256) {dn hn : Nat} : ∀ m {p : Nat} {DL : List DI} {HL : List HI}, p ≤ T → okDH dn hn DL HL → (hsR f T dn hn m p DL HL).2.1 ≤ T ∧ okDH dn hn (hsR f T dn hn m p DL HL).2.2.1 (hsR f T dn hn m p DL HL).2.2.2 ∧ ((hsR f T dn hn m p DL HL).1 = true → 0 < (hsR f T dn hn m p DL HL).2.2.1.length + (hsR f T dn hn m p DL HL).2.2.2.length)
  | 0, p, DL, HL, hp, h => ⟨hp, h, fun z => by cases z⟩
  | m + 1, p, DL, HL, hp, h => by
    obtain ⟨a1, a2, a3, a4⟩ := lR_ok hf hp h
    unfold hsR
    split
    · rename_i q
      exact hsR_ok hf m (by have := (is_lt q.2).1; omega) a3
    · exact ⟨a2, a3, fun z => by have := a4 z; omega⟩
end HO
/-- the builder's lines -/
def cB (DL : List DI) (HL : List HI) (σ : hq_St) : Prop := σ.1 28 2 = nI DL.length ∧ σ.1 28 3 = nI HL.length ∧ (∀ j t, DL[j]? = some t → σ.1 29 j = nI (pkD t)) ∧ ∀ j t, HL[j]? = some t → σ.1 30 j = nI (pkH t)
theorem cB.dep {DL : List DI} {HL : List HI} : Dep [(28, 3), (28, 4), (29, 0), (30, 0)] (cB DL HL) := fun σ τ e h => ⟨((e 28 2 rfl).1).trans h.1, ((e 28 3 rfl).1).trans h.2.1, fun j t hj => ((e 29 j rfl).1).trans (h.2.2.1 j t hj), fun j t hj => ((e 30 j rfl).1).trans (h.2.2.2 j t hj)⟩
def mB (DL : List DI) (HL : List HI) (σ : hq_St) : Prop := σ.1 52 21 = nI DL.length ∧ σ.1 52 22 = nI HL.length ∧ (∀ j t, DL[j]? = some t → σ.1 63 (4 * j) = nI t.1 ∧ σ.1 63 (4 * j + 1) = nI t.2.1 ∧ σ.1 63 (4 * j + 2) = nI t.2.2.1 ∧ σ.1 63 (4 * j + 3) = nI t.2.2.2) ∧ ∀ j t, HL[j]? = some t → σ.1 64 (3 * j) = nI t.1 ∧ σ.1 64 (3 * j + 1) = nI t.2.1 ∧ σ.1 64 (3 * j + 2) = nI t.2.2
theorem mB.dep {DL : List DI} {HL : List HI} : Dep [(52, 22), (52, 23), (63, 0), (64, 0)] (mB DL HL) := fun σ τ e h => ⟨((e 52 21 rfl).1).trans h.1, ((e 52 22 rfl).1).trans h.2.1, fun j t hj => by
  obtain ⟨a, b, c, g⟩ := h.2.2.1 j t hj
  exact ⟨((e 63 _ rfl).1).trans a, ((e 63 _ rfl).1).trans b, ((e 63 _ rfl).1).trans c, ((e 63 _ rfl).1).trans g⟩, fun j t hj => by
  obtain ⟨a, b, c⟩ := h.2.2.2 j t hj
  exact ⟨((e 64 _ rfl).1).trans a, ((e 64 _ rfl).1).trans b, ((e 64 _ rfl).1).trans c⟩⟩
