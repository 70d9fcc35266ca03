/-! Frames: what a call leaves alone. A footprint is a list of cells: (c, 0) the whole cell, (c, j + 1) its slot j. -/
def inF (F : List (Nat × Nat)) (c j : Nat) : Bool := F.any fun p => p.1 == c && (p.2 == 0 || p.2 == j + 1)
def djF (F G : List (Nat × Nat)) : Bool := F.all fun p => G.all fun q => !(p.1 == q.1) || (!(p.2 == 0) && !(q.2 == 0) && !(p.2 == q.2))
def subF (F G : List (Nat × Nat)) : Bool := F.all fun p => G.any fun q => q.1 == p.1 && (q.2 == 0 || q.2 == p.2)
theorem djF_out {F G : List (Nat × Nat)} {c j : Nat} (h : djF F G = true) (hc : inF F c j = true) : inF G c j = false := by
  unfold inF at hc ⊢
  obtain ⟨p, hp, hp2⟩ := List.any_eq_true.mp hc
  rw [List.any_eq_false]
  intro q hq hq2
  have := List.all_eq_true.mp (List.all_eq_true.mp h p hp) q hq
  simp at hp2 hq2 this
  obtain ⟨a1, a2⟩ := hp2
  obtain ⟨b1, b2⟩ := hq2
  rcases this with t | ⟨⟨t1, t2⟩, t3⟩
  · exact t (by rw [a1, b1])
  · rcases a2 with a2 | a2
    · exact t1 a2
    · rcases b2 with b2 | b2
      · exact t2 b2
      · exact t3 (by rw [a2, b2])
theorem subF_in {F G : List (Nat × Nat)} {c j : Nat} (h : subF F G = true) (hc : inF F c j = true) : inF G c j = true := by
  unfold inF at hc ⊢
  obtain ⟨p, hp, hp2⟩ := List.any_eq_true.mp hc
  obtain ⟨q, hq, hq2⟩ := List.any_eq_true.mp (List.all_eq_true.mp h p hp)
  rw [List.any_eq_true]
  refine ⟨q, hq, ?_⟩
  simp at hp2 hq2 ⊢
  refine ⟨by rw [hq2.1, hp2.1], ?_⟩
  rcases hq2.2 with t | t
  · exact Or.inl t
  · rcases hp2.2 with s | s
    · exact Or.inl (by rw [t, s])
    · exact Or.inr (by rw [t, s])
/-- nothing changes but in G -/
def Fr (G : List (Nat × Nat)) (σ τ : hq_St) : Prop := ∀ c j, inF G c j = false → τ.1 c j = σ.1 c j ∧ τ.2 c j = σ.2 c j
theorem Fr.rf {G : List (Nat × Nat)} (σ : hq_St) : Fr G σ σ := fun _ _ _ => ⟨rfl, rfl⟩
theorem Fr.tr {G : List (Nat × Nat)} {σ ρ τ : hq_St} (h : Fr G σ ρ) (k : Fr G ρ τ) : Fr G σ τ := fun c j e => ⟨(k c j e).1.trans (h c j e).1, (k c j e).2.trans (h c j e).2⟩
theorem Fr.up {F G : List (Nat × Nat)} {σ τ : hq_St} (h : Fr F σ τ) (s : subF F G = true) : Fr G σ τ := fun c j e => h c j (by
  cases q : inF F c j with
  | false => rfl
  | true => rw [subF_in s q] at e; cases e)
theorem Fr.i {G : List (Nat × Nat)} {σ τ : hq_St} (h : Fr G σ τ) {c j : Nat} (e : inF G c j = false) : τ.1 c j = σ.1 c j := (h c j e).1
theorem Fr.l {G : List (Nat × Nat)} {σ τ : hq_St} (h : Fr G σ τ) {c j : Nat} (e : inF G c j = false) : τ.2 c j = σ.2 c j := (h c j e).2
theorem sI_at {σ : hq_St} {c j a b : Nat} {v : Int32} : (hq_sI σ c j v).1 a b = if a = c then (if b = j then v else σ.1 c b) else σ.1 a b := by
  unfold hq_sI
  dsimp only
  by_cases h : a = c
  · subst h
    rw [if_pos rfl, if_pos rfl]
    rfl
  · rw [if_neg h, if_neg h]
theorem sI_2 {σ : hq_St} {c j : Nat} {v : Int32} : (hq_sI σ c j v).2 = σ.2 := rfl
theorem sJ_at {σ : hq_St} {c j a b : Nat} {v : Int64} : (hq_sJ σ c j v).2 a b = if a = c then (if b = j then v else σ.2 c b) else σ.2 a b := by
  unfold hq_sJ
  dsimp only
  by_cases h : a = c
  · subst h
    rw [if_pos rfl, if_pos rfl]
    rfl
  · rw [if_neg h, if_neg h]
theorem sJ_1 {σ : hq_St} {c j : Nat} {v : Int64} : (hq_sJ σ c j v).1 = σ.1 := rfl
theorem sI_eq {σ : hq_St} {c j : Nat} {v : Int32} : (hq_sI σ c j v).1 c j = v := by rw [sI_at, if_pos rfl, if_pos rfl]
theorem sI_ne {σ : hq_St} {c j a b : Nat} {v : Int32} (h : a ≠ c) : (hq_sI σ c j v).1 a b = σ.1 a b := by rw [sI_at, if_neg h]
theorem sI_slot {σ : hq_St} {c j b : Nat} {v : Int32} (h : b ≠ j) : (hq_sI σ c j v).1 c b = σ.1 c b := by rw [sI_at, if_pos rfl, if_neg h]
theorem sJ_eq {σ : hq_St} {c j : Nat} {v : Int64} : (hq_sJ σ c j v).2 c j = v := by rw [sJ_at, if_pos rfl, if_pos rfl]
theorem Fr.sI {G : List (Nat × Nat)} {σ τ : hq_St} {c j : Nat} {v : Int32} (h : Fr G σ τ) (e : inF G c j = true) : Fr G σ (hq_sI τ c j v) := fun a b q => by
  have := h a b q
  rw [sI_at, sI_2]
  refine ⟨?_, this.2⟩
  by_cases h1 : a = c
  · subst h1
    rw [if_pos rfl]
    by_cases h2 : b = j
    · subst h2; rw [e] at q; cases q
    · rw [if_neg h2]; exact this.1
  · rw [if_neg h1]; exact this.1
theorem Fr.sJ {G : List (Nat × Nat)} {σ τ : hq_St} {c j : Nat} {v : Int64} (h : Fr G σ τ) (e : inF G c j = true) : Fr G σ (hq_sJ τ c j v) := fun a b q => by
  have := h a b q
  rw [sJ_at, sJ_1]
  refine ⟨this.1, ?_⟩
  by_cases h1 : a = c
  · subst h1
    rw [if_pos rfl]
    by_cases h2 : b = j
    · subst h2; rw [e] at q; cases q
    · rw [if_neg h2]; exact this.2
  · rw [if_neg h1]; exact this.2
/-- P speaks of F alone -/
def Dep (F : List (Nat × Nat)) (P : hq_St → Prop) : Prop := ∀ σ τ : hq_St, (∀ c j, inF F c j = true → τ.1 c j = σ.1 c j ∧ τ.2 c j = σ.2 c j) → P σ → P τ
theorem Dep.fr {F G : List (Nat × Nat)} {P : hq_St → Prop} {σ τ : hq_St} (h : Dep F P) (k : Fr G σ τ) (e : djF F G = true) (p : P σ) : P τ := h σ τ (fun c j q => k c j (djF_out e q)) p
/-- a counted loop that changes the state -/
theorem hq_w.for {x d i : Nat} (Lf : Nat → hq_L) (I : Nat → hq_St → Prop) (n : Nat) (step : ∀ j, j < n → ∀ σ, I j σ → ∃ σ', (∀ v τ, hq_m x d v τ i (Lf (j + 1)) [] σ' → hq_m x d v τ i (Lf j) [] σ) ∧ I (j + 1) σ') {σ : hq_St} (h0 : I 0 σ) : ∃ σ', (∀ v τ, hq_m x d v τ i (Lf n) [] σ' → hq_m x d v τ i (Lf 0) [] σ) ∧ I n σ' := by
  induction n with
  | zero => exact ⟨σ, fun _ _ k => k, h0⟩
  | succ n ih =>
    obtain ⟨σ1, h1, h2⟩ := ih (fun j hj => step j (by omega))
    obtain ⟨σ2, h3, h4⟩ := step n (by omega) σ1 h2
    exact ⟨σ2, fun v τ k => h1 v τ (h3 v τ k), h4⟩
/-- a town with one number changed -/
def setA (A : TA) (f k v : Nat) : TA := fun a b => if a = f then (if b = k then v else A a b) else A a b
theorem setA_eq {A : TA} {f k v : Nat} : setA A f k v f k = v := by unfold setA; rw [if_pos rfl, if_pos rfl]
theorem setA_ne {A : TA} {f k v a b : Nat} (h : a ≠ f) : setA A f k v a b = A a b := by unfold setA; rw [if_neg h]
theorem setA_slot {A : TA} {f k v b : Nat} (h : b ≠ k) : setA A f k v f b = A f b := by unfold setA; rw [if_pos rfl, if_neg h]
/-- rows of footprints -/
def fTown : List (Nat × Nat) := [(5, 14), (5, 15), (5, 16), (5, 17), (6, 0), (7, 0), (8, 0), (9, 0), (10, 0), (11, 0), (12, 0), (13, 0), (14, 0), (15, 0), (16, 0), (17, 0), (18, 0)]
def cT (A : TA) (t y : Int32) (σ : hq_St) : Prop := Rc A σ ∧ σ.1 5 15 = t ∧ σ.1 5 16 = y
theorem cT.dep {A : TA} {t y : Int32} : Dep fTown (cT A t y) := fun σ τ e h => by
  have g : ∀ c j, inF fTown c j = true → τ.1 c j = σ.1 c j := fun c j q => (e c j q).1
  obtain ⟨⟨W, h1, h2, h3, h4, h5⟩, h6, h7⟩ := h
  refine ⟨⟨W, (g 5 13 rfl).trans h1, (g 5 14 rfl).trans h2, fun d hd => ?_, fun k hk => ?_, fun r r1 r2 => (g 18 r rfl).trans (h5 r r1 r2)⟩, (g 5 15 rfl).trans h6, (g 5 16 rfl).trans h7⟩
  · obtain ⟨a1, a2, a3, a4, a5, a6⟩ := h3 d hd
    exact ⟨(g 6 d rfl).trans a1, (g 7 d rfl).trans a2, (g 8 d rfl).trans a3, (g 9 d rfl).trans a4, (g 10 d rfl).trans a5, (g 11 d rfl).trans a6⟩
  · obtain ⟨a1, a2, a3, a4, a5, a6⟩ := h4 k hk
    exact ⟨(g 12 k rfl).trans a1, (g 13 k rfl).trans a2, (g 14 k rfl).trans a3, (g 15 k rfl).trans a4, (g 16 k rfl).trans a5, (g 17 k rfl).trans a6⟩
def fRc : List (Nat × Nat) := [(5, 14), (5, 15), (6, 0), (7, 0), (8, 0), (9, 0), (10, 0), (11, 0), (12, 0), (13, 0), (14, 0), (15, 0), (16, 0), (17, 0), (18, 0)]
theorem Rc.dep {A : TA} : Dep fRc (Rc A) := fun σ τ e h => by
  have g : ∀ c j, inF fRc c j = true → τ.1 c j = σ.1 c j := fun c j q => (e c j q).1
  obtain ⟨W, h1, h2, h3, h4, h5⟩ := h
  refine ⟨W, (g 5 13 rfl).trans h1, (g 5 14 rfl).trans h2, fun d hd => ?_, fun k hk => ?_, fun r r1 r2 => (g 18 r rfl).trans (h5 r r1 r2)⟩
  · obtain ⟨a1, a2, a3, a4, a5, a6⟩ := h3 d hd
    exact ⟨(g 6 d rfl).trans a1, (g 7 d rfl).trans a2, (g 8 d rfl).trans a3, (g 9 d rfl).trans a4, (g 10 d rfl).trans a5, (g 11 d rfl).trans a6⟩
  · obtain ⟨a1, a2, a3, a4, a5, a6⟩ := h4 k hk
    exact ⟨(g 12 k rfl).trans a1, (g 13 k rfl).trans a2, (g 14 k rfl).trans a3, (g 15 k rfl).trans a4, (g 16 k rfl).trans a5, (g 17 k rfl).trans a6⟩
def fMod : List (Nat × Nat) := [(52, 4), (52, 5), (54, 0), (55, 0), (56, 0), (57, 0), (58, 0), (59, 0), (60, 0), (61, 0)]
def mT (A : TA) (t y : Int32) (σ : hq_St) : Prop := Rm 61 A σ ∧ σ.1 61 48 = t ∧ σ.1 61 49 = y
theorem mT.dep {A : TA} {t y : Int32} : Dep fMod (mT A t y) := fun σ τ e h => by
  have g : ∀ c j, inF fMod c j = true → τ.1 c j = σ.1 c j := fun c j q => (e c j q).1
  obtain ⟨⟨W, h1, h2, h3, h4, h5, h8⟩, h6, h7⟩ := h
  refine ⟨⟨W, (g 52 3 rfl).trans h1, (g 52 4 rfl).trans h2, fun d hd => ?_, fun k hk => ?_, fun k hk => ?_, fun r r1 r2 => (g 60 r rfl).trans (h8 r r1 r2)⟩, (g 61 48 rfl).trans h6, (g 61 49 rfl).trans h7⟩
  · obtain ⟨a1, a2, a3, a4⟩ := h3 d hd
    exact ⟨(g 54 d rfl).trans a1, (g 55 d rfl).trans a2, (g 56 d rfl).trans a3, (g 57 d rfl).trans a4⟩
  · obtain ⟨a1, a2⟩ := h4 k hk
    exact ⟨(g 58 k rfl).trans a1, (g 59 k rfl).trans a2⟩
  · obtain ⟨a1, a2, a3, a4⟩ := h5 k hk
    exact ⟨(g 61 _ rfl).trans a1, (g 61 _ rfl).trans a2, (g 61 _ rfl).trans a3, (g 61 _ rfl).trans a4⟩
theorem Rm.depn {A : TA} : Dep [(52, 4), (52, 5), (54, 0), (55, 0), (56, 0), (57, 0), (58, 0), (59, 0), (60, 0), (61, 0)] (Rm 61 A) := fun σ τ e h => by
  have g : ∀ c j, inF [(52, 4), (52, 5), (54, 0), (55, 0), (56, 0), (57, 0), (58, 0), (59, 0), (60, 0), (61, 0)] c j = true → τ.1 c j = σ.1 c j := fun c j q => (e c j q).1
  obtain ⟨W, h1, h2, h3, h4, h5, h8⟩ := h
  refine ⟨W, (g 52 3 rfl).trans h1, (g 52 4 rfl).trans h2, fun d hd => ?_, fun k hk => ?_, fun k hk => ?_, fun r r1 r2 => (g 60 r rfl).trans (h8 r r1 r2)⟩
  · obtain ⟨a1, a2, a3, a4⟩ := h3 d hd
    exact ⟨(g 54 d rfl).trans a1, (g 55 d rfl).trans a2, (g 56 d rfl).trans a3, (g 57 d rfl).trans a4⟩
  · obtain ⟨a1, a2⟩ := h4 k hk
    exact ⟨(g 58 k rfl).trans a1, (g 59 k rfl).trans a2⟩
  · obtain ⟨a1, a2, a3, a4⟩ := h5 k hk
    exact ⟨(g 61 _ rfl).trans a1, (g 61 _ rfl).trans a2, (g 61 _ rfl).trans a3, (g 61 _ rfl).trans a4⟩
theorem Rm.dept {A : TA} : Dep [(52, 4), (52, 5), (54, 0), (55, 0), (56, 0), (57, 0), (58, 0), (59, 0), (60, 0), (65, 0)] (Rm 65 A) := fun σ τ e h => by
  have g : ∀ c j, inF [(52, 4), (52, 5), (54, 0), (55, 0), (56, 0), (57, 0), (58, 0), (59, 0), (60, 0), (65, 0)] c j = true → τ.1 c j = σ.1 c j := fun c j q => (e c j q).1
  obtain ⟨W, h1, h2, h3, h4, h5, h8⟩ := h
  refine ⟨W, (g 52 3 rfl).trans h1, (g 52 4 rfl).trans h2, fun d hd => ?_, fun k hk => ?_, fun k hk => ?_, fun r r1 r2 => (g 60 r rfl).trans (h8 r r1 r2)⟩
  · obtain ⟨a1, a2, a3, a4⟩ := h3 d hd
    exact ⟨(g 54 d rfl).trans a1, (g 55 d rfl).trans a2, (g 56 d rfl).trans a3, (g 57 d rfl).trans a4⟩
  · obtain ⟨a1, a2⟩ := h4 k hk
    exact ⟨(g 58 k rfl).trans a1, (g 59 k rfl).trans a2⟩
  · obtain ⟨a1, a2, a3, a4⟩ := h5 k hk
    exact ⟨(g 65 _ rfl).trans a1, (g 65 _ rfl).trans a2, (g 65 _ rfl).trans a3, (g 65 _ rfl).trans a4⟩
/-- the text: n signs -/
def cX (n : Nat) (f : Nat → Nat) (σ : hq_St) : Prop := n ≤ 80 ∧ σ.1 1 1 = nI n ∧ ∀ j, j < n → f j < 256 ∧ σ.1 2 j = nI (f j)
theorem cX.dep {n : Nat} {f : Nat → Nat} : Dep [(1, 2), (2, 0)] (cX n f) := fun σ τ e h => by
  have g : ∀ c j, inF [(1, 2), (2, 0)] c j = true → τ.1 c j = σ.1 c j := fun c j q => (e c j q).1
  exact ⟨h.1, (g 1 1 rfl).trans h.2.1, fun j hj => ⟨(h.2.2 j hj).1, (g 2 j rfl).trans (h.2.2 j hj).2⟩⟩
def mX (n : Nat) (f : Nat → Nat) (σ : hq_St) : Prop := n ≤ 80 ∧ σ.1 52 15 = nI n ∧ ∀ j, j < n → f j < 256 ∧ σ.1 62 j = nI (f j)
theorem mX.dep {n : Nat} {f : Nat → Nat} : Dep [(52, 16), (62, 0)] (mX n f) := fun σ τ e h => by
  have g : ∀ c j, inF [(52, 16), (62, 0)] c j = true → τ.1 c j = σ.1 c j := fun c j q => (e c j q).1
  exact ⟨h.1, (g 52 15 rfl).trans h.2.1, fun j hj => ⟨(h.2.2 j hj).1, (g 62 j rfl).trans (h.2.2 j hj).2⟩⟩
/-- the row -/
def cR (L : List Int64) (σ : hq_St) : Prop := L.length ≤ 16 ∧ σ.1 3 1 = nI L.length ∧ ∀ j v, L[j]? = some v → σ.2 4 j = v
theorem cR.dep {L : List Int64} : Dep [(3, 2), (4, 0)] (cR L) := fun σ τ e h => by
  exact ⟨h.1, ((e 3 1 rfl).1).trans h.2.1, fun j v hj => ((e 4 j rfl).2).trans (h.2.2 j v hj)⟩
def mR (L : List Int64) (σ : hq_St) : Prop := L.length ≤ 16 ∧ σ.1 52 1 = nI L.length ∧ ∀ j v, L[j]? = some v → σ.2 53 j = v
theorem mR.dep {L : List Int64} : Dep [(52, 2), (53, 0)] (mR L) := fun σ τ e h => by
  exact ⟨h.1, ((e 52 1 rfl).1).trans h.2.1, fun j v hj => ((e 53 j rfl).2).trans (h.2.2 j v hj)⟩
/-- creaks that were heard -/
def cE (H : List Nat) (σ : hq_St) : Prop := H.length ≤ 12 ∧ σ.1 47 4 = nI H.length ∧ (∀ j v, H[j]? = some v → v ≤ 198 ∧ σ.1 49 j = nI v)
theorem cE.dep {H : List Nat} : Dep [(47, 5), (49, 0)] (cE H) := fun σ τ e h => by
  exact ⟨h.1, ((e 47 4 rfl).1).trans h.2.1, fun j v hj => ⟨(h.2.2 j v hj).1, ((e 49 j rfl).1).trans (h.2.2 j v hj).2⟩⟩
def mE (H : List Nat) (σ : hq_St) : Prop := H.length ≤ 12 ∧ σ.1 52 45 = nI H.length ∧ (∀ j v, H[j]? = some v → v ≤ 198 ∧ σ.1 80 j = nI v)
theorem mE.dep {H : List Nat} : Dep [(52, 46), (80, 0)] (mE H) := fun σ τ e h => by
  exact ⟨h.1, ((e 52 45 rfl).1).trans h.2.1, fun j v hj => ⟨(h.2.2 j v hj).1, ((e 80 j rfl).1).trans (h.2.2 j v hj).2⟩⟩
section ROW
variable {d : Nat} {σ : hq_St}
theorem s_clear : ∃ τ, hq_c 46 (d + 1) [.ref 3] σ none τ ∧ cR [] τ ∧ Fr [(3, 2), (4, 0)] σ τ :=
  ⟨_, p_X4_clear_0_1, ⟨by decide, by rw [sI_eq]; rfl, fun j v h => by simp at h⟩, (Fr.rf σ).sI rfl⟩
theorem s_add {L : List Int64} (h : cR L σ) (hL : L.length < 16) (v : Int64) : ∃ τ, hq_c 47 (d + 1) [.ref 3, .long v] σ none τ ∧ cR (L ++ [v]) τ ∧ Fr [(3, 2), (4, 0)] σ τ := by
  have c : (nI L.length).toNatClampNeg = L.length := clamp (by omega)
  refine ⟨_, p_X4_add_0_1 (by rw [h.2.1]; exact nlt hL (by decide)) (by rw [h.2.1]; exact vin hL (by decide)), ⟨?_, ?_, ?_⟩, ((Fr.rf σ).sJ rfl).sI rfl⟩
  · simp; omega
  · rw [sI_eq, sJ_1, h.2.1, nplus]; simp
  · intro j w hj
    rw [sI_2, sJ_at, if_pos rfl, h.2.1, c]
    rw [List.getElem?_append] at hj
    split at hj
    · rw [if_neg (by omega)]; exact h.2.2 j w hj
    · rename_i hn
      by_cases e : j = L.length
      · rw [if_pos e]
        subst e
        simpa using hj
      · rw [List.getElem?_eq_none (by simp; omega)] at hj; cases hj
theorem m_enters {L : List Int64} (h : mR L σ) (hL : L.length < 16) (v : Int64) : ∃ τ, hq_c 171 (d + 1) [.ref 52, .long v] σ none τ ∧ mR (L ++ [v]) τ ∧ Fr [(52, 2), (53, 0)] σ τ := by
  have c : (nI L.length).toNatClampNeg = L.length := clamp (by omega)
  refine ⟨_, p_X10_enters_0_1 (by rw [h.2.1]; exact vin (by omega) (by decide)), ⟨?_, ?_, ?_⟩, ((Fr.rf σ).sJ rfl).sI rfl⟩
  · simp; omega
  · rw [sI_eq, sJ_1, h.2.1, nplus]; simp
  · intro j w hj
    rw [sI_2, sJ_at, if_pos rfl, h.2.1, c]
    rw [List.getElem?_append] at hj
    split at hj
    · rw [if_neg (by omega)]; exact h.2.2 j w hj
    · rename_i hn
      by_cases e : j = L.length
      · rw [if_pos e]
        subst e
        simpa using hj
      · rw [List.getElem?_eq_none (by simp; omega)] at hj; cases hj
theorem mR.nil : mR [] (hq_sI σ 52 1 (nI 0)) := ⟨by decide, by rw [sI_eq]; rfl, fun j v h => by simp at h⟩
end ROW
