/-! States as they were. A snapshot: a town (of which hands, rust, oil and places count), the till, the day. -/
abbrev Snap : Type := TA × Int32 × Int32
def rst (A B : TA) : TA := fun a b => if a = 6 ∨ a = 9 ∨ a = 10 ∨ a = 11 then B a b else A a b
def pkd (B : TA) (h : Nat) : Nat := B 11 h * 4096 + B 6 h * 256 + B 9 h * 16 + B 10 h
def slC (B : Snap) (n b : Nat) (f : Nat → Int32) : Prop := (∀ h, h < n → f (b + h) = nI (pkd B.1 h)) ∧ f (b + 12) = B.2.1 ∧ f (b + 13) = B.2.2
def slM (B : Snap) (n b : Nat) (f : Nat → Int32) : Prop := (∀ h, h < n → mRow B.1 (fun j => f (b + j)) h) ∧ f (b + 48) = B.2.1 ∧ f (b + 49) = B.2.2
theorem slC.to {B : Snap} {n b c : Nat} {f g : Nat → Int32} (h : slC B n b f) (hn : n ≤ 12) (e : ∀ j, j < 14 → g (c + j) = f (b + j)) : slC B n c g := ⟨fun k hk => (e k (by omega)).trans (h.1 k hk), (e 12 (by decide)).trans h.2.1, (e 13 (by decide)).trans h.2.2⟩
theorem slM.to {B : Snap} {n b c : Nat} {f g : Nat → Int32} (h : slM B n b f) (hn : n ≤ 12) (e : ∀ j, j < 50 → g (c + j) = f (b + j)) : slM B n c g := ⟨fun k hk => by
  obtain ⟨a1, a2, a3, a4⟩ := h.1 k hk
  exact ⟨(e _ (by omega)).trans a1, (e _ (by omega)).trans a2, (e _ (by omega)).trans a3, (e _ (by omega)).trans a4⟩, (e 48 (by decide)).trans h.2.1, (e 49 (by decide)).trans h.2.2⟩
abbrev Shf : Type := Nat → Option (Snap × Nat × Nat × Nat)
/-- the shelves -/
def cK (K : Shf) (σ : hq_St) : Prop := ∀ i, i < 3 → match K i with
  | none => σ.1 21 i = 0
  | some (B, dn, hn, _) => σ.1 21 i = nI 1 ∧ dn ≤ 8 ∧ hn ≤ 12 ∧ σ.1 22 i = nI dn ∧ σ.1 23 i = nI hn ∧ slC B hn (14 * (16 + i)) (σ.1 20)
/-- the ring; p is where the next act is marked -/
def cG (n p : Nat) (P : List Snap) (σ : hq_St) : Prop := p < 16 ∧ n ≤ 12 ∧ σ.1 19 4 = nI p ∧ P.length ≤ 15 ∧ σ.1 19 5 = nI P.length ∧ ∀ i B, P[i]? = some B → slC B n (14 * ((p + 31 - i) % 16)) (σ.1 20)
def cP (n : Nat) (P : List Snap) (K : Shf) (σ : hq_St) : Prop := cK K σ ∧ ∃ p, cG n p P σ
/-- the same, the act at hand being marked -/
def cPm (n : Nat) (P : List Snap) (K : Shf) (B : Snap) (σ : hq_St) : Prop := cK K σ ∧ ∃ p, cG n p P σ ∧ slC B n (14 * p) (σ.1 20)
def fPast : List (Nat × Nat) := [(19, 5), (19, 6), (20, 0), (21, 0), (22, 0), (23, 0)]
theorem cK.dep {K : Shf} : Dep [(20, 0), (21, 0), (22, 0), (23, 0)] (cK K) := fun σ τ e h i hi => by
  have g : ∀ c j, inF [(20, 0), (21, 0), (22, 0), (23, 0)] c j = true → τ.1 c j = σ.1 c j := fun c j q => (e c j q).1
  have := h i hi
  cases hk : K i with
  | none => rw [hk] at this; exact (g 21 i rfl).trans this
  | some x =>
    rw [hk] at this
    obtain ⟨a1, a2, a3, a4, a5, a6⟩ := this
    exact ⟨(g 21 i rfl).trans a1, a2, a3, (g 22 i rfl).trans a4, (g 23 i rfl).trans a5, a6.to a3 (fun j _ => g 20 _ rfl)⟩
theorem cG.dep {n p : Nat} {P : List Snap} : Dep [(19, 5), (19, 6), (20, 0)] (cG n p P) := fun σ τ e h => by
  have g : ∀ c j, inF [(19, 5), (19, 6), (20, 0)] c j = true → τ.1 c j = σ.1 c j := fun c j q => (e c j q).1
  obtain ⟨a1, a2, a3, a4, a5, a6⟩ := h
  exact ⟨a1, a2, (g 19 4 rfl).trans a3, a4, (g 19 5 rfl).trans a5, fun i B hB => (a6 i B hB).to a2 (fun j _ => g 20 _ rfl)⟩
theorem cP.dep {n : Nat} {P : List Snap} {K : Shf} : Dep fPast (cP n P K) := fun σ τ e h => by
  obtain ⟨h1, p, h2⟩ := h
  exact ⟨cK.dep σ τ (fun c j q => e c j (subF_in (by decide) q)) h1, p, cG.dep σ τ (fun c j q => e c j (subF_in (by decide) q)) h2⟩
theorem cPm.dep {n : Nat} {P : List Snap} {K : Shf} {B : Snap} : Dep fPast (cPm n P K B) := fun σ τ e h => by
  obtain ⟨h1, p, h2, h3⟩ := h
  exact ⟨cK.dep σ τ (fun c j q => e c j (subF_in (by decide) q)) h1, p, cG.dep σ τ (fun c j q => e c j (subF_in (by decide) q)) h2, h3.to h2.2.1 (fun j _ => (e 20 _ rfl).1)⟩
theorem cPm.of {n : Nat} {P : List Snap} {K : Shf} {B : Snap} {σ : hq_St} (h : cPm n P K B σ) : cP n P K σ := ⟨h.1, h.2.choose, h.2.choose_spec.1⟩
/-- the reference's -/
def mK (C : Nat) (K : Shf) (σ : hq_St) : Prop := σ.1 52 5 = nI C ∧ ∀ i, i < 3 → match K i with
  | none => σ.1 82 i = 0
  | some (B, _, hn, ch) => σ.1 82 i = nI 1 ∧ hn ≤ 12 ∧ ch ≤ 20 ∧ σ.1 83 i = nI ch ∧ slM B hn (50 * i) (σ.1 84)
def mP (n : Nat) (P : List Snap) (σ : hq_St) : Prop := n ≤ 12 ∧ P.length ≤ 15 ∧ σ.1 52 29 = nI P.length ∧ ∀ i B, P[i]? = some B → slM B n (50 * (P.length - 1 - i)) (σ.1 69)
def mPm (n : Nat) (P : List Snap) (B : Snap) (σ : hq_St) : Prop := mP n P σ ∧ slM B n (50 * P.length) (σ.1 69)
theorem mK.dep {C : Nat} {K : Shf} : Dep [(52, 6), (82, 0), (83, 0), (84, 0)] (mK C K) := fun σ τ e h => by
  have g : ∀ c j, inF [(52, 6), (82, 0), (83, 0), (84, 0)] c j = true → τ.1 c j = σ.1 c j := fun c j q => (e c j q).1
  refine ⟨(g 52 5 rfl).trans h.1, fun i hi => ?_⟩
  have := h.2 i hi
  cases hk : K i with
  | none => rw [hk] at this; exact (g 82 i rfl).trans this
  | some x =>
    rw [hk] at this
    obtain ⟨a1, a2, a2', a3, a4⟩ := this
    exact ⟨(g 82 i rfl).trans a1, a2, a2', (g 83 i rfl).trans a3, a4.to a2 (fun j _ => g 84 _ rfl)⟩
theorem mP.dep {n : Nat} {P : List Snap} : Dep [(52, 30), (69, 0)] (mP n P) := fun σ τ e h => by
  have g : ∀ c j, inF [(52, 30), (69, 0)] c j = true → τ.1 c j = σ.1 c j := fun c j q => (e c j q).1
  obtain ⟨a1, a2, a3, a4⟩ := h
  exact ⟨a1, a2, (g 52 29 rfl).trans a3, fun i B hB => (a4 i B hB).to a1 (fun j _ => g 69 _ rfl)⟩
theorem mPm.dep {n : Nat} {P : List Snap} {B : Snap} : Dep [(52, 30), (69, 0)] (mPm n P B) := fun σ τ e h => ⟨mP.dep σ τ e h.1, h.2.to h.1.1 (fun j _ => (e 69 _ rfl).1)⟩
theorem enc : ∀ p, p < 9 → ∀ a, a < 3 → ∀ r, r < 10 → ∀ o, o < 10 → (((nI p <<< (nI 12 &&& 31)) ||| (nI a <<< (nI 8 &&& 31))) ||| (nI r <<< (nI 4 &&& 31))) ||| nI o = nI (p * 4096 + a * 256 + r * 16 + o) := by decide +kernel
theorem and15 (n : Nat) : n &&& 15 = n % 16 := Nat.and_two_pow_sub_one_eq_mod n 4
section PA
variable {d : Nat} {σ : hq_St} {A : TA}
theorem s_save {t y : Int32} (h : cT A t y σ) {s : Nat} (hs : s < 19) : ∃ τ, hq_c 44 (d + 1) [.ref 19, .ref 5, .int (nI s)] σ none τ ∧ slC (A, t, y) (A 1 0) (14 * s) (τ.1 20) ∧ (∀ j, j < 14 * s ∨ 14 * s + 14 ≤ j → τ.1 20 j = σ.1 20 j) ∧ Fr [(20, 0)] σ τ := by
  obtain ⟨⟨W, r1, r2, rD, rH, rS⟩, ht, hy⟩ := h
  have b1 := W.1
  have b2 := W.2.1
  have es : nI s * nI 14 = nI (14 * s) := by rw [pk_mul, Nat.mul_comm]
  obtain ⟨σ1, w, q1, q2, f1⟩ := hq_w.for (x := 44) (d := d + 1) (i := 6) (fun j => [some (.ref 19), some (.ref 5), none, some (.int (nI (14 * s))), some (.int (nI j))]) (fun j ρ => (∀ k, k < j → ρ.1 20 (14 * s + k) = nI (pkd A k)) ∧ (∀ k, k < 14 * s ∨ 14 * s + 14 ≤ k → ρ.1 20 k = σ.1 20 k) ∧ Fr [(20, 0)] σ ρ) (A 1 0) (fun j hj ρ ⟨q1, q2, f⟩ => by
    have cj : (nI j).toNatClampNeg = j := clamp (by omega)
    have cb : (nI (14 * s) + nI j).toNatClampNeg = 14 * s + j := by rw [nplus]; exact clamp (by omega)
    have o : vp_in (nI j) 12 := vin (by omega) (by decide)
    obtain ⟨a1, a2, a3, a4, a5, a6⟩ := rH j hj
    obtain ⟨w1, w2, w3, w4, w5, w6, w7, w8⟩ := W.2.2.2.1 j hj
    have c1 : nI j < ρ.1 5 14 := by rw [f.i rfl, r2]; exact nlt hj (by omega)
    have ev : ((((((ρ.1 17 (nI j).toNatClampNeg) + (nI 1)) <<< ((nI 12) &&& 31)) ||| ((ρ.1 12 (nI j).toNatClampNeg) <<< ((nI 8) &&& 31))) ||| ((ρ.1 15 (nI j).toNatClampNeg) <<< ((nI 4) &&& 31))) ||| (ρ.1 16 (nI j).toNatClampNeg)) = nI (pkd A j) := by
      rw [cj, f.i (c := 17) rfl, f.i (c := 12) rfl, f.i (c := 15) rfl, f.i (c := 16) rfl, a1, a4, a5, a6, Int32.sub_add_cancel]
      exact enc _ (by omega) _ (by omega) _ (by omega) _ (by omega)
    refine ⟨hq_sI ρ 20 (14 * s + j) (nI (pkd A j)), fun v τ k => p_X3_save_6_1 c1 (by rw [nplus]; exact vin (by omega) (by decide)) o o o o rfl ?_, ?_, ?_, f.sI rfl⟩
    · rw [ev, cb, nplus]; exact k
    · intro k hk
      rw [sI_at, if_pos rfl]
      by_cases e : k = j
      · rw [if_pos (by omega), e]
      · rw [if_neg (by omega)]; exact q1 k (by omega)
    · intro k hk
      rw [sI_slot (by omega)]; exact q2 k hk) (σ := σ) ⟨fun k hk => by omega, fun _ _ => rfl, Fr.rf σ⟩
  have c12 : (nI (14 * s) + nI 12).toNatClampNeg = 14 * s + 12 := by rw [nplus]; exact clamp (by omega)
  have c13 : (nI (14 * s) + nI 12 + nI 1).toNatClampNeg = 14 * s + 13 := by rw [nplus, nplus]; exact clamp (by omega)
  have fin := p_X3_save_6_2 (d := d) (σ := σ1) (l3 := nI (14 * s)) (l4 := nI (A 1 0)) (by rw [f1.i rfl, r2]; exact nI_nlt (Nat.le_refl _) (by omega)) (by rw [nplus, nplus]; exact vin (by omega) (by decide)) (by rw [nplus]; exact vin (by omega) (by decide)) rfl
  rw [c12, c13, sI_ne (by decide), f1.i (c := 5) (j := 15) rfl, f1.i (c := 5) (j := 16) rfl, ht, hy] at fin
  refine ⟨_, p_X3_save_0_1 (by rw [es]; exact w _ _ fin), ⟨fun k hk => ?_, ?_, ?_⟩, fun j hj => ?_, (f1.sI rfl).sI rfl⟩
  · rw [sI_slot (by omega), sI_slot (by omega)]; exact q1 k hk
  · rw [sI_slot (by omega), sI_eq]
  · rw [sI_eq]
  · rw [sI_slot (by omega), sI_slot (by omega)]; exact q2 j hj
theorem s_mark {t y : Int32} {P : List Snap} {K : Shf} (h : cT A t y σ) (hp : cP (A 1 0) P K σ) : ∃ τ, hq_c 38 (d + 2) [.ref 19, .ref 5] σ none τ ∧ cPm (A 1 0) P K (A, t, y) τ ∧ Fr [(20, 0)] σ τ := by
  obtain ⟨hK, p, hG⟩ := hp
  obtain ⟨p1, p2, p3, p4, p5, p6⟩ := id hG
  obtain ⟨τ, t1, t2, t3, t4⟩ := s_save (d := d) h (s := p) (by omega)
  refine ⟨τ, p_X3_mark_0_1 (by rw [p3]; exact t1), ⟨fun i hi => ?_, p, ⟨p1, p2, (t4.i rfl).trans p3, p4, (t4.i rfl).trans p5, fun i B hB => ?_⟩, t2⟩, t4⟩
  · have := hK i hi
    cases hk : K i with
    | none => rw [hk] at this; exact (t4.i rfl).trans this
    | some x =>
      rw [hk] at this
      obtain ⟨a1, a2, a3, a4, a5, a6⟩ := this
      exact ⟨(t4.i rfl).trans a1, a2, a3, (t4.i rfl).trans a4, (t4.i rfl).trans a5, a6.to a3 (fun j hj => t3 _ (by omega))⟩
  · refine (p6 i B hB).to p2 (fun j hj => t3 _ ?_)
    have := (List.getElem?_eq_some_iff.mp hB).1
    have h16 : (p + 31 - i) % 16 ≠ p := by omega
    rcases Nat.lt_or_ge ((p + 31 - i) % 16) p with q | q
    · left; omega
    · right; omega
/-- an act is done: what was ahead of it is kept, 15 at most -/
def addP (B : Snap) (P : List Snap) : List Snap := (B :: P).take 15
theorem addP_len (B : Snap) {P : List Snap} (h : P.length ≤ 15) : (addP B P).length = min 15 (P.length + 1) := by unfold addP; simp; omega
theorem addP_get {B : Snap} {P : List Snap} {i : Nat} {C : Snap} (h : (addP B P)[i]? = some C) : i < 15 ∧ ((i = 0 ∧ C = B) ∨ ∃ k, i = k + 1 ∧ P[k]? = some C) := by
  unfold addP at h
  rw [List.getElem?_take] at h
  split at h
  · rename_i hi
    refine ⟨hi, ?_⟩
    cases i with
    | zero => simp at h; exact Or.inl ⟨rfl, h.symm⟩
    | succ k => simp at h; exact Or.inr ⟨k, rfl, h⟩
  · cases h
theorem s_seal {n : Nat} {P : List Snap} {K : Shf} {B : Snap} (h : cPm n P K B σ) : ∃ τ, hq_c 39 (d + 1) [.ref 19] σ none τ ∧ cP n (addP B P) K τ ∧ Fr [(19, 5), (19, 6)] σ τ := by
  obtain ⟨hK, p, ⟨p1, p2, p3, p4, p5, p6⟩, hB⟩ := h
  have fin := p_X3_seal_0_1 (d := d) (σ := σ) (by decide) rfl
  have em : ∀ k, k < 16 → (nI k + nI 1) - (nI k + nI 1) / nI 16 * nI 16 = nI ((k + 1) % 16) := by decide +kernel
  have en : ∀ k, k < 16 → (if nI k + nI 1 < nI 15 then nI k + nI 1 else nI 15) = nI (min 15 (k + 1)) := by decide +kernel
  rw [sI_slot (by decide), p3, em p p1, p5, en _ (by omega)] at fin
  have f : Fr [(19, 5), (19, 6)] σ (hq_sI (hq_sI σ 19 4 (nI ((p + 1) % 16))) 19 5 (nI (min 15 (P.length + 1)))) := ((Fr.rf σ).sI rfl).sI rfl
  refine ⟨_, fin, ⟨cK.dep.fr f (by decide) hK, (p + 1) % 16, Nat.mod_lt _ (by decide), p2, ?_, ?_, ?_, fun i C hC => ?_⟩, f⟩
  · rw [sI_slot (by decide), sI_eq]
  · rw [addP_len B p4]; omega
  · rw [sI_eq, addP_len B p4]
  · obtain ⟨hi, h0⟩ := addP_get hC
    rcases h0 with ⟨rfl, rfl⟩ | ⟨k, rfl, hk⟩
    · refine hB.to p2 (fun j hj => ?_)
      rw [f.i rfl]
      rw [show ((p + 1) % 16 + 31 - 0) % 16 = p by omega]
    · refine (p6 k C hk).to p2 (fun j hj => ?_)
      rw [f.i rfl]
      have hk15 : k < 15 := by omega
      rw [show ((p + 1) % 16 + 31 - (k + 1)) % 16 = (p + 31 - k) % 16 by omega]
theorem s_forgetActs {n : Nat} {P : List Snap} {K : Shf} (h : cP n P K σ) {m : Nat} (hm : m ≤ 12) : ∃ τ, hq_c 40 (d + 1) [.ref 19] σ none τ ∧ cP m [] K τ ∧ Fr [(19, 5), (19, 6)] σ τ := by
  obtain ⟨hK, p, p1, p2, p3, p4, p5, p6⟩ := h
  have f : Fr [(19, 5), (19, 6)] σ (hq_sI σ 19 5 (nI 0)) := (Fr.rf σ).sI rfl
  exact ⟨_, p_X3_forgetActs_0_1, ⟨cK.dep.fr f (by decide) hK, p, p1, hm, by rw [sI_slot (by decide)]; exact p3, by decide, by rw [sI_eq]; rfl, fun i B hB => by simp at hB⟩, f⟩
/-- the first j hinges as they were -/
def rsJ (A B : TA) (j : Nat) : TA := fun a b => if (a = 6 ∨ a = 9 ∨ a = 10 ∨ a = 11) ∧ b < j then B a b else A a b
theorem rsJ_step (A B : TA) (j : Nat) : setA (setA (setA (setA (rsJ A B j) 6 j (B 6 j)) 9 j (B 9 j)) 10 j (B 10 j)) 11 j (B 11 j) = rsJ A B (j + 1) := by
  funext a b
  unfold setA rsJ
  by_cases e : b = j
  · subst e
    by_cases a1 : a = 11
    · simp [a1]
    · by_cases a2 : a = 10
      · simp [a2]
      · by_cases a3 : a = 9
        · simp [a3]
        · by_cases a4 : a = 6
          · simp [a4]
          · simp [a1, a2, a3, a4]
  · have : b < j + 1 ↔ b < j := by omega
    simp only [this, if_neg e]
    simp
theorem setA_comm {A : TA} {f g k l v w : Nat} (h : f ≠ g) : setA (setA A f k v) g l w = setA (setA A g l w) f k v := by
  funext a b
  unfold setA
  by_cases a1 : a = f
  · have : ¬ a = g := fun z => h (a1.symm.trans z)
    simp [a1, fun z : f = g => h z]
  · by_cases a2 : a = g
    · have : ¬ g = f := fun z => h z.symm
      simp [a2, this]
    · simp [a1, a2]
theorem setA_over {A : TA} {f k v w : Nat} : setA (setA A f k v) f k w = setA A f k w := by
  funext a b
  unfold setA
  by_cases a1 : a = f
  · by_cases a2 : b = k
    · simp [a1, a2]
    · simp [a1, a2]
  · simp [a1]
theorem s_load {t y : Int32} {B : Snap} (h : cT A t y σ) (hW : Wf (rst A B.1)) {s : Nat} (hs : s < 19) (hB : slC B (A 1 0) (14 * s) (σ.1 20)) : ∃ τ, hq_c 45 (d + 3) [.ref 19, .ref 5, .int (nI s)] σ none τ ∧ cT (rst A B.1) B.2.1 B.2.2 τ ∧ Fr [(5, 16), (5, 17), (11, 0), (12, 0), (15, 0), (16, 0), (17, 0)] σ τ := by
  obtain ⟨⟨W, rx⟩, ht, hy⟩ := h
  have b1 := W.1
  have b2 := W.2.1
  have es : nI s * nI 14 = nI (14 * s) := by rw [pk_mul, Nat.mul_comm]
  have hwB : ∀ k, k < A 1 0 → B.1 6 k ≤ 2 ∧ B.1 9 k ≤ 9 ∧ B.1 10 k ≤ 9 ∧ B.1 11 k ≤ A 0 0 := fun k hk => by
    obtain ⟨w1, w2, w3, w4, w5, w6, w7, w8⟩ := hW.2.2.2.1 k hk
    exact ⟨w1, w5, w6, w7⟩
  obtain ⟨σ1, w, q1, f1⟩ := hq_w.for (x := 45) (d := d + 3) (i := 6) (fun j => [some (.ref 19), some (.ref 5), none, some (.int (nI (14 * s))), some (.int (nI j)), none, none]) (fun j ρ => Rx (rsJ A B.1 j) ρ ∧ Fr [(11, 0), (12, 0), (15, 0), (16, 0), (17, 0)] σ ρ) (A 1 0) (fun j hj ρ ⟨q, f⟩ => by
    have cj : (nI j).toNatClampNeg = j := clamp (by omega)
    have cb : (nI (14 * s) + nI j).toNatClampNeg = 14 * s + j := by rw [nplus]; exact clamp (by omega)
    have o : vp_in (nI j) 12 := vin (by omega) (by decide)
    have o2 : vp_in (nI (14 * s) + nI j) 266 := by rw [nplus]; exact vin (by omega) (by decide)
    have hp : ρ.1 20 (nI (14 * s) + nI j).toNatClampNeg = nI (pkd B.1 j) := by rw [cb, f.i rfl]; exact hB.1 j hj
    obtain ⟨v6, v9, v10, v11⟩ := hwB j hj
    have hlt : pkd B.1 j < 2 ^ 31 := by unfold pkd; omega
    have e6 : (nI (pkd B.1 j) >>> (nI 8 &&& 31)) &&& nI 15 = nI (B.1 6 j) := by
      rw [pk_shrN hlt _ 8 (by decide), fa_and, and15]; congr 1; unfold pkd; omega
    have e9 : (nI (pkd B.1 j) >>> (nI 4 &&& 31)) &&& nI 15 = nI (B.1 9 j) := by
      rw [pk_shrN hlt _ 4 (by decide), fa_and, and15]; congr 1; unfold pkd; omega
    have e10 : nI (pkd B.1 j) &&& nI 15 = nI (B.1 10 j) := by
      rw [fa_and, and15]; congr 1; unfold pkd; omega
    have e11 : (nI (pkd B.1 j) >>> (nI 12 &&& 31)) - nI 1 = nI (B.1 11 j) - nI 1 := by
      rw [pk_shrN hlt _ 12 (by decide)]; congr 2; unfold pkd; omega
    have bd : Bd (rsJ A B.1 j) := ⟨b1, b2, fun k hk => by
      show (if (11 = 6 ∨ 11 = 9 ∨ 11 = 10 ∨ 11 = 11) ∧ k < j then B.1 11 k else A 11 k) ≤ A 0 0
      split
      · exact (hwB k hk).2.2.2
      · exact (W.2.2.2.1 k hk).2.2.2.2.2.2.1⟩
    have c1 : nI j < ρ.1 5 14 := by rw [q.2.1]; exact nlt (show j < A 1 0 from hj) (show A 1 0 < _ by omega)
    obtain ⟨ρ1, u1, u2, u3⟩ := s_unhang (d := d) bd q (h := j) hj
    have x2 := ((u2.set6 (h := j) (v := B.1 6 j)).set9 (h := j) (v := B.1 9 j)).set10 (h := j) (v := B.1 10 j)
    have g : Fr [(11, 0), (12, 0), (15, 0), (16, 0), (17, 0)] σ (hq_sI (hq_sI (hq_sI ρ1 12 j (nI (B.1 6 j))) 15 j (nI (B.1 9 j))) 16 j (nI (B.1 10 j))) := (((f.tr (u3.up (by decide))).sI rfl).sI rfl).sI rfl
    have ex : setA (setA (setA (setA (rsJ A B.1 j) 11 j 0) 6 j (B.1 6 j)) 9 j (B.1 9 j)) 10 j (B.1 10 j) = setA (setA (setA (setA (rsJ A B.1 j) 6 j (B.1 6 j)) 9 j (B.1 9 j)) 10 j (B.1 10 j)) 11 j 0 := by
      rw [setA_comm (f := 11) (g := 6) (by decide), setA_comm (f := 11) (g := 9) (by decide), setA_comm (f := 11) (g := 10) (by decide)]
    have gd := s_isDoorX (d := d + 1) (σ := hq_sI (hq_sI (hq_sI ρ1 12 j (nI (B.1 6 j))) 15 j (nI (B.1 9 j))) 16 j (nI (B.1 10 j))) x2.1 b1 (nI (B.1 11 j) - nI 1)
    have ei : inr (nI (B.1 11 j) - nI 1) (A 0 0) = decide (B.1 11 j ≠ 0) := inr_place v11 b1
    have gd' : hq_c 82 (d + 2) [.ref 5, .int (nI (B.1 11 j) - nI 1)] (hq_sI (hq_sI (hq_sI ρ1 12 j (nI (B.1 6 j))) 15 j (nI (B.1 9 j))) 16 j (nI (B.1 10 j))) (some (.int (bI (decide (B.1 11 j ≠ 0))))) (hq_sI (hq_sI (hq_sI ρ1 12 j (nI (B.1 6 j))) 15 j (nI (B.1 9 j))) 16 j (nI (B.1 10 j))) := by rw [← ei]; exact gd
    by_cases p0 : B.1 11 j = 0
    · rw [decide_eq_false (by simp [p0])] at gd'
      refine ⟨_, fun v τ k => p_X3_load_6_1 c1 o2 u1 o o o (by rw [hp, cj, e6, e9, e10]) (by rw [hp, e11]; exact gd') rfl (by rw [nplus]; exact k), ?_, g⟩
      rw [← rsJ_step, p0, ← ex]
      exact x2
    · rw [decide_eq_true p0] at gd'
      obtain ⟨e, he⟩ : ∃ e, B.1 11 j = e + 1 := ⟨B.1 11 j - 1, by omega⟩
      have ee : nI (B.1 11 j) - nI 1 = nI e := by rw [he]; exact nI_pred e
      have bd2 : Bd (setA (setA (setA (setA (rsJ A B.1 j) 11 j 0) 6 j (B.1 6 j)) 9 j (B.1 9 j)) 10 j (B.1 10 j)) := ⟨b1, b2, fun k hk => by
        show setA (rsJ A B.1 j) 11 j 0 11 k ≤ A 0 0
        by_cases z : k = j
        · rw [z, setA_eq]; exact Nat.zero_le _
        · rw [setA_slot z]; exact bd.2.2 k hk⟩
      obtain ⟨ρ2, v1, v2, v3⟩ := s_put (d := d + 1) bd2 x2 (h := j) (e := e) hj (by show e < A 0 0; omega) (by show setA (rsJ A B.1 j) 11 j 0 11 j = 0; rw [setA_eq])
      refine ⟨ρ2, fun v τ k => p_X3_load_6_2 c1 o2 u1 o o o (by rw [hp, cj, e6, e9, e10]) (by rw [hp, e11]; exact gd') (by decide) (by rw [hp, e11, ee]; exact v1) (by rw [nplus]; exact k), ?_, g.tr (v3.up (by decide))⟩
      rw [← rsJ_step, he]
      rw [ex, setA_over] at v2
      exact v2) (σ := σ) ⟨by
        have : rsJ A B.1 0 = A := by funext a b; unfold rsJ; rw [if_neg (by omega)]
        rw [this]; exact rx, Fr.rf σ⟩
  have c12 : (nI (14 * s) + nI 12).toNatClampNeg = 14 * s + 12 := by rw [nplus]; exact clamp (by omega)
  have c13 : (nI (14 * s) + nI 12 + nI 1).toNatClampNeg = 14 * s + 13 := by rw [nplus, nplus]; exact clamp (by omega)
  have fin := p_X3_load_6_3 (d := d + 2) (σ := σ1) (l3 := nI (14 * s)) (l4 := nI (A 1 0)) (by rw [q1.2.1]; exact nI_nlt (Nat.le_refl _) (show A 1 0 < _ by omega)) (by rw [nplus, nplus]; exact vin (by omega) (by decide)) (by rw [nplus]; exact vin (by omega) (by decide)) rfl
  rw [c12, c13, sI_ne (by decide), f1.i (c := 20) (j := 14 * s + 12) rfl, f1.i (c := 20) (j := 14 * s + 13) rfl, hB.2.1, hB.2.2] at fin
  refine ⟨_, p_X3_load_0_1 (by rw [es]; exact w _ _ fin), ⟨⟨hW, ?_⟩, ?_, sI_eq⟩, ((f1.up (by decide)).sI rfl).sI rfl⟩
  · have f2 : Fr [(5, 16), (5, 17)] σ1 (hq_sI (hq_sI σ1 5 15 B.2.1) 5 16 B.2.2) := ((Fr.rf σ1).sI rfl).sI rfl
    obtain ⟨z1, z2, zD, zH, zS⟩ := q1
    -- onA agrees: the places of the hinges do
    have e11 : ∀ k, k < A 1 0 → rsJ A B.1 (A 1 0) 11 k = rst A B.1 11 k := fun k hk => by
      show (if (11 = 6 ∨ 11 = 9 ∨ 11 = 10 ∨ 11 = 11) ∧ k < A 1 0 then B.1 11 k else A 11 k) = B.1 11 k
      rw [if_pos ⟨by decide, hk⟩]
    have eon : ∀ p, onA (rsJ A B.1 (A 1 0)) p = onA (rst A B.1) p := fun p => sbits_congr fun k hk => by rw [e11 k hk]
    refine ⟨(f2.i rfl).trans z1, (f2.i rfl).trans z2, fun k hk => ?_, fun k hk => ?_, fun r z1 z2 => (f2.i rfl).trans (zS r z1 z2)⟩
    · obtain ⟨a1, a2, a3, a4, a5, a6⟩ := zD k hk
      refine ⟨(f2.i rfl).trans a1, (f2.i rfl).trans a2, (f2.i rfl).trans a3, (f2.i rfl).trans a4, (f2.i rfl).trans a5, ?_⟩
      rw [f2.i rfl, a6, eon]
    · obtain ⟨a1, a2, a3, a4, a5, a6⟩ := zH k hk
      have hk' : k < A 1 0 := hk
      refine ⟨(f2.i rfl).trans (a1.trans ?_), (f2.i rfl).trans a2, (f2.i rfl).trans a3, (f2.i rfl).trans (a4.trans ?_), (f2.i rfl).trans (a5.trans ?_), (f2.i rfl).trans (a6.trans ?_)⟩
      · show nI (if (6 = 6 ∨ 6 = 9 ∨ 6 = 10 ∨ 6 = 11) ∧ k < A 1 0 then B.1 6 k else A 6 k) = nI (B.1 6 k)
        rw [if_pos ⟨by decide, hk'⟩]
      · show nI (if (9 = 6 ∨ 9 = 9 ∨ 9 = 10 ∨ 9 = 11) ∧ k < A 1 0 then B.1 9 k else A 9 k) = nI (B.1 9 k)
        rw [if_pos ⟨by decide, hk'⟩]
      · show nI (if (10 = 6 ∨ 10 = 9 ∨ 10 = 10 ∨ 10 = 11) ∧ k < A 1 0 then B.1 10 k else A 10 k) = nI (B.1 10 k)
        rw [if_pos ⟨by decide, hk'⟩]
      · rw [e11 k hk']
  · rw [sI_slot (by decide), sI_eq]
end PA
