/-! order: acts read (class) -/
abbrev AI : Type := Nat × Nat × Nat
abbrev AR : Type := Bool × Nat × AI
def nuR (f : Nat → Nat) (T p : Nat) : Bool × Nat × Nat :=
  if dgA f T p 0 9 then (if dgA f T (p + 1) 0 9 then (true, p + 2, (f p - 48) * 10 + (f (p + 1) - 48)) else (true, p + 1, f p - 48)) else (false, p, 0)
def tlR (f : Nat → Nat) (T k w p a : Nat) : AR :=
  if isA f T p w then (if dgA f T (p + 1) 0 9 then (true, p + 2, (k, a, f (p + 1) - 48)) else (false, p + 1, (0, 0, 0))) else (false, p, (0, 0, 0))
def aR (f : Nat → Nat) (T p : Nat) : AR :=
  if isA f T p 110 then (true, stB (dgA f T (p + 1) 1 9) (p + 1), (3, if dgA f T (p + 1) 1 9 then f (p + 1) - 48 else 1, 0))
  else if isA f T p 116 then ((nuR f T (p + 1)).1, (nuR f T (p + 1)).2.1, (1, (nuR f T (p + 1)).2.2, 0))
  else if isA f T p 104 then (if (nuR f T (p + 1)).1 then tlR f T 0 62 (nuR f T (p + 1)).2.1 (nuR f T (p + 1)).2.2 else (false, (nuR f T (p + 1)).2.1, (0, 0, 0)))
  else if isA f T p 111 then (if (nuR f T (p + 1)).1 then tlR f T 2 42 (nuR f T (p + 1)).2.1 (nuR f T (p + 1)).2.2 else (false, (nuR f T (p + 1)).2.1, (0, 0, 0)))
  else (false, p, (0, 0, 0))
def oR (f : Nat → Nat) (T : Nat) : Nat → Nat → List AI → Bool × Nat × List AI
  | 0, p, L => (false, p, L)
  | m + 1, p, L => if (aR f T p).1 = true ∧ isA f T (aR f T p).2.1 59 = true then oR f T m ((aR f T p).2.1 + 1) (L ++ [(aR f T p).2.2]) else ((aR f T p).1, (aR f T p).2.1, L ++ [(aR f T p).2.2])
def okA (i : AI) : Prop := i.1 ≤ 3 ∧ i.2.1 ≤ 99 ∧ i.2.2 ≤ 9 ∧ (i.1 = 3 → 1 ≤ i.2.1 ∧ i.2.1 ≤ 9 ∧ i.2.2 = 0)
theorem okA0 : okA (0, 0, 0) := ⟨by decide, by decide, by decide, fun z => by cases z⟩
def kcA (k : Nat) : Nat := if k = 0 then 104 else if k = 1 then 116 else if k = 2 then 111 else 110
/-- as the class has it -/
def pkO (i : AI) : Nat := if i.1 = 3 then 110 * 65536 + 0 * 256 + i.2.1 else kcA i.1 * 65536 + i.2.1 * 256 + i.2.2
theorem encO : ∀ k, k < 4 → ∀ a, a < 100 → ∀ b, b < 10 → ((nI (kcA k) <<< (nI 16 &&& 31)) ||| (nI a <<< (nI 8 &&& 31))) ||| (nI b &&& nI 255) = nI (kcA k * 65536 + a * 256 + b) := by decide +kernel
theorem decO : ∀ k, k < 4 → ∀ a, a < 100 → ∀ b, b < 10 → (nI (kcA k * 65536 + a * 256 + b) >>> (nI 16 &&& 31)) = nI (kcA k) ∧ ((nI (kcA k * 65536 + a * 256 + b) >>> (nI 8 &&& 31)) &&& nI 255) = nI a ∧ (nI (kcA k * 65536 + a * 256 + b) &&& nI 255) = nI b := by decide +kernel
section OP
variable {f : Nat → Nat} {T : Nat}
theorem nuR_ok (hf : ∀ p, p < T → f p < 256) {p : Nat} (hp : p ≤ T) : p ≤ (nuR f T p).2.1 ∧ (nuR f T p).2.1 ≤ T ∧ (nuR f T p).2.2 ≤ 99 := by
  unfold nuR
  cases q1 : dgA f T p 0 9 with
  | false => exact ⟨Nat.le_refl _, hp, Nat.zero_le _⟩
  | true =>
    have b1 := dg_lt q1
    cases q2 : dgA f T (p + 1) 0 9 with
    | false => exact ⟨Nat.le_succ _, b1.1, by show f p - 48 ≤ 99; omega⟩
    | true =>
      have b2 := dg_lt q2
      exact ⟨by show p ≤ p + 2; omega, b2.1, by show (f p - 48) * 10 + (f (p + 1) - 48) ≤ 99; omega⟩
theorem tlR_ok (hf : ∀ p, p < T → f p < 256) {k w p a : Nat} (hp : p ≤ T) (hk : k ≤ 2) (ha : a ≤ 99) : p ≤ (tlR f T k w p a).2.1 ∧ (tlR f T k w p a).2.1 ≤ T ∧ okA (tlR f T k w p a).2.2 := by
  unfold tlR
  cases q1 : isA f T p w with
  | false => exact ⟨Nat.le_refl _, hp, okA0⟩
  | true =>
    have b1 := is_lt q1
    cases q2 : dgA f T (p + 1) 0 9 with
    | false => exact ⟨Nat.le_succ _, b1.1, okA0⟩
    | true =>
      have b2 := dg_lt q2
      exact ⟨by show p ≤ p + 2; omega, b2.1, by show k ≤ 3; omega, ha, by show f (p + 1) - 48 ≤ 9; omega, fun z => by have z : k = 3 := z; omega⟩
theorem aR_ok (hf : ∀ p, p < T → f p < 256) {p : Nat} (hp : p ≤ T) : p ≤ (aR f T p).2.1 ∧ (aR f T p).2.1 ≤ T ∧ okA (aR f T p).2.2 ∧ ((aR f T p).1 = true → p + 1 ≤ (aR f T p).2.1) := by
  unfold aR
  have z0 := okA0
  cases q1 : isA f T p 110 with
  | true =>
    have b1 := is_lt q1
    rw [if_pos rfl]
    cases q2 : dgA f T (p + 1) 1 9 with
    | false => exact ⟨Nat.le_succ _, b1.1, show okA (3, 1, 0) from ⟨by decide, by decide, by decide, fun _ => ⟨by decide, by decide, rfl⟩⟩, fun _ => Nat.le_refl _⟩
    | true =>
      have b2 := dg_lt q2
      exact ⟨by show p ≤ p + 1 + 1; omega, b2.1, show okA (3, f (p + 1) - 48, 0) from ⟨Nat.le_refl 3, by show f (p + 1) - 48 ≤ 99; omega, Nat.zero_le _, fun _ => ⟨by show 1 ≤ f (p + 1) - 48; omega, by show f (p + 1) - 48 ≤ 9; omega, rfl⟩⟩, fun _ => by show p + 1 ≤ p + 1 + 1; omega⟩
  | false =>
    rw [if_neg (by decide)]
    cases q2 : isA f T p 116 with
    | true =>
      have b1 := is_lt q2
      rw [if_pos rfl]
      obtain ⟨n1, n2, n3⟩ := nuR_ok hf (p := p + 1) b1.1
      exact ⟨by show p ≤ (nuR f T (p + 1)).2.1; omega, n2, show okA (1, (nuR f T (p + 1)).2.2, 0) from ⟨(by decide : 1 ≤ 3), n3, Nat.zero_le _, fun z => by cases z⟩, fun _ => n1⟩
    | false =>
      rw [if_neg (by decide)]
      cases q3 : isA f T p 104 with
      | true =>
        have b1 := is_lt q3
        rw [if_pos rfl]
        obtain ⟨n1, n2, n3⟩ := nuR_ok hf (p := p + 1) b1.1
        cases q5 : (nuR f T (p + 1)).1 with
        | false => exact ⟨by show p ≤ (nuR f T (p + 1)).2.1; omega, n2, z0, fun z => by cases z⟩
        | true =>
          rw [if_pos rfl]
          obtain ⟨t1, t2, t3⟩ := tlR_ok hf (k := 0) (w := 62) n2 (by decide) n3
          exact ⟨by omega, t2, t3, fun _ => by omega⟩
      | false =>
        rw [if_neg (by decide)]
        cases q4 : isA f T p 111 with
        | true =>
          have b1 := is_lt q4
          rw [if_pos rfl]
          obtain ⟨n1, n2, n3⟩ := nuR_ok hf (p := p + 1) b1.1
          cases q5 : (nuR f T (p + 1)).1 with
          | false => exact ⟨by show p ≤ (nuR f T (p + 1)).2.1; omega, n2, z0, fun z => by cases z⟩
          | true =>
            rw [if_pos rfl]
            obtain ⟨t1, t2, t3⟩ := tlR_ok hf (k := 2) (w := 42) n2 (by decide) n3
            exact ⟨by omega, t2, t3, fun _ => by omega⟩
        | false =>
          rw [if_neg (by decide)]
          exact ⟨Nat.le_refl _, hp, z0, fun z => by cases z⟩
theorem oR_ok (hf : ∀ p, p < T → f p < 256) : ∀ m {p : Nat} {L : List AI}, p ≤ T → (∀ i, i ∈ L → okA i) → L.length + m ≤ 30 → (oR f T m p L).2.1 ≤ T ∧ (∀ i, i ∈ (oR f T m p L).2.2 → okA i) ∧ (oR f T m p L).2.2.length ≤ 30
  | 0, p, L, hp, h, hm => ⟨hp, h, by show L.length ≤ 30; omega⟩
  | m + 1, p, L, hp, h, hm => by
    obtain ⟨a1, a2, a3, a4⟩ := aR_ok hf hp
    have h' : ∀ i, i ∈ L ++ [(aR f T p).2.2] → okA i := fun i hi => by
      rcases List.mem_append.mp hi with z | z
      · exact h i z
      · rw [List.mem_singleton.mp z]; exact a3
    have l' : (L ++ [(aR f T p).2.2]).length = L.length + 1 := by simp
    unfold oR
    by_cases q : (aR f T p).1 = true ∧ isA f T (aR f T p).2.1 59 = true
    · rw [if_pos q]
      exact oR_ok hf m (by have := (is_lt q.2).1; omega) h' (by omega)
    · rw [if_neg q]
      exact ⟨a2, h', by show (L ++ [(aR f T p).2.2]).length ≤ 30; omega⟩
end OP
def cO (L : List AI) (σ : hq_St) : Prop := σ.1 31 1 = nI L.length ∧ ∀ j i, L[j]? = some i → σ.1 32 j = nI (pkO i)
theorem cO.dep {L : List AI} : Dep [(31, 2), (32, 0)] (cO L) := fun σ τ e h => ⟨((e 31 1 rfl).1).trans h.1, fun j i hj => ((e 32 j rfl).1).trans (h.2 j i hj)⟩
def mO (L : List AI) (σ : hq_St) : Prop := σ.1 52 35 = nI L.length ∧ ∀ j i, L[j]? = some i → σ.1 70 j = nI i.1 ∧ σ.1 71 j = nI i.2.1 ∧ (i.1 = 0 ∨ i.1 = 2 → σ.1 72 j = nI i.2.2)
theorem mO.dep {L : List AI} : Dep [(52, 36), (70, 0), (71, 0), (72, 0)] (mO L) := fun σ τ e h => ⟨((e 52 35 rfl).1).trans h.1, fun j i hj => ⟨((e 70 j rfl).1).trans (h.2 j i hj).1, ((e 71 j rfl).1).trans (h.2 j i hj).2.1, fun z => ((e 72 j rfl).1).trans ((h.2 j i hj).2.2 z)⟩⟩
theorem snoc_get {α : Type} {L : List α} {a b : α} {j : Nat} (h : (L ++ [a])[j]? = some b) : (j < L.length ∧ L[j]? = some b) ∨ (j = L.length ∧ b = a) := by
  rw [List.getElem?_append] at h
  split at h
  · rename_i q; exact Or.inl ⟨q, h⟩
  · rename_i q
    by_cases e : j = L.length
    · subst e
      simp at h
      exact Or.inr ⟨rfl, h.symm⟩
    · rw [List.getElem?_eq_none (by simp; omega)] at h; cases h
section OC
variable {d n T : Nat} {f : Nat → Nat} {σ : hq_St}
theorem s_writeO {L : List AI} (h : cO L σ) (hl : L.length < 30) (l1 l2 l3 : Int32) : ∃ τ, hq_c 34 (d + 1) [.ref 31, .int l1, .int l2, .int l3] σ none τ ∧ (∀ i, ((l1 <<< (nI 16 &&& 31)) ||| (l2 <<< (nI 8 &&& 31))) ||| (l3 &&& nI 255) = nI (pkO i) → cO (L ++ [i]) τ) ∧ Fr [(31, 2), (32, 0)] σ τ := by
  have c : (σ.1 31 1).toNatClampNeg = L.length := by rw [h.1]; exact clamp (by omega)
  refine ⟨_, p_X2_write_0_1 (by rw [h.1]; exact nlt hl (by decide)) (by rw [h.1]; exact vin hl (by decide)) rfl, fun i e => ⟨?_, fun j t hj => ?_⟩, ((Fr.rf σ).sI rfl).sI rfl⟩
  · rw [sI_eq, sI_ne (by decide), h.1, nplus, List.length_append]; rfl
  · rw [sI_ne (by decide), c]
    rcases snoc_get hj with ⟨q1, q2⟩ | ⟨q1, q2⟩
    · rw [sI_slot (by omega)]; exact h.2 j t q2
    · rw [q1, sI_eq, e, q2]
theorem s_readNumO {p : Nat} (h : cZ n f T p σ) : ∃ τ, hq_c 33 (d + 3) [.ref 1] σ (some (.int (if (nuR f T p).1 then nI (nuR f T p).2.2 else -1))) τ ∧ cZ n f T (nuR f T p).2.1 τ ∧ Fr [(1, 3)] σ τ := by
  obtain ⟨σ1, g1, z1, f1⟩ := s_digit (d := d) h (lo := 0) (hi := 9) (by decide) (by decide)
  unfold nuR
  cases q1 : dgA f T p 0 9 with
  | false =>
    rw [q1] at g1 z1
    exact ⟨σ1, p_X2_readNumber_0_1 g1 rfl, z1, f1⟩
  | true =>
    rw [q1] at g1 z1
    have b1 := dg_lt q1
    have z1 : cZ n f T (p + 1) σ1 := z1
    obtain ⟨σ2, g2, z2, f2⟩ := s_digit (d := d) z1 (lo := 0) (hi := 9) (by decide) (by decide)
    cases q2 : dgA f T (p + 1) 0 9 with
    | false =>
      rw [q2] at g2 z2
      exact ⟨σ2, p_X2_readNumber_0_2 g1 (nm1 (by show f p - 48 < 4096; omega)) g2 rfl, z2, f1.tr f2⟩
    | true =>
      rw [q2] at g2 z2
      have b2 := dg_lt q2
      have P := p_X2_readNumber_0_3 g1 (nm1 (by omega)) g2 (nm1 (by omega))
      rw [if_pos rfl, if_pos rfl, nmul, nplus] at P
      exact ⟨σ2, P, z2, f1.tr f2⟩
theorem s_tail {p k w a : Nat} {L : List AI} (h : cZ n f T p σ) (hO : cO L σ) (hl : L.length < 30) (hk : k = 0 ∧ w = 62 ∨ k = 2 ∧ w = 42) (ha : a ≤ 99) : ∃ τ, hq_m 32 (d + 4) (some (.int (bI (tlR f T k w p a).1))) τ 72 [some (.ref 31), none, some (.int (nI (kcA k))), some (.int (nI a)), some (.int (if (tlR f T k w p a).1 then nI (tlR f T k w p a).2.2.2.2 else -1))] [] σ ∧ ((tlR f T k w p a).1 = true → cO (L ++ [(tlR f T k w p a).2.2]) τ) ∧ Fr [(31, 2), (32, 0)] σ τ := by
  have hf := h.hf
  obtain ⟨τ, g1, g2, g3⟩ := s_writeO (d := d + 2) hO hl (nI (kcA k)) (nI a) (if (tlR f T k w p a).1 then nI (tlR f T k w p a).2.2.2.2 else -1)
  have ok := (tlR_ok hf (k := k) (w := w) h.2.2.1 (by omega) ha).2.2
  have e0 : (tlR f T k w p a).1 = true → (tlR f T k w p a).2.2.1 = k ∧ (tlR f T k w p a).2.2.2.1 = a := by
    unfold tlR
    cases isA f T p w with
    | false => intro z; cases z
    | true =>
      cases dgA f T (p + 1) 0 9 with
      | false => intro z; cases z
      | true => intro z; exact ⟨rfl, rfl⟩
  generalize tlR f T k w p a = r at g1 g2 ok e0
  cases h1 : r.1 with
  | false =>
    rw [h1] at g1
    exact ⟨τ, p_X2_readAct_72_1 g1 rfl, (fun z => by cases z), g3⟩
  | true =>
    rw [h1] at g1 g2
    obtain ⟨e1, e2⟩ := e0 h1
    refine ⟨τ, p_X2_readAct_72_2 g1 (nm1 (by have := ok.2.2.1; omega)), fun _ => g2 _ ?_, g3⟩
    rw [if_pos rfl, encO k (by omega) a (by omega) _ (by have := ok.2.2.1; omega)]
    unfold pkO
    rw [if_neg (by omega), e1, e2]
theorem s_readAct {p : Nat} {L : List AI} (h : cZ n f T p σ) (hO : cO L σ) (hl : L.length < 30) : ∃ τ, hq_c 32 (d + 4) [.ref 31, .ref 1] σ (some (.int (bI (aR f T p).1))) τ ∧ cZ n f T (aR f T p).2.1 τ ∧ ((aR f T p).1 = true → cO (L ++ [(aR f T p).2.2]) τ) ∧ Fr [(1, 3), (31, 2), (32, 0)] σ τ := by
  have hf := h.hf
  have g0 := s_peek (d := d + 2) h
  have pe : ∀ w, w < 256 → (pkA f T p = nI w ↔ isA f T p w = true) := fun w hw => pkA_eq h hw
  unfold aR
  have ne : ∀ w, w < 256 → isA f T p w = false → ¬ pkA f T p = nI w := fun w hw q z => by rw [(pe w hw).mp z] at q; cases q
  cases q1 : isA f T p 110 with
  | true =>
    have b1 := is_lt q1
    rw [if_pos rfl]
    have e1 := (pe 110 (by decide)).mpr q1
    obtain ⟨zs, fs⟩ := h.sp b1.1
    obtain ⟨σ1, g1, z1, f1⟩ := s_digit (d := d + 1) zs (lo := 1) (hi := 9) (by decide) (by decide)
    have O1 := cO.dep.fr f1 (by decide) (cO.dep.fr fs (by decide) hO)
    have nn : ∀ w, w ≠ 110 → ¬ pkA f T p = nI w ∨ True := fun _ _ => Or.inr trivial
    have ent : ∀ v τ, hq_m 32 (d + 4) v τ 17 [some (.ref 31), some (.ref 1), some (.int (pkA f T p)), none, none] [] σ → hq_c 32 (d + 4) [.ref 31, .ref 1] σ v τ := fun v τ k => by
      rw [e1] at g0 k
      exact p_X2_readAct_0_4 g0 (by decide) (by decide) (by decide) rfl k
    cases q2 : dgA f T (p + 1) 1 9 with
    | false =>
      rw [q2] at g1 z1
      obtain ⟨τ, w1, w2, w3⟩ := s_writeO (d := d + 2) O1 hl (pkA f T p) (nI 0) (nI 1)
      refine ⟨τ, ent _ _ (p_X2_readAct_17_1 e1 g1 rfl w1), cZ.dep.fr w3 (by decide) z1, fun _ => w2 _ ?_, (fs.up (by decide)).tr ((f1.up (by decide)).tr (w3.up (by decide)))⟩
      rw [e1]
      exact encO 3 (by decide) 0 (by decide) 1 (by decide)
    | true =>
      rw [q2] at g1 z1
      have b2 := dg_lt q2
      obtain ⟨τ, w1, w2, w3⟩ := s_writeO (d := d + 2) O1 hl (pkA f T p) (nI 0) (nI (f (p + 1) - 48))
      refine ⟨τ, ent _ _ (p_X2_readAct_17_2 e1 g1 (nm1 (by omega)) w1), cZ.dep.fr w3 (by decide) z1, fun _ => w2 _ ?_, (fs.up (by decide)).tr ((f1.up (by decide)).tr (w3.up (by decide)))⟩
      rw [e1]
      exact encO 3 (by decide) 0 (by decide) _ (by omega)
  | false =>
    rw [if_neg (by decide)]
    have n110 := ne 110 (by decide) q1
    have num : p < T → ∃ σ1, hq_c 33 (d + 3) [.ref 1] (hq_sI σ 1 2 (σ.1 1 2 + nI 1)) (some (.int (if (nuR f T (p + 1)).1 then nI (nuR f T (p + 1)).2.2 else -1))) σ1 ∧ cZ n f T (nuR f T (p + 1)).2.1 σ1 ∧ cO L σ1 ∧ Fr [(1, 3)] σ σ1 := fun hp => by
      obtain ⟨zs, fs⟩ := h.sp hp
      obtain ⟨σ1, g1, z1, f1⟩ := s_readNumO (d := d) zs
      exact ⟨σ1, g1, z1, cO.dep.fr f1 (by decide) (cO.dep.fr fs (by decide) hO), fs.tr f1⟩
    cases q2 : isA f T p 116 with
    | true =>
      have b1 := is_lt q2
      rw [if_pos rfl]
      have e1 := (pe 116 (by decide)).mpr q2
      obtain ⟨n1, n2, n3⟩ := nuR_ok hf (p := p + 1) b1.1
      obtain ⟨σ1, g1, z1, O1, f1⟩ := num b1.1
      have ent : ∀ v τ, hq_m 32 (d + 4) v τ 17 [some (.ref 31), some (.ref 1), some (.int (pkA f T p)), none, none] [] σ → hq_c 32 (d + 4) [.ref 31, .ref 1] σ v τ := fun v τ k => by
        rw [e1] at g0 k
        exact p_X2_readAct_0_2 g0 (by decide) rfl k
      generalize nuR f T (p + 1) = r at n1 n2 n3 g1 z1
      cases h1 : r.1 with
      | false =>
        rw [h1] at g1
        exact ⟨σ1, ent _ _ (p_X2_readAct_17_3 n110 g1 rfl), z1, (fun z => by cases z), f1.up (by decide)⟩
      | true =>
        rw [h1] at g1
        obtain ⟨τ, w1, w2, w3⟩ := s_writeO (d := d + 2) O1 hl (pkA f T p) (nI r.2.2) (nI 0)
        refine ⟨τ, ent _ _ (p_X2_readAct_17_4 n110 g1 (nm1 (by omega)) e1 (p_X2_readAct_72_2 w1 (by decide))), cZ.dep.fr w3 (by decide) z1, fun _ => w2 _ ?_, (f1.up (by decide)).tr (w3.up (by decide))⟩
        rw [e1]
        exact encO 1 (by decide) r.2.2 (by omega) 0 (by decide)
    | false =>
      rw [if_neg (by decide)]
      have n116 := ne 116 (by decide) q2
      cases q3 : isA f T p 104 with
      | true =>
        have b1 := is_lt q3
        rw [if_pos rfl]
        have e1 := (pe 104 (by decide)).mpr q3
        obtain ⟨n1, n2, n3⟩ := nuR_ok hf (p := p + 1) b1.1
        obtain ⟨σ1, g1, z1, O1, f1⟩ := num b1.1
        have ent : ∀ v τ, hq_m 32 (d + 4) v τ 17 [some (.ref 31), some (.ref 1), some (.int (pkA f T p)), none, none] [] σ → hq_c 32 (d + 4) [.ref 31, .ref 1] σ v τ := fun v τ k => by
          rw [e1] at g0 k
          exact p_X2_readAct_0_1 g0 rfl k
        generalize nuR f T (p + 1) = r at n1 n2 n3 g1 z1
        cases h1 : r.1 with
        | false =>
          rw [h1] at g1
          exact ⟨σ1, ent _ _ (p_X2_readAct_17_3 n110 g1 rfl), z1, (fun z => by cases z), f1.up (by decide)⟩
        | true =>
          rw [h1] at g1
          rw [if_pos rfl]
          obtain ⟨σ2, g2, z2, f2⟩ := s_eat (d := d + 1) z1 (w := 62) (by decide)
          have O2 := cO.dep.fr f2 (by decide) O1
          cases q5 : isA f T r.2.1 62 with
          | false =>
            rw [q5] at g2 z2
            have et : tlR f T 0 62 r.2.1 r.2.2 = (false, r.2.1, (0, 0, 0)) := by unfold tlR; rw [q5]; rfl
            obtain ⟨τ, k1, k2, k3⟩ := s_tail (d := d) (k := 0) (w := 62) (a := r.2.2) (show cZ n f T r.2.1 σ2 from z2) O2 hl (Or.inl ⟨rfl, rfl⟩) n3
            rw [et] at k1 k2 ⊢
            exact ⟨τ, ent _ _ (p_X2_readAct_17_5 n110 g1 (nm1 (by omega)) n116 e1 g2 rfl (by rw [e1]; exact k1)), cZ.dep.fr k3 (by decide) z2, (fun z => by cases z), (f1.up (by decide)).tr ((f2.up (by decide)).tr (k3.up (by decide)))⟩
          | true =>
            rw [q5] at g2 z2
            have z2 : cZ n f T (r.2.1 + 1) σ2 := z2
            obtain ⟨σ3, g3, z3, f3⟩ := s_digit (d := d + 1) z2 (lo := 0) (hi := 9) (by decide) (by decide)
            have O3 := cO.dep.fr f3 (by decide) O2
            cases q6 : dgA f T (r.2.1 + 1) 0 9 with
            | false =>
              have et : tlR f T 0 62 r.2.1 r.2.2 = (false, r.2.1 + 1, (0, 0, 0)) := by unfold tlR; rw [q5, q6]; rfl
              rw [q6] at g3 z3
              obtain ⟨τ, w1, w2, w3⟩ := s_writeO (d := d + 2) O3 hl (pkA f T p) (nI r.2.2) (-1)
              rw [et]
              exact ⟨τ, ent _ _ (p_X2_readAct_17_6 n110 g1 (nm1 (by omega)) n116 e1 g2 (by decide) g3 (p_X2_readAct_72_1 w1 rfl)), cZ.dep.fr w3 (by decide) z3, (fun z => by cases z), (f1.up (by decide)).tr ((f2.up (by decide)).tr ((f3.up (by decide)).tr (w3.up (by decide))))⟩
            | true =>
              have b6 := dg_lt q6
              have et : tlR f T 0 62 r.2.1 r.2.2 = (true, r.2.1 + 2, (0, r.2.2, f (r.2.1 + 1) - 48)) := by unfold tlR; rw [q5, q6]; rfl
              rw [q6] at g3 z3
              obtain ⟨τ, w1, w2, w3⟩ := s_writeO (d := d + 2) O3 hl (pkA f T p) (nI r.2.2) (nI (f (r.2.1 + 1) - 48))
              rw [et]
              refine ⟨τ, ent _ _ (p_X2_readAct_17_6 n110 g1 (nm1 (by omega)) n116 e1 g2 (by decide) g3 (p_X2_readAct_72_2 w1 (nm1 (by omega)))), cZ.dep.fr w3 (by decide) z3, fun _ => w2 _ ?_, (f1.up (by decide)).tr ((f2.up (by decide)).tr ((f3.up (by decide)).tr (w3.up (by decide))))⟩
              rw [e1]
              exact encO 0 (by decide) r.2.2 (by omega) _ (by omega)
      | false =>
        rw [if_neg (by decide)]
        have n104 := ne 104 (by decide) q3
        cases q4 : isA f T p 111 with
        | true =>
          have b1 := is_lt q4
          rw [if_pos rfl]
          have e1 := (pe 111 (by decide)).mpr q4
          obtain ⟨n1, n2, n3⟩ := nuR_ok hf (p := p + 1) b1.1
          obtain ⟨σ1, g1, z1, O1, f1⟩ := num b1.1
          have ent : ∀ v τ, hq_m 32 (d + 4) v τ 17 [some (.ref 31), some (.ref 1), some (.int (pkA f T p)), none, none] [] σ → hq_c 32 (d + 4) [.ref 31, .ref 1] σ v τ := fun v τ k => by
            rw [e1] at g0 k
            exact p_X2_readAct_0_3 g0 (by decide) (by decide) rfl k
          generalize nuR f T (p + 1) = r at n1 n2 n3 g1 z1
          cases h1 : r.1 with
          | false =>
            rw [h1] at g1
            exact ⟨σ1, ent _ _ (p_X2_readAct_17_3 n110 g1 rfl), z1, (fun z => by cases z), f1.up (by decide)⟩
          | true =>
            rw [h1] at g1
            rw [if_pos rfl]
            obtain ⟨σ2, g2, z2, f2⟩ := s_eat (d := d + 1) z1 (w := 42) (by decide)
            have O2 := cO.dep.fr f2 (by decide) O1
            cases q5 : isA f T r.2.1 42 with
            | false =>
              rw [q5] at g2 z2
              have et : tlR f T 2 42 r.2.1 r.2.2 = (false, r.2.1, (0, 0, 0)) := by unfold tlR; rw [q5]; rfl
              obtain ⟨τ, k1, k2, k3⟩ := s_tail (d := d) (k := 2) (w := 42) (a := r.2.2) (show cZ n f T r.2.1 σ2 from z2) O2 hl (Or.inr ⟨rfl, rfl⟩) n3
              rw [et] at k1 k2 ⊢
              exact ⟨τ, ent _ _ (p_X2_readAct_17_7 n110 g1 (nm1 (by omega)) n116 n104 g2 rfl (by rw [e1]; exact k1)), cZ.dep.fr k3 (by decide) z2, (fun z => by cases z), (f1.up (by decide)).tr ((f2.up (by decide)).tr (k3.up (by decide)))⟩
            | true =>
              rw [q5] at g2 z2
              have z2 : cZ n f T (r.2.1 + 1) σ2 := z2
              obtain ⟨σ3, g3, z3, f3⟩ := s_digit (d := d + 1) z2 (lo := 0) (hi := 9) (by decide) (by decide)
              have O3 := cO.dep.fr f3 (by decide) O2
              cases q6 : dgA f T (r.2.1 + 1) 0 9 with
              | false =>
                have et : tlR f T 2 42 r.2.1 r.2.2 = (false, r.2.1 + 1, (0, 0, 0)) := by unfold tlR; rw [q5, q6]; rfl
                rw [q6] at g3 z3
                obtain ⟨τ, w1, w2, w3⟩ := s_writeO (d := d + 2) O3 hl (pkA f T p) (nI r.2.2) (-1)
                rw [et]
                exact ⟨τ, ent _ _ (p_X2_readAct_17_8 n110 g1 (nm1 (by omega)) n116 n104 g2 (by decide) g3 (p_X2_readAct_72_1 w1 rfl)), cZ.dep.fr w3 (by decide) z3, (fun z => by cases z), (f1.up (by decide)).tr ((f2.up (by decide)).tr ((f3.up (by decide)).tr (w3.up (by decide))))⟩
              | true =>
                have b6 := dg_lt q6
                have et : tlR f T 2 42 r.2.1 r.2.2 = (true, r.2.1 + 2, (2, r.2.2, f (r.2.1 + 1) - 48)) := by unfold tlR; rw [q5, q6]; rfl
                rw [q6] at g3 z3
                obtain ⟨τ, w1, w2, w3⟩ := s_writeO (d := d + 2) O3 hl (pkA f T p) (nI r.2.2) (nI (f (r.2.1 + 1) - 48))
                rw [et]
                refine ⟨τ, ent _ _ (p_X2_readAct_17_8 n110 g1 (nm1 (by omega)) n116 n104 g2 (by decide) g3 (p_X2_readAct_72_2 w1 (nm1 (by omega)))), cZ.dep.fr w3 (by decide) z3, fun _ => w2 _ ?_, (f1.up (by decide)).tr ((f2.up (by decide)).tr ((f3.up (by decide)).tr (w3.up (by decide))))⟩
                rw [e1]
                exact encO 2 (by decide) r.2.2 (by omega) _ (by omega)
        | false =>
          rw [if_neg (by decide)]
          have n111 := ne 111 (by decide) q4
          exact ⟨σ, p_X2_readAct_0_5 g0 n104 n116 n111 n110, h, (fun z => by cases z), Fr.rf σ⟩
theorem s_actsL (hf : ∀ i, i < T → f i < 256) : ∀ m p L σ, L.length + m = 30 → cZ n f T p σ → cO L σ → ∃ τ, hq_m 31 (d + 5) (some (.int (bI ((oR f T m p L).1 && decide ((oR f T m p L).2.1 = T))))) τ 5 [some (.ref 31), some (.ref 1), some (.int (nI (30 - m)))] [] σ ∧ cZ n f T (oR f T m p L).2.1 τ ∧ ((oR f T m p L).1 = true → cO (oR f T m p L).2.2 τ) ∧ Fr [(1, 3), (31, 2), (32, 0)] σ τ := by
  intro m
  induction m with
  | zero =>
    intro p L σ hm h hO
    exact ⟨σ, p_X2_readActs_5_5 (by decide), h, (fun z => by cases z), Fr.rf σ⟩
  | succ m ih =>
    intro p L σ hm h hO
    obtain ⟨σ1, g1, z1, b1, f1⟩ := s_readAct (d := d) h hO (by omega)
    obtain ⟨a1, a2, a3, a4⟩ := aR_ok hf h.2.2.1
    have e1 : oR f T (m + 1) p L = if (aR f T p).1 = true ∧ isA f T (aR f T p).2.1 59 = true then oR f T m ((aR f T p).2.1 + 1) (L ++ [(aR f T p).2.2]) else ((aR f T p).1, (aR f T p).2.1, L ++ [(aR f T p).2.2]) := rfl
    rw [e1]
    generalize aR f T p = l at g1 z1 b1 a1 a2 a3 a4
    have c1 : nI (30 - (m + 1)) < nI 30 := nlt (by omega) (by decide)
    cases h3 : l.1 with
    | false =>
      rw [h3] at g1
      rw [if_neg (fun z => by cases z.1)]
      exact ⟨σ1, p_X2_readActs_5_1 c1 g1 rfl, z1, (fun z => by cases z), f1⟩
    | true =>
      rw [h3] at g1
      have b1 := b1 h3
      have g2 := s_isOver (d := d + 2) z1
      by_cases q : l.2.1 = T
      · have n59 : isA f T l.2.1 59 = false := by unfold isA; simp; omega
        rw [n59, if_neg (fun z => by cases z.2)]
        rw [show decide (l.2.1 = T) = true by simp [q]] at g2
        dsimp only
        rw [show decide (l.2.1 = T) = true by simp [q]]
        exact ⟨σ1, p_X2_readActs_5_4 c1 g1 (by decide) g2 (by decide), z1, fun _ => b1, f1⟩
      · rw [show decide (l.2.1 = T) = false by simp [q]] at g2
        obtain ⟨σ2, g3, z2, f2⟩ := s_eat (d := d + 2) z1 (w := 59) (by decide)
        have B2 := cO.dep.fr f2 (by decide) b1
        have F2 := f1.tr (f2.up (G := [(1, 3), (31, 2), (32, 0)]) (by decide))
        cases q2 : isA f T l.2.1 59 with
        | false =>
          rw [q2] at g3 z2
          rw [if_neg (fun z => by cases z.2)]
          dsimp only
          rw [show decide (l.2.1 = T) = false by simp [q]]
          exact ⟨σ2, p_X2_readActs_5_2 c1 g1 (by decide) g2 rfl g3 rfl, z2, fun _ => B2, F2⟩
        | true =>
          rw [q2] at g3 z2
          rw [if_pos ⟨rfl, rfl⟩]
          obtain ⟨τ, k1, k2, k3, k4⟩ := ih (l.2.1 + 1) (L ++ [l.2.2]) σ2 (by simp; omega) z2 B2
          refine ⟨τ, p_X2_readActs_5_3 c1 g1 (by decide) g2 rfl g3 (by decide) ?_, k2, k3, F2.tr k4⟩
          rw [nplus, show 30 - (m + 1) + 1 = 30 - m by omega]
          exact k1
theorem s_readActs {p : Nat} (h : cZ n f T p σ) : ∃ τ, hq_c 31 (d + 5) [.ref 31, .ref 1] σ (some (.int (bI ((oR f T 30 p []).1 && decide ((oR f T 30 p []).2.1 = T))))) τ ∧ cZ n f T (oR f T 30 p []).2.1 τ ∧ ((oR f T 30 p []).1 = true → cO (oR f T 30 p []).2.2 τ) ∧ Fr [(1, 3), (31, 2), (32, 0)] σ τ := by
  have fr : Fr [(31, 2)] σ (hq_sI σ 31 1 (nI 0)) := (Fr.rf σ).sI rfl
  have B : cO [] (hq_sI σ 31 1 (nI 0)) := ⟨by rw [sI_eq]; rfl, fun j t hj => by simp at hj⟩
  obtain ⟨τ, k1, k2, k3, k4⟩ := s_actsL (d := d) h.hf 30 p [] _ rfl (cZ.dep.fr fr (by decide) h) B
  exact ⟨τ, p_X2_readActs_0_1 k1, k2, k3, (fr.up (by decide)).tr k4⟩
end OC
