/-! order: acts carried out (class) -/
abbrev OS : Type := TA × Int32 × Int32 × Nat
def doA (S : OS) (i : AI) : Bool × OS :=
  if i.1 = 0 then (!decide (hangR S.1 (nI i.2.1) (nI i.2.2) < 0), (hangT S.1 (nI i.2.1) (nI i.2.2), S.2.1, S.2.2.1, S.2.2.2))
  else if i.1 = 1 then (!decide (takeR S.1 (nI i.2.1) < 0), (takeT S.1 (nI i.2.1), S.2.1, S.2.2.1, S.2.2.2))
  else if i.1 = 2 then (!decide (oilR S.1 (nI i.2.1) (nI i.2.2) < 0), (oilT S.1 (nI i.2.1) (nI i.2.2), S.2.1, S.2.2.1, S.2.2.2))
  else (true, (daysA S.1 i.2.1, daysT S.1 S.2.1 i.2.1, daysY S.2.2.1 i.2.1, S.2.2.2 + daysP S.1 i.2.1))
def coA : List AI → Nat → OS → Bool × Nat × OS
  | [], k, S => (false, k, S)
  | i :: L, k, S => if (doA S i).1 then coA L (k + 1) (doA S i).2 else (true, k, (doA S i).2)
theorem coA_le : ∀ (L : List AI) (k : Nat) (S : OS), k ≤ (coA L k S).2.1 ∧ ((coA L k S).1 = true → (coA L k S).2.1 < k + L.length) ∧ ((coA L k S).1 = false → (coA L k S).2.1 = k + L.length)
  | [], k, S => ⟨Nat.le_refl _, (fun z => by cases z), fun _ => rfl⟩
  | i :: L, k, S => by
    unfold coA
    cases h : (doA S i).1 with
    | false => exact ⟨Nat.le_refl _, fun _ => by simp, fun z => by cases z⟩
    | true =>
      obtain ⟨a, b, c⟩ := coA_le L (k + 1) (doA S i).2
      rw [if_pos rfl]
      exact ⟨by omega, fun z => by have := b z; simp; omega, fun z => by have := c z; simp; omega⟩
def oCl (S : OS) (σ : hq_St) : Prop := cT S.1 S.2.1 S.2.2.1 σ ∧ σ.1 31 3 = nI S.2.2.2
def oMo (S : OS) (σ : hq_St) : Prop := mT S.1 S.2.1 S.2.2.1 σ ∧ σ.1 52 36 = nI S.2.2.2
section OE
variable {d n : Nat} {f : Nat → Nat} {σ : hq_St} {A : TA}
theorem s_carryOutOne {S : OS} {i : AI} (h : oCl S σ) (ok : okA i) : ∃ τ, hq_c 36 (d + 4) [.ref 31, .int (nI (pkO i)), .ref 5] σ (some (.int (bI (doA S i).1))) τ ∧ oCl (doA S i).2 τ ∧ Fr [(5, 16), (5, 17), (11, 0), (15, 0), (16, 0), (17, 0), (31, 4)] σ τ := by
  obtain ⟨⟨R, ht, hy⟩, hp⟩ := h
  obtain ⟨o1, o2, o3, o4⟩ := ok
  unfold doA
  by_cases q0 : i.1 = 0
  · rw [if_pos q0]
    have e : pkO i = kcA 0 * 65536 + i.2.1 * 256 + i.2.2 := by unfold pkO; rw [if_neg (by omega), q0]
    obtain ⟨e1, e2, e3⟩ := decO 0 (by decide) i.2.1 (by omega) i.2.2 (by omega)
    rw [← e] at e1 e2 e3
    obtain ⟨τ, g1, g2, g3⟩ := s_tryHang (d := d) R (nI i.2.1) (nI i.2.2)
    rw [← e2] at g1
    rw [← e3] at g1
    refine ⟨τ, ?_, ⟨⟨g2, (g3.i rfl).trans ht, (g3.i rfl).trans hy⟩, (g3.i rfl).trans hp⟩, g3.up (by decide)⟩
    by_cases c : hangR S.1 (nI i.2.1) (nI i.2.2) < 0
    · rw [decide_eq_true c]
      exact p_X2_carryOutOne_0_1 e1 g1 (by rw [e2, e3]; exact c)
    · rw [decide_eq_false c]
      exact p_X2_carryOutOne_0_2 e1 g1 (by rw [e2, e3]; exact c)
  · rw [if_neg q0]
    by_cases q1 : i.1 = 1
    · rw [if_pos q1]
      have e : pkO i = kcA 1 * 65536 + i.2.1 * 256 + i.2.2 := by unfold pkO; rw [if_neg (by omega), q1]
      obtain ⟨e1, e2, e3⟩ := decO 1 (by decide) i.2.1 (by omega) i.2.2 (by omega)
      rw [← e] at e1 e2 e3
      obtain ⟨τ, g1, g2, g3⟩ := s_tryTake (d := d) R (nI i.2.1)
      rw [← e2] at g1
      refine ⟨τ, ?_, ⟨⟨g2, (g3.i rfl).trans ht, (g3.i rfl).trans hy⟩, (g3.i rfl).trans hp⟩, g3.up (by decide)⟩
      by_cases c : takeR S.1 (nI i.2.1) < 0
      · rw [decide_eq_true c]
        exact p_X2_carryOutOne_0_5 (by rw [e1]; decide) (by rw [e1]; decide) e1 g1 (by rw [e2]; exact c)
      · rw [decide_eq_false c]
        exact p_X2_carryOutOne_0_6 (by rw [e1]; decide) (by rw [e1]; decide) e1 g1 (by rw [e2]; exact c)
    · rw [if_neg q1]
      by_cases q2 : i.1 = 2
      · rw [if_pos q2]
        have e : pkO i = kcA 2 * 65536 + i.2.1 * 256 + i.2.2 := by unfold pkO; rw [if_neg (by omega), q2]
        obtain ⟨e1, e2, e3⟩ := decO 2 (by decide) i.2.1 (by omega) i.2.2 (by omega)
        rw [← e] at e1 e2 e3
        obtain ⟨τ, g1, g2, g3⟩ := s_tryOil (d := d + 1) R (nI i.2.1) (nI i.2.2)
        rw [← e2] at g1
        rw [← e3] at g1
        refine ⟨τ, ?_, ⟨⟨g2, (g3.i rfl).trans ht, (g3.i rfl).trans hy⟩, (g3.i rfl).trans hp⟩, g3.up (by decide)⟩
        by_cases c : oilR S.1 (nI i.2.1) (nI i.2.2) < 0
        · rw [decide_eq_true c]
          exact p_X2_carryOutOne_0_3 (by rw [e1]; decide) e1 g1 (by rw [e2, e3]; exact c)
        · rw [decide_eq_false c]
          exact p_X2_carryOutOne_0_4 (by rw [e1]; decide) e1 g1 (by rw [e2, e3]; exact c)
      · rw [if_neg q2]
        have q3 : i.1 = 3 := by omega
        obtain ⟨p1, p2, p3⟩ := o4 q3
        have e : pkO i = kcA 3 * 65536 + 0 * 256 + i.2.1 := by unfold pkO; rw [if_pos q3]; rfl
        obtain ⟨e1, e2, e3⟩ := decO 3 (by decide) 0 (by decide) i.2.1 (by omega)
        rw [← e] at e1 e2 e3
        obtain ⟨τ, w, h2, f2⟩ := hq_w.for (x := 36) (d := d + 4) (i := 42) (fun j => [some (.ref 31), none, some (.ref 5), none, some (.int (nI i.2.1)), some (.int (nI j))]) (fun j ρ => oCl (daysA S.1 j, daysT S.1 S.2.1 j, daysY S.2.2.1 j, S.2.2.2 + daysP S.1 j) ρ ∧ Fr [(5, 16), (5, 17), (15, 0), (16, 0), (31, 4)] σ ρ) i.2.1 (fun j hj ρ ⟨q, fr⟩ => by
          obtain ⟨ρ', c, r, f'⟩ := s_passDay (d := d + 2) q.1
          have q2 : ρ.1 31 3 = nI (S.2.2.2 + daysP S.1 j) := q.2
          have q3 : ρ.1 31 3 + nI (paidA (daysA S.1 j)) = nI (S.2.2.2 + daysP S.1 (j + 1)) := by rw [q2, nplus, Nat.add_assoc]; rfl
          refine ⟨hq_sI ρ' 31 3 (nI (S.2.2.2 + daysP S.1 (j + 1))), fun v τ k => p_X2_carryOutOne_42_1 (nlt hj (by omega)) c ?_, ⟨cT.dep.fr (show Fr [(31, 4)] ρ' _ from (Fr.rf ρ').sI rfl) (by decide) r, sI_eq⟩, (fr.tr (f'.up (by decide))).sI rfl⟩
          rw [q3, nplus]
          exact k) (σ := σ) ⟨⟨⟨R, ht, hy⟩, hp⟩, Fr.rf σ⟩
        refine ⟨τ, p_X2_carryOutOne_0_7 (by rw [e1]; decide) (by rw [e1]; decide) (by rw [e1]; decide) ?_, h2, f2.up (by decide)⟩
        rw [e3]
        exact w _ _ (p_X2_carryOutOne_42_2 (nI_nlt (Nat.le_refl _) (by omega)))
theorem s_carryL : ∀ (L : List AI) (k : Nat) (S : OS) (σ : hq_St), (∀ j i, L[j]? = some i → σ.1 32 (k + j) = nI (pkO i)) → k + L.length ≤ 30 → (∀ i, i ∈ L → okA i) → oCl S σ → σ.1 31 2 = nI 0 → ∃ τ, hq_m 35 (d + 5) (some (.int (nI (coA L k S).2.1))) τ 15 [some (.ref 31), none, some (.ref 5), some (.int (nI (k + L.length))), some (.int (nI k))] [] σ ∧ oCl (coA L k S).2.2 τ ∧ τ.1 31 2 = bI (coA L k S).1 ∧ Fr [(5, 16), (5, 17), (11, 0), (15, 0), (16, 0), (17, 0), (31, 3), (31, 4)] σ τ := by
  intro L
  induction L with
  | nil =>
    intro k S σ hL hk ok h h2
    exact ⟨σ, p_X2_carryOut_15_3 (nI_nlt (Nat.le_refl _) (by show k < _; simp at hk; omega)), h, h2, Fr.rf σ⟩
  | cons i L ih =>
    intro k S σ hL hk ok h h2
    have hl : (i :: L).length = L.length + 1 := rfl
    rw [hl] at hk ⊢
    have e0 : σ.1 32 (nI k).toNatClampNeg = nI (pkO i) := by rw [clamp (by omega)]; exact hL 0 i rfl
    obtain ⟨σ1, g1, h1, f1⟩ := s_carryOutOne (d := d) h (ok i (by simp))
    have c1 : nI k < nI (k + (L.length + 1)) := nlt (by omega) (by omega)
    have o1 : vp_in (nI k) 30 := vin (by omega) (by decide)
    unfold coA
    cases hd : (doA S i).1 with
    | false =>
      rw [hd] at g1
      have fz : Fr [(31, 3)] σ1 (hq_sI σ1 31 2 (nI 1)) := (Fr.rf σ1).sI rfl
      rw [if_neg (by decide)]
      exact ⟨_, p_X2_carryOut_15_1 c1 o1 (by rw [e0]; exact g1) rfl (by decide), ⟨cT.dep.fr fz (by decide) h1.1, (fz.i rfl).trans h1.2⟩, by rw [sI_eq]; rfl, (f1.up (by decide)).tr (fz.up (by decide))⟩
    | true =>
      rw [hd] at g1
      rw [if_pos rfl]
      obtain ⟨τ, k1, k2, k3, k4⟩ := ih (k + 1) (doA S i).2 σ1 (fun j t hj => by
        rw [f1.i rfl, show k + 1 + j = k + (j + 1) by omega]
        exact hL (j + 1) t (by simpa using hj)) (by omega) (fun t ht => ok t (by simp [ht])) h1 ((f1.i rfl).trans h2)
      refine ⟨τ, p_X2_carryOut_15_2 c1 o1 (by rw [e0]; exact g1) (by decide) ?_, k2, k3, (f1.up (by decide)).tr k4⟩
      rw [nplus, show k + (L.length + 1) = k + 1 + L.length by omega]
      exact k1
theorem s_carryOut {L : List AI} {t y : Int32} (b : Bool) (hO : b = true → cO L σ) (hb : b = false → L = []) (hl : L.length ≤ 30) (ok : ∀ i, i ∈ L → okA i) (h : cT A t y σ) : ∃ τ, hq_c 35 (d + 5) [.ref 31, .int (bI b), .ref 5] σ (some (.int (nI (coA L 0 (A, t, y, 0)).2.1))) τ ∧ oCl (coA L 0 (A, t, y, 0)).2.2 τ ∧ τ.1 31 2 = bI (coA L 0 (A, t, y, 0)).1 ∧ Fr [(5, 16), (5, 17), (11, 0), (15, 0), (16, 0), (17, 0), (31, 3), (31, 4)] σ τ := by
  have f0 : Fr [(31, 3), (31, 4)] σ (hq_sI (hq_sI σ 31 2 (nI 0)) 31 3 (nI 0)) := ((Fr.rf σ).sI rfl).sI rfl
  have h0 : oCl (A, t, y, 0) (hq_sI (hq_sI σ 31 2 (nI 0)) 31 3 (nI 0)) := ⟨cT.dep.fr f0 (by decide) h, sI_eq⟩
  have r0 : (hq_sI (hq_sI σ 31 2 (nI 0)) 31 3 (nI 0)).1 31 2 = nI 0 := by rw [sI_slot (by decide), sI_eq]
  cases b with
  | false =>
    rw [hb rfl]
    obtain ⟨τ, k1, k2, k3, k4⟩ := s_carryL (d := d) [] 0 (A, t, y, 0) _ (fun j i hj => by simp at hj) (by decide) (fun i hi => by simp at hi) h0 r0
    exact ⟨τ, p_X2_carryOut_0_1 (by decide) rfl k1, k2, k3, (f0.up (by decide)).tr k4⟩
  | true =>
    have O := cO.dep.fr f0 (by decide) (hO rfl)
    obtain ⟨τ, k1, k2, k3, k4⟩ := s_carryL (d := d) L 0 (A, t, y, 0) _ (fun j i hj => by rw [Nat.zero_add]; exact O.2 j i hj) (by omega) ok h0 r0
    refine ⟨τ, p_X2_carryOut_0_2 (by decide) (by decide) ?_, k2, k3, (f0.up (by decide)).tr k4⟩
    rw [O.1]
    rw [Nat.zero_add] at k1
    exact k1
def orO (n : Nat) (f : Nat → Nat) : Bool × Nat × List AI := if n = 0 then (true, 0, []) else oR f (min n 60) 30 0 []
def orK (n : Nat) (f : Nat → Nat) : Bool := (orO n f).1 && decide ((orO n f).2.1 = n)
def orC (A : TA) (t y : Int32) (n : Nat) (f : Nat → Nat) : Bool × Nat × OS := coA (orO n f).2.2 0 (A, t, y, 0)
def ordR (A : TA) (t y : Int32) (n : Nat) (f : Nat → Nat) : Int32 := if orK n f then nI (orC A t y n f).2.1 else (-1 : Int32) - nI (orO n f).2.1
def ordS (A : TA) (t y : Int32) (n : Nat) (f : Nat → Nat) : Snap := if orK n f then ((orC A t y n f).2.2.1, (orC A t y n f).2.2.2.1, (orC A t y n f).2.2.2.2.1) else (A, t, y)
def ordP (A : TA) (t y : Int32) (n : Nat) (f : Nat → Nat) (P : List Snap) : List Snap := if orK n f then (if (orC A t y n f).2.1 = 0 then P else addP (A, t, y) P) else P
def ordL (A : TA) (t y : Int32) (n : Nat) (f : Nat → Nat) (L : List Int64) : List Int64 := if orK n f then [(bI (orC A t y n f).1).toInt64, (nI (orC A t y n f).2.2.2.2.2).toInt64] else L
theorem orO_ok (hX : ∀ j, j < n → f j < 256) : (orO n f).2.1 ≤ min n 60 ∧ (∀ i, i ∈ (orO n f).2.2 → okA i) ∧ (orO n f).2.2.length ≤ 30 := by
  unfold orO
  by_cases q : n = 0
  · rw [if_pos q]; exact ⟨Nat.zero_le _, fun i hi => by simp at hi, by decide⟩
  · rw [if_neg q]; exact oR_ok (fun p hp => hX p (by omega)) 30 (Nat.zero_le _) (fun i hi => by simp at hi) (by decide)
/-- behind the reading: marked, carried out, sealed, told -/
theorem s_orderEnd {t y : Int32} {P : List Snap} {K : Shf} {L : List AI} (b : Bool) (R : cT A t y σ) (hP : cP (A 1 0) P K σ) (hO : b = true → cO L σ) (hb : b = false → L = []) (hl : L.length ≤ 30) (ok : ∀ i, i ∈ L → okA i) : ∃ ρ1 ρ2 ρ3 ρ4 ρ5, hq_c 38 (d + 5) [.ref 19, .ref 5] σ none ρ1 ∧ ρ1.1 1 1 = σ.1 1 1 ∧ hq_c 35 (d + 5) [.ref 31, .int (bI b), .ref 5] ρ1 (some (.int (nI (coA L 0 (A, t, y, 0)).2.1))) ρ2 ∧ ((coA L 0 (A, t, y, 0)).2.1 ≠ 0 → hq_c 39 (d + 5) [.ref 19] ρ2 none ρ3) ∧ ((coA L 0 (A, t, y, 0)).2.1 = 0 → ρ3 = ρ2) ∧ hq_c 46 (d + 5) [.ref 3] ρ3 none ρ4 ∧ ρ4.1 31 2 = bI (coA L 0 (A, t, y, 0)).1 ∧ hq_c 47 (d + 5) [.ref 3, .long (bI (coA L 0 (A, t, y, 0)).1).toInt64] ρ4 none ρ5 ∧ ∃ ρ6, hq_c 47 (d + 5) [.ref 3, .long (ρ5.1 31 3).toInt64] ρ5 none ρ6 ∧ cT (coA L 0 (A, t, y, 0)).2.2.1 (coA L 0 (A, t, y, 0)).2.2.2.1 (coA L 0 (A, t, y, 0)).2.2.2.2.1 ρ6 ∧ cP (A 1 0) (if (coA L 0 (A, t, y, 0)).2.1 = 0 then P else addP (A, t, y) P) K ρ6 ∧ cR [(bI (coA L 0 (A, t, y, 0)).1).toInt64, (nI (coA L 0 (A, t, y, 0)).2.2.2.2.2).toInt64] ρ6 ∧ Fr [(3, 2), (4, 0), (5, 16), (5, 17), (11, 0), (15, 0), (16, 0), (17, 0), (19, 5), (19, 6), (20, 0), (31, 3), (31, 4)] σ ρ6 := by
  obtain ⟨ρ1, a1, a2, a3⟩ := s_mark (d := d + 3) R hP
  obtain ⟨ρ2, b1, b2, b3, b4⟩ := s_carryOut (d := d) b (fun z => cO.dep.fr a3 (by decide) (hO z)) hb hl ok (cT.dep.fr a3 (by decide) R)
  have P2 := cPm.dep.fr b4 (by decide) a2
  generalize coA L 0 (A, t, y, 0) = C at b1 b2 b3
  have fin : ∃ ρ3, (C.2.1 ≠ 0 → hq_c 39 (d + 5) [.ref 19] ρ2 none ρ3) ∧ (C.2.1 = 0 → ρ3 = ρ2) ∧ cP (A 1 0) (if C.2.1 = 0 then P else addP (A, t, y) P) K ρ3 ∧ Fr [(19, 5), (19, 6)] ρ2 ρ3 := by
    by_cases q : C.2.1 = 0
    · rw [if_pos q]
      exact ⟨ρ2, fun z => absurd q z, fun _ => rfl, P2.of, Fr.rf _⟩
    · rw [if_neg q]
      obtain ⟨ρ3, c1, c2, c3⟩ := s_seal (d := d + 4) P2
      exact ⟨ρ3, fun _ => c1, fun z => absurd z q, c2, c3⟩
  obtain ⟨ρ3, c1, c2, c3, c4⟩ := fin
  obtain ⟨ρ4, d1, d2, d3⟩ := s_clear (d := d + 4) (σ := ρ3)
  obtain ⟨ρ5, e1, e2, e3⟩ := s_add (d := d + 4) d2 (by decide) (bI C.1).toInt64
  have p5 : ρ5.1 31 3 = nI C.2.2.2.2.2 := by rw [e3.i rfl, d3.i rfl, c4.i rfl]; exact b2.2
  obtain ⟨ρ6, g1, g2, g3⟩ := s_add (d := d + 4) e2 (by simp) (ρ5.1 31 3).toInt64
  rw [p5] at g2
  have F : Fr [(3, 2), (4, 0), (19, 5), (19, 6)] ρ2 ρ6 := (c4.up (by decide)).tr ((d3.up (by decide)).tr ((e3.up (by decide)).tr (g3.up (by decide))))
  have F3 : Fr [(3, 2), (4, 0)] ρ3 ρ6 := d3.tr (e3.tr g3)
  exact ⟨ρ1, ρ2, ρ3, ρ4, ρ5, a1, a3.i rfl, b1, c1, c2, d1, by rw [d3.i rfl, c4.i rfl]; exact b3, e1, ρ6, g1, cT.dep.fr F (by decide) b2.1, cP.dep.fr F3 (by decide) c3, g2, (a3.up (by decide)).tr ((b4.up (by decide)).tr (F.up (by decide)))⟩
theorem lnb (b : Bool) : (bI b).toInt64 = if b then lN 1 else lN 0 := by cases b <;> decide
theorem s_order {t y : Int32} {P : List Snap} {K : Shf} {L : List Int64} (R : cT A t y σ) (h : cX n f σ) (hP : cP (A 1 0) P K σ) (hL : cR L σ) : ∃ τ, hq_c 125 (d + 6) [.ref 0] σ (some (.int (ordR A t y n f))) τ ∧ cT (ordS A t y n f).1 (ordS A t y n f).2.1 (ordS A t y n f).2.2 τ ∧ cX 0 f τ ∧ cP (A 1 0) (ordP A t y n f P) K τ ∧ cR (ordL A t y n f L) τ ∧ Fr [(1, 2), (1, 3), (1, 4), (3, 2), (4, 0), (5, 16), (5, 17), (11, 0), (15, 0), (16, 0), (17, 0), (19, 5), (19, 6), (20, 0), (31, 2), (31, 3), (31, 4), (32, 0)] σ τ := by
  have h80 := h.1
  obtain ⟨r1, r2, r3⟩ := orO_ok (n := n) (f := f) (fun j hj => (h.2.2 j hj).1)
  obtain ⟨σ1, g1, z1, f1⟩ := s_open (d := d + 4) h (k := 60) (by decide)
  have R1 := cT.dep.fr f1 (by decide) R
  have P1 := cP.dep.fr f1 (by decide) hP
  have L1 := cR.dep.fr f1 (by decide) hL
  have F1 := f1.up (G := [(1, 2), (1, 3), (1, 4), (3, 2), (4, 0), (5, 16), (5, 17), (11, 0), (15, 0), (16, 0), (17, 0), (19, 5), (19, 6), (20, 0), (31, 2), (31, 3), (31, 4), (32, 0)]) (by decide)
  have fin : ∀ ρ : hq_St, Fr [(1, 2)] ρ (hq_sI ρ 1 1 (nI 0)) ∧ cX 0 f (hq_sI ρ 1 1 (nI 0)) := fun ρ => ⟨(Fr.rf ρ).sI rfl, ⟨by omega, by rw [sI_eq], fun j hj => by omega⟩⟩
  unfold ordR ordS ordP ordL orC orK
  by_cases q : n = 0
  · have eo : orO n f = (true, 0, []) := by unfold orO; rw [if_pos q]
    rw [eo]
    have ek : ((true, 0, ([] : List AI)).1 && decide ((true, 0, ([] : List AI)).2.1 = n)) = true := by rw [q]; rfl
    rw [ek]
    rw [if_pos rfl, if_pos rfl, if_pos rfl, if_pos rfl]
    obtain ⟨ρ1, ρ2, ρ3, ρ4, ρ5, a1, a2, a3, a4, a5, a6, a7, a8, ρ6, a9, b1, b2, b3, b4⟩ := s_orderEnd (d := d) (L := []) false R1 P1 (fun z => by cases z) (fun _ => rfl) (by decide) (fun i hi => by simp at hi)
    obtain ⟨fz, xz⟩ := fin ρ6
    have e3 : ρ3 = ρ2 := a5 rfl
    subst e3
    exact ⟨_, p_X9_order_0_8 g1 (by rw [z1.1.2.1, q]; rfl) (by decide) a1 (by rw [a2, z1.1.2.1, q]; decide) a3 (show ¬ (0 : Int32) < nI 0 by decide) a6 (by rw [a7]; rfl) a8 a9, cT.dep.fr fz (by decide) b1, xz, cP.dep.fr fz (by decide) b2, cR.dep.fr fz (by decide) b3, F1.tr ((b4.up (by decide)).tr (fz.up (by decide)))⟩
  · have eo : orO n f = oR f (min n 60) 30 0 [] := by unfold orO; rw [if_neg q]
    have c1 : ¬ σ1.1 1 1 = 0 := by rw [z1.1.2.1]; exact nI_ne0 (by omega) (by omega)
    obtain ⟨σ2, g2, z2, b2, f2⟩ := s_readActs (d := d) z1
    have R2 := cT.dep.fr f2 (by decide) R1
    have P2 := cP.dep.fr f2 (by decide) P1
    have L2 := cR.dep.fr f2 (by decide) L1
    have F2 := F1.tr (f2.up (G := [(1, 2), (1, 3), (1, 4), (3, 2), (4, 0), (5, 16), (5, 17), (11, 0), (15, 0), (16, 0), (17, 0), (19, 5), (19, 6), (20, 0), (31, 2), (31, 3), (31, 4), (32, 0)]) (by decide))
    rw [← eo] at g2 z2 b2
    generalize orO n f = r at g2 z2 b2 r1 r2 r3
    cases hk : (r.1 && decide (r.2.1 = n)) with
    | false =>
      rw [if_neg (by decide), if_neg (by decide), if_neg (by decide), if_neg (by decide)]
      obtain ⟨fz, xz⟩ := fin σ2
      refine ⟨_, ?_, cT.dep.fr fz (by decide) R2, xz, cP.dep.fr fz (by decide) P2, cR.dep.fr fz (by decide) L2, F2.tr (fz.up (by decide))⟩
      cases h1 : (r.1 && decide (r.2.1 = min n 60)) with
      | false =>
        rw [h1] at g2
        have P := p_X9_order_0_10 g1 c1 g2 rfl rfl
        rw [z2.2.2.2.1] at P
        exact P
      | true =>
        rw [h1] at g2
        have w := s_isWhole (d := d + 4) z2
        have : decide (r.2.1 = n) = false := by
          cases a : r.1 with
          | false => rw [a] at h1; cases h1
          | true => rw [a] at hk; exact hk
        rw [this] at w
        have P := p_X9_order_0_19 g1 c1 g2 (by decide) w rfl rfl
        rw [z2.2.2.2.1] at P
        exact P
    | true =>
      rw [if_pos rfl, if_pos rfl, if_pos rfl, if_pos rfl]
      obtain ⟨k1, k2⟩ : r.1 = true ∧ r.2.1 = n := by simpa using hk
      rw [k1, show decide (r.2.1 = min n 60) = true by simp; omega] at g2
      have w := s_isWhole (d := d + 4) z2
      rw [show decide (r.2.1 = n) = true by simp [k2]] at w
      obtain ⟨ρ1, ρ2, ρ3, ρ4, ρ5, a1, a2, a3, a4, a5, a6, a7, a8, ρ6, a9, x1, x2, x3, x4⟩ := s_orderEnd (d := d) (L := r.2.2) true R2 P2 (fun _ => b2 k1) (fun z => by cases z) r3 r2
      obtain ⟨fz, xz⟩ := fin ρ6
      have c5 : (0 : Int32) < ρ1.1 1 1 := by rw [a2, z2.1.2.1]; exact nlt (a := 0) (by omega) (by omega)
      have cl := (coA_le r.2.2 0 (A, t, y, 0))
      generalize coA r.2.2 0 (A, t, y, 0) = C at a3 a4 a5 a7 a8 x1 x2 x3 cl
      have b30 : C.2.1 < 2 ^ 31 := by
        cases hc : C.1 with
        | false => have := cl.2.2 hc; omega
        | true => have := cl.2.1 hc; omega
      have rest : cT C.2.2.1 C.2.2.2.1 C.2.2.2.2.1 (hq_sI ρ6 1 1 (nI 0)) ∧ cX 0 f (hq_sI ρ6 1 1 (nI 0)) ∧ cP (A 1 0) (if C.2.1 = 0 then P else addP (A, t, y) P) K (hq_sI ρ6 1 1 (nI 0)) ∧ cR [(bI C.1).toInt64, (nI C.2.2.2.2.2).toInt64] (hq_sI ρ6 1 1 (nI 0)) ∧ Fr [(1, 2), (1, 3), (1, 4), (3, 2), (4, 0), (5, 16), (5, 17), (11, 0), (15, 0), (16, 0), (17, 0), (19, 5), (19, 6), (20, 0), (31, 2), (31, 3), (31, 4), (32, 0)] σ (hq_sI ρ6 1 1 (nI 0)) := ⟨cT.dep.fr fz (by decide) x1, xz, cP.dep.fr fz (by decide) x2, cR.dep.fr fz (by decide) x3, F2.tr ((x4.up (by decide)).tr (fz.up (by decide)))⟩
      refine ⟨_, ?_, rest⟩
      rw [lnb] at a8
      by_cases q0 : C.2.1 = 0
      · have e3 : ρ3 = ρ2 := a5 q0
        subst e3
        have n0 : ¬ (0 : Int32) < nI C.2.1 := fun z => (z_lt b30).mp z q0
        cases hc : C.1 with
        | false =>
          rw [hc] at a7 a8
          exact p_X9_order_0_31 g1 c1 g2 (by decide) w (by decide) (by decide) a1 c5 a3 n0 a6 a7 a8 a9
        | true =>
          rw [hc] at a7 a8
          exact p_X9_order_0_32 g1 c1 g2 (by decide) w (by decide) (by decide) a1 c5 a3 n0 a6 (by rw [a7]; decide) a8 a9
      · have n0 : (0 : Int32) < nI C.2.1 := (z_lt b30).mpr q0
        cases hc : C.1 with
        | false =>
          rw [hc] at a7 a8
          exact p_X9_order_0_29 g1 c1 g2 (by decide) w (by decide) (by decide) a1 c5 a3 n0 (a4 q0) a6 a7 a8 a9
        | true =>
          rw [hc] at a7 a8
          exact p_X9_order_0_30 g1 c1 g2 (by decide) w (by decide) (by decide) a1 c5 a3 n0 (a4 q0) a6 (by rw [a7]; decide) a8 a9
end OE
