/-! Acts: hang, take, oil, bend, days, gale. -/
def sealP (r : Int32) (B : Snap) (P : List Snap) : List Snap := if r < 0 then P else addP B P
section AC
variable {d : Nat} {σ : hq_St} {A : TA}
theorem s_sealed {n : Nat} {P : List Snap} {K : Shf} {B : Snap} (h : cPm n P K B σ) (r : Int32) : ∃ τ, hq_c 163 (d + 2) [.ref 0, .int r] σ (some (.int r)) τ ∧ cP n (sealP r B P) K τ ∧ Fr [(19, 5), (19, 6)] σ τ := by
  unfold sealP
  by_cases c : r < 0
  · rw [if_pos c]
    exact ⟨σ, p_X9_sealed_0_1 c, h.of, Fr.rf σ⟩
  · rw [if_neg c]
    obtain ⟨τ, t1, t2, t3⟩ := s_seal (d := d) h
    exact ⟨τ, p_X9_sealed_0_2 c t1, t2, t3⟩
theorem s_hang {t y : Int32} {P : List Snap} {K : Shf} (h : cT A t y σ) (hp : cP (A 1 0) P K σ) (x z : Int32) : ∃ τ, hq_c 118 (d + 4) [.ref 0, .int x, .int z] σ (some (.int (hangR A x z))) τ ∧ cT (hangT A x z) t y τ ∧ cP (A 1 0) (sealP (hangR A x z) (A, t, y) P) K τ ∧ Fr [(11, 0), (17, 0), (19, 5), (19, 6), (20, 0)] σ τ := by
  obtain ⟨σ1, a1, a2, a3⟩ := s_mark (d := d + 1) h hp
  obtain ⟨σ2, b1, b2, b3⟩ := s_tryHang (d := d) (cT.dep.fr a3 (by decide) h).1 x z
  obtain ⟨σ3, c1, c2, c3⟩ := s_sealed (d := d + 1) (cPm.dep.fr b3 (by decide) a2) (hangR A x z)
  refine ⟨σ3, p_X9_hang_0_1 a1 b1 c1, ⟨Rc.dep.fr c3 (by decide) b2, ?_, ?_⟩, c2, ((a3.up (by decide)).tr (b3.up (by decide))).tr (c3.up (by decide))⟩
  · rw [c3.i rfl, b3.i rfl, a3.i rfl]; exact h.2.1
  · rw [c3.i rfl, b3.i rfl, a3.i rfl]; exact h.2.2
theorem s_take {t y : Int32} {P : List Snap} {K : Shf} (h : cT A t y σ) (hp : cP (A 1 0) P K σ) (x : Int32) : ∃ τ, hq_c 119 (d + 4) [.ref 0, .int x] σ (some (.int (takeR A x))) τ ∧ cT (takeT A x) t y τ ∧ cP (A 1 0) (sealP (takeR A x) (A, t, y) P) K τ ∧ Fr [(11, 0), (17, 0), (19, 5), (19, 6), (20, 0)] σ τ := by
  obtain ⟨σ1, a1, a2, a3⟩ := s_mark (d := d + 1) h hp
  obtain ⟨σ2, b1, b2, b3⟩ := s_tryTake (d := d) (cT.dep.fr a3 (by decide) h).1 x
  obtain ⟨σ3, c1, c2, c3⟩ := s_sealed (d := d + 1) (cPm.dep.fr b3 (by decide) a2) (takeR A x)
  refine ⟨σ3, p_X9_take_0_1 a1 b1 c1, ⟨Rc.dep.fr c3 (by decide) b2, ?_, ?_⟩, c2, ((a3.up (by decide)).tr (b3.up (by decide))).tr (c3.up (by decide))⟩
  · rw [c3.i rfl, b3.i rfl, a3.i rfl]; exact h.2.1
  · rw [c3.i rfl, b3.i rfl, a3.i rfl]; exact h.2.2
theorem s_oil {t y : Int32} {P : List Snap} {K : Shf} (h : cT A t y σ) (hp : cP (A 1 0) P K σ) (x z : Int32) : ∃ τ, hq_c 120 (d + 4) [.ref 0, .int x, .int z] σ (some (.int (oilR A x z))) τ ∧ cT (oilT A x z) t y τ ∧ cP (A 1 0) (sealP (oilR A x z) (A, t, y) P) K τ ∧ Fr [(16, 0), (19, 5), (19, 6), (20, 0)] σ τ := by
  obtain ⟨σ1, a1, a2, a3⟩ := s_mark (d := d + 1) h hp
  obtain ⟨σ2, b1, b2, b3⟩ := s_tryOil (d := d + 1) (cT.dep.fr a3 (by decide) h).1 x z
  obtain ⟨σ3, c1, c2, c3⟩ := s_sealed (d := d + 1) (cPm.dep.fr b3 (by decide) a2) (oilR A x z)
  refine ⟨σ3, p_X9_oil_0_1 a1 b1 c1, ⟨Rc.dep.fr c3 (by decide) b2, ?_, ?_⟩, c2, ((a3.up (by decide)).tr (b3.up (by decide))).tr (c3.up (by decide))⟩
  · rw [c3.i rfl, b3.i rfl, a3.i rfl]; exact h.2.1
  · rw [c3.i rfl, b3.i rfl, a3.i rfl]; exact h.2.2
def bendC (A : TA) (x : Int32) : Bool := inr x (A 1 0) && decide (A 6 x.toInt.toNat ≠ 2)
def bendT (A : TA) (x : Int32) : TA := if bendC A x then setA A 6 x.toInt.toNat 2 else A
def bendP (A : TA) (x : Int32) (B : Snap) (P : List Snap) : List Snap := if bendC A x then addP B P else P
theorem bend_no {x : Int32} (h : bendC A x = false) : bendT A x = A ∧ ∀ B P, bendP A x B P = P := by
  unfold bendT bendP
  rw [h]
  exact ⟨rfl, fun _ _ => rfl⟩
theorem bend_yes {x : Int32} (h : bendC A x = true) : bendT A x = setA A 6 x.toInt.toNat 2 ∧ ∀ B P, bendP A x B P = addP B P := by
  unfold bendT bendP
  rw [h]
  exact ⟨rfl, fun _ _ => rfl⟩
theorem s_bend {t y : Int32} {P : List Snap} {K : Shf} (h : cT A t y σ) (hp : cP (A 1 0) P K σ) (x : Int32) : ∃ τ, hq_c 121 (d + 3) [.ref 0, .int x] σ (some (.int (bI (bendC A x)))) τ ∧ cT (bendT A x) t y τ ∧ cP (A 1 0) (bendP A x (A, t, y) P) K τ ∧ Fr [(12, 0), (19, 5), (19, 6), (20, 0)] σ τ := by
  have R := h.1
  have W := R.1
  have b2 := W.2.1
  have g1 := s_isHinge (d := d + 1) R x
  cases c1 : inr x (A 1 0) with
  | false =>
    rw [c1] at g1
    have hb : bendC A x = false := by unfold bendC; rw [c1]; rfl
    rw [hb, (bend_no hb).1, (bend_no hb).2]
    exact ⟨σ, p_X9_bend_0_1 g1 rfl, h, hp, Fr.rf σ⟩
  | true =>
    rw [c1] at g1
    obtain ⟨k, hk, rfl⟩ := inr_of c1
    have ck : (nI k).toNatClampNeg = k := clamp (by omega)
    have o : vp_in (nI k) 12 := vin (by omega) (by decide)
    have e6 : σ.1 12 (nI k).toNatClampNeg = nI (A 6 k) := by rw [ck]; exact (R.2.2.2.2.1 k hk).1
    have w6 := (W.2.2.2.1 k hk).1
    by_cases q : A 6 k = 2
    · have hb : bendC A (nI k) = false := by unfold bendC; rw [c1, tn (by omega)]; simp [q]
      rw [hb, (bend_no hb).1, (bend_no hb).2]
      exact ⟨σ, p_X9_bend_0_2 g1 (by decide) o (by rw [e6, q]), h, hp, Fr.rf σ⟩
    · have hb : bendC A (nI k) = true := by unfold bendC; rw [c1, tn (by omega)]; simp [q]
      rw [hb, (bend_yes hb).1, (bend_yes hb).2, tn (by omega)]
      obtain ⟨σ1, a1, a2, a3⟩ := s_mark (d := d) h hp
      have h1 := cT.dep.fr a3 (by decide) h
      have f2 : Fr [(12, 0)] σ1 (hq_sI σ1 12 k (nI 2)) := (Fr.rf σ1).sI rfl
      obtain ⟨σ3, c1', c2, c3⟩ := s_seal (d := d + 1) (cPm.dep.fr f2 (by decide) a2)
      have hR : Rc (setA A 6 k 2) (hq_sI σ1 12 k (nI 2)) := ⟨W.bend, Rx.set6 h1.1.2⟩
      refine ⟨σ3, p_X9_bend_0_3 g1 (by decide) o (by rw [e6, nI_eq (by omega) (by decide)]; exact q) a1 o (by rw [ck]; exact c1'), ⟨Rc.dep.fr c3 (by decide) hR, ?_, ?_⟩, c2, ((a3.up (by decide)).tr (f2.up (by decide))).tr (c3.up (by decide))⟩
      · rw [c3.i rfl, f2.i rfl]; exact h1.2.1
      · rw [c3.i rfl, f2.i rfl]; exact h1.2.2
-- the reference
theorem mT.th {t y : Int32} {v : Int32} (h : mT A t y σ) : mT A t y (hq_sI σ 52 0 v) := mT.dep.fr ((Fr.rf σ).sI (G := [(52, 1)]) rfl) (by decide) h
theorem mP.th {n : Nat} {P : List Snap} {v : Int32} (h : mP n P σ) : mP n P (hq_sI σ 52 0 v) := mP.dep.fr ((Fr.rf σ).sI (G := [(52, 1)]) rfl) (by decide) h
theorem frth {v : Int32} : Fr [(52, 1)] σ (hq_sI σ 52 0 v) := (Fr.rf σ).sI rfl
theorem m_hang {t y : Int32} {P : List Snap} (h : mT A t y σ) (hp : mP (A 1 0) P σ) (x z : Int32) : ∃ τ, hq_c 218 (d + 4) [.ref 52, .int x, .int z] σ (some (.int (hangR A x z))) τ ∧ mT (hangT A x z) t y τ ∧ mP (A 1 0) (sealP (hangR A x z) (A, t, y) P) τ ∧ Fr [(52, 1), (52, 30), (61, 0), (69, 0)] σ τ := by
  have f0 : Fr [(52, 1)] σ (hq_sI σ 52 0 (nI 0)) := frth
  obtain ⟨σ1, a1, a2, a3⟩ := m_putsBy (d := d + 2) h.th hp.th
  have h1 := mT.dep.fr a3 (by decide) (h.th (v := nI 0))
  obtain ⟨σ2, b1, b2, b3, b4, b5⟩ := m_hangs (d := d) h1.1 x z
  have h2 : mT (hangT A x z) t y σ2 := ⟨b2, b4.trans h1.2.1, b5.trans h1.2.2⟩
  have p2 := mPm.dep.fr b3 (by decide) a2
  unfold sealP
  by_cases c : hangR A x z < 0
  · rw [if_pos c]
    exact ⟨σ2, p_X10_hang_0_1 a1 b1 c, h2, p2.1, ((f0.up (by decide)).tr (a3.up (by decide))).tr (b3.up (by decide))⟩
  · rw [if_neg c]
    obtain ⟨σ3, c1, c2, c3⟩ := m_adds (d := d + 2) p2 (hangR A x z)
    exact ⟨σ3, p_X10_hang_0_2 a1 b1 c c1, mT.dep.fr c3 (by decide) h2, c2, (((f0.up (by decide)).tr (a3.up (by decide))).tr (b3.up (by decide))).tr (c3.up (by decide))⟩
theorem m_take {t y : Int32} {P : List Snap} (h : mT A t y σ) (hp : mP (A 1 0) P σ) (x : Int32) : ∃ τ, hq_c 219 (d + 4) [.ref 52, .int x] σ (some (.int (takeR A x))) τ ∧ mT (takeT A x) t y τ ∧ mP (A 1 0) (sealP (takeR A x) (A, t, y) P) τ ∧ Fr [(52, 1), (52, 30), (61, 0), (69, 0)] σ τ := by
  have f0 : Fr [(52, 1)] σ (hq_sI σ 52 0 (nI 0)) := frth
  obtain ⟨σ1, a1, a2, a3⟩ := m_putsBy (d := d + 2) h.th hp.th
  have h1 := mT.dep.fr a3 (by decide) (h.th (v := nI 0))
  obtain ⟨σ2, b1, b2, b3, b4, b5⟩ := m_takesDown (d := d) h1.1 x
  have h2 : mT (takeT A x) t y σ2 := ⟨b2, b4.trans h1.2.1, b5.trans h1.2.2⟩
  have p2 := mPm.dep.fr b3 (by decide) a2
  unfold sealP
  by_cases c : takeR A x < 0
  · rw [if_pos c]
    exact ⟨σ2, p_X10_take_0_1 a1 b1 c, h2, p2.1, ((f0.up (by decide)).tr (a3.up (by decide))).tr (b3.up (by decide))⟩
  · rw [if_neg c]
    obtain ⟨σ3, c1, c2, c3⟩ := m_adds (d := d + 2) p2 (takeR A x)
    exact ⟨σ3, p_X10_take_0_2 a1 b1 c c1, mT.dep.fr c3 (by decide) h2, c2, (((f0.up (by decide)).tr (a3.up (by decide))).tr (b3.up (by decide))).tr (c3.up (by decide))⟩
theorem m_oil {t y : Int32} {P : List Snap} (h : mT A t y σ) (hp : mP (A 1 0) P σ) (x z : Int32) : ∃ τ, hq_c 220 (d + 4) [.ref 52, .int x, .int z] σ (some (.int (oilR A x z))) τ ∧ mT (oilT A x z) t y τ ∧ mP (A 1 0) (sealP (oilR A x z) (A, t, y) P) τ ∧ Fr [(52, 1), (52, 30), (61, 0), (69, 0)] σ τ := by
  have f0 : Fr [(52, 1)] σ (hq_sI σ 52 0 (nI 0)) := frth
  obtain ⟨σ1, a1, a2, a3⟩ := m_putsBy (d := d + 2) h.th hp.th
  have h1 := mT.dep.fr a3 (by decide) (h.th (v := nI 0))
  obtain ⟨σ2, b1, b2, b3, b4, b5⟩ := m_oils (d := d) h1.1 x z
  have h2 : mT (oilT A x z) t y σ2 := ⟨b2, b4.trans h1.2.1, b5.trans h1.2.2⟩
  have p2 := mPm.dep.fr b3 (by decide) a2
  unfold sealP
  by_cases c : oilR A x z < 0
  · rw [if_pos c]
    exact ⟨σ2, p_X10_oil_0_1 a1 b1 c, h2, p2.1, ((f0.up (by decide)).tr (a3.up (by decide))).tr (b3.up (by decide))⟩
  · rw [if_neg c]
    obtain ⟨σ3, c1, c2, c3⟩ := m_adds (d := d + 2) p2 (oilR A x z)
    exact ⟨σ3, p_X10_oil_0_2 a1 b1 c c1, mT.dep.fr c3 (by decide) h2, c2, (((f0.up (by decide)).tr (a3.up (by decide))).tr (b3.up (by decide))).tr (c3.up (by decide))⟩
theorem m_bend {t y : Int32} {P : List Snap} (h : mT A t y σ) (hp : mP (A 1 0) P σ) (x : Int32) : ∃ τ, hq_c 221 (d + 3) [.ref 52, .int x] σ (some (.int (bI (bendC A x)))) τ ∧ mT (bendT A x) t y τ ∧ mP (A 1 0) (bendP A x (A, t, y) P) τ ∧ Fr [(52, 1), (52, 30), (61, 0), (69, 0)] σ τ := by
  have f0 : Fr [(52, 1)] σ (hq_sI σ 52 0 (nI 0)) := frth
  have h0 : mT A t y (hq_sI σ 52 0 (nI 0)) := h.th
  have p0 : mP (A 1 0) P (hq_sI σ 52 0 (nI 0)) := hp.th
  have R := h0.1
  have W := R.1
  have b2 := W.2.1
  have g1 := m_isHingen (d := d) R x
  cases c1 : inr x (A 1 0) with
  | false =>
    rw [c1] at g1
    have hb : bendC A x = false := by unfold bendC; rw [c1]; rfl
    rw [hb, (bend_no hb).1, (bend_no hb).2]
    exact ⟨_, p_X10_bend_0_1 g1 rfl, h0, p0, f0.up (by decide)⟩
  | true =>
    rw [c1] at g1
    obtain ⟨k, hk, rfl⟩ := inr_of c1
    have ck : (nI 12 + nI k).toNatClampNeg = 12 + k := by rw [nplus]; exact clamp (by omega)
    have o : vp_in (nI 12 + nI k) 50 := by rw [nplus]; exact vin (by omega) (by decide)
    have e6 : (hq_sI σ 52 0 (nI 0)).1 61 (nI 12 + nI k).toNatClampNeg = nI (A 6 k) := by rw [ck]; exact (R.2.2.2.2.2.1 k hk).2.1
    have w6 := (W.2.2.2.1 k hk).1
    by_cases q : A 6 k = 2
    · have hb : bendC A (nI k) = false := by unfold bendC; rw [c1, tn (by omega)]; simp [q]
      rw [hb, (bend_no hb).1, (bend_no hb).2]
      exact ⟨_, p_X10_bend_0_2 g1 (by decide) o (by rw [e6, q]), h0, p0, f0.up (by decide)⟩
    · have hb : bendC A (nI k) = true := by unfold bendC; rw [c1, tn (by omega)]; simp [q]
      rw [hb, (bend_yes hb).1, (bend_yes hb).2, tn (by omega)]
      obtain ⟨σ1, a1, a2, a3⟩ := m_putsBy (d := d + 1) h0 p0
      have h1 := mT.dep.fr a3 (by decide) h0
      have f2 : Fr [(61, 0)] σ1 (hq_sI σ1 61 (12 + k) (nI 2)) := (Fr.rf σ1).sI rfl
      obtain ⟨σ3, c1', c2, c3⟩ := m_adds (d := d + 1) (mPm.dep.fr f2 (by decide) a2) (nI 1)
      have hR : mT (setA A 6 k 2) t y (hq_sI σ1 61 (12 + k) (nI 2)) := ⟨h1.1.set6n hk W.bend, (sI_slot (by omega)).trans h1.2.1, (sI_slot (by omega)).trans h1.2.2⟩
      refine ⟨σ3, p_X10_bend_0_3 g1 (by decide) o (by rw [e6, nI_eq (by omega) (by decide)]; exact q) a1 o (by rw [ck]; exact c1') rfl, mT.dep.fr c3 (by decide) hR, c2, (((f0.up (by decide)).tr (a3.up (by decide))).tr (f2.up (by decide))).tr (c3.up (by decide))⟩
/-- days -/
def daysL (A : TA) (n : Nat) : List Int64 := [(nI (ndiff (shut0 A) (shut0 (daysA A n)))).toInt64]
theorem daysA_10 (A : TA) : ∀ n, daysA A n 1 0 = A 1 0
  | 0 => rfl
  | n + 1 => daysA_10 A n
theorem s_passDays {t y : Int32} {P : List Snap} {K : Shf} (h : cT A t y σ) (hp : cP (A 1 0) P K σ) {n : Nat} (hn : n ≤ 60) : ∃ τ, hq_c 164 (d + 5) [.ref 0, .int (nI n)] σ (some (.int (nI (daysP A n)))) τ ∧ cT (daysA A n) (daysT A t n) (daysY y n) τ ∧ cP (A 1 0) (if n = 0 then P else addP (A, t, y) P) K τ ∧ cR (daysL A n) τ ∧ Fr [(3, 2), (4, 0), (5, 16), (5, 17), (15, 0), (16, 0), (19, 5), (19, 6), (20, 0)] σ τ := by
  have g1 := s_shutNow (d := d) h.1
  obtain ⟨σ1, a1, a2, a3⟩ := s_mark (d := d + 2) h hp
  obtain ⟨σ2, w, h2, f2⟩ := hq_w.for (x := 164) (d := d + 5) (i := 13) (fun j => [some (.ref 0), some (.int (nI n)), some (.int (nI (shut0 A))), some (.int (nI (daysP A j))), some (.int (nI j))]) (fun j ρ => cT (daysA A j) (daysT A t j) (daysY y j) ρ ∧ Fr [(5, 16), (5, 17), (15, 0), (16, 0)] σ1 ρ) n (fun j hj ρ ⟨q, f⟩ => by
    obtain ⟨ρ', c, r, f'⟩ := s_passDay (d := d + 3) q
    refine ⟨ρ', fun v τ k => p_X9_passDays_13_1 (nlt hj (by omega)) c ?_, r, f.tr f'⟩
    rw [nplus, nplus]
    exact k) (σ := σ1) ⟨cT.dep.fr a3 (by decide) h, Fr.rf σ1⟩
  have p2 := cPm.dep.fr f2 (by decide) a2
  have fin : ∀ σ3, Fr [(19, 5), (19, 6)] σ2 σ3 → ∃ σ4, hq_c 46 (d + 4) [.ref 3] σ3 none σ4 ∧ ∃ σ5, hq_c 92 (d + 4) [.ref 5] σ4 (some (.int (nI (shut0 (daysA A n))))) σ4 ∧ hq_c 47 (d + 4) [.ref 3, .long (nI (shut0 A) &&& (nI (shut0 (daysA A n)) ^^^ (-1 : Int32))).toInt64] σ4 none σ5 ∧ cT (daysA A n) (daysT A t n) (daysY y n) σ5 ∧ cR (daysL A n) σ5 ∧ Fr [(3, 2), (4, 0)] σ3 σ5 := by
    intro σ3 f3
    obtain ⟨σ4, u1, u2, u3⟩ := s_clear (d := d + 3) (σ := σ3)
    have h4 := cT.dep.fr u3 (by decide) (cT.dep.fr f3 (by decide) h2)
    obtain ⟨σ5, v1, v2, v3⟩ := s_add (d := d + 3) u2 (by decide) (nI (shut0 A) &&& (nI (shut0 (daysA A n)) ^^^ (-1 : Int32))).toInt64
    refine ⟨σ4, u1, σ5, s_shutNow (d := d) h4.1, v1, cT.dep.fr v3 (by decide) h4, ?_, u3.tr v3⟩
    rw [and_not] at v2
    exact v2
  by_cases q : n = 0
  · rw [if_pos q]
    obtain ⟨σ4, u1, σ5, u2, u3, u4, u5, u6⟩ := fin σ2 (Fr.rf σ2)
    refine ⟨σ5, p_X9_passDays_0_1 g1 a1 (w _ _ (p_X9_passDays_13_3 (nI_nlt (Nat.le_refl _) (by omega)) (by rw [q]; decide) u1 u2 u3)), u4, ?_, u5, ((a3.up (by decide)).tr (f2.up (by decide))).tr (u6.up (by decide))⟩
    exact cP.dep.fr u6 (by decide) p2.of
  · rw [if_neg q]
    obtain ⟨σ3, c1, c2, c3⟩ := s_seal (d := d + 3) p2
    obtain ⟨σ4, u1, σ5, u2, u3, u4, u5, u6⟩ := fin σ3 c3
    refine ⟨σ5, p_X9_passDays_0_1 g1 a1 (w _ _ (p_X9_passDays_13_2 (nI_nlt (Nat.le_refl _) (by omega)) ((z_lt (by omega)).mpr q) c1 u1 u2 u3)), u4, cP.dep.fr u6 (by decide) c2, u5, (((a3.up (by decide)).tr (f2.up (by decide))).tr (c3.up (by decide))).tr (u6.up (by decide))⟩
theorem m_daysN {t y : Int32} {P : List Snap} (h : mT A t y σ) (hp : mP (A 1 0) P σ) {n : Nat} (hn : n ≤ 60) : ∃ τ, hq_c 225 (d + 6) [.ref 52, .int (nI n)] σ (some (.int (nI (daysP A n)))) τ ∧ mT (daysA A n) (daysT A t n) (daysY y n) τ ∧ mP (A 1 0) (if n = 0 then P else addP (A, t, y) P) τ ∧ mR (daysL A n) τ ∧ Fr [(52, 1), (52, 2), (52, 30), (53, 0), (61, 0), (69, 0)] σ τ := by
  have f0 : Fr [(52, 1)] σ (hq_sI σ 52 0 (nI 0)) := frth
  have h0 : mT A t y (hq_sI σ 52 0 (nI 0)) := h.th
  have p0 : mP (A 1 0) P (hq_sI σ 52 0 (nI 0)) := hp.th
  have g := m_inb (d := d + 4) (σ := hq_sI σ 52 0 (nI 0)) (nI n) (a := 0) (b := 60) (by decide) (by decide)
  have hi : inb (nI n) 0 60 = true := by unfold inb; rw [nI_toInt (by omega)]; simp; omega
  rw [hi] at g
  obtain ⟨σ1, a1, a2, a3⟩ := m_putsBy (d := d + 4) h0 p0
  have h1 := mT.dep.fr a3 (by decide) h0
  have g1 := m_shutOfn (d := d) h1.1
  obtain ⟨σ2, b1, b2, b3⟩ := m_daysGo (d := d + 3) h1.1 h1.2.1 h1.2.2 (n := n) (by omega)
  have f3 : Fr [(52, 2), (53, 0)] σ2 (hq_sI σ2 52 1 (nI 0)) := (Fr.rf σ2).sI rfl
  have h3 := mT.dep.fr f3 (by decide) b2
  have g3 := m_shutOfn (d := d) h3.1
  obtain ⟨σ4, v1, v2, v3⟩ := m_enters (d := d + 4) (mR.nil (σ := σ2)) (by decide) (nI (shut0 A) &&& (nI (shut0 (daysA A n)) ^^^ (-1 : Int32))).toInt64
  have h4 := mT.dep.fr v3 (by decide) h3
  have p4 := mPm.dep.fr v3 (by decide) (mPm.dep.fr f3 (by decide) (mPm.dep.fr b3 (by decide) a2))
  rw [and_not] at v2
  have ff : Fr [(52, 1), (52, 2), (52, 30), (53, 0), (61, 0), (69, 0)] σ σ4 := ((((f0.up (by decide)).tr (a3.up (by decide))).tr (b3.up (by decide))).tr (f3.up (by decide))).tr (v3.up (by decide))
  by_cases q : n = 0
  · rw [if_pos q]
    exact ⟨σ4, p_X10_days_0_3 g (by decide) a1 g1 b1 g3 v1 (by rw [q]; decide), h4, p4.1, v2, ff⟩
  · rw [if_neg q]
    obtain ⟨σ5, c1, c2, c3⟩ := m_adds (d := d + 4) p4 (nI (daysP A n))
    exact ⟨σ5, p_X10_days_0_2 g (by decide) a1 g1 b1 g3 v1 ((z_lt (by omega)).mpr q) c1, mT.dep.fr c3 (by decide) h4, c2, mR.dep.fr c3 (by decide) v2, ff.tr (c3.up (by decide))⟩
/-- a gale -/
theorem s_gale {t y : Int32} {P : List Snap} {K : Shf} (h : cT A t y σ) (hp : cP (A 1 0) P K σ) (z : Int32) {g : Nat} (hg1 : 1 ≤ g) (hg2 : g ≤ 19) : ∃ τ, hq_c 124 (d + 6) [.ref 0, .int z, .int (nI g)] σ (some (.int (nI (galF A (nI g) z)))) τ ∧ cT (galT A (nI g) z) t y τ ∧ cP (A 1 0) (addP (A, t, y) P) K τ ∧ Fr [(11, 0), (15, 0), (17, 0), (19, 5), (19, 6), (20, 0)] σ τ := by
  obtain ⟨σ1, a1, a2, a3⟩ := s_mark (d := d + 3) h hp
  obtain ⟨σ2, b1, b2, b3⟩ := s_blow (d := d) (cT.dep.fr a3 (by decide) h) hg1 hg2 z
  obtain ⟨σ3, c1, c2, c3⟩ := s_seal (d := d + 4) (cPm.dep.fr b3 (by decide) a2)
  exact ⟨σ3, p_X9_gale_0_3 (nI_nlt hg1 (by omega)) (nI_nlt hg2 (by omega)) a1 b1 c1, cT.dep.fr c3 (by decide) b2, c2, ((a3.up (by decide)).tr (b3.up (by decide))).tr (c3.up (by decide))⟩
theorem m_gale {t y : Int32} {P : List Snap} (h : mT A t y σ) (hp : mP (A 1 0) P σ) (z : Int32) {g : Nat} (hg1 : 1 ≤ g) (hg2 : g ≤ 19) : ∃ τ, hq_c 227 (d + 6) [.ref 52, .int z, .int (nI g)] σ (some (.int (nI (galF A (nI g) z)))) τ ∧ mT (galT A (nI g) z) t y τ ∧ mP (A 1 0) (addP (A, t, y) P) τ ∧ Fr [(52, 1), (52, 30), (52, 32), (61, 0), (69, 0)] σ τ := by
  have W := h.1.1
  have b1 := W.1
  have b2 := W.2.1
  have s8 := shut0_lt W
  have f0 : Fr [(52, 1)] σ (hq_sI σ 52 0 (nI 0)) := frth
  have hz : mT A t y (hq_sI σ 52 0 (nI 0)) := h.th
  have p0 : mP (A 1 0) P (hq_sI σ 52 0 (nI 0)) := hp.th
  have gi := m_inb (d := d + 4) (σ := hq_sI σ 52 0 (nI 0)) (nI g) (a := 1) (b := 19) (by decide) (by decide)
  have hi : inb (nI g) 1 19 = true := by unfold inb; rw [nI_toInt (by omega)]; simp; omega
  rw [hi] at gi
  have g0 : ¬ nI g = 0 := nI_ne0 (by omega) (by omega)
  obtain ⟨σ1, a1, a2, a3⟩ := m_putsBy (d := d + 4) hz p0
  have f1 : Fr [(52, 32)] σ1 (hq_sI σ1 52 31 z) := (Fr.rf σ1).sI rfl
  have h1 : mT A t y (hq_sI σ1 52 31 z) := mT.dep.fr f1 (by decide) (mT.dep.fr a3 (by decide) hz)
  have p1 := mPm.dep.fr f1 (by decide) a2
  have gs := m_shutOfn (d := d) h1.1
  -- doors
  obtain ⟨σ2, w2, r2, f2⟩ := hq_w.for (x := 227) (d := d + 6) (i := 25) (fun e => [some (.ref 52), none, some (.int (nI g)), some (.int (nI (shut0 A))), some (.int (nI (galD A (nI g) z e).2)), some (.int (nI e)), none, none]) (fun e ρ => ρ.1 52 31 = (galD A (nI g) z e).1 ∧ Fr [(52, 32)] (hq_sI σ1 52 31 z) ρ) (A 0 0) (fun e he ρ ⟨q1, f⟩ => by
    have R : Rm 61 A ρ := Rm.depn.fr f (by decide) h1.1
    have c1 : nI e < ρ.1 52 3 := by rw [R.2.1]; exact nlt he (by omega)
    have gh := m_hasN (d := d + 4) (σ := ρ) (n := shut0 A) (k := e) (by omega) (by omega)
    have on4 := onA_lt A (e + 1) b2
    have hS : galS A e < 4096 := by unfold galS; split; decide; exact on4
    obtain ⟨ρ', w', r', f'⟩ := hq_w.for (x := 227) (d := d + 6) (i := 43) (fun j => [some (.ref 52), none, some (.int (nI g)), some (.int (nI (shut0 A))), some (.int (nI (galH A (nI g) (galS A e) (galD A (nI g) z e) j).2)), some (.int (nI e)), some (.int (nI (galS A e))), some (.int (nI j))]) (fun j ρ' => ρ'.1 52 31 = (galH A (nI g) (galS A e) (galD A (nI g) z e) j).1 ∧ Fr [(52, 32)] ρ ρ') (A 1 0) (fun j hj ρ1 ⟨q2, f2⟩ => by
      have R1 : Rm 61 A ρ1 := Rm.depn.fr f2 (by decide) R
      have c2 : nI j < ρ1.1 52 4 := by rw [R1.2.2.1]; exact nlt hj (by omega)
      have gb := m_hasN (d := d + 4) (σ := ρ1) (n := galS A e) (k := j) (by omega) (by omega)
      cases hb : (galS A e).testBit j with
      | false =>
        rw [hb] at gb
        have e1 : galH A (nI g) (galS A e) (galD A (nI g) z e) (j + 1) = galH A (nI g) (galS A e) (galD A (nI g) z e) j := by simp [galH, hb]
        rw [e1]
        exact ⟨ρ1, fun v τ k => p_X10_gale_43_1 c2 gb rfl (by rw [nplus]; exact k), q2, f2⟩
      | true =>
        rw [hb] at gb
        have dr := p_X10_draws_0_1 (d := d + 4) (σ := ρ1) (l1 := nI g) g0
        rw [sI_eq, q2] at dr
        have f3 : Fr [(52, 32)] ρ1 (hq_sI ρ1 52 31 (drw (galH A (nI g) (galS A e) (galD A (nI g) z e) j).1)) := (Fr.rf ρ1).sI rfl
        have gd := m_holdOfn (d := d + 4) (Rm.depn.fr f3 (by decide) R1) hj
        by_cases q : nI (h0 A j) < dval (drw (galH A (nI g) (galS A e) (galD A (nI g) z e) j).1) (nI g)
        · have e1 : galH A (nI g) (galS A e) (galD A (nI g) z e) (j + 1) = (drw (galH A (nI g) (galS A e) (galD A (nI g) z e) j).1, (galH A (nI g) (galS A e) (galD A (nI g) z e) j).2 ||| 2 ^ j) := by simp [galH, hb, q]
          rw [e1]
          refine ⟨_, fun v τ k => p_X10_gale_43_2 c2 gb (by decide) dr gd q ?_, sI_eq, f2.tr f3⟩
          rw [hn_shl j (by omega), orr, nplus]
          exact k
        · have e1 : galH A (nI g) (galS A e) (galD A (nI g) z e) (j + 1) = (drw (galH A (nI g) (galS A e) (galD A (nI g) z e) j).1, (galH A (nI g) (galS A e) (galD A (nI g) z e) j).2) := by simp [galH, hb, q]
          rw [e1]
          refine ⟨_, fun v τ k => p_X10_gale_43_3 c2 gb (by decide) dr gd q ?_, sI_eq, f2.tr f3⟩
          rw [nplus]
          exact k) (σ := ρ) ⟨q1, Fr.rf ρ⟩
    refine ⟨ρ', fun v τ k => ?_, r', f.tr f'⟩
    have R1 : Rm 61 A ρ' := Rm.depn.fr f' (by decide) R
    have k2 := w' v τ (p_X10_gale_43_4 (by rw [R1.2.2.1]; exact nI_nlt (Nat.le_refl _) (by omega)) (by rw [nplus]; exact k))
    have ht : (shut0 A).testBit e = shutF A (h0 A) e (onA A (e + 1)) := by unfold shut0; rw [sbits_test]; simp [he]
    rw [ht] at gh
    cases hs : shutF A (h0 A) e (onA A (e + 1)) with
    | true =>
      rw [hs] at gh
      have e0 : galS A e = 0 := by unfold galS; rw [hs]; rfl
      rw [e0] at k2
      exact p_X10_gale_25_2 c1 gh (by decide) k2
    | false =>
      rw [hs] at gh
      have e0 : galS A e = onA A (e + 1) := by unfold galS; rw [hs]; rfl
      rw [e0] at k2
      exact p_X10_gale_25_1 c1 gh rfl (m_onDn (d := d + 4) R he) k2) (σ := hq_sI σ1 52 31 z) ⟨sI_eq, Fr.rf _⟩
  have h2 := mT.dep.fr f2 (by decide) h1
  have p2 := mPm.dep.fr f2 (by decide) p1
  have hfl := galD_lt (A := A) (g := nI g) (z := z) b2 (A 0 0)
  have hfl' : galF A (nI g) z < 4096 := hfl
  -- hinges
  obtain ⟨σ3, w3, h3, f3⟩ := hq_w.for (x := 227) (d := d + 6) (i := 72) (fun j => [some (.ref 52), none, none, none, some (.int (nI (galF A (nI g) z))), some (.int (nI j)), none, none]) (fun j ρ => mT (galJ A (galF A (nI g) z) j) t y ρ ∧ Fr [(61, 0)] σ2 ρ) (A 1 0) (fun j hj ρ ⟨q, f⟩ => by
    have qW := q.1.1
    have cj : (nI j).toNatClampNeg = j := clamp (by omega)
    have cj2 : (nI 24 + nI j).toNatClampNeg = 24 + j := by rw [nplus]; exact clamp (by omega)
    have o : vp_in (nI j) 50 := vin (by omega) (by decide)
    have o2 : vp_in (nI 24 + nI j) 50 := by rw [nplus]; exact vin (by omega) (by decide)
    have c1 : nI j < ρ.1 52 4 := by rw [q.1.2.2.1]; exact nlt (show j < A 1 0 from hj) (show A 1 0 < _ by omega)
    have w5 := (W.2.2.2.1 j hj).2.2.2.2.1
    have gb := m_hasN (d := d + 4) (σ := ρ) (n := galF A (nI g) z) (k := j) (by omega) (by omega)
    cases hb : (galF A (nI g) z).testBit j with
    | false =>
      rw [hb] at gb
      rw [galJ_no hb]
      exact ⟨ρ, fun v τ k => p_X10_gale_72_1 c1 gb rfl (by rw [nplus]; exact k), q, f⟩
    | true =>
      rw [hb] at gb
      have e9 : galJ A (galF A (nI g) z) j 9 j = A 9 j := by show (if j < j ∧ _ then _ else A 9 j) = _; rw [if_neg (by omega)]
      have h24 : ρ.1 61 (24 + j) = nI (A 9 j) := by rw [(q.1.2.2.2.2.2.1 j hj).2.2.1, e9]
      have hA := (q.1.set11n (h := j) (v := 0) hj (qW.take j)).set9n (h := j) (v := min 9 (A 9 j + 2)) hj ((qW.take j).set9 (by omega))
      rw [← galJ_yes hb] at hA
      refine ⟨hq_sI (hq_sI ρ 61 j (nI 0 - nI 1)) 61 (24 + j) (nI (min 9 (A 9 j + 2))), fun v τ k => p_X10_gale_72_2 c1 gb (by decide) o2 o2 o rfl ?_, ⟨hA, ?_, ?_⟩, (f.sI rfl).sI rfl⟩
      · rw [cj, cj2, sI_slot (by omega), h24, min9 (by omega) (by decide), nplus]
        exact k
      · rw [sI_slot (by omega), sI_slot (by omega)]; exact q.2.1
      · rw [sI_slot (by omega), sI_slot (by omega)]; exact q.2.2) (σ := σ2) ⟨by rw [galJ0]; exact h2, Fr.rf σ2⟩
  have p3 := mPm.dep.fr f3 (by decide) p2
  obtain ⟨σ4, c1, c2, c3⟩ := m_adds (d := d + 4) p3 (nI (galF A (nI g) z))
  refine ⟨σ4, ?_, mT.dep.fr c3 (by decide) h3, c2, ((((f0.up (by decide)).tr (a3.up (by decide))).tr (f1.up (by decide))).tr (f2.up (by decide))).tr ((f3.up (by decide)).tr (c3.up (by decide)))⟩
  refine p_X10_gale_0_2 gi (by decide) a1 gs (w2 _ _ ?_)
  refine p_X10_gale_25_3 (by rw [h2.1.2.1]; exact nI_nlt (Nat.le_refl _) (by omega)) (w3 _ _ ?_)
  exact p_X10_gale_72_3 (by rw [h3.1.2.2.1]; exact nI_nlt (Nat.le_refl _) (show A 1 0 < _ by omega)) c1
end AC
