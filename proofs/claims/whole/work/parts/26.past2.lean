/-! Undo, keep, again. -/
def undoR (P : List Snap) : Int32 := match P with
  | [] => -1
  | _ :: Q => nI Q.length
def undoP (P : List Snap) : List Snap := P.tail
def undoA (A : TA) (P : List Snap) : TA := match P with
  | [] => A
  | B :: _ => rst A B.1
def undoT (t : Int32) (P : List Snap) : Int32 := match P with
  | [] => t
  | B :: _ => B.2.1
def undoY (y : Int32) (P : List Snap) : Int32 := match P with
  | [] => y
  | B :: _ => B.2.2
section UN
variable {d : Nat} {σ : hq_St} {A : TA}
theorem s_undo {t y : Int32} {P : List Snap} {K : Shf} (h : cT A t y σ) (hp : cP (A 1 0) P K σ) (hW : ∀ B ∈ P, Wf (rst A B.1)) : ∃ τ, hq_c 126 (d + 5) [.ref 0] σ (some (.int (undoR P))) τ ∧ cT (undoA A P) (undoT t P) (undoY y P) τ ∧ cP (A 1 0) (undoP P) K τ ∧ Fr [(5, 16), (5, 17), (11, 0), (12, 0), (15, 0), (16, 0), (17, 0), (19, 5), (19, 6)] σ τ := by
  obtain ⟨hK, p, hG⟩ := id hp
  obtain ⟨p1, p2, p3, p4, p5, p6⟩ := id hG
  cases P with
  | nil => exact ⟨σ, p_X9_undo_0_1 (p_X3_stepBack_0_1 (by rw [p5]; rfl)) rfl, h, hp, Fr.rf σ⟩
  | cons B Q =>
    have hl : (B :: Q).length = Q.length + 1 := rfl
    rw [hl] at p4 p5
    have em : ∀ k, k < 16 → ((nI k + nI 16) - nI 1) - ((nI k + nI 16) - nI 1) / nI 16 * nI 16 = nI ((k + 15) % 16) := by decide +kernel
    have f0 : Fr [(19, 5), (19, 6)] σ (hq_sI (hq_sI σ 19 4 (nI ((p + 15) % 16))) 19 5 (nI Q.length)) := ((Fr.rf σ).sI rfl).sI rfl
    have h' : cT A t y (hq_sI (hq_sI σ 19 4 (nI ((p + 15) % 16))) 19 5 (nI Q.length)) := cT.dep.fr f0 (by decide) h
    have hb : slC B (A 1 0) (14 * ((p + 15) % 16)) ((hq_sI (hq_sI σ 19 4 (nI ((p + 15) % 16))) 19 5 (nI Q.length)).1 20) := by
      refine (p6 0 B rfl).to p2 (fun j hj => ?_)
      rw [f0.i rfl, show (p + 31 - 0) % 16 = (p + 15) % 16 by omega]
    obtain ⟨τ, t1, t2, t3⟩ := s_load (d := d) h' (hW B (List.mem_cons_self)) (s := (p + 15) % 16) (by omega) hb
    have e5 : nI (Q.length + 1) - nI 1 = nI Q.length := nI_pred _
    have hs := p_X3_stepBack_0_2 (d := d + 3) (σ := σ) (ρ1 := τ) (by rw [p5]; exact nI_ne0 (by omega) (by omega)) (by decide) rfl (by
      rw [sI_slot (c := 19) (j := 4) (b := 5) (by decide), p3, em p p1, p5, e5, sI_slot (by decide), sI_eq]
      exact t1)
    have hc : cP (A 1 0) Q K τ := by
      refine ⟨cK.dep.fr t3 (by decide) (cK.dep.fr f0 (by decide) hK), (p + 15) % 16, by omega, p2, ?_, by omega, ?_, fun i C hC => ?_⟩
      · rw [t3.i rfl, sI_slot (by decide), sI_eq]
      · rw [t3.i rfl, sI_eq]
      · refine (p6 (i + 1) C hC).to p2 (fun j hj => ?_)
        rw [t3.i rfl, f0.i rfl]
        have := (List.getElem?_eq_some_iff.mp hC).1
        rw [show (p + 31 - (i + 1)) % 16 = ((p + 15) % 16 + 31 - i) % 16 by omega]
    refine ⟨τ, ?_, t2, hc, (f0.up (by decide)).tr (t3.up (by decide))⟩
    have := p_X9_undo_0_2 (d := d + 4) (σ := σ) hs (by decide)
    rw [t3.i (c := 19) (j := 5) rfl, sI_eq] at this
    exact this
def keepK (K : Shf) (A : TA) (t y : Int32) (C : Nat) (x : Int32) : Shf := fun i => if inb x 0 2 = true ∧ i = x.toInt.toNat then some ((A, t, y), A 0 0, A 1 0, C) else K i
theorem s_isShelf (x : Int32) : hq_c 37 (d + 1) [.int x] σ (some (.int (bI (inb x 0 2)))) σ := by
  unfold bI inb
  by_cases c1 : x < 0
  · have c2 := c1
    rw [ltz] at c2
    rw [if_neg (by simp; omega)]
    exact p_X3_isShelf_0_1 c1
  · have c2 := c1
    rw [ltz] at c2
    by_cases c3 : x < nI 3
    · have c4 := c3
      rw [lt_nI (by decide)] at c4
      rw [if_pos (by simp; omega)]
      exact p_X3_isShelf_0_2 c1 c3
    · have c4 := c3
      rw [lt_nI (by decide)] at c4
      rw [if_neg (by simp; omega)]
      exact p_X3_isShelf_0_3 c1 c3
theorem s_keep {t y : Int32} {P : List Snap} {K : Shf} (C : Nat) (h : cT A t y σ) (hp : cP (A 1 0) P K σ) (x : Int32) : ∃ τ, hq_c 153 (d + 3) [.ref 0, .int x] σ (some (.int (bI (inb x 0 2)))) τ ∧ cP (A 1 0) P (keepK K A t y C x) τ ∧ Fr [(20, 0), (21, 0), (22, 0), (23, 0)] σ τ := by
  have g := s_isShelf (d := d + 1) (σ := σ) x
  obtain ⟨hK, p, hG⟩ := id hp
  obtain ⟨p1, p2, p3, p4, p5, p6⟩ := id hG
  cases c : inb x 0 2 with
  | false =>
    rw [c] at g
    have : keepK K A t y C x = K := by
      funext i
      unfold keepK
      rw [c, if_neg (by simp)]
    rw [this]
    exact ⟨σ, p_X9_keep_0_1 g rfl, hp, Fr.rf σ⟩
  | true =>
    rw [c] at g
    obtain ⟨i, i1, i2, rfl⟩ := inb_of c
    have ci : (nI i).toNatClampNeg = i := clamp (by omega)
    have o : vp_in (nI i) 3 := vin (by omega) (by decide)
    obtain ⟨τ, t1, t2, t3, t4⟩ := s_save (d := d) h (s := 16 + i) (by omega)
    have sh := p_X3_shelve_0_1 (d := d + 1) (σ := σ) (l1 := nI i) (ρ1 := τ) (by rw [nplus]; exact t1) o o o (by decide) rfl
    have e13 : τ.1 5 13 = nI (A 0 0) := (t4.i rfl).trans h.1.2.1
    have e14 : τ.1 5 14 = nI (A 1 0) := (t4.i rfl).trans h.1.2.2.1
    rw [ci, sI_ne (by decide), e13, sI_ne (by decide), sI_ne (by decide), e14] at sh
    have f : Fr [(20, 0), (21, 0), (22, 0), (23, 0)] σ (hq_sI (hq_sI (hq_sI τ 21 i (nI 1)) 22 i (nI (A 0 0))) 23 i (nI (A 1 0))) := (((t4.up (by decide)).sI rfl).sI rfl).sI rfl
    have e20 : ∀ j, (hq_sI (hq_sI (hq_sI τ 21 i (nI 1)) 22 i (nI (A 0 0))) 23 i (nI (A 1 0))).1 20 j = τ.1 20 j := fun j => by rw [sI_ne (by decide), sI_ne (by decide), sI_ne (by decide)]
    refine ⟨_, p_X9_keep_0_2 g (by decide) sh, ⟨fun k hk => ?_, p, p1, p2, (f.i rfl).trans p3, p4, (f.i rfl).trans p5, fun k B hB => ?_⟩, f⟩
    · unfold keepK
      rw [c, tn (by omega)]
      by_cases e : k = i
      · subst e
        rw [if_pos ⟨rfl, rfl⟩]
        refine ⟨?_, h.1.1.1, h.1.1.2.1, ?_, ?_, t2.to h.1.1.2.1 (fun j _ => e20 _)⟩
        · rw [sI_ne (by decide), sI_ne (by decide), sI_eq]
        · rw [sI_ne (by decide), sI_eq]
        · rw [sI_eq]
      · rw [if_neg (fun z => e z.2)]
        have := hK k hk
        cases hk2 : K k with
        | none =>
          rw [hk2] at this
          show (hq_sI _ _ _ _).1 21 k = 0
          rw [sI_ne (by decide), sI_ne (by decide), sI_slot e, t4.i rfl]; exact this
        | some x =>
          rw [hk2] at this
          obtain ⟨a1, a2, a3, a4, a5, a6⟩ := this
          refine ⟨?_, a2, a3, ?_, ?_, a6.to a3 (fun j hj => (e20 _).trans (t3 _ (by omega)))⟩
          · rw [sI_ne (by decide), sI_ne (by decide), sI_slot e, t4.i rfl]; exact a1
          · rw [sI_ne (by decide), sI_slot e, sI_ne (by decide), t4.i rfl]; exact a4
          · rw [sI_slot e, sI_ne (by decide), sI_ne (by decide), t4.i rfl]; exact a5
    · exact (p6 k B hB).to p2 (fun j hj => (e20 _).trans (t3 _ (by omega)))
/-- what a shelf gives back -/
def agnB (A : TA) (K : Shf) (x : Int32) : Option Snap := if inb x 0 2 then (match K x.toInt.toNat with
  | none => none
  | some (B, dn, hn, _) => if dn = A 0 0 ∧ hn = A 1 0 then some B else none) else none
theorem s_again {t y : Int32} {P : List Snap} {K : Shf} (h : cT A t y σ) (hp : cP (A 1 0) P K σ) (x : Int32) (hW : ∀ B, agnB A K x = some B → Wf (rst A B.1)) : ∃ τ, hq_c 154 (d + 5) [.ref 0, .int x] σ (some (.int (bI (agnB A K x).isSome))) τ ∧ (match agnB A K x with
    | none => cT A t y τ ∧ cP (A 1 0) P K τ
    | some B => cT (rst A B.1) B.2.1 B.2.2 τ ∧ cP (A 1 0) [] K τ) ∧ Fr [(5, 16), (5, 17), (11, 0), (12, 0), (15, 0), (16, 0), (17, 0), (19, 5), (19, 6)] σ τ := by
  have g := s_isShelf (d := d + 3) (σ := σ) x
  obtain ⟨hK, p, hG⟩ := id hp
  cases c : inb x 0 2 with
  | false =>
    rw [c] at g
    have : agnB A K x = none := by unfold agnB; rw [c]; rfl
    rw [this]
    exact ⟨σ, p_X9_again_0_1 g rfl, ⟨h, hp⟩, Fr.rf σ⟩
  | true =>
    rw [c] at g
    obtain ⟨i, i1, i2, rfl⟩ := inb_of c
    have ci : (nI i).toNatClampNeg = i := clamp (by omega)
    have o : vp_in (nI i) 3 := vin (by omega) (by decide)
    have hi := hK i (by omega)
    have e13 : σ.1 5 13 = nI (A 0 0) := h.1.2.1
    have e14 : σ.1 5 14 = nI (A 1 0) := h.1.2.2.1
    have b1 := h.1.1.1
    have b2 := h.1.1.2.1
    cases hk : K i with
    | none =>
      rw [hk] at hi
      have : agnB A K (nI i) = none := by unfold agnB; rw [c, tn (by omega), hk]; rfl
      rw [this]
      exact ⟨σ, p_X9_again_0_2 g (by decide) (p_X3_fetch_0_1 o (by rw [ci]; exact hi)) rfl, ⟨h, hp⟩, Fr.rf σ⟩
    | some z =>
      obtain ⟨B, dn, hn, ch⟩ := z
      rw [hk] at hi
      obtain ⟨a1, a2, a3, a4, a5, a6⟩ := hi
      have n0 : ¬ σ.1 21 (nI i).toNatClampNeg = 0 := by rw [ci, a1]; decide
      by_cases q1 : dn = A 0 0
      · have e1 : σ.1 22 (nI i).toNatClampNeg = σ.1 5 13 := by rw [ci, a4, e13, q1]
        by_cases q2 : hn = A 1 0
        · have e2 : σ.1 23 (nI i).toNatClampNeg = σ.1 5 14 := by rw [ci, a5, e14, q2]
          have ea : agnB A K (nI i) = some B := by unfold agnB; rw [c, tn (by omega), hk, if_pos rfl]; simp [q1, q2]
          subst q2
          obtain ⟨τ, t1, t2, t3⟩ := s_load (d := d) h (hW B ea) (s := 16 + i) (by omega) a6
          have hp2 : cP (A 1 0) P K τ := cP.dep.fr t3 (by decide) hp
          obtain ⟨τ2, u1, u2, u3⟩ := s_forgetActs (d := d + 3) hp2 (m := A 1 0) b2
          rw [ea]
          refine ⟨τ2, p_X9_again_0_3 g (by decide) (p_X3_fetch_0_2 o n0 o e1 o e2 (by rw [nplus]; exact t1)) (by decide) u1, ⟨cT.dep.fr u3 (by decide) t2, u2⟩, (t3.up (by decide)).tr (u3.up (by decide))⟩
        · have e2 : ¬ σ.1 23 (nI i).toNatClampNeg = σ.1 5 14 := by rw [ci, a5, e14, nI_eq (by omega) (by omega)]; exact q2
          have ea : agnB A K (nI i) = none := by unfold agnB; rw [c, tn (by omega), hk, if_pos rfl]; simp [q2]
          rw [ea]
          exact ⟨σ, p_X9_again_0_2 g (by decide) (p_X3_fetch_0_3 o n0 o e1 o e2) rfl, ⟨h, hp⟩, Fr.rf σ⟩
      · have e1 : ¬ σ.1 22 (nI i).toNatClampNeg = σ.1 5 13 := by rw [ci, a4, e13, nI_eq (by omega) (by omega)]; exact q1
        have ea : agnB A K (nI i) = none := by unfold agnB; rw [c, tn (by omega), hk, if_pos rfl]; simp [q1]
        rw [ea]
        exact ⟨σ, p_X9_again_0_2 g (by decide) (p_X3_fetch_0_4 o n0 o e1) rfl, ⟨h, hp⟩, Fr.rf σ⟩
-- the reference
theorem mT.sl {t y : Int32} (h : mT A t y σ) : slM (A, t, y) (A 1 0) 0 (σ.1 61) := ⟨fun k hk => by
  obtain ⟨a1, a2, a3, a4⟩ := h.1.2.2.2.2.2.1 k hk
  refine ⟨?_, ?_, ?_, ?_⟩ <;> (simp only [Nat.zero_add]; assumption), by rw [Nat.zero_add]; exact h.2.1, by rw [Nat.zero_add]; exact h.2.2⟩
/-- a row put back -/
theorem mT.back {t y : Int32} {B : Snap} {τ : hq_St} (h : mT A t y σ) (hW : Wf (rst A B.1)) (hs : slM B (A 1 0) 0 (τ.1 61)) (f : Fr [(52, 1), (52, 30), (61, 0)] σ τ) : mT (rst A B.1) B.2.1 B.2.2 τ := by
  obtain ⟨⟨W, r1, r2, rD, rH, rR, rS⟩, -, -⟩ := h
  refine ⟨⟨hW, (f.i rfl).trans r1, (f.i rfl).trans r2, fun k hk => ?_, fun k hk => ?_, fun k hk => ?_, fun r z1 z2 => (f.i rfl).trans (rS r z1 z2)⟩, ?_, ?_⟩
  · obtain ⟨a1, a2, a3, a4⟩ := rD k hk
    exact ⟨(f.i rfl).trans a1, (f.i rfl).trans a2, (f.i rfl).trans a3, (f.i rfl).trans a4⟩
  · obtain ⟨a1, a2⟩ := rH k hk
    exact ⟨(f.i rfl).trans a1, (f.i rfl).trans a2⟩
  · obtain ⟨a1, a2, a3, a4⟩ := hs.1 k hk
    simp only [Nat.zero_add] at a1 a2 a3 a4
    exact ⟨a1, a2, a3, a4⟩
  · have := hs.2.1; rwa [Nat.zero_add] at this
  · have := hs.2.2; rwa [Nat.zero_add] at this
theorem m_putsBy {t y : Int32} {P : List Snap} (h : mT A t y σ) (hp : mP (A 1 0) P σ) : ∃ τ, hq_c 212 (d + 1) [.ref 52] σ none τ ∧ mPm (A 1 0) P (A, t, y) τ ∧ Fr [(69, 0)] σ τ := by
  obtain ⟨p1, p2, p3, p4⟩ := id hp
  obtain ⟨τ, w, q1, q2, f⟩ := hq_w.for (x := 212) (d := d + 1) (i := 2) (fun j => [some (.ref 52), some (.int (nI j))]) (fun j ρ => (∀ k, k < j → ρ.1 69 (50 * P.length + k) = σ.1 61 k) ∧ (∀ k, k < 50 * P.length → ρ.1 69 k = σ.1 69 k) ∧ Fr [(69, 0)] σ ρ) 50 (fun j hj ρ ⟨q1, q2, f⟩ => by
    have cj : (nI j).toNatClampNeg = j := clamp (by omega)
    have e : nI 50 * ρ.1 52 29 + nI j = nI (50 * P.length + j) := by rw [f.i rfl, p3, pk_mul, nplus]
    have ce : (nI (50 * P.length + j)).toNatClampNeg = 50 * P.length + j := clamp (by omega)
    refine ⟨hq_sI ρ 69 (50 * P.length + j) (σ.1 61 j), fun v τ k => p_X10_putsBy_2_1 (nlt hj (by decide)) (by rw [e]; exact vin (by omega) (by decide)) (vin hj (by decide)) ?_, fun k hk => ?_, fun k hk => ?_, f.sI rfl⟩
    · rw [e, ce, cj, f.i rfl, nplus]; exact k
    · rw [sI_at, if_pos rfl]
      by_cases z : k = j
      · rw [if_pos (by omega), z]
      · rw [if_neg (by omega)]; exact q1 k (by omega)
    · rw [sI_slot (by omega)]; exact q2 k hk) (σ := σ) ⟨fun k hk => by omega, fun _ _ => rfl, Fr.rf σ⟩
  refine ⟨τ, p_X10_putsBy_0_1 (w _ _ (p_X10_putsBy_2_2 (by decide))), ⟨⟨p1, p2, (f.i rfl).trans p3, fun i B hB => ?_⟩, h.sl.to p1 (fun j hj => ?_)⟩, f⟩
  · have := (List.getElem?_eq_some_iff.mp hB).1
    exact (p4 i B hB).to p1 (fun j hj => q2 _ (by omega))
  · rw [q1 j hj, Nat.zero_add]
theorem m_adds {n : Nat} {P : List Snap} {B : Snap} (h : mPm n P B σ) (x : Int32) : ∃ τ, hq_c 213 (d + 1) [.ref 52, .int x] σ (some (.int x)) τ ∧ mP n (addP B P) τ ∧ Fr [(52, 30), (69, 0)] σ τ := by
  obtain ⟨⟨p1, p2, p3, p4⟩, hB⟩ := h
  have f0 : Fr [(52, 30), (69, 0)] σ (hq_sI σ 52 29 (nI (P.length + 1))) := (Fr.rf σ).sI rfl
  by_cases q : P.length = 15
  · obtain ⟨τ, w, q1, q2⟩ := hq_w.for (x := 213) (d := d + 1) (i := 12) (fun j => [some (.ref 52), some (.int x), some (.int (nI j))]) (fun j ρ => (∀ k, ρ.1 69 k = if k < j then σ.1 69 (k + 50) else σ.1 69 k) ∧ ρ.1 52 29 = nI 16 ∧ Fr [(52, 30), (69, 0)] σ ρ) 750 (fun j hj ρ ⟨q1, q2, f⟩ => by
      have cj : (nI j).toNatClampNeg = j := clamp (by omega)
      have cj2 : (nI j + nI 50).toNatClampNeg = j + 50 := by rw [nplus]; exact clamp (by omega)
      refine ⟨hq_sI ρ 69 j (σ.1 69 (j + 50)), fun v τ k => p_X10_adds_12_1 (nlt hj (by decide)) (vin (by omega) (by decide)) (by rw [nplus]; exact vin (by omega) (by decide)) ?_, fun k => ?_, ?_, f.sI rfl⟩
      · rw [cj, cj2, q1 (j + 50), if_neg (by omega), nplus]; exact k
      · rw [sI_at, if_pos rfl]
        by_cases z : k = j
        · rw [if_pos z, if_pos (by omega), z]
        · rw [if_neg z, q1 k]
          by_cases z2 : k < j
          · rw [if_pos z2, if_pos (by omega)]
          · rw [if_neg z2, if_neg (by omega)]
      · rw [sI_ne (by decide)]; exact q2) (σ := hq_sI σ 52 29 (nI (P.length + 1))) ⟨fun k => by rw [if_neg (by omega), sI_ne (by decide)], by rw [sI_eq, q], f0⟩
    have fin := p_X10_adds_12_2 (d := d) (σ := τ) (l1 := x) (l2 := nI 750) (by decide)
    rw [q2.1] at fin
    have e15 : nI 16 - nI 1 = nI 15 := by decide
    rw [e15] at fin
    refine ⟨_, p_X10_adds_0_1 (by rw [sI_eq, p3, nplus, q]; decide) (by rw [p3, nplus]; exact w _ _ fin), ⟨p1, ?_, ?_, fun i C hC => ?_⟩, q2.2.sI rfl⟩
    · rw [addP_len B p2]; omega
    · rw [sI_eq, addP_len B p2, q]; rfl
    · obtain ⟨hi, h0⟩ := addP_get hC
      have hl : (addP B P).length = 15 := by rw [addP_len B p2, q]; rfl
      rw [hl]
      rcases h0 with ⟨rfl, rfl⟩ | ⟨k, rfl, hk⟩
      · refine hB.to p1 (fun j hj => ?_)
        rw [sI_ne (by decide), q1, if_pos (by omega)]
        exact congrArg (σ.1 69) (by omega)
      · refine (p4 k C hk).to p1 (fun j hj => ?_)
        rw [sI_ne (by decide), q1, if_pos (by omega)]
        exact congrArg (σ.1 69) (by omega)
  · refine ⟨_, p_X10_adds_0_2 (by rw [sI_eq, p3, nplus]; exact nI_nlt (by omega) (by omega)), ⟨p1, ?_, ?_, fun i C hC => ?_⟩, (Fr.rf σ).sI rfl⟩
    · rw [addP_len B p2]; omega
    · rw [sI_eq, p3, nplus, addP_len B p2]; congr 1; omega
    · obtain ⟨hi, h0⟩ := addP_get hC
      have hl : (addP B P).length = P.length + 1 := by rw [addP_len B p2]; omega
      rw [hl]
      rcases h0 with ⟨rfl, rfl⟩ | ⟨k, rfl, hk⟩
      · refine hB.to p1 (fun j hj => ?_)
        rw [sI_ne (by decide)]
        exact congrArg (σ.1 69) (by omega)
      · refine (p4 k C hk).to p1 (fun j hj => ?_)
        rw [sI_ne (by decide)]
        exact congrArg (σ.1 69) (by omega)
theorem m_undo {t y : Int32} {P : List Snap} (h : mT A t y σ) (hp : mP (A 1 0) P σ) (hW : ∀ B ∈ P, Wf (rst A B.1)) : ∃ τ, hq_c 214 (d + 1) [.ref 52] σ (some (.int (undoR P))) τ ∧ mT (undoA A P) (undoT t P) (undoY y P) τ ∧ mP (A 1 0) (undoP P) τ ∧ Fr [(52, 1), (52, 30), (61, 0)] σ τ := by
  obtain ⟨p1, p2, p3, p4⟩ := id hp
  have f0 : Fr [(52, 1)] σ (hq_sI σ 52 0 (nI 0)) := (Fr.rf σ).sI rfl
  have e29 : (hq_sI σ 52 0 (nI 0)).1 52 29 = nI P.length := (f0.i rfl).trans p3
  cases P with
  | nil =>
    exact ⟨_, p_X10_undo_0_1 (by rw [e29]; rfl), mT.dep.fr f0 (by decide) h, mP.dep.fr f0 (by decide) hp, f0.up (by decide)⟩
  | cons B Q =>
    have hl : (B :: Q).length = Q.length + 1 := rfl
    rw [hl] at p2 p3 e29
    have e5 : nI (Q.length + 1) - nI 1 = nI Q.length := nI_pred _
    obtain ⟨τ, w, q1, q2, f⟩ := hq_w.for (x := 214) (d := d + 1) (i := 16) (fun j => [some (.ref 52), some (.int (nI j))]) (fun j ρ => (∀ k, k < j → ρ.1 61 k = σ.1 69 (50 * Q.length + k)) ∧ ρ.1 52 29 = nI Q.length ∧ Fr [(52, 1), (52, 30), (61, 0)] σ ρ) 50 (fun j hj ρ ⟨q1, q2, f⟩ => by
      have cj : (nI j).toNatClampNeg = j := clamp (by omega)
      have e : nI 50 * ρ.1 52 29 + nI j = nI (50 * Q.length + j) := by rw [q2, pk_mul, nplus]
      have ce : (nI (50 * Q.length + j)).toNatClampNeg = 50 * Q.length + j := clamp (by omega)
      refine ⟨hq_sI ρ 61 j (σ.1 69 (50 * Q.length + j)), fun v τ k => p_X10_undo_16_1 (nlt hj (by decide)) (vin hj (by decide)) (by rw [e]; exact vin (by omega) (by decide)) ?_, fun k hk => ?_, ?_, f.sI rfl⟩
      · rw [e, ce, cj, f.i rfl, nplus]; exact k
      · rw [sI_at, if_pos rfl]
        by_cases z : k = j
        · rw [if_pos z, z]
        · rw [if_neg z]; exact q1 k (by omega)
      · rw [sI_ne (by decide)]; exact q2) (σ := hq_sI (hq_sI σ 52 0 (nI 0)) 52 29 (nI Q.length)) ⟨fun k hk => by omega, sI_eq, ((f0.up (by decide)).sI rfl)⟩
    have fin := p_X10_undo_16_2 (d := d) (σ := τ) (l1 := nI 50) (by decide)
    rw [q2] at fin
    have hs : slM B (A 1 0) 0 (τ.1 61) := (p4 0 B rfl).to p1 (fun j hj => by
      rw [Nat.zero_add, q1 j hj]
      exact congrArg (σ.1 69) (by show 50 * Q.length + j = 50 * (Q.length + 1 - 1 - 0) + j; omega))
    refine ⟨τ, p_X10_undo_0_2 (by rw [e29]; exact nI_ne0 (by omega) (by omega)) (by rw [e29, e5]; exact w _ _ fin), h.back (hW B List.mem_cons_self) hs f, ⟨p1, ?_, q2, fun i C hC => ?_⟩, f⟩
    · show Q.length ≤ 15; omega
    · have := (List.getElem?_eq_some_iff.mp hC).1
      refine (p4 (i + 1) C hC).to p1 (fun j hj => ?_)
      rw [f.i rfl]
      have hi : i < Q.length := this
      exact congrArg (σ.1 69) (by show 50 * (Q.length - 1 - i) + j = 50 * (Q.length + 1 - 1 - (i + 1)) + j; omega)
theorem m_keep {t y : Int32} {C : Nat} {K : Shf} (h : mT A t y σ) (hk : mK C K σ) (hC : C ≤ 20) (x : Int32) : ∃ τ, hq_c 275 (d + 2) [.ref 52, .int x] σ (some (.int (bI (inb x 0 2)))) τ ∧ mK C (keepK K A t y C x) τ ∧ Fr [(52, 1), (82, 0), (83, 0), (84, 0)] σ τ := by
  have g := m_inb (d := d) (σ := hq_sI σ 52 0 (nI 0)) x (a := 0) (b := 2) (by decide) (by decide)
  have f0 : Fr [(52, 1)] σ (hq_sI σ 52 0 (nI 0)) := (Fr.rf σ).sI rfl
  cases c : inb x 0 2 with
  | false =>
    rw [c] at g
    have : keepK K A t y C x = K := by
      funext i
      unfold keepK
      rw [c, if_neg (by simp)]
    rw [this]
    exact ⟨_, p_X10_keep_0_1 g rfl, mK.dep.fr f0 (by decide) hk, f0.up (by decide)⟩
  | true =>
    rw [c] at g
    obtain ⟨i, i1, i2, rfl⟩ := inb_of c
    have ci : (nI i).toNatClampNeg = i := clamp (by omega)
    have o : vp_in (nI i) 3 := vin (by omega) (by decide)
    have b2 := h.1.1.2.1
    have f1 : Fr [(52, 1), (82, 0), (83, 0), (84, 0)] σ (hq_sI (hq_sI (hq_sI σ 52 0 (nI 0)) 82 i (nI 1)) 83 i (nI C)) := ((f0.up (by decide)).sI rfl).sI rfl
    obtain ⟨τ, w, q1, q2, q3, q4, f⟩ := hq_w.for (x := 275) (d := d + 2) (i := 24) (fun j => [some (.ref 52), some (.int (nI i)), some (.int (nI j))]) (fun j ρ => (∀ k, k < j → ρ.1 84 (50 * i + k) = σ.1 61 k) ∧ (∀ k, k < 50 * i ∨ 50 * i + 50 ≤ k → ρ.1 84 k = σ.1 84 k) ∧ (∀ k, ρ.1 82 k = if k = i then nI 1 else σ.1 82 k) ∧ (∀ k, ρ.1 83 k = if k = i then nI C else σ.1 83 k) ∧ Fr [(52, 1), (82, 0), (83, 0), (84, 0)] σ ρ) 50 (fun j hj ρ ⟨q1, q2, q3, q4, f⟩ => by
      have cj : (nI j).toNatClampNeg = j := clamp (by omega)
      have e : nI 50 * nI i + nI j = nI (50 * i + j) := by rw [pk_mul, nplus]
      have ce : (nI (50 * i + j)).toNatClampNeg = 50 * i + j := clamp (by omega)
      refine ⟨hq_sI ρ 84 (50 * i + j) (σ.1 61 j), fun v τ k => p_X10_keep_24_1 (nlt hj (by decide)) (by rw [e]; exact vin (by omega) (by decide)) (vin hj (by decide)) ?_, fun k hk => ?_, fun k hk => ?_, fun k => ?_, fun k => ?_, f.sI rfl⟩
      · rw [e, ce, cj, f.i rfl, nplus]; exact k
      · rw [sI_at, if_pos rfl]
        by_cases z : k = j
        · rw [if_pos (by omega), z]
        · rw [if_neg (by omega)]; exact q1 k (by omega)
      · rw [sI_slot (by omega)]; exact q2 k hk
      · rw [sI_ne (by decide)]; exact q3 k
      · rw [sI_ne (by decide)]; exact q4 k) (σ := hq_sI (hq_sI (hq_sI σ 52 0 (nI 0)) 82 i (nI 1)) 83 i (nI C)) ⟨fun k hk => by omega, fun k _ => by rw [sI_ne (by decide), sI_ne (by decide), sI_ne (by decide)], fun k => by rw [sI_ne (by decide), sI_at, if_pos rfl, sI_ne (by decide)], fun k => by rw [sI_at, if_pos rfl, sI_ne (by decide), sI_ne (by decide)], f1⟩
    refine ⟨τ, p_X10_keep_0_2 g (by decide) o o (by decide) (by rw [ci, sI_ne (by decide), f0.i rfl, hk.1]; exact w _ _ (p_X10_keep_24_2 (by decide))), ⟨(f.i rfl).trans hk.1, fun k hk' => ?_⟩, f⟩
    unfold keepK
    rw [c, tn (by omega)]
    by_cases e : k = i
    · subst e
      rw [if_pos ⟨rfl, rfl⟩]
      refine ⟨by rw [q3, if_pos rfl], b2, hC, by rw [q4, if_pos rfl], h.sl.to b2 (fun j hj => ?_)⟩
      rw [q1 j hj, Nat.zero_add]
    · rw [if_neg (fun z => e z.2)]
      have := hk.2 k hk'
      cases hk2 : K k with
      | none =>
        rw [hk2] at this
        show τ.1 82 k = 0
        rw [q3, if_neg e]; exact this
      | some x =>
        rw [hk2] at this
        obtain ⟨a1, a2, a2', a3, a4⟩ := this
        exact ⟨by rw [q3, if_neg e]; exact a1, a2, a2', by rw [q4, if_neg e]; exact a3, a4.to a2 (fun j hj => q2 _ (by omega))⟩
/-- the reference goes by how often the house changed -/
def agnM (C : Nat) (K : Shf) (x : Int32) : Option Snap := if inb x 0 2 then (match K x.toInt.toNat with
  | none => none
  | some (B, _, _, ch) => if ch = C then some B else none) else none
theorem m_again {t y : Int32} {C : Nat} {P : List Snap} {K : Shf} (h : mT A t y σ) (hp : mP (A 1 0) P σ) (hk : mK C K σ) (hC : C ≤ 20) (x : Int32) (hW : ∀ B, agnM C K x = some B → Wf (rst A B.1)) (hN : ∀ i B dn hn, K i = some (B, dn, hn, C) → hn = A 1 0) : ∃ τ, hq_c 276 (d + 2) [.ref 52, .int x] σ (some (.int (bI (agnM C K x).isSome))) τ ∧ (match agnM C K x with
    | none => mT A t y τ ∧ mP (A 1 0) P τ
    | some B => mT (rst A B.1) B.2.1 B.2.2 τ ∧ mP (A 1 0) [] τ) ∧ Fr [(52, 1), (52, 30), (61, 0)] σ τ := by
  have g := m_inb (d := d) (σ := hq_sI σ 52 0 (nI 0)) x (a := 0) (b := 2) (by decide) (by decide)
  have f0 : Fr [(52, 1)] σ (hq_sI σ 52 0 (nI 0)) := (Fr.rf σ).sI rfl
  have h0 : mT A t y (hq_sI σ 52 0 (nI 0)) := mT.dep.fr f0 (by decide) h
  have hp0 : mP (A 1 0) P (hq_sI σ 52 0 (nI 0)) := mP.dep.fr f0 (by decide) hp
  have hk0 : mK C K (hq_sI σ 52 0 (nI 0)) := mK.dep.fr f0 (by decide) hk
  cases c : inb x 0 2 with
  | false =>
    rw [c] at g
    have : agnM C K x = none := by unfold agnM; rw [c]; rfl
    rw [this]
    exact ⟨_, p_X10_again_0_1 g rfl, ⟨h0, hp0⟩, f0.up (by decide)⟩
  | true =>
    rw [c] at g
    obtain ⟨i, i1, i2, rfl⟩ := inb_of c
    have ci : (nI i).toNatClampNeg = i := clamp (by omega)
    have o : vp_in (nI i) 3 := vin (by omega) (by decide)
    have hi := hk0.2 i (by omega)
    have b2 := h.1.1.2.1
    cases hk2 : K i with
    | none =>
      rw [hk2] at hi
      have : agnM C K (nI i) = none := by unfold agnM; rw [c, tn (by omega), hk2]; rfl
      rw [this]
      exact ⟨_, p_X10_again_0_2 g (by decide) o (by rw [ci]; exact hi), ⟨h0, hp0⟩, f0.up (by decide)⟩
    | some z =>
      obtain ⟨B, dn, hn, ch⟩ := z
      rw [hk2] at hi
      obtain ⟨a1, a2, a2', a3, a4⟩ := hi
      have n0 : ¬ (hq_sI σ 52 0 (nI 0)).1 82 (nI i).toNatClampNeg = 0 := by rw [ci, a1]; decide
      by_cases q : ch = C
      · subst q
        have ea : agnM ch K (nI i) = some B := by unfold agnM; rw [c, tn (by omega), hk2, if_pos rfl]; simp
        have hN' := hN i B dn hn hk2
        subst hN'
        obtain ⟨τ, w, q1, f⟩ := hq_w.for (x := 276) (d := d + 2) (i := 25) (fun j => [some (.ref 52), some (.int (nI i)), some (.int (nI j))]) (fun j ρ => (∀ k, k < j → ρ.1 61 k = σ.1 84 (50 * i + k)) ∧ Fr [(52, 1), (52, 30), (61, 0)] σ ρ) 50 (fun j hj ρ ⟨q1, f⟩ => by
          have cj : (nI j).toNatClampNeg = j := clamp (by omega)
          have e : nI 50 * nI i + nI j = nI (50 * i + j) := by rw [pk_mul, nplus]
          have ce : (nI (50 * i + j)).toNatClampNeg = 50 * i + j := clamp (by omega)
          refine ⟨hq_sI ρ 61 j (σ.1 84 (50 * i + j)), fun v τ k => p_X10_again_25_1 (nlt hj (by decide)) (vin hj (by decide)) (by rw [e]; exact vin (by omega) (by decide)) ?_, fun k hk => ?_, f.sI rfl⟩
          · rw [e, ce, cj, f.i rfl, nplus]; exact k
          · rw [sI_at, if_pos rfl]
            by_cases z : k = j
            · rw [if_pos z, z]
            · rw [if_neg z]; exact q1 k (by omega)) (σ := hq_sI σ 52 0 (nI 0)) ⟨fun k hk => by omega, f0.up (by decide)⟩
        have f2 : Fr [(52, 1), (52, 30), (61, 0)] σ (hq_sI τ 52 29 (nI 0)) := f.sI rfl
        have hs : slM B (A 1 0) 0 ((hq_sI τ 52 29 (nI 0)).1 61) := a4.to b2 (fun j hj => by
          rw [Nat.zero_add, sI_ne (by decide), q1 j hj, sI_ne (by decide)])
        rw [ea]
        refine ⟨_, p_X10_again_0_3 g (by decide) o n0 o (by rw [ci, a3, hk0.1]) (w _ _ (p_X10_again_25_2 (by decide))), ⟨h.back (hW B ea) hs f2, b2, by decide, by rw [sI_eq]; rfl, fun i B hB => by simp at hB⟩, f2⟩
      · have ea : agnM C K (nI i) = none := by unfold agnM; rw [c, tn (by omega), hk2, if_pos rfl]; simp [q]
        rw [ea]
        exact ⟨_, p_X10_again_0_4 g (by decide) o n0 o (by rw [ci, a3, hk0.1, nI_eq (by omega) (by omega)]; exact q), ⟨h0, hp0⟩, f0.up (by decide)⟩
end UN
