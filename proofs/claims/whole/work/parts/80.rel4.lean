/-! Class and reference side by side: days, gales, shelves, the house -/
section R4
variable {A A' : TA} {t y : Int32} {P P' : List Snap} {K : Shf} {C : Nat} {G H : List Nat} {n : Nat} {f : Nat → Nat} {L : List Int64} {σ : hq_St}
theorem if_mem {B X : Snap} {c : Prop} [Decidable c] {P : List Snap} (h : B ∈ (if c then P else addP X P)) : B = X ∨ B ∈ P := by
  split at h
  · exact Or.inr h
  · exact addP_mem h
theorem days_same {k : Nat} (hk : k ≤ 60) : ∀ σ, INV σ → ∃ v σ1, hq_c 164 100 [.ref 0, .int (nI k)] σ (some (.int v)) σ1 ∧ ∀ ρ, Fr [(52, 1)] σ1 ρ → ∃ σ2, hq_c 225 100 [.ref 52, .int (nI k)] ρ (some (.int v)) σ2 ∧ INV σ2 := fun σ ⟨A, t, y, P, K, C, G, H, n, f, L, ⟨cb, cr, ci⟩, ⟨mb, mr⟩, i1, i2, i3⟩ => by
  have W := cb.1.1.1
  obtain ⟨σ1, g1, r1, p1, l1, f0⟩ := s_passDays (d := 95) cb.1 cb.2.2.1 hk
  refine ⟨_, σ1, g1, fun ρ q => ?_⟩
  have f1 : Fr [(52, 1), (3, 2), (4, 0), (5, 16), (5, 17), (15, 0), (16, 0), (19, 5), (19, 6), (20, 0)] σ ρ := (f0.up (by decide)).tr (q.up (by decide))
  replace r1 := cT.dep.fr q (by decide) r1
  replace p1 := cP.dep.fr q (by decide) p1
  replace l1 := cR.dep.fr q (by decide) l1
  have mb1 : mBase A t y P K C G H n f ρ := ⟨mT.dep.fr f1 (by decide) mb.1, mX.dep.fr f1 (by decide) mb.2.1, mP.dep.fr f1 (by decide) mb.2.2.1, mK.dep.fr f1 (by decide) mb.2.2.2.1, mE.dep.fr f1 (by decide) mb.2.2.2.2.1, mU.dep.fr f1 (by decide) mb.2.2.2.2.2⟩
  have mr1 := mR.dep.fr f1 (by decide) mr
  obtain ⟨σ2, g2, r2, p2, l2, f2⟩ := m_daysN (d := 94) mb1.1 mb1.2.2.1 hk
  exact ⟨σ2, g2, INV.mk (A := (daysA A k)) (t := (daysT A t k)) (y := (daysY y k)) (P := (if k = 0 then P else addP (A, t, y) P)) (K := K) (C := C) (G := G) (H := H) (n := n) (f := f) (L := (daysL A k)) ⟨cT.dep.fr f2 (by decide) r1, cX.dep.fr f2 (by decide) (cX.dep.fr f1 (by decide) cb.2.1), cP.dep.fr f2 (by decide) (by rw [(sm.days A k) 1 0 (by decide)]; exact p1), cE.dep.fr f2 (by decide) (cE.dep.fr f1 (by decide) cb.2.2.2.1), cU.dep.fr f2 (by decide) (cU.dep.fr f1 (by decide) cb.2.2.2.2)⟩ (cR.dep.fr f2 (by decide) l1) (mI.dep.fr f2 (by decide) (mI.dep.fr f1 (by decide) ci)) ⟨r2, mX.dep.fr f2 (by decide) mb1.2.1, (by rw [(sm.days A k) 1 0 (by decide)]; exact p2), mK.dep.fr f2 (by decide) mb1.2.2.2.1, mE.dep.fr f2 (by decide) mb1.2.2.2.2.1, mU.dep.fr f2 (by decide) mb1.2.2.2.2.2⟩ (l2) (i1.mov W (sm.days A k) (fun B hB => if_mem hB)) (i2.mov (sm.days A k)) (by rw [(sm.days A k) 0 0 (by decide), (sm.days A k) 1 0 (by decide)]; exact i3)⟩
theorem e_day : SAME 122 224 [] := fun σ I => by
  obtain ⟨v, σ1, g1, h⟩ := days_same (k := 1) (by decide) σ I
  obtain ⟨σ2, g2, J⟩ := h (hq_sI σ1 52 0 (nI 0)) frth
  exact ⟨_, σ1, σ2, dp (p_X9_day_0_1 g1) (by decide), dp (p_X10_day_0_1 g2) (by decide), J⟩
/-- both refuse alike -/
theorem INV.th (h : INV σ) : INV (hq_sI σ 52 0 (nI 0)) := by
  obtain ⟨A, t, y, P, K, C, G, H, n, f, L, ⟨cb, cr, ci⟩, ⟨mb, mr⟩, i1, i2, i3⟩ := h
  have f2 : Fr [(52, 1)] σ (hq_sI σ 52 0 (nI 0)) := frth
  exact INV.q cb mb i1 i2 i3 (Fr.rf (G := []) σ) (by decide) (by decide) cr ci f2 (by decide) (by decide) (mR.dep.fr f2 (by decide) mr)
theorem e_days (x : Int32) : SAME 123 225 [.int x] := fun σ I => by
  cases c : inb x 0 60 with
  | true =>
    obtain ⟨k, _, hk, rfl⟩ := inb_of c
    obtain ⟨v, σ1, g1, h⟩ := days_same hk σ I
    obtain ⟨σ2, g2, J⟩ := h σ1 (Fr.rf σ1)
    have q1 : ¬ nI k < 0 := by rw [ltz, nI_toInt (by omega)]; omega
    have q2 : ¬ nI 60 < nI k := by rw [nI_ltx (by decide), nI_toInt (by omega)]; omega
    exact ⟨_, σ1, σ2, dp (p_X9_days_0_3 q1 q2 g1) (by decide), dp g2 (by decide), J⟩
  | false =>
    have g := m_inb (d := 0) (σ := hq_sI σ 52 0 (nI 0)) x (a := 0) (b := 60) (by decide) (by decide)
    rw [c] at g
    refine ⟨_, σ, _, dp (d := 1) ?_ (by decide), dp (d := 2) (p_X10_days_0_1 g rfl) (by decide), I.th⟩
    rcases nb1 (by decide) (by decide) c with q | ⟨q, q2⟩
    · exact p_X9_days_0_1 q
    · exact p_X9_days_0_2 q q2
theorem e_gale (z x : Int32) : SAME 124 227 [.int z, .int x] := fun σ I => by
  obtain ⟨A, t, y, P, K, C, G, H, n, f, L, ⟨cb, cr, ci⟩, ⟨mb, mr⟩, i1, i2, i3⟩ := id I
  have W := cb.1.1.1
  cases c : inb x 1 19 with
  | true =>
    obtain ⟨k, h1, hk, rfl⟩ := inb_of c
    obtain ⟨σ1, g1, r1, p1, f1⟩ := s_gale (d := 0) cb.1 cb.2.2.1 z h1 hk
    have mb1 : mBase A t y P K C G H n f σ1 := ⟨mT.dep.fr f1 (by decide) mb.1, mX.dep.fr f1 (by decide) mb.2.1, mP.dep.fr f1 (by decide) mb.2.2.1, mK.dep.fr f1 (by decide) mb.2.2.2.1, mE.dep.fr f1 (by decide) mb.2.2.2.2.1, mU.dep.fr f1 (by decide) mb.2.2.2.2.2⟩
    have mr1 := mR.dep.fr f1 (by decide) mr
    obtain ⟨σ2, g2, r2, p2, f2⟩ := m_gale (d := 0) mb1.1 mb1.2.2.1 z h1 hk
    exact ⟨_, _, σ2, dp g1 (by decide), dp g2 (by decide), INV.mk (A := (galT A (nI k) z)) (t := t) (y := y) (P := (addP (A, t, y) P)) (K := K) (C := C) (G := G) (H := H) (n := n) (f := f) (L := L) ⟨cT.dep.fr f2 (by decide) r1, cX.dep.fr f2 (by decide) (cX.dep.fr f1 (by decide) cb.2.1), cP.dep.fr f2 (by decide) (by rw [(sm.gal A (nI k) z) 1 0 (by decide)]; exact p1), cE.dep.fr f2 (by decide) (cE.dep.fr f1 (by decide) cb.2.2.2.1), cU.dep.fr f2 (by decide) (cU.dep.fr f1 (by decide) cb.2.2.2.2)⟩ (cR.dep.fr f2 (by decide) (cR.dep.fr f1 (by decide) cr)) (mI.dep.fr f2 (by decide) (mI.dep.fr f1 (by decide) ci)) ⟨r2, mX.dep.fr f2 (by decide) mb1.2.1, (by rw [(sm.gal A (nI k) z) 1 0 (by decide)]; exact p2), mK.dep.fr f2 (by decide) mb1.2.2.2.1, mE.dep.fr f2 (by decide) mb1.2.2.2.2.1, mU.dep.fr f2 (by decide) mb1.2.2.2.2.2⟩ (mR.dep.fr f2 (by decide) mr1) (i1.mov W (sm.gal A (nI k) z) (fun B hB => addP_mem hB)) (i2.mov (sm.gal A (nI k) z)) (by rw [(sm.gal A (nI k) z) 0 0 (by decide), (sm.gal A (nI k) z) 1 0 (by decide)]; exact i3)⟩
  | false =>
    have g := m_inb (d := 0) (σ := hq_sI σ 52 0 (nI 0)) x (a := 1) (b := 19) (by decide) (by decide)
    rw [c] at g
    refine ⟨_, σ, _, dp (d := 1) ?_ (by decide), dp (d := 2) (p_X10_gale_0_1 g rfl) (by decide), I.th⟩
    rcases nb1 (by decide) (by decide) c with q | ⟨q, q2⟩
    · exact p_X9_gale_0_1 q
    · exact p_X9_gale_0_2 q q2
theorem agn_eq (h : KI A C K) (x : Int32) : agnM C K x = agnB A K x := by
  unfold agnM agnB
  split
  · cases q : K x.toInt.toNat with
    | none => rfl
    | some v =>
      obtain ⟨B, dn, hn, c⟩ := v
      obtain ⟨a, b, e⟩ := h _ _ _ _ _ q
      show (if c = C then some B else none) = if dn = A 0 0 ∧ hn = A 1 0 then some B else none
      by_cases w : c = C
      · obtain ⟨e1, e2, _⟩ := e w
        rw [if_pos w, if_pos ⟨e1, e2⟩]
      · have := b (by omega)
        rw [if_neg w, if_neg (by omega)]
  · rfl
theorem agn_wf (h : KI A C K) {x : Int32} {B : Snap} (hB : agnM C K x = some B) : Wf (rst A B.1) := by
  unfold agnM at hB
  split at hB
  · cases q : K x.toInt.toNat with
    | none => rw [q] at hB; cases hB
    | some v =>
      obtain ⟨B', dn, hn, c⟩ := v
      rw [q] at hB
      obtain ⟨a, b, e⟩ := h _ _ _ _ _ q
      replace hB : (if c = C then some B' else none) = some B := hB
      split at hB
      · rename_i w
        cases hB
        exact (e w).2.2
      · cases hB
  · cases hB
theorem e_again (x : Int32) : SAME 154 276 [.int x] := fun σ ⟨A, t, y, P, K, C, G, H, n, f, L, ⟨cb, cr, ci⟩, ⟨mb, mr⟩, i1, i2, i3⟩ => by
  have W := cb.1.1.1
  have hC : C ≤ 20 := Nat.le_trans i3 (by have := W.1; have := W.2.1; omega)
  obtain ⟨σ1, g1, r1, f1⟩ := s_again (d := 0) cb.1 cb.2.2.1 x (fun B hB => agn_wf i2 (by rw [agn_eq i2]; exact hB))
  have mb1 : mBase A t y P K C G H n f σ1 := mBase.dep.fr f1 (by decide) mb
  have mr1 := mR.dep.fr f1 (by decide) mr
  obtain ⟨σ2, g2, r2, f2⟩ := m_again (d := 0) mb1.1 mb1.2.2.1 mb1.2.2.2.1 hC x (fun B hB => agn_wf i2 hB) (fun i B dn hn hk => ((i2 _ _ _ _ _ hk).2.2 rfl).2.1)
  rw [agn_eq i2] at g2 r2
  refine ⟨_, _, σ2, dp g1 (by decide), dp g2 (by decide), ?_⟩
  have W3 := fun B (hB : agnB A K x = some B) => agn_wf i2 (by rw [agn_eq i2]; exact hB)
  cases q : agnB A K x with
  | none =>
    rw [q] at r1 r2
    exact INV.mk (A := A) (t := t) (y := y) (P := P) (K := K) (C := C) (G := G) (H := H) (n := n) (f := f) (L := L) ⟨cT.dep.fr f2 (by decide) r1.1, cX.dep.fr f2 (by decide) (cX.dep.fr f1 (by decide) cb.2.1), cP.dep.fr f2 (by decide) r1.2, cE.dep.fr f2 (by decide) (cE.dep.fr f1 (by decide) cb.2.2.2.1), cU.dep.fr f2 (by decide) (cU.dep.fr f1 (by decide) cb.2.2.2.2)⟩ (cR.dep.fr f2 (by decide) (cR.dep.fr f1 (by decide) cr)) (mI.dep.fr f2 (by decide) (mI.dep.fr f1 (by decide) ci)) ⟨r2.1, mX.dep.fr f2 (by decide) mb1.2.1, r2.2, mK.dep.fr f2 (by decide) mb1.2.2.2.1, mE.dep.fr f2 (by decide) mb1.2.2.2.2.1, mU.dep.fr f2 (by decide) mb1.2.2.2.2.2⟩ (mR.dep.fr f2 (by decide) mr1) i1 i2 i3
  | some B =>
    rw [q] at r1 r2
    exact INV.mk (A := (rst A B.1)) (t := B.2.1) (y := B.2.2) (P := []) (K := K) (C := C) (G := G) (H := H) (n := n) (f := f) (L := L) ⟨cT.dep.fr f2 (by decide) r1.1, cX.dep.fr f2 (by decide) (cX.dep.fr f1 (by decide) cb.2.1), cP.dep.fr f2 (by decide) (by rw [(sm.rs A B.1) 1 0 (by decide)]; exact r1.2), cE.dep.fr f2 (by decide) (cE.dep.fr f1 (by decide) cb.2.2.2.1), cU.dep.fr f2 (by decide) (cU.dep.fr f1 (by decide) cb.2.2.2.2)⟩ (cR.dep.fr f2 (by decide) (cR.dep.fr f1 (by decide) cr)) (mI.dep.fr f2 (by decide) (mI.dep.fr f1 (by decide) ci)) ⟨r2.1, mX.dep.fr f2 (by decide) mb1.2.1, (by rw [(sm.rs A B.1) 1 0 (by decide)]; exact r2.2), mK.dep.fr f2 (by decide) mb1.2.2.2.1, mE.dep.fr f2 (by decide) mb1.2.2.2.2.1, mU.dep.fr f2 (by decide) mb1.2.2.2.2.2⟩ (mR.dep.fr f2 (by decide) mr1) (fun B hB => by simp at hB) (i2.mov (sm.rs A B.1)) (by rw [(sm.rs A B.1) 0 0 (by decide), (sm.rs A B.1) 1 0 (by decide)]; exact i3)
theorem hou_0 (W : Wf A) (hX : ∀ j, j < n → f j < 256) : (houA A n f = A ∧ ¬ (n ≠ 0 ∧ hoK A n f = true)) ∨ ((n ≠ 0 ∧ hoK A n f = true) ∧ A 0 0 + A 1 0 < houA A n f 0 0 + houA A n f 1 0) := by
  by_cases q : n ≠ 0 ∧ hoK A n f = true
  · refine Or.inr ⟨q, ?_⟩
    obtain ⟨_, _, r⟩ := hoR_ok (A := A) (n := n) (f := f) W hX
    have hk := q.2
    unfold hoK at hk
    have r' := r (by revert hk; cases (hoR A n f).1 <;> simp)
    unfold houA
    rw [if_pos q]
    unfold addL
    have a := foldD_0 A (hoR A n f).2.2.1
    have b := foldH_0 ((hoR A n f).2.2.1.foldl addD A) (hoR A n f).2.2.2
    rw [b.1, b.2, a.1, a.2]
    omega
  · refine Or.inl ⟨?_, q⟩
    unfold houA
    rw [if_neg q]
theorem e_house : SAME 112 187 [] := fun σ ⟨A, t, y, P, K, C, G, H, n, f, L, ⟨cb, cr, ci⟩, ⟨mb, mr⟩, i1, i2, i3⟩ => by
  have W := cb.1.1.1
  obtain ⟨σ1, g1, r1, x1, p1, f1⟩ := s_house (d := 0) cb.1 cb.2.1 cb.2.2.1
  have mb1 : mBase A t y P K C G H n f σ1 := ⟨mT.dep.fr f1 (by decide) mb.1, mX.dep.fr f1 (by decide) mb.2.1, mP.dep.fr f1 (by decide) mb.2.2.1, mK.dep.fr f1 (by decide) mb.2.2.2.1, mE.dep.fr f1 (by decide) mb.2.2.2.2.1, mU.dep.fr f1 (by decide) mb.2.2.2.2.2⟩
  have mr1 := mR.dep.fr f1 (by decide) mr
  obtain ⟨σ2, g2, r2, x2, p2, k2, f2⟩ := m_house (d := 0) mb1.1 mb1.2.1 mb1.2.2.1 mb1.2.2.2.1
  refine ⟨_, _, σ2, dp g1 (by decide), dp g2 (by decide), ?_⟩
  rcases hou_0 (A := A) (n := n) (f := f) W (fun j hj => (cb.2.1.2.2 j hj).1) with ⟨e, q⟩ | ⟨q, e⟩
  · rw [e] at r1 p1 r2 p2
    rw [if_neg q] at p1 p2 k2
    exact INV.mk (A := A) (t := t) (y := y) (P := P) (K := K) (C := C) (G := G) (H := H) (n := 0) (f := f) (L := L) ⟨cT.dep.fr f2 (by decide) r1, cX.dep.fr f2 (by decide) x1, cP.dep.fr f2 (by decide) p1, cE.dep.fr f2 (by decide) (cE.dep.fr f1 (by decide) cb.2.2.2.1), cU.dep.fr f2 (by decide) (cU.dep.fr f1 (by decide) cb.2.2.2.2)⟩ (cR.dep.fr f2 (by decide) (cR.dep.fr f1 (by decide) cr)) (mI.dep.fr f2 (by decide) (mI.dep.fr f1 (by decide) ci)) ⟨r2, x2, p2, k2, mE.dep.fr f2 (by decide) mb1.2.2.2.2.1, mU.dep.fr f2 (by decide) mb1.2.2.2.2.2⟩ (mR.dep.fr f2 (by decide) mr1) i1 i2 i3
  · rw [if_pos q] at p1 p2 k2
    have i2' : KI (houA A n f) (C + 1) K := fun i B dn hn c hk => by
      obtain ⟨a, b, d⟩ := i2 i B dn hn c hk
      refine ⟨by omega, fun _ => ?_, fun z => by omega⟩
      by_cases w : c = C
      · obtain ⟨d1, d2, _⟩ := d w
        omega
      · have := b (by omega)
        omega
    exact INV.mk (A := (houA A n f)) (t := t) (y := y) (P := []) (K := K) (C := (C + 1)) (G := G) (H := H) (n := 0) (f := f) (L := L) ⟨cT.dep.fr f2 (by decide) r1, cX.dep.fr f2 (by decide) x1, cP.dep.fr f2 (by decide) p1, cE.dep.fr f2 (by decide) (cE.dep.fr f1 (by decide) cb.2.2.2.1), cU.dep.fr f2 (by decide) (cU.dep.fr f1 (by decide) cb.2.2.2.2)⟩ (cR.dep.fr f2 (by decide) (cR.dep.fr f1 (by decide) cr)) (mI.dep.fr f2 (by decide) (mI.dep.fr f1 (by decide) ci)) ⟨r2, x2, p2, k2, mE.dep.fr f2 (by decide) mb1.2.2.2.2.1, mU.dep.fr f2 (by decide) mb1.2.2.2.2.2⟩ (mR.dep.fr f2 (by decide) mr1) (fun B hB => by simp at hB) i2' (by omega)
end R4
