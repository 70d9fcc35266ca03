/-! Class and reference side by side: calls that change the town -/
def sm (A A' : TA) : Prop := ∀ a b, ¬ (a = 6 ∨ a = 9 ∨ a = 10 ∨ a = 11) → A' a b = A a b
theorem sm.rf (A : TA) : sm A A := fun _ _ _ => rfl
theorem sm.tr {A B C : TA} (h : sm A B) (k : sm B C) : sm A C := fun a b q => (k a b q).trans (h a b q)
theorem sm.set {A : TA} {f k v : Nat} (hf : f = 6 ∨ f = 9 ∨ f = 10 ∨ f = 11) : sm A (setA A f k v) := fun a b q => setA_ne (fun e => q (e ▸ hf))
theorem sm.rs (A B : TA) : sm A (rst A B) := fun a b q => by unfold rst; rw [if_neg q]
theorem rst_sm {A A' : TA} (h : sm A A') (B : TA) : rst A' B = rst A B := by
  funext a b
  unfold rst
  split
  · rfl
  · rename_i q; exact h a b q
theorem rst_self (A : TA) : rst A A = A := by
  funext a b
  unfold rst
  split <;> rfl
theorem sm.hang {A : TA} (x z : Int32) : sm A (hangT A x z) := by
  unfold hangT; split
  · exact sm.set (by decide)
  · exact sm.rf A
theorem sm.take {A : TA} (x : Int32) : sm A (takeT A x) := by
  unfold takeT; split
  · exact sm.set (by decide)
  · exact sm.rf A
theorem sm.oil {A : TA} (x z : Int32) : sm A (oilT A x z) := by
  unfold oilT; split
  · exact sm.set (by decide)
  · exact sm.rf A
theorem sm.bend {A : TA} (x : Int32) : sm A (bendT A x) := by
  unfold bendT; split
  · exact sm.set (by decide)
  · exact sm.rf A
theorem sm.day (A : TA) (j : Nat) : sm A (dayF A j) := fun a b q => by
  unfold dayF
  rw [if_neg (by omega), if_neg (by omega)]
theorem sm.days (A : TA) : ∀ n, sm A (daysA A n)
  | 0 => sm.rf A
  | n + 1 => (sm.days A n).tr (sm.day _ _)
theorem sm.gal (A : TA) (g z : Int32) : sm A (galT A g z) := fun a b q => by
  unfold galT galJ
  rw [if_neg (by omega), if_neg (by omega)]
theorem sm.doa (S : OS) (i : AI) : sm S.1 (doA S i).2.1 := by
  unfold doA
  split
  · exact sm.hang _ _
  · split
    · exact sm.take _
    · split
      · exact sm.oil _ _
      · exact sm.days _ _
theorem sm.coa : ∀ (L : List AI) (k : Nat) (S : OS), sm S.1 (coA L k S).2.2.1
  | [], _, S => sm.rf S.1
  | i :: L, k, S => by
    unfold coA
    split
    · exact (sm.doa S i).tr (sm.coa L (k + 1) _)
    · exact sm.doa S i
theorem sm.ord (A : TA) (t y : Int32) (n : Nat) (f : Nat → Nat) : sm A (ordS A t y n f).1 := by
  unfold ordS orC
  split
  · exact sm.coa _ 0 (A, t, y, 0)
  · exact sm.rf A
theorem sm.und (A : TA) (P : List Snap) : sm A (undoA A P) := by
  cases P with
  | nil => exact sm.rf A
  | cons B Q => exact sm.rs A B.1
theorem addP_mem {B X : Snap} {P : List Snap} (h : B ∈ addP X P) : B = X ∨ B ∈ P := by
  have := List.mem_of_mem_take h
  simpa using this
theorem sealP_mem {B X : Snap} {r : Int32} {P : List Snap} (h : B ∈ sealP r X P) : B = X ∨ B ∈ P := by
  unfold sealP at h; split at h
  · exact Or.inr h
  · exact addP_mem h
theorem bendP_mem {A : TA} {x : Int32} {B X : Snap} {P : List Snap} (h : B ∈ bendP A x X P) : B = X ∨ B ∈ P := by
  unfold bendP at h; split at h
  · exact addP_mem h
  · exact Or.inr h
theorem ordP_mem {A : TA} {t y : Int32} {n : Nat} {f : Nat → Nat} {B : Snap} {P : List Snap} (h : B ∈ ordP A t y n f P) : B = (A, t, y) ∨ B ∈ P := by
  unfold ordP at h; split at h
  · split at h
    · exact Or.inr h
    · exact addP_mem h
  · exact Or.inr h
section R3
variable {A A' : TA} {t y : Int32} {P P' : List Snap} {K : Shf} {C : Nat} {G H : List Nat} {n : Nat} {f : Nat → Nat} {L : List Int64} {σ : hq_St}
theorem rst0.mov (h : rst0 A P) (W : Wf A) (s : sm A A') (q : ∀ B, B ∈ P' → B = (A, t, y) ∨ B ∈ P) : rst0 A' P' := fun B hB => by
  rw [rst_sm s]
  rcases q B hB with e | e
  · rw [e, rst_self]; exact W
  · exact h B e
theorem KI.mov (h : KI A C K) (s : sm A A') : KI A' C K := fun i B dn hn c hk => by
  obtain ⟨a, b, e⟩ := h i B dn hn c hk
  rw [rst_sm s, s 0 0 (by decide), s 1 0 (by decide)]
  exact ⟨a, b, e⟩
theorem rst_sec (A B : TA) (g : Nat → Nat) : rst (secA A g) B = secA (rst A B) g := by
  funext a b
  unfold rst secA
  by_cases q : a = 12
  · rw [if_neg (by omega), if_pos q, if_pos q]
  · rw [if_neg q, if_neg q]
theorem rst0.sec (h : rst0 A P) {g : Nat → Nat} (hg : ∀ r, g r ≤ 9) : rst0 (secA A g) P := fun B hB => by
  rw [rst_sec]; exact (h B hB).sec hg
theorem KI.sec (h : KI A C K) {g : Nat → Nat} (hg : ∀ r, g r ≤ 9) : KI (secA A g) C K := fun i B dn hn c hk => by
  obtain ⟨a, b, e⟩ := h i B dn hn c hk
  exact ⟨a, b, fun q => by obtain ⟨e1, e2, e3⟩ := e q; rw [rst_sec]; exact ⟨e1, e2, e3.sec hg⟩⟩
theorem KI.keep (h : KI A C K) (W : Wf A) (x : Int32) : KI A C (keepK K A t y C x) := fun i B dn hn c hk => by
  unfold keepK at hk
  split at hk
  · simp only [Option.some.injEq, Prod.mk.injEq] at hk
    obtain ⟨rfl, rfl, rfl, rfl⟩ := hk
    exact ⟨Nat.le_refl _, fun z => absurd z (Nat.lt_irrefl _), fun _ => ⟨rfl, rfl, by rw [rst_self]; exact W⟩⟩
  · exact h i B dn hn c hk
theorem e_forget : SAME 146 263 [] := fun σ ⟨A, t, y, P, K, C, G, H, n, f, L, ⟨cb, cr, ci⟩, ⟨mb, mr⟩, i1, i2, i3⟩ => by
  have W := cb.1.1.1
  obtain ⟨σ1, g1, r1, f1⟩ := s_forget (d := 0) cb.2.2.2.1
  have mb1 : mBase A t y P K C G H n f σ1 := ⟨mT.dep.fr f1 (by decide) mb.1, mX.dep.fr f1 (by decide) mb.2.1, mP.dep.fr f1 (by decide) mb.2.2.1, mK.dep.fr f1 (by decide) mb.2.2.2.1, mE.dep.fr f1 (by decide) mb.2.2.2.2.1, mU.dep.fr f1 (by decide) mb.2.2.2.2.2⟩
  have mr1 := mR.dep.fr f1 (by decide) mr
  obtain ⟨σ2, g2, r2, f2⟩ := m_forget (d := 0) mb1.2.2.2.2.1
  exact ⟨_, _, σ2, dp g1 (by decide), dp g2 (by decide), INV.mk (A := A) (t := t) (y := y) (P := P) (K := K) (C := C) (G := G) (H := []) (n := n) (f := f) (L := L) ⟨cT.dep.fr f2 (by decide) (cT.dep.fr f1 (by decide) cb.1), cX.dep.fr f2 (by decide) (cX.dep.fr f1 (by decide) cb.2.1), cP.dep.fr f2 (by decide) (cP.dep.fr f1 (by decide) cb.2.2.1), cE.dep.fr f2 (by decide) r1, cU.dep.fr f2 (by decide) (cU.dep.fr f1 (by decide) cb.2.2.2.2)⟩ (cR.dep.fr f2 (by decide) (cR.dep.fr f1 (by decide) cr)) (mI.dep.fr f2 (by decide) (mI.dep.fr f1 (by decide) ci)) ⟨mT.dep.fr f2 (by decide) mb1.1, mX.dep.fr f2 (by decide) mb1.2.1, mP.dep.fr f2 (by decide) mb1.2.2.1, mK.dep.fr f2 (by decide) mb1.2.2.2.1, r2, mU.dep.fr f2 (by decide) mb1.2.2.2.2.2⟩ (mR.dep.fr f2 (by decide) mr1) i1 i2 i3⟩
theorem e_sign (x : Int32) : SAME 110 176 [.int x] := fun σ ⟨A, t, y, P, K, C, G, H, n, f, L, ⟨cb, cr, ci⟩, ⟨mb, mr⟩, i1, i2, i3⟩ => by
  have W := cb.1.1.1
  obtain ⟨σ1, g1, r1, f1⟩ := s_sign (d := 0) cb.2.1 x
  have mb1 : mBase A t y P K C G H n f σ1 := ⟨mT.dep.fr f1 (by decide) mb.1, mX.dep.fr f1 (by decide) mb.2.1, mP.dep.fr f1 (by decide) mb.2.2.1, mK.dep.fr f1 (by decide) mb.2.2.2.1, mE.dep.fr f1 (by decide) mb.2.2.2.2.1, mU.dep.fr f1 (by decide) mb.2.2.2.2.2⟩
  have mr1 := mR.dep.fr f1 (by decide) mr
  obtain ⟨σ2, g2, r2, f2⟩ := m_sign (d := 0) mb1.2.1 x
  exact ⟨_, _, σ2, dp g1 (by decide), dp g2 (by decide), INV.mk (A := A) (t := t) (y := y) (P := P) (K := K) (C := C) (G := G) (H := H) (n := (if n ≤ 76 then n + 4 else n)) (f := (if n ≤ 76 then app4 n f x else f)) (L := L) ⟨cT.dep.fr f2 (by decide) (cT.dep.fr f1 (by decide) cb.1), cX.dep.fr f2 (by decide) r1, cP.dep.fr f2 (by decide) (cP.dep.fr f1 (by decide) cb.2.2.1), cE.dep.fr f2 (by decide) (cE.dep.fr f1 (by decide) cb.2.2.2.1), cU.dep.fr f2 (by decide) (cU.dep.fr f1 (by decide) cb.2.2.2.2)⟩ (cR.dep.fr f2 (by decide) (cR.dep.fr f1 (by decide) cr)) (mI.dep.fr f2 (by decide) (mI.dep.fr f1 (by decide) ci)) ⟨mT.dep.fr f2 (by decide) mb1.1, r2, mP.dep.fr f2 (by decide) mb1.2.2.1, mK.dep.fr f2 (by decide) mb1.2.2.2.1, mE.dep.fr f2 (by decide) mb1.2.2.2.2.1, mU.dep.fr f2 (by decide) mb1.2.2.2.2.2⟩ (mR.dep.fr f2 (by decide) mr1) i1 i2 i3⟩
theorem e_end (x : Int32) : SAME 111 177 [.int x] := fun σ ⟨A, t, y, P, K, C, G, H, n, f, L, ⟨cb, cr, ci⟩, ⟨mb, mr⟩, i1, i2, i3⟩ => by
  have W := cb.1.1.1
  obtain ⟨σ1, g1, r1, f1⟩ := s_end (d := 0) cb.2.1 x
  have mb1 : mBase A t y P K C G H n f σ1 := ⟨mT.dep.fr f1 (by decide) mb.1, mX.dep.fr f1 (by decide) mb.2.1, mP.dep.fr f1 (by decide) mb.2.2.1, mK.dep.fr f1 (by decide) mb.2.2.2.1, mE.dep.fr f1 (by decide) mb.2.2.2.2.1, mU.dep.fr f1 (by decide) mb.2.2.2.2.2⟩
  have mr1 := mR.dep.fr f1 (by decide) mr
  obtain ⟨σ2, g2, r2, f2⟩ := m_end (d := 0) mb1.2.1 x
  exact ⟨_, _, σ2, dp g1 (by decide), dp g2 (by decide), INV.mk (A := A) (t := t) (y := y) (P := P) (K := K) (C := C) (G := G) (H := H) (n := (if inb x 0 n then x.toInt.toNat else n)) (f := f) (L := L) ⟨cT.dep.fr f2 (by decide) (cT.dep.fr f1 (by decide) cb.1), cX.dep.fr f2 (by decide) r1, cP.dep.fr f2 (by decide) (cP.dep.fr f1 (by decide) cb.2.2.1), cE.dep.fr f2 (by decide) (cE.dep.fr f1 (by decide) cb.2.2.2.1), cU.dep.fr f2 (by decide) (cU.dep.fr f1 (by decide) cb.2.2.2.2)⟩ (cR.dep.fr f2 (by decide) (cR.dep.fr f1 (by decide) cr)) (mI.dep.fr f2 (by decide) (mI.dep.fr f1 (by decide) ci)) ⟨mT.dep.fr f2 (by decide) mb1.1, r2, mP.dep.fr f2 (by decide) mb1.2.2.1, mK.dep.fr f2 (by decide) mb1.2.2.2.1, mE.dep.fr f2 (by decide) mb1.2.2.2.2.1, mU.dep.fr f2 (by decide) mb1.2.2.2.2.2⟩ (mR.dep.fr f2 (by decide) mr1) i1 i2 i3⟩
theorem e_secret (x z : Int32) : SAME 116 209 [.int x, .int z] := fun σ ⟨A, t, y, P, K, C, G, H, n, f, L, ⟨cb, cr, ci⟩, ⟨mb, mr⟩, i1, i2, i3⟩ => by
  have W := cb.1.1.1
  obtain ⟨σ1, g1, r1, f1⟩ := s_secret (d := 0) cb.1 x z
  have mb1 : mBase A t y P K C G H n f σ1 := ⟨mT.dep.fr f1 (by decide) mb.1, mX.dep.fr f1 (by decide) mb.2.1, mP.dep.fr f1 (by decide) mb.2.2.1, mK.dep.fr f1 (by decide) mb.2.2.2.1, mE.dep.fr f1 (by decide) mb.2.2.2.2.1, mU.dep.fr f1 (by decide) mb.2.2.2.2.2⟩
  have mr1 := mR.dep.fr f1 (by decide) mr
  obtain ⟨σ2, g2, r2, f2⟩ := m_secret (d := 0) mb1.1 x z
  exact ⟨_, _, σ2, dp g1 (by decide), dp g2 (by decide), INV.mk (A := (secA A (secG A x z))) (t := t) (y := y) (P := P) (K := K) (C := C) (G := G) (H := H) (n := n) (f := f) (L := L) ⟨cT.dep.fr f2 (by decide) r1, cX.dep.fr f2 (by decide) (cX.dep.fr f1 (by decide) cb.2.1), cP.dep.fr f2 (by decide) (cP.dep.fr f1 (by decide) cb.2.2.1), cE.dep.fr f2 (by decide) (cE.dep.fr f1 (by decide) cb.2.2.2.1), cU.dep.fr f2 (by decide) (cU.dep.fr f1 (by decide) cb.2.2.2.2)⟩ (cR.dep.fr f2 (by decide) (cR.dep.fr f1 (by decide) cr)) (mI.dep.fr f2 (by decide) (mI.dep.fr f1 (by decide) ci)) ⟨r2, mX.dep.fr f2 (by decide) mb1.2.1, mP.dep.fr f2 (by decide) mb1.2.2.1, mK.dep.fr f2 (by decide) mb1.2.2.2.1, mE.dep.fr f2 (by decide) mb1.2.2.2.2.1, mU.dep.fr f2 (by decide) mb1.2.2.2.2.2⟩ (mR.dep.fr f2 (by decide) mr1) (i1.sec r1.1.1.2.2.2.2) (i2.sec r1.1.1.2.2.2.2) i3⟩
theorem e_sheet (x z u w : Int32) : SAME 117 210 [.int x, .int z, .int u, .int w] := fun σ ⟨A, t, y, P, K, C, G, H, n, f, L, ⟨cb, cr, ci⟩, ⟨mb, mr⟩, i1, i2, i3⟩ => by
  have W := cb.1.1.1
  obtain ⟨σ1, g1, r1, f1⟩ := s_sheet (d := 0) cb.1 x z u w
  have mb1 : mBase A t y P K C G H n f σ1 := ⟨mT.dep.fr f1 (by decide) mb.1, mX.dep.fr f1 (by decide) mb.2.1, mP.dep.fr f1 (by decide) mb.2.2.1, mK.dep.fr f1 (by decide) mb.2.2.2.1, mE.dep.fr f1 (by decide) mb.2.2.2.2.1, mU.dep.fr f1 (by decide) mb.2.2.2.2.2⟩
  have mr1 := mR.dep.fr f1 (by decide) mr
  obtain ⟨σ2, g2, r2, f2⟩ := m_sheet (d := 0) mb1.1 x z u w
  exact ⟨_, _, σ2, dp g1 (by decide), dp g2 (by decide), INV.mk (A := (secA A (shT A x z u w))) (t := t) (y := y) (P := P) (K := K) (C := C) (G := G) (H := H) (n := n) (f := f) (L := L) ⟨cT.dep.fr f2 (by decide) r1, cX.dep.fr f2 (by decide) (cX.dep.fr f1 (by decide) cb.2.1), cP.dep.fr f2 (by decide) (cP.dep.fr f1 (by decide) cb.2.2.1), cE.dep.fr f2 (by decide) (cE.dep.fr f1 (by decide) cb.2.2.2.1), cU.dep.fr f2 (by decide) (cU.dep.fr f1 (by decide) cb.2.2.2.2)⟩ (cR.dep.fr f2 (by decide) (cR.dep.fr f1 (by decide) cr)) (mI.dep.fr f2 (by decide) (mI.dep.fr f1 (by decide) ci)) ⟨r2, mX.dep.fr f2 (by decide) mb1.2.1, mP.dep.fr f2 (by decide) mb1.2.2.1, mK.dep.fr f2 (by decide) mb1.2.2.2.1, mE.dep.fr f2 (by decide) mb1.2.2.2.2.1, mU.dep.fr f2 (by decide) mb1.2.2.2.2.2⟩ (mR.dep.fr f2 (by decide) mr1) (i1.sec r1.1.1.2.2.2.2) (i2.sec r1.1.1.2.2.2.2) i3⟩
theorem e_hang (x z : Int32) : SAME 118 218 [.int x, .int z] := fun σ ⟨A, t, y, P, K, C, G, H, n, f, L, ⟨cb, cr, ci⟩, ⟨mb, mr⟩, i1, i2, i3⟩ => by
  have W := cb.1.1.1
  obtain ⟨σ1, g1, r1, p1, f1⟩ := s_hang (d := 0) cb.1 cb.2.2.1 x z
  have mb1 : mBase A t y P K C G H n f σ1 := ⟨mT.dep.fr f1 (by decide) mb.1, mX.dep.fr f1 (by decide) mb.2.1, mP.dep.fr f1 (by decide) mb.2.2.1, mK.dep.fr f1 (by decide) mb.2.2.2.1, mE.dep.fr f1 (by decide) mb.2.2.2.2.1, mU.dep.fr f1 (by decide) mb.2.2.2.2.2⟩
  have mr1 := mR.dep.fr f1 (by decide) mr
  obtain ⟨σ2, g2, r2, p2, f2⟩ := m_hang (d := 0) mb1.1 mb1.2.2.1 x z
  exact ⟨_, _, σ2, dp g1 (by decide), dp g2 (by decide), INV.mk (A := (hangT A x z)) (t := t) (y := y) (P := (sealP (hangR A x z) (A, t, y) P)) (K := K) (C := C) (G := G) (H := H) (n := n) (f := f) (L := L) ⟨cT.dep.fr f2 (by decide) r1, cX.dep.fr f2 (by decide) (cX.dep.fr f1 (by decide) cb.2.1), cP.dep.fr f2 (by decide) (by rw [(sm.hang x z) 1 0 (by decide)]; exact p1), cE.dep.fr f2 (by decide) (cE.dep.fr f1 (by decide) cb.2.2.2.1), cU.dep.fr f2 (by decide) (cU.dep.fr f1 (by decide) cb.2.2.2.2)⟩ (cR.dep.fr f2 (by decide) (cR.dep.fr f1 (by decide) cr)) (mI.dep.fr f2 (by decide) (mI.dep.fr f1 (by decide) ci)) ⟨r2, mX.dep.fr f2 (by decide) mb1.2.1, (by rw [(sm.hang x z) 1 0 (by decide)]; exact p2), mK.dep.fr f2 (by decide) mb1.2.2.2.1, mE.dep.fr f2 (by decide) mb1.2.2.2.2.1, mU.dep.fr f2 (by decide) mb1.2.2.2.2.2⟩ (mR.dep.fr f2 (by decide) mr1) (i1.mov W (sm.hang x z) (fun B hB => sealP_mem hB)) (i2.mov (sm.hang x z)) (by rw [(sm.hang x z) 0 0 (by decide), (sm.hang x z) 1 0 (by decide)]; exact i3)⟩
theorem e_take (x : Int32) : SAME 119 219 [.int x] := fun σ ⟨A, t, y, P, K, C, G, H, n, f, L, ⟨cb, cr, ci⟩, ⟨mb, mr⟩, i1, i2, i3⟩ => by
  have W := cb.1.1.1
  obtain ⟨σ1, g1, r1, p1, f1⟩ := s_take (d := 0) cb.1 cb.2.2.1 x
  have mb1 : mBase A t y P K C G H n f σ1 := ⟨mT.dep.fr f1 (by decide) mb.1, mX.dep.fr f1 (by decide) mb.2.1, mP.dep.fr f1 (by decide) mb.2.2.1, mK.dep.fr f1 (by decide) mb.2.2.2.1, mE.dep.fr f1 (by decide) mb.2.2.2.2.1, mU.dep.fr f1 (by decide) mb.2.2.2.2.2⟩
  have mr1 := mR.dep.fr f1 (by decide) mr
  obtain ⟨σ2, g2, r2, p2, f2⟩ := m_take (d := 0) mb1.1 mb1.2.2.1 x
  exact ⟨_, _, σ2, dp g1 (by decide), dp g2 (by decide), INV.mk (A := (takeT A x)) (t := t) (y := y) (P := (sealP (takeR A x) (A, t, y) P)) (K := K) (C := C) (G := G) (H := H) (n := n) (f := f) (L := L) ⟨cT.dep.fr f2 (by decide) r1, cX.dep.fr f2 (by decide) (cX.dep.fr f1 (by decide) cb.2.1), cP.dep.fr f2 (by decide) (by rw [(sm.take x) 1 0 (by decide)]; exact p1), cE.dep.fr f2 (by decide) (cE.dep.fr f1 (by decide) cb.2.2.2.1), cU.dep.fr f2 (by decide) (cU.dep.fr f1 (by decide) cb.2.2.2.2)⟩ (cR.dep.fr f2 (by decide) (cR.dep.fr f1 (by decide) cr)) (mI.dep.fr f2 (by decide) (mI.dep.fr f1 (by decide) ci)) ⟨r2, mX.dep.fr f2 (by decide) mb1.2.1, (by rw [(sm.take x) 1 0 (by decide)]; exact p2), mK.dep.fr f2 (by decide) mb1.2.2.2.1, mE.dep.fr f2 (by decide) mb1.2.2.2.2.1, mU.dep.fr f2 (by decide) mb1.2.2.2.2.2⟩ (mR.dep.fr f2 (by decide) mr1) (i1.mov W (sm.take x) (fun B hB => sealP_mem hB)) (i2.mov (sm.take x)) (by rw [(sm.take x) 0 0 (by decide), (sm.take x) 1 0 (by decide)]; exact i3)⟩
theorem e_oil (x z : Int32) : SAME 120 220 [.int x, .int z] := fun σ ⟨A, t, y, P, K, C, G, H, n, f, L, ⟨cb, cr, ci⟩, ⟨mb, mr⟩, i1, i2, i3⟩ => by
  have W := cb.1.1.1
  obtain ⟨σ1, g1, r1, p1, f1⟩ := s_oil (d := 0) cb.1 cb.2.2.1 x z
  have mb1 : mBase A t y P K C G H n f σ1 := ⟨mT.dep.fr f1 (by decide) mb.1, mX.dep.fr f1 (by decide) mb.2.1, mP.dep.fr f1 (by decide) mb.2.2.1, mK.dep.fr f1 (by decide) mb.2.2.2.1, mE.dep.fr f1 (by decide) mb.2.2.2.2.1, mU.dep.fr f1 (by decide) mb.2.2.2.2.2⟩
  have mr1 := mR.dep.fr f1 (by decide) mr
  obtain ⟨σ2, g2, r2, p2, f2⟩ := m_oil (d := 0) mb1.1 mb1.2.2.1 x z
  exact ⟨_, _, σ2, dp g1 (by decide), dp g2 (by decide), INV.mk (A := (oilT A x z)) (t := t) (y := y) (P := (sealP (oilR A x z) (A, t, y) P)) (K := K) (C := C) (G := G) (H := H) (n := n) (f := f) (L := L) ⟨cT.dep.fr f2 (by decide) r1, cX.dep.fr f2 (by decide) (cX.dep.fr f1 (by decide) cb.2.1), cP.dep.fr f2 (by decide) (by rw [(sm.oil x z) 1 0 (by decide)]; exact p1), cE.dep.fr f2 (by decide) (cE.dep.fr f1 (by decide) cb.2.2.2.1), cU.dep.fr f2 (by decide) (cU.dep.fr f1 (by decide) cb.2.2.2.2)⟩ (cR.dep.fr f2 (by decide) (cR.dep.fr f1 (by decide) cr)) (mI.dep.fr f2 (by decide) (mI.dep.fr f1 (by decide) ci)) ⟨r2, mX.dep.fr f2 (by decide) mb1.2.1, (by rw [(sm.oil x z) 1 0 (by decide)]; exact p2), mK.dep.fr f2 (by decide) mb1.2.2.2.1, mE.dep.fr f2 (by decide) mb1.2.2.2.2.1, mU.dep.fr f2 (by decide) mb1.2.2.2.2.2⟩ (mR.dep.fr f2 (by decide) mr1) (i1.mov W (sm.oil x z) (fun B hB => sealP_mem hB)) (i2.mov (sm.oil x z)) (by rw [(sm.oil x z) 0 0 (by decide), (sm.oil x z) 1 0 (by decide)]; exact i3)⟩
theorem e_bend (x : Int32) : SAME 121 221 [.int x] := fun σ ⟨A, t, y, P, K, C, G, H, n, f, L, ⟨cb, cr, ci⟩, ⟨mb, mr⟩, i1, i2, i3⟩ => by
  have W := cb.1.1.1
  obtain ⟨σ1, g1, r1, p1, f1⟩ := s_bend (d := 0) cb.1 cb.2.2.1 x
  have mb1 : mBase A t y P K C G H n f σ1 := ⟨mT.dep.fr f1 (by decide) mb.1, mX.dep.fr f1 (by decide) mb.2.1, mP.dep.fr f1 (by decide) mb.2.2.1, mK.dep.fr f1 (by decide) mb.2.2.2.1, mE.dep.fr f1 (by decide) mb.2.2.2.2.1, mU.dep.fr f1 (by decide) mb.2.2.2.2.2⟩
  have mr1 := mR.dep.fr f1 (by decide) mr
  obtain ⟨σ2, g2, r2, p2, f2⟩ := m_bend (d := 0) mb1.1 mb1.2.2.1 x
  exact ⟨_, _, σ2, dp g1 (by decide), dp g2 (by decide), INV.mk (A := (bendT A x)) (t := t) (y := y) (P := (bendP A x (A, t, y) P)) (K := K) (C := C) (G := G) (H := H) (n := n) (f := f) (L := L) ⟨cT.dep.fr f2 (by decide) r1, cX.dep.fr f2 (by decide) (cX.dep.fr f1 (by decide) cb.2.1), cP.dep.fr f2 (by decide) (by rw [(sm.bend x) 1 0 (by decide)]; exact p1), cE.dep.fr f2 (by decide) (cE.dep.fr f1 (by decide) cb.2.2.2.1), cU.dep.fr f2 (by decide) (cU.dep.fr f1 (by decide) cb.2.2.2.2)⟩ (cR.dep.fr f2 (by decide) (cR.dep.fr f1 (by decide) cr)) (mI.dep.fr f2 (by decide) (mI.dep.fr f1 (by decide) ci)) ⟨r2, mX.dep.fr f2 (by decide) mb1.2.1, (by rw [(sm.bend x) 1 0 (by decide)]; exact p2), mK.dep.fr f2 (by decide) mb1.2.2.2.1, mE.dep.fr f2 (by decide) mb1.2.2.2.2.1, mU.dep.fr f2 (by decide) mb1.2.2.2.2.2⟩ (mR.dep.fr f2 (by decide) mr1) (i1.mov W (sm.bend x) (fun B hB => bendP_mem hB)) (i2.mov (sm.bend x)) (by rw [(sm.bend x) 0 0 (by decide), (sm.bend x) 1 0 (by decide)]; exact i3)⟩
theorem e_rule : SAME 113 201 [] := fun σ ⟨A, t, y, P, K, C, G, H, n, f, L, ⟨cb, cr, ci⟩, ⟨mb, mr⟩, i1, i2, i3⟩ => by
  have W := cb.1.1.1
  obtain ⟨σ1, g1, u1, r1, f1⟩ := s_rule (d := 0) cb.2.1 cb.2.2.2.2
  have mb1 : mBase A t y P K C G H n f σ1 := ⟨mT.dep.fr f1 (by decide) mb.1, mX.dep.fr f1 (by decide) mb.2.1, mP.dep.fr f1 (by decide) mb.2.2.1, mK.dep.fr f1 (by decide) mb.2.2.2.1, mE.dep.fr f1 (by decide) mb.2.2.2.2.1, mU.dep.fr f1 (by decide) mb.2.2.2.2.2⟩
  have mr1 := mR.dep.fr f1 (by decide) mr
  obtain ⟨σ2, g2, u2, r2, f2⟩ := m_rule (d := 0) mb1.2.1 mb1.2.2.2.2.2
  exact ⟨_, _, σ2, dp g1 (by decide), dp g2 (by decide), INV.mk (A := A) (t := t) (y := y) (P := P) (K := K) (C := C) (G := (ruG n f G)) (H := H) (n := 0) (f := f) (L := L) ⟨cT.dep.fr f2 (by decide) (cT.dep.fr f1 (by decide) cb.1), cX.dep.fr f2 (by decide) r1, cP.dep.fr f2 (by decide) (cP.dep.fr f1 (by decide) cb.2.2.1), cE.dep.fr f2 (by decide) (cE.dep.fr f1 (by decide) cb.2.2.2.1), cU.dep.fr f2 (by decide) u1⟩ (cR.dep.fr f2 (by decide) (cR.dep.fr f1 (by decide) cr)) (mI.dep.fr f2 (by decide) (mI.dep.fr f1 (by decide) ci)) ⟨mT.dep.fr f2 (by decide) mb1.1, r2, mP.dep.fr f2 (by decide) mb1.2.2.1, mK.dep.fr f2 (by decide) mb1.2.2.2.1, mE.dep.fr f2 (by decide) mb1.2.2.2.2.1, u2⟩ (mR.dep.fr f2 (by decide) mr1) i1 i2 i3⟩
theorem e_order : SAME 125 231 [] := fun σ ⟨A, t, y, P, K, C, G, H, n, f, L, ⟨cb, cr, ci⟩, ⟨mb, mr⟩, i1, i2, i3⟩ => by
  have W := cb.1.1.1
  obtain ⟨σ1, g1, r1, x1, p1, l1, f1⟩ := s_order (d := 0) cb.1 cb.2.1 cb.2.2.1 cr
  have mb1 : mBase A t y P K C G H n f σ1 := ⟨mT.dep.fr f1 (by decide) mb.1, mX.dep.fr f1 (by decide) mb.2.1, mP.dep.fr f1 (by decide) mb.2.2.1, mK.dep.fr f1 (by decide) mb.2.2.2.1, mE.dep.fr f1 (by decide) mb.2.2.2.2.1, mU.dep.fr f1 (by decide) mb.2.2.2.2.2⟩
  have mr1 := mR.dep.fr f1 (by decide) mr
  obtain ⟨σ2, g2, r2, x2, p2, l2, f2⟩ := m_order (d := 0) mb1.1 mb1.2.1 mb1.2.2.1 mr1
  exact ⟨_, _, σ2, dp g1 (by decide), dp g2 (by decide), INV.mk (A := (ordS A t y n f).1) (t := (ordS A t y n f).2.1) (y := (ordS A t y n f).2.2) (P := (ordP A t y n f P)) (K := K) (C := C) (G := G) (H := H) (n := 0) (f := f) (L := (ordL A t y n f L)) ⟨cT.dep.fr f2 (by decide) r1, cX.dep.fr f2 (by decide) x1, cP.dep.fr f2 (by decide) (by rw [(sm.ord A t y n f) 1 0 (by decide)]; exact p1), cE.dep.fr f2 (by decide) (cE.dep.fr f1 (by decide) cb.2.2.2.1), cU.dep.fr f2 (by decide) (cU.dep.fr f1 (by decide) cb.2.2.2.2)⟩ (cR.dep.fr f2 (by decide) l1) (mI.dep.fr f2 (by decide) (mI.dep.fr f1 (by decide) ci)) ⟨r2, x2, (by rw [(sm.ord A t y n f) 1 0 (by decide)]; exact p2), mK.dep.fr f2 (by decide) mb1.2.2.2.1, mE.dep.fr f2 (by decide) mb1.2.2.2.2.1, mU.dep.fr f2 (by decide) mb1.2.2.2.2.2⟩ (l2) (i1.mov W (sm.ord A t y n f) (fun B hB => ordP_mem hB)) (i2.mov (sm.ord A t y n f)) (by rw [(sm.ord A t y n f) 0 0 (by decide), (sm.ord A t y n f) 1 0 (by decide)]; exact i3)⟩
theorem e_undo : SAME 126 214 [] := fun σ ⟨A, t, y, P, K, C, G, H, n, f, L, ⟨cb, cr, ci⟩, ⟨mb, mr⟩, i1, i2, i3⟩ => by
  have W := cb.1.1.1
  obtain ⟨σ1, g1, r1, p1, f1⟩ := s_undo (d := 0) cb.1 cb.2.2.1 i1
  have mb1 : mBase A t y P K C G H n f σ1 := ⟨mT.dep.fr f1 (by decide) mb.1, mX.dep.fr f1 (by decide) mb.2.1, mP.dep.fr f1 (by decide) mb.2.2.1, mK.dep.fr f1 (by decide) mb.2.2.2.1, mE.dep.fr f1 (by decide) mb.2.2.2.2.1, mU.dep.fr f1 (by decide) mb.2.2.2.2.2⟩
  have mr1 := mR.dep.fr f1 (by decide) mr
  obtain ⟨σ2, g2, r2, p2, f2⟩ := m_undo (d := 0) mb1.1 mb1.2.2.1 i1
  exact ⟨_, _, σ2, dp g1 (by decide), dp g2 (by decide), INV.mk (A := (undoA A P)) (t := (undoT t P)) (y := (undoY y P)) (P := (undoP P)) (K := K) (C := C) (G := G) (H := H) (n := n) (f := f) (L := L) ⟨cT.dep.fr f2 (by decide) r1, cX.dep.fr f2 (by decide) (cX.dep.fr f1 (by decide) cb.2.1), cP.dep.fr f2 (by decide) (by rw [(sm.und A P) 1 0 (by decide)]; exact p1), cE.dep.fr f2 (by decide) (cE.dep.fr f1 (by decide) cb.2.2.2.1), cU.dep.fr f2 (by decide) (cU.dep.fr f1 (by decide) cb.2.2.2.2)⟩ (cR.dep.fr f2 (by decide) (cR.dep.fr f1 (by decide) cr)) (mI.dep.fr f2 (by decide) (mI.dep.fr f1 (by decide) ci)) ⟨r2, mX.dep.fr f2 (by decide) mb1.2.1, (by rw [(sm.und A P) 1 0 (by decide)]; exact p2), mK.dep.fr f2 (by decide) mb1.2.2.2.1, mE.dep.fr f2 (by decide) mb1.2.2.2.2.1, mU.dep.fr f2 (by decide) mb1.2.2.2.2.2⟩ (mR.dep.fr f2 (by decide) mr1) (i1.mov (t := t) (y := y) W (sm.und A P) (fun B hB => Or.inr (List.mem_of_mem_tail hB))) (i2.mov (sm.und A P)) (by rw [(sm.und A P) 0 0 (by decide), (sm.und A P) 1 0 (by decide)]; exact i3)⟩
theorem e_keep (x : Int32) : SAME 153 275 [.int x] := fun σ ⟨A, t, y, P, K, C, G, H, n, f, L, ⟨cb, cr, ci⟩, ⟨mb, mr⟩, i1, i2, i3⟩ => by
  have W := cb.1.1.1
  obtain ⟨σ1, g1, p1, f1⟩ := s_keep (d := 0) C cb.1 cb.2.2.1 x
  have mb1 : mBase A t y P K C G H n f σ1 := ⟨mT.dep.fr f1 (by decide) mb.1, mX.dep.fr f1 (by decide) mb.2.1, mP.dep.fr f1 (by decide) mb.2.2.1, mK.dep.fr f1 (by decide) mb.2.2.2.1, mE.dep.fr f1 (by decide) mb.2.2.2.2.1, mU.dep.fr f1 (by decide) mb.2.2.2.2.2⟩
  have mr1 := mR.dep.fr f1 (by decide) mr
  obtain ⟨σ2, g2, p2, f2⟩ := m_keep (d := 0) mb1.1 mb1.2.2.2.1 (Nat.le_trans i3 (by have := W.1; have := W.2.1; omega)) x
  exact ⟨_, _, σ2, dp g1 (by decide), dp g2 (by decide), INV.mk (A := A) (t := t) (y := y) (P := P) (K := (keepK K A t y C x)) (C := C) (G := G) (H := H) (n := n) (f := f) (L := L) ⟨cT.dep.fr f2 (by decide) (cT.dep.fr f1 (by decide) cb.1), cX.dep.fr f2 (by decide) (cX.dep.fr f1 (by decide) cb.2.1), cP.dep.fr f2 (by decide) p1, cE.dep.fr f2 (by decide) (cE.dep.fr f1 (by decide) cb.2.2.2.1), cU.dep.fr f2 (by decide) (cU.dep.fr f1 (by decide) cb.2.2.2.2)⟩ (cR.dep.fr f2 (by decide) (cR.dep.fr f1 (by decide) cr)) (mI.dep.fr f2 (by decide) (mI.dep.fr f1 (by decide) ci)) ⟨mT.dep.fr f2 (by decide) mb1.1, mX.dep.fr f2 (by decide) mb1.2.1, mP.dep.fr f2 (by decide) mb1.2.2.1, p2, mE.dep.fr f2 (by decide) mb1.2.2.2.2.1, mU.dep.fr f2 (by decide) mb1.2.2.2.2.2⟩ (mR.dep.fr f2 (by decide) mr1) i1 (KI.keep i2 W x) i3⟩
end R3
