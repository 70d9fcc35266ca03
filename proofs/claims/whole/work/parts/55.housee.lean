/-! house: the class's call -/
def addL (A : TA) (DL : List DI) (HL : List HI) : TA := HL.foldl addH (DL.foldl addD A)
theorem foldD_0 (A : TA) : ∀ (DL : List DI), (DL.foldl addD A) 0 0 = A 0 0 + DL.length ∧ (DL.foldl addD A) 1 0 = A 1 0
  | [] => ⟨rfl, rfl⟩
  | t :: DL => by
    obtain ⟨h1, h2⟩ := foldD_0 (addD A t) DL
    refine ⟨?_, ?_⟩
    · show (DL.foldl addD (addD A t)) 0 0 = _
      rw [h1, addD_0]; simp; omega
    · show (DL.foldl addD (addD A t)) 1 0 = _
      rw [h2, addD_o (Or.inr rfl)]
theorem foldH_0 (A : TA) : ∀ (HL : List HI), (HL.foldl addH A) 1 0 = A 1 0 + HL.length ∧ (HL.foldl addH A) 0 0 = A 0 0
  | [] => ⟨rfl, rfl⟩
  | t :: HL => by
    obtain ⟨h1, h2⟩ := foldH_0 (addH A t) HL
    refine ⟨?_, ?_⟩
    · show (HL.foldl addH (addH A t)) 1 0 = _
      rw [h1, addH_1]; simp; omega
    · show (HL.foldl addH (addH A t)) 0 0 = _
      rw [h2, addH_o (Or.inl rfl)]
theorem take_snoc {α : Type} {L : List α} {j : Nat} {t : α} (h : L[j]? = some t) : L.take (j + 1) = L.take j ++ [t] := by
  rw [List.take_succ, h]; rfl
theorem mem_get {α : Type} {L : List α} {j : Nat} {t : α} (h : L[j]? = some t) : t ∈ L := List.mem_of_getElem? h
section HF
variable {d n : Nat} {σ : hq_St} {A : TA} {f : Nat → Nat}
theorem s_addTo (R : Rc A σ) {DL : List DI} {HL : List HI} (hB : cB DL HL σ) (ok : okDH (A 0 0) (A 1 0) DL HL) : ∃ τ, hq_c 6 (d + 2) [.ref 28, .ref 5] σ none τ ∧ Rc (addL A DL HL) τ ∧ Fr [(5, 14), (5, 15), (6, 0), (7, 0), (8, 0), (9, 0), (10, 0), (11, 0), (12, 0), (13, 0), (14, 0), (15, 0), (16, 0), (17, 0)] σ τ := by
  obtain ⟨o1, o2, o3, o4⟩ := ok
  obtain ⟨σ1, w1, R1, f1⟩ := hq_w.for (x := 6) (d := d + 2) (i := 2) (fun j => [some (.ref 28), some (.ref 5), some (.int (nI j))]) (fun j ρ => Rc ((DL.take j).foldl addD A) ρ ∧ Fr [(5, 14), (6, 0), (7, 0), (8, 0), (9, 0), (10, 0), (11, 0)] σ ρ) DL.length (fun j hj ρ ⟨R0, fr⟩ => by
    have B := cB.dep.fr fr (by decide) hB
    have d0 := (foldD_0 A (DL.take j)).1
    rw [List.length_take, Nat.min_eq_left (by omega)] at d0
    obtain ⟨t, ht⟩ : ∃ t, DL[j]? = some t := ⟨_, List.getElem?_eq_getElem hj⟩
    obtain ⟨ρ2, g1, g2, g3⟩ := s_addDoor (d := d) R0 (o1 t (mem_get ht)) (by omega)
    refine ⟨ρ2, fun v τ k => p_X0_addTo_2_1 (by rw [B.1]; exact nlt hj (by omega)) (by rw [R0.2.1]; exact nlt (by omega) (by decide)) (vin (by omega) (by decide)) (by rw [clamp (by omega), B.2.2.1 j t ht]; exact g1) ?_, ?_, fr.tr g3⟩
    · rw [nplus]; exact k
    · rw [take_snoc ht, List.foldl_append]; exact g2) (σ := σ) ⟨R, Fr.rf σ⟩
  rw [List.take_length] at R1
  have B1 := cB.dep.fr f1 (by decide) hB
  have h1 := (foldD_0 A DL).2
  obtain ⟨σ2, w2, R2, f2⟩ := hq_w.for (x := 6) (d := d + 2) (i := 20) (fun j => [some (.ref 28), some (.ref 5), some (.int (nI j))]) (fun j ρ => Rc ((HL.take j).foldl addH (DL.foldl addD A)) ρ ∧ Fr [(5, 15), (12, 0), (13, 0), (14, 0), (15, 0), (16, 0), (17, 0)] σ1 ρ) HL.length (fun j hj ρ ⟨R0, fr⟩ => by
    have B := cB.dep.fr fr (by decide) B1
    have d0 := (foldH_0 (DL.foldl addD A) (HL.take j)).1
    rw [List.length_take, Nat.min_eq_left (by omega), h1] at d0
    obtain ⟨t, ht⟩ : ∃ t, HL[j]? = some t := ⟨_, List.getElem?_eq_getElem hj⟩
    obtain ⟨ρ2, g1, g2, g3⟩ := s_addHinge (d := d) R0 (o2 t (mem_get ht)) (by omega)
    refine ⟨ρ2, fun v τ k => p_X0_addTo_20_1 (by rw [B.2.1]; exact nlt hj (by omega)) (by rw [R0.2.2.1]; exact nlt (by omega) (by decide)) (vin (by omega) (by decide)) (by rw [clamp (by omega), B.2.2.2 j t ht]; exact g1) ?_, ?_, fr.tr g3⟩
    · rw [nplus]; exact k
    · rw [take_snoc ht, List.foldl_append]; exact g2) (σ := σ1) ⟨R1, Fr.rf σ1⟩
  rw [List.take_length] at R2
  have B2 := cB.dep.fr f2 (by decide) B1
  refine ⟨σ2, p_X0_addTo_0_1 (w1 _ _ (p_X0_addTo_2_3 ?_ (w2 _ _ (p_X0_addTo_20_3 ?_)))), R2, (f1.up (by decide)).tr (f2.up (by decide))⟩
  · rw [B1.1]; exact nI_nlt (Nat.le_refl _) (by omega)
  · rw [B2.2.1]; exact nI_nlt (Nat.le_refl _) (by omega)
/-- what house reads -/
def hoR (A : TA) (n : Nat) (f : Nat → Nat) : LR := hsR f (min n 76) (A 0 0) (A 1 0) 76 0 [] []
def hoK (A : TA) (n : Nat) (f : Nat → Nat) : Bool := (hoR A n f).1 && decide ((hoR A n f).2.1 = n)
def houR (A : TA) (n : Nat) (f : Nat → Nat) : Int32 := if n = 0 then 0 else if hoK A n f then nI ((hoR A n f).2.2.1.length + (hoR A n f).2.2.2.length) else (-1 : Int32) - nI (hoR A n f).2.1
def hoU (A : TA) (n : Nat) (f : Nat → Nat) : Prop := n ≠ 0 ∧ hoK A n f = true
def houA (A : TA) (n : Nat) (f : Nat → Nat) : TA := if n ≠ 0 ∧ hoK A n f = true then addL A (hoR A n f).2.2.1 (hoR A n f).2.2.2 else A
theorem hoR_ok (W : Wf A) (hX : ∀ j, j < n → f j < 256) : (hoR A n f).2.1 ≤ min n 76 ∧ okDH (A 0 0) (A 1 0) (hoR A n f).2.2.1 (hoR A n f).2.2.2 ∧ ((hoR A n f).1 = true → 0 < (hoR A n f).2.2.1.length + (hoR A n f).2.2.2.length) := hsR_ok (fun p hp => hX p (by omega)) 76 (Nat.zero_le _) ⟨fun t ht => by simp at ht, fun t ht => by simp at ht, W.1, W.2.1⟩
theorem s_house {t y : Int32} {P : List Snap} {K : Shf} (R : cT A t y σ) (h : cX n f σ) (hP : cP (A 1 0) P K σ) : ∃ τ, hq_c 112 (d + 6) [.ref 0] σ (some (.int (houR A n f))) τ ∧ cT (houA A n f) t y τ ∧ cX 0 f τ ∧ cP (houA A n f 1 0) (if n ≠ 0 ∧ hoK A n f = true then [] else P) K τ ∧ Fr [(1, 2), (1, 3), (1, 4), (5, 14), (5, 15), (6, 0), (7, 0), (8, 0), (9, 0), (10, 0), (11, 0), (12, 0), (13, 0), (14, 0), (15, 0), (16, 0), (17, 0), (19, 5), (19, 6), (28, 3), (28, 4), (29, 0), (30, 0)] σ τ := by
  have h80 := h.1
  have W := R.1.1
  obtain ⟨r1, r2, r3⟩ := hoR_ok (A := A) (n := n) (f := f) W (fun j hj => (h.2.2 j hj).1)
  obtain ⟨σ1, g1, z1, f1⟩ := s_open (d := d + 4) h (k := 76) (by decide)
  have R1 := cT.dep.fr f1 (by decide) R
  have P1 := cP.dep.fr f1 (by decide) hP
  have F1 := f1.up (G := [(1, 2), (1, 3), (1, 4), (5, 14), (5, 15), (6, 0), (7, 0), (8, 0), (9, 0), (10, 0), (11, 0), (12, 0), (13, 0), (14, 0), (15, 0), (16, 0), (17, 0), (19, 5), (19, 6), (28, 3), (28, 4), (29, 0), (30, 0)]) (by decide)
  have fin : ∀ ρ : hq_St, Fr [(1, 2)] ρ (hq_sI ρ 1 1 (nI 0)) ∧ cX 0 f (hq_sI ρ 1 1 (nI 0)) := fun ρ => ⟨(Fr.rf ρ).sI rfl, ⟨by omega, by rw [sI_eq], fun j hj => by omega⟩⟩
  unfold houR houA
  by_cases q : n = 0
  · rw [if_pos q, if_neg (fun z => z.1 q), if_neg (fun z => z.1 q)]
    obtain ⟨fz, xz⟩ := fin σ1
    exact ⟨_, p_X9_house_0_6 g1 (by rw [z1.1.2.1, q]; rfl) (by decide) (by decide) (by rw [z1.1.2.1, q]; decide), cT.dep.fr fz (by decide) R1, xz, cP.dep.fr fz (by decide) P1, F1.tr (fz.up (by decide))⟩
  · rw [if_neg q]
    have c1 : ¬ σ1.1 1 1 = 0 := by rw [z1.1.2.1]; exact nI_ne0 (by omega) (by omega)
    obtain ⟨σ2, g2, z2, b2, f2⟩ := s_readLines (d := d) z1 R1.1.2.1 R1.1.2.2.1 W.1 W.2.1
    have R2 := cT.dep.fr f2 (by decide) R1
    have P2 := cP.dep.fr f2 (by decide) P1
    have F2 := F1.tr (f2.up (G := [(1, 2), (1, 3), (1, 4), (5, 14), (5, 15), (6, 0), (7, 0), (8, 0), (9, 0), (10, 0), (11, 0), (12, 0), (13, 0), (14, 0), (15, 0), (16, 0), (17, 0), (19, 5), (19, 6), (28, 3), (28, 4), (29, 0), (30, 0)]) (by decide))
    unfold hoK
    change hq_c _ _ _ _ (some (.int (bI ((hoR A n f).1 && decide ((hoR A n f).2.1 = min n 76))))) _ at g2
    change cZ _ _ _ (hoR A n f).2.1 _ at z2
    change cB (hoR A n f).2.2.1 (hoR A n f).2.2.2 _ at b2
    generalize hoR A n f = r at g2 z2 b2 r1 r2 r3
    have bad : (r.1 && decide (r.2.1 = n)) = false → hq_c 112 (d + 6) [.ref 0] σ (some (.int ((-1 : Int32) - nI r.2.1))) (hq_sI σ2 1 1 (nI 0)) := fun z => by
      cases h1 : (r.1 && decide (r.2.1 = min n 76)) with
      | false =>
        rw [h1] at g2
        have P := p_X9_house_0_7 g1 c1 g2 rfl rfl rfl
        rw [z2.2.2.2.1] at P
        exact P
      | true =>
        rw [h1] at g2
        have w := s_isWhole (d := d + 4) z2
        have : decide (r.2.1 = n) = false := by
          cases a : r.1 with
          | false => rw [a] at h1; cases h1
          | true => rw [a] at z; exact z
        rw [this] at w
        have P := p_X9_house_0_13 g1 c1 g2 (by decide) w rfl rfl rfl
        rw [z2.2.2.2.1] at P
        exact P
    cases hk : (r.1 && decide (r.2.1 = n)) with
    | false =>
      rw [if_neg (by decide), if_neg (fun z => by cases z.2), if_neg (fun z => by cases z.2)]
      obtain ⟨fz, xz⟩ := fin σ2
      exact ⟨_, bad hk, cT.dep.fr fz (by decide) R2, xz, cP.dep.fr fz (by decide) P2, F2.tr (fz.up (by decide))⟩
    | true =>
      rw [if_pos rfl, if_pos ⟨q, rfl⟩, if_pos ⟨q, rfl⟩]
      obtain ⟨k1, k2⟩ : r.1 = true ∧ r.2.1 = n := by simpa using hk
      rw [k1, show decide (r.2.1 = min n 76) = true by simp; omega] at g2
      have w := s_isWhole (d := d + 4) z2
      rw [show decide (r.2.1 = n) = true by simp [k2]] at w
      have gl := p_X0_lines_0_1 (d := d + 4) (σ := σ2)
      rw [b2.1, b2.2.1, nplus] at gl
      obtain ⟨σ3, a1, a2, a3⟩ := s_addTo (d := d + 3) R2.1 b2 r2
      have P3 : cP (A 1 0) P K σ3 := cP.dep.fr a3 (by decide) P2
      have h12 : addL A r.2.2.1 r.2.2.2 1 0 ≤ 12 := a2.1.2.1
      obtain ⟨σ4, x1, x2, x3⟩ := s_forgetActs (d := d + 4) P3 (m := addL A r.2.2.1 r.2.2.2 1 0) h12
      obtain ⟨fz, xz⟩ := fin σ4
      have T3 : cT (addL A r.2.2.1 r.2.2.2) t y σ3 := ⟨a2, (a3.i rfl).trans R2.2.1, (a3.i rfl).trans R2.2.2⟩
      have c6 : (0 : Int32) < σ2.1 1 1 := by rw [z2.1.2.1]; exact nlt (a := 0) (by omega) (by omega)
      exact ⟨_, p_X9_house_0_23 g1 c1 g2 (by decide) w (by decide) (by decide) (by decide) c6 gl a1 x1, cT.dep.fr fz (by decide) (cT.dep.fr x3 (by decide) T3), xz, cP.dep.fr fz (by decide) x2, F2.tr ((a3.up (by decide)).tr ((x3.up (by decide)).tr (fz.up (by decide))))⟩
end HF
