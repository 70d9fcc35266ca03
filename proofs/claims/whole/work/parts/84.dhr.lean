/-! door, hinge, row: what they answer, where they throw -/
def dvA (A : TA) (y : Int32) (G : List Nat) (k : Nat) : Nat → Int32
  | 0 => nI (A 2 k)
  | 1 => nI (A 3 k)
  | 2 => nI (A 4 k)
  | 3 => nI (A 5 k)
  | 4 => nI (onA A (k + 1))
  | 5 => nI (stateA A k)
  | _ => nI (crk A y G k (onA A (k + 1)))
def hvA (A : TA) (k : Nat) : Nat → Int32
  | 0 => nI (A 6 k)
  | 1 => nI (A 7 k)
  | 2 => nI (A 8 k)
  | 3 => nI (A 9 k)
  | 4 => nI (A 10 k)
  | 5 => nI (A 11 k) - nI 1
  | _ => nI (h0 A k)
theorem inb_le {w : Nat} (h : w ≤ 6) : inb (nI w) 0 6 = true := by
  unfold inb
  rw [decide_eq_true]
  rw [nI_toInt (by omega)]
  omega
section DH
variable {d : Nat} {σ : hq_St} {A : TA}
theorem s_door (R : Rc A σ) {y : Int32} (hy : σ.1 5 16 = y) {G : List Nat} (hG : cU G σ) {k w : Nat} (hk : k < A 0 0) (hw : w ≤ 6) : ∃ τ, hq_c 114 (d + 5) [.ref 0, .int (nI k), .int (nI w)] σ (some (.int (dvA A y G k w))) τ ∧ Fr [(27, 0)] σ τ := by
  have b1 := R.1.1
  have b2 := R.1.2.1
  have o : vp_in (nI k) 8 := vin (by omega) (by decide)
  have g := s_isDoor (d := d + 3) R (nI k)
  rw [inr_nI (by omega), decide_eq_true hk] at g
  have n0 : ¬ bI true = 0 := by decide
  have ce : (nI k).toNatClampNeg = k := clamp (by omega)
  obtain ⟨e1, e2, e3, e4, e5, e6⟩ := R.2.2.2.1 k hk
  match w, hw with
  | 0, _ => have P := p_X9_door_0_2 (d := d + 4) (l2 := nI 0) g n0 rfl o; rw [ce, e1] at P; exact ⟨σ, P, Fr.rf σ⟩
  | 1, _ => have P := p_X9_door_0_3 (d := d + 4) (l2 := nI 1) g n0 (by decide) rfl o; rw [ce, e2] at P; exact ⟨σ, P, Fr.rf σ⟩
  | 2, _ => have P := p_X9_door_0_4 (d := d + 4) (l2 := nI 2) g n0 (by decide) (by decide) rfl o; rw [ce, e4] at P; exact ⟨σ, P, Fr.rf σ⟩
  | 3, _ => have P := p_X9_door_0_5 (d := d + 4) (l2 := nI 3) g n0 (by decide) (by decide) (by decide) rfl o; rw [ce, e5] at P; exact ⟨σ, P, Fr.rf σ⟩
  | 4, _ => have P := p_X9_door_0_6 (d := d + 4) (l2 := nI 4) g n0 (by decide) (by decide) (by decide) (by decide) rfl o; rw [ce, e6] at P; exact ⟨σ, P, Fr.rf σ⟩
  | 5, _ => exact ⟨σ, p_X9_door_0_7 (d := d + 4) (l2 := nI 5) g n0 (by decide) (by decide) (by decide) (by decide) (by decide) rfl (s_stateOf (d := d) R hk), Fr.rf σ⟩
  | 6, _ =>
    obtain ⟨τ, c1, c2⟩ := s_creakOf (d := d) R hy hG hk (onA_lt A (k + 1) b2)
    exact ⟨τ, p_X9_door_0_8 (d := d + 4) (l2 := nI 6) g n0 (by decide) (by decide) (by decide) (by decide) (by decide) (by decide) rfl o (by rw [ce, e6]; exact c1), c2⟩
theorem m_door (R : Rm 61 A σ) {y : Int32} (hy : σ.1 61 49 = y) {G : List Nat} (hG : mU G σ) {k w : Nat} (hk : k < A 0 0) (hw : w ≤ 6) : ∃ τ, hq_c 207 (d + 7) [.ref 52, .int (nI k), .int (nI w)] σ (some (.int (dvA A y G k w))) τ ∧ τ.1 52 0 = 0 ∧ Fr [(52, 1), (68, 0)] σ τ := by
  have b1 := R.1.1
  have b2 := R.1.2.1
  have f0 : Fr [(52, 1)] σ (hq_sI σ 52 0 (nI 0)) := frth
  have R0 : Rm 61 A (hq_sI σ 52 0 (nI 0)) := Rm.depn.fr f0 (by decide) R
  have o : vp_in (nI k) 8 := vin (by omega) (by decide)
  have g := m_isDoorn (d := d + 4) R0 (nI k)
  rw [inr_nI (by omega), decide_eq_true hk] at g
  have gi := m_inb (d := d + 5) (σ := hq_sI σ 52 0 (nI 0)) (nI w) (a := 0) (b := 6) (by decide) (by decide)
  rw [inb_le hw] at gi
  have n0 : ¬ bI true = 0 := by decide
  have ce : (nI k).toNatClampNeg = k := clamp (by omega)
  obtain ⟨e1, e2, e3, e4⟩ := R0.2.2.2.1 k hk
  have go := m_onn (d := d + 5) (p := k + 1) R0 (by omega)
  rw [show nI (k + 1) - nI 1 = nI k from nI_pred k] at go
  have z : (hq_sI σ 52 0 (nI 0)).1 52 0 = 0 := sI_eq
  have F := f0.up (G := [(52, 1), (68, 0)]) (by decide)
  match w, hw with
  | 0, _ => have P := p_X10_door_0_3 (d := d + 6) (l2 := nI 0) g n0 gi n0 rfl o; rw [ce, e1] at P; exact ⟨_, P, z, F⟩
  | 1, _ => have P := p_X10_door_0_4 (d := d + 6) (l2 := nI 1) g n0 gi n0 (by decide) rfl o; rw [ce, e2] at P; exact ⟨_, P, z, F⟩
  | 2, _ => have P := p_X10_door_0_5 (d := d + 6) (l2 := nI 2) g n0 gi n0 (by decide) (by decide) rfl o; rw [ce, e3] at P; exact ⟨_, P, z, F⟩
  | 3, _ => have P := p_X10_door_0_6 (d := d + 6) (l2 := nI 3) g n0 gi n0 (by decide) (by decide) (by decide) rfl o; rw [ce, e4] at P; exact ⟨_, P, z, F⟩
  | 4, _ => exact ⟨_, p_X10_door_0_7 (d := d + 6) (l2 := nI 4) g n0 gi n0 (by decide) (by decide) (by decide) (by decide) rfl go, z, F⟩
  | 5, _ => exact ⟨_, p_X10_door_0_8 (d := d + 6) (l2 := nI 5) g n0 gi n0 (by decide) (by decide) (by decide) (by decide) (by decide) rfl (m_stateOf (d := d + 1) R0 hk), z, F⟩
  | 6, _ =>
    obtain ⟨τ, c1, c2⟩ := m_creakOf (d := d) R0 ((f0.i rfl).trans hy) (mU.dep.fr f0 (by decide) hG) hk (onA_lt A (k + 1) b2)
    exact ⟨τ, p_X10_door_0_9 (d := d + 6) (l2 := nI 6) g n0 gi n0 (by decide) (by decide) (by decide) (by decide) (by decide) (by decide) go c1, (c2.i rfl).trans z, F.tr (c2.up (by decide))⟩
theorem s_hinge (R : Rc A σ) {k w : Nat} (hk : k < A 1 0) (hw : w ≤ 6) : hq_c 115 (d + 5) [.ref 0, .int (nI k), .int (nI w)] σ (some (.int (hvA A k w))) σ := by
  have b1 := R.1.1
  have b2 := R.1.2.1
  have o : vp_in (nI k) 12 := vin (by omega) (by decide)
  have g := s_isHinge (d := d + 3) R (nI k)
  rw [inr_nI (by omega), decide_eq_true hk] at g
  have n0 : ¬ bI true = 0 := by decide
  have ce : (nI k).toNatClampNeg = k := clamp (by omega)
  obtain ⟨e1, e2, e3, e4, e5, e6⟩ := R.2.2.2.2.1 k hk
  match w, hw with
  | 0, _ => have P := p_X9_hinge_0_2 (d := d + 4) (l2 := nI 0) g n0 rfl o; rw [ce, e1] at P; exact P
  | 1, _ => have P := p_X9_hinge_0_3 (d := d + 4) (l2 := nI 1) g n0 (by decide) rfl o; rw [ce, e2] at P; exact P
  | 2, _ => have P := p_X9_hinge_0_4 (d := d + 4) (l2 := nI 2) g n0 (by decide) (by decide) rfl o; rw [ce, e3] at P; exact P
  | 3, _ => have P := p_X9_hinge_0_5 (d := d + 4) (l2 := nI 3) g n0 (by decide) (by decide) (by decide) rfl o; rw [ce, e4] at P; exact P
  | 4, _ => have P := p_X9_hinge_0_6 (d := d + 4) (l2 := nI 4) g n0 (by decide) (by decide) (by decide) (by decide) rfl o; rw [ce, e5] at P; exact P
  | 5, _ => have P := p_X9_hinge_0_7 (d := d + 4) (l2 := nI 5) g n0 (by decide) (by decide) (by decide) (by decide) (by decide) rfl o; rw [ce, e6] at P; exact P
  | 6, _ => exact p_X9_hinge_0_8 (d := d + 4) (l2 := nI 6) g n0 (by decide) (by decide) (by decide) (by decide) (by decide) (by decide) rfl (s_hold (d := d + 2) R hk)
theorem m_hinge (R : Rm 61 A σ) {k w : Nat} (hk : k < A 1 0) (hw : w ≤ 6) : hq_c 208 (d + 7) [.ref 52, .int (nI k), .int (nI w)] σ (some (.int (hvA A k w))) (hq_sI σ 52 0 (nI 0)) := by
  have b1 := R.1.1
  have b2 := R.1.2.1
  have f0 : Fr [(52, 1)] σ (hq_sI σ 52 0 (nI 0)) := frth
  have R0 : Rm 61 A (hq_sI σ 52 0 (nI 0)) := Rm.depn.fr f0 (by decide) R
  have o : vp_in (nI k) 12 := vin (by omega) (by decide)
  have g := m_isHingen (d := d + 4) R0 (nI k)
  rw [inr_nI (by omega), decide_eq_true hk] at g
  have gi := m_inb (d := d + 5) (σ := hq_sI σ 52 0 (nI 0)) (nI w) (a := 0) (b := 6) (by decide) (by decide)
  rw [inb_le hw] at gi
  have n0 : ¬ bI true = 0 := by decide
  have ce : (nI k).toNatClampNeg = k := clamp (by omega)
  have ad : ∀ a, nI a + nI k = nI (a + k) := fun a => nI_add a k
  have c12 : (nI (12 + k)).toNatClampNeg = 12 + k := clamp (by omega)
  have c24 : (nI (24 + k)).toNatClampNeg = 24 + k := clamp (by omega)
  have c36 : (nI (36 + k)).toNatClampNeg = 36 + k := clamp (by omega)
  obtain ⟨e1, e2⟩ := R0.2.2.2.2.1 k hk
  obtain ⟨r1, r2, r3, r4⟩ := R0.2.2.2.2.2.1 k hk
  have o12 : vp_in (nI 12 + nI k) 50 := by rw [ad]; exact vin (by omega) (by decide)
  have o24 : vp_in (nI 24 + nI k) 50 := by rw [ad]; exact vin (by omega) (by decide)
  have o36 : vp_in (nI 36 + nI k) 50 := by rw [ad]; exact vin (by omega) (by decide)
  have o50 : vp_in (nI k) 50 := vin (by omega) (by decide)
  match w, hw with
  | 0, _ => have P := p_X10_hinge_0_3 (d := d + 6) (l2 := nI 0) g n0 gi n0 rfl o12; rw [ad, c12, r2] at P; exact P
  | 1, _ => have P := p_X10_hinge_0_4 (d := d + 6) (l2 := nI 1) g n0 gi n0 (by decide) rfl o; rw [ce, e1] at P; exact P
  | 2, _ => have P := p_X10_hinge_0_5 (d := d + 6) (l2 := nI 2) g n0 gi n0 (by decide) (by decide) rfl o; rw [ce, e2] at P; exact P
  | 3, _ => have P := p_X10_hinge_0_6 (d := d + 6) (l2 := nI 3) g n0 gi n0 (by decide) (by decide) (by decide) rfl o24; rw [ad, c24, r3] at P; exact P
  | 4, _ => have P := p_X10_hinge_0_7 (d := d + 6) (l2 := nI 4) g n0 gi n0 (by decide) (by decide) (by decide) (by decide) rfl o36; rw [ad, c36, r4] at P; exact P
  | 5, _ => have P := p_X10_hinge_0_8 (d := d + 6) (l2 := nI 5) g n0 gi n0 (by decide) (by decide) (by decide) (by decide) (by decide) rfl o50; rw [ce, r1] at P; exact P
  | 6, _ => exact p_X10_hinge_0_9 (d := d + 6) (l2 := nI 6) g n0 gi n0 (by decide) (by decide) (by decide) (by decide) (by decide) (by decide) (m_holdOfn (d := d + 5) R0 hk)
end DH
