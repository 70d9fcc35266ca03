/-! Class and reference side by side: what holds between two calls -/
theorem Dep.up {F G : List (Nat × Nat)} {P : hq_St → Prop} (h : Dep F P) (s : subF F G = true) : Dep G P := fun σ τ e p => h σ τ (fun c j q => e c j (subF_in s q)) p
theorem Dep.and {F : List (Nat × Nat)} {P Q : hq_St → Prop} (h : Dep F P) (k : Dep F Q) : Dep F (fun σ => P σ ∧ Q σ) := fun σ τ e p => ⟨h σ τ e p.1, k σ τ e p.2⟩
def fCb : List (Nat × Nat) := [(5, 14), (5, 15), (5, 16), (5, 17), (6, 0), (7, 0), (8, 0), (9, 0), (10, 0), (11, 0), (12, 0), (13, 0), (14, 0), (15, 0), (16, 0), (17, 0), (18, 0), (1, 2), (2, 0), (19, 5), (19, 6), (20, 0), (21, 0), (22, 0), (23, 0), (47, 5), (49, 0), (24, 4), (25, 0)]
def fCa : List (Nat × Nat) := fCb ++ [(3, 2), (4, 0), (33, 17), (42, 0)]
def fMb : List (Nat × Nat) := [(52, 4), (52, 5), (54, 0), (55, 0), (56, 0), (57, 0), (58, 0), (59, 0), (60, 0), (61, 0), (52, 16), (62, 0), (52, 30), (69, 0), (52, 6), (82, 0), (83, 0), (84, 0), (52, 46), (80, 0), (52, 27), (66, 0)]
def fMa : List (Nat × Nat) := fMb ++ [(52, 2), (53, 0)]
def cBase (A : TA) (t y : Int32) (P : List Snap) (K : Shf) (G H : List Nat) (n : Nat) (f : Nat → Nat) (σ : hq_St) : Prop := cT A t y σ ∧ cX n f σ ∧ cP (A 1 0) P K σ ∧ cE H σ ∧ cU G σ
def mBase (A : TA) (t y : Int32) (P : List Snap) (K : Shf) (C : Nat) (G H : List Nat) (n : Nat) (f : Nat → Nat) (σ : hq_St) : Prop := mT A t y σ ∧ mX n f σ ∧ mP (A 1 0) P σ ∧ mK C K σ ∧ mE H σ ∧ mU G σ
def rst0 (A : TA) (P : List Snap) : Prop := ∀ B ∈ P, Wf (rst A B.1)
def KI (A : TA) (C : Nat) (K : Shf) : Prop := ∀ i B dn hn c, K i = some (B, dn, hn, c) → c ≤ C ∧ (c < C → dn + hn < A 0 0 + A 1 0) ∧ (c = C → dn = A 0 0 ∧ hn = A 1 0 ∧ Wf (rst A B.1))
def INV (σ : hq_St) : Prop := ∃ A t y P K C G H n f L, (cBase A t y P K G H n f σ ∧ cR L σ ∧ mI σ) ∧ (mBase A t y P K C G H n f σ ∧ mR L σ) ∧ rst0 A P ∧ KI A C K ∧ C ≤ A 0 0 + A 1 0
section RL
variable {A : TA} {t y : Int32} {P : List Snap} {K : Shf} {C : Nat} {G H : List Nat} {n : Nat} {f : Nat → Nat} {L L' : List Int64} {σ σ1 σ2 τ : hq_St} {F1 F2 : List (Nat × Nat)}
theorem cBase.dep : Dep fCb (cBase A t y P K G H n f) := (cT.dep.up (by decide)).and ((cX.dep.up (by decide)).and ((cP.dep.up (by decide)).and ((cE.dep.up (by decide)).and (cU.dep.up (by decide)))))
theorem mBase.dep : Dep fMb (mBase A t y P K C G H n f) := (mT.dep.up (by decide)).and ((mX.dep.up (by decide)).and ((mP.dep.up (by decide)).and ((mK.dep.up (by decide)).and ((mE.dep.up (by decide)).and (mU.dep.up (by decide))))))
theorem mAll.dep : Dep fMa (fun σ => mBase A t y P K C G H n f σ ∧ mR L σ) := (mBase.dep.up (by decide)).and (mR.dep.up (by decide))
theorem cAll.dep : Dep fCa (fun σ => cBase A t y P K G H n f σ ∧ cR L σ ∧ mI σ) := (cBase.dep.up (by decide)).and ((cR.dep.up (by decide)).and (mI.dep.up (by decide)))
/-- a pair of calls that leave all but the row as it was -/
theorem INV.q (c : cBase A t y P K G H n f σ) (m : mBase A t y P K C G H n f σ) (i1 : rst0 A P) (i2 : KI A C K) (i3 : C ≤ A 0 0 + A 1 0) (f1 : Fr F1 σ σ1) (d1 : djF fCb F1 = true) (e1 : djF fMb F1 = true) (r1 : cR L' σ1) (k1 : mI σ1) (f2 : Fr F2 σ1 σ2) (d2 : djF fMb F2 = true) (e2 : djF fCa F2 = true) (r2 : mR L' σ2) : INV σ2 :=
  ⟨A, t, y, P, K, C, G, H, n, f, L', cAll.dep.fr f2 e2 ⟨cBase.dep.fr f1 d1 c, r1, k1⟩, ⟨mBase.dep.fr f2 d2 (mBase.dep.fr f1 e1 m), r2⟩, i1, i2, i3⟩
end RL
/-- the same call on both sides answers the same -/
def SAME (x y : Nat) (as : List Value) : Prop := ∀ σ, INV σ → ∃ v σ1 σ2, hq_c x 1000 (.ref 0 :: as) σ (some v) σ1 ∧ hq_c y 1000 (.ref 52 :: as) σ1 (some v) σ2 ∧ INV σ2
theorem dp {x d : Nat} {as : List Value} {σ : hq_St} {v : Option Value} {τ : hq_St} (h : hq_c x d as σ v τ) (hd : d ≤ 1000) : hq_c x 1000 as σ v τ := hq_run.deep hd h
/-! queries -/
theorem e_shut : SAME 127 232 [] := fun σ ⟨A, t, y, P, K, C, G, H, n, f, L, ⟨cb, cr, ci⟩, ⟨mb, mr⟩, i1, i2, i3⟩ => by
  obtain ⟨σ1, g1, r1, f1⟩ := s_shut (d := 0) cb.1.1
  have mb1 := (mBase.dep.fr f1 (by decide) mb)
  have mr1 := (mR.dep.fr f1 (by decide) mr)
  obtain ⟨σ2, g2, r2, f2⟩ := m_shut (d := 0) mb1.1.1
  exact ⟨_, _, σ2, dp g1 (by decide), dp g2 (by decide), INV.q cb mb i1 i2 i3 f1 (by decide) (by decide) r1 (mI.dep.fr f1 (by decide) ci) f2 (by decide) (by decide) r2⟩
theorem e_thief (x : Int32) : SAME 128 233 [.int x] := fun σ ⟨A, t, y, P, K, C, G, H, n, f, L, ⟨cb, cr, ci⟩, ⟨mb, mr⟩, i1, i2, i3⟩ => by
  obtain ⟨σ1, g1, r1, f1⟩ := s_thief (d := 0) cb.1.1 cr x
  have mb1 := (mBase.dep.fr f1 (by decide) mb)
  have mr1 := (mR.dep.fr f1 (by decide) mr)
  obtain ⟨σ2, g2, r2, f2⟩ := m_thief (d := 0) mb1.1.1 mr1 x
  exact ⟨_, _, σ2, dp g1 (by decide), dp g2 (by decide), INV.q cb mb i1 i2 i3 f1 (by decide) (by decide) r1 (mI.dep.fr f1 (by decide) ci) f2 (by decide) (by decide) r2⟩
theorem e_kept : SAME 129 234 [] := fun σ ⟨A, t, y, P, K, C, G, H, n, f, L, ⟨cb, cr, ci⟩, ⟨mb, mr⟩, i1, i2, i3⟩ => by
  obtain ⟨σ1, g1, r1, f1⟩ := s_kept (d := 0) cb.1.1
  have mb1 := (mBase.dep.fr f1 (by decide) mb)
  have mr1 := (mR.dep.fr f1 (by decide) mr)
  obtain ⟨σ2, g2, r2, f2⟩ := m_kept (d := 0) mb1.1.1
  exact ⟨_, _, σ2, dp g1 (by decide), dp g2 (by decide), INV.q cb mb i1 i2 i3 f1 (by decide) (by decide) r1 (mI.dep.fr f1 (by decide) ci) f2 (by decide) (by decide) r2⟩
theorem e_quiet (x : Int32) : SAME 130 238 [.int x] := fun σ ⟨A, t, y, P, K, C, G, H, n, f, L, ⟨cb, cr, ci⟩, ⟨mb, mr⟩, i1, i2, i3⟩ => by
  obtain ⟨σ1, g1, r1, f1⟩ := s_quiet (d := 0) cb.1.1 cb.1.2.2 cb.2.2.2.2 cr x
  have mb1 := (mBase.dep.fr f1 (by decide) mb)
  have mr1 := (mR.dep.fr f1 (by decide) mr)
  obtain ⟨σ2, g2, r2, f2⟩ := m_quiet (d := 0) mb1.1.1 mb1.1.2.2 mb1.2.2.2.2.2 mr1 x
  exact ⟨_, _, σ2, dp g1 (by decide), dp g2 (by decide), INV.q cb mb i1 i2 i3 f1 (by decide) (by decide) r1 (mI.dep.fr f1 (by decide) ci) f2 (by decide) (by decide) r2⟩
theorem e_lasts (x : Int32) : SAME 131 239 [.int x] := fun σ ⟨A, t, y, P, K, C, G, H, n, f, L, ⟨cb, cr, ci⟩, ⟨mb, mr⟩, i1, i2, i3⟩ => by
  have g1 := s_lasts (d := 0) cb.1.1 x
  have mb1 := mb
  have mr1 := mr
  obtain ⟨σ2, g2, f2⟩ := m_lasts (d := 0) mb1.1 x
  exact ⟨_, _, σ2, dp g1 (by decide), dp g2 (by decide), INV.q cb mb i1 i2 i3 (Fr.rf (G := []) σ) (by decide) (by decide) cr ci f2 (by decide) (by decide) (mR.dep.fr f2 (by decide) mr1)⟩
theorem e_rusts (x : Int32) : SAME 133 242 [.int x] := fun σ ⟨A, t, y, P, K, C, G, H, n, f, L, ⟨cb, cr, ci⟩, ⟨mb, mr⟩, i1, i2, i3⟩ => by
  have g1 := s_rusts (d := 0) cb.1.1 x
  have mb1 := mb
  have mr1 := mr
  obtain ⟨σ2, g2, f2⟩ := m_rusts (d := 0) mb1.1 x
  exact ⟨_, _, σ2, dp g1 (by decide), dp g2 (by decide), INV.q cb mb i1 i2 i3 (Fr.rf (G := []) σ) (by decide) (by decide) cr ci f2 (by decide) (by decide) (mR.dep.fr f2 (by decide) mr1)⟩
theorem e_wall (x : Int32) : SAME 134 243 [.int x] := fun σ ⟨A, t, y, P, K, C, G, H, n, f, L, ⟨cb, cr, ci⟩, ⟨mb, mr⟩, i1, i2, i3⟩ => by
  obtain ⟨σ1, g1, r1, f1⟩ := s_wall (d := 0) cb.1.1 cr x
  have mb1 := (mBase.dep.fr f1 (by decide) mb)
  have mr1 := (mR.dep.fr f1 (by decide) mr)
  obtain ⟨σ2, g2, r2, f2⟩ := m_wall (d := 0) mb1.1.1 mr1 x
  exact ⟨_, _, σ2, dp g1 (by decide), dp g2 (by decide), INV.q cb mb i1 i2 i3 f1 (by decide) (by decide) r1 (mI.dep.fr f1 (by decide) ci) f2 (by decide) (by decide) r2⟩
theorem e_guard (x : Int32) : SAME 135 244 [.int x] := fun σ ⟨A, t, y, P, K, C, G, H, n, f, L, ⟨cb, cr, ci⟩, ⟨mb, mr⟩, i1, i2, i3⟩ => by
  obtain ⟨σ1, g1, r1, f1⟩ := s_guard (d := 0) cb.1.1 cr x
  have mb1 := (mBase.dep.fr f1 (by decide) mb)
  have mr1 := (mR.dep.fr f1 (by decide) mr)
  obtain ⟨σ2, g2, r2, f2⟩ := m_guard (d := 0) mb1.1.1 mr1 x
  exact ⟨_, _, σ2, dp g1 (by decide), dp g2 (by decide), INV.q cb mb i1 i2 i3 f1 (by decide) (by decide) r1 (mI.dep.fr f1 (by decide) ci) f2 (by decide) (by decide) r2⟩
theorem e_all (x : Int32) : SAME 136 251 [.int x] := fun σ ⟨A, t, y, P, K, C, G, H, n, f, L, ⟨cb, cr, ci⟩, ⟨mb, mr⟩, i1, i2, i3⟩ => by
  obtain ⟨σ1, g1, r1, k1, f1⟩ := s_all (d := 0) cb.1.1 ci cr x
  have mb1 := (mBase.dep.fr f1 (by decide) mb)
  have mr1 := (mR.dep.fr f1 (by decide) mr)
  obtain ⟨σ2, g2, r2, f2⟩ := m_all (d := 0) mb1.1.1 mr1 x
  exact ⟨_, _, σ2, dp g1 (by decide), dp g2 (by decide), INV.q cb mb i1 i2 i3 f1 (by decide) (by decide) r1 k1 f2 (by decide) (by decide) r2⟩
theorem e_most : SAME 137 252 [] := fun σ ⟨A, t, y, P, K, C, G, H, n, f, L, ⟨cb, cr, ci⟩, ⟨mb, mr⟩, i1, i2, i3⟩ => by
  obtain ⟨σ1, g1, r1, k1, f1⟩ := s_most (d := 0) cb.1.1 ci
  have mb1 := (mBase.dep.fr f1 (by decide) mb)
  have mr1 := (mR.dep.fr f1 (by decide) mr)
  obtain ⟨σ2, g2, r2, f2⟩ := m_most (d := 0) mb1.1.1
  exact ⟨_, _, σ2, dp g1 (by decide), dp g2 (by decide), INV.q cb mb i1 i2 i3 f1 (by decide) (by decide) r1 k1 f2 (by decide) (by decide) r2⟩
theorem e_best : SAME 138 253 [] := fun σ ⟨A, t, y, P, K, C, G, H, n, f, L, ⟨cb, cr, ci⟩, ⟨mb, mr⟩, i1, i2, i3⟩ => by
  obtain ⟨σ1, g1, r1, k1, f1⟩ := s_best (d := 0) cb.1.1 ci
  have mb1 := (mBase.dep.fr f1 (by decide) mb)
  have mr1 := (mR.dep.fr f1 (by decide) mr)
  obtain ⟨σ2, g2, r2, f2⟩ := m_best (d := 0) mb1.1.1
  exact ⟨_, _, σ2, dp g1 (by decide), dp g2 (by decide), INV.q cb mb i1 i2 i3 f1 (by decide) (by decide) r1 k1 f2 (by decide) (by decide) r2⟩
theorem e_cheap (x : Int32) : SAME 139 254 [.int x] := fun σ ⟨A, t, y, P, K, C, G, H, n, f, L, ⟨cb, cr, ci⟩, ⟨mb, mr⟩, i1, i2, i3⟩ => by
  obtain ⟨σ1, g1, r1, k1, f1⟩ := s_cheap (d := 0) cb.1.1 ci cr x
  have mb1 := (mBase.dep.fr f1 (by decide) mb)
  have mr1 := (mR.dep.fr f1 (by decide) mr)
  obtain ⟨σ2, g2, r2, f2⟩ := m_cheap (d := 0) mb1.1.1 mr1 x
  exact ⟨_, _, σ2, dp g1 (by decide), dp g2 (by decide), INV.q cb mb i1 i2 i3 f1 (by decide) (by decide) r1 k1 f2 (by decide) (by decide) r2⟩
theorem e_change (x : Int32) : SAME 140 256 [.int x] := fun σ ⟨A, t, y, P, K, C, G, H, n, f, L, ⟨cb, cr, ci⟩, ⟨mb, mr⟩, i1, i2, i3⟩ => by
  obtain ⟨σ1, g1, r1, k1, f1⟩ := s_change (d := 0) cb.1.1 ci cr x
  have mb1 := (mBase.dep.fr f1 (by decide) mb)
  have mr1 := (mR.dep.fr f1 (by decide) mr)
  obtain ⟨σ2, g2, r2, f2⟩ := m_change (d := 0) mb1.1.1 mr1 x
  exact ⟨_, _, σ2, dp g1 (by decide), dp g2 (by decide), INV.q cb mb i1 i2 i3 f1 (by decide) (by decide) r1 k1 f2 (by decide) (by decide) r2⟩
theorem e_next : SAME 141 257 [] := fun σ ⟨A, t, y, P, K, C, G, H, n, f, L, ⟨cb, cr, ci⟩, ⟨mb, mr⟩, i1, i2, i3⟩ => by
  obtain ⟨σ1, g1, r1, f1⟩ := s_next (d := 0) cb.1.1 cr
  have mb1 := (mBase.dep.fr f1 (by decide) mb)
  have mr1 := (mR.dep.fr f1 (by decide) mr)
  obtain ⟨σ2, g2, r2, f2⟩ := m_next (d := 0) mb1.1 mr1
  exact ⟨_, _, σ2, dp g1 (by decide), dp g2 (by decide), INV.q cb mb i1 i2 i3 f1 (by decide) (by decide) r1 (mI.dep.fr f1 (by decide) ci) f2 (by decide) (by decide) r2⟩
theorem e_spare : SAME 142 258 [] := fun σ ⟨A, t, y, P, K, C, G, H, n, f, L, ⟨cb, cr, ci⟩, ⟨mb, mr⟩, i1, i2, i3⟩ => by
  obtain ⟨σ1, g1, r1, f1⟩ := s_spare (d := 0) cb.1.1 cr
  have mb1 := (mBase.dep.fr f1 (by decide) mb)
  have mr1 := (mR.dep.fr f1 (by decide) mr)
  obtain ⟨σ2, g2, r2, f2⟩ := m_spare (d := 0) mb1.1 mr1
  exact ⟨_, _, σ2, dp g1 (by decide), dp g2 (by decide), INV.q cb mb i1 i2 i3 f1 (by decide) (by decide) r1 (mI.dep.fr f1 (by decide) ci) f2 (by decide) (by decide) r2⟩
theorem e_stands : SAME 144 261 [] := fun σ ⟨A, t, y, P, K, C, G, H, n, f, L, ⟨cb, cr, ci⟩, ⟨mb, mr⟩, i1, i2, i3⟩ => by
  have g1 := s_stands (d := 0) cb.1.1
  have mb1 := mb
  have mr1 := mr
  obtain ⟨σ2, g2, f2⟩ := m_stands (d := 0) mb1.1.1
  exact ⟨_, _, σ2, dp g1 (by decide), dp g2 (by decide), INV.q cb mb i1 i2 i3 (Fr.rf (G := []) σ) (by decide) (by decide) cr ci f2 (by decide) (by decide) (mR.dep.fr f2 (by decide) mr1)⟩
theorem e_ways : SAME 147 268 [] := fun σ ⟨A, t, y, P, K, C, G, H, n, f, L, ⟨cb, cr, ci⟩, ⟨mb, mr⟩, i1, i2, i3⟩ => by
  obtain ⟨σ1, g1, r1, f1⟩ := s_ways (d := 0) cb.1.1 cb.1.2.2 cb.2.2.2.2 cb.2.2.2.1
  have mb1 := (mBase.dep.fr f1 (by decide) mb)
  have mr1 := (mR.dep.fr f1 (by decide) mr)
  obtain ⟨σ2, g2, r2, f2⟩ := m_ways (d := 0) (⟨mb1.1.1, mb1.1.2.2, mb1.2.2.2.2.2, mb1.2.2.2.2.1⟩ : mQ A y G H _)
  exact ⟨_, _, σ2, dp g1 (by decide), dp g2 (by decide), INV.q cb mb i1 i2 i3 f1 (by decide) (by decide) r1 (mI.dep.fr f1 (by decide) ci) f2 (by decide) (by decide) r2⟩
theorem e_been (x : Int32) : SAME 148 269 [.int x] := fun σ ⟨A, t, y, P, K, C, G, H, n, f, L, ⟨cb, cr, ci⟩, ⟨mb, mr⟩, i1, i2, i3⟩ => by
  obtain ⟨σ1, g1, f1⟩ := s_been (d := 0) cb.1.1 cb.1.2.2 cb.2.2.2.2 cb.2.2.2.1 x
  have mb1 := (mBase.dep.fr f1 (by decide) mb)
  have mr1 := (mR.dep.fr f1 (by decide) mr)
  obtain ⟨σ2, g2, f2⟩ := m_been (d := 0) (⟨mb1.1.1, mb1.1.2.2, mb1.2.2.2.2.2, mb1.2.2.2.2.1⟩ : mQ A y G H _) x
  exact ⟨_, _, σ2, dp g1 (by decide), dp g2 (by decide), INV.q cb mb i1 i2 i3 f1 (by decide) (by decide) (cR.dep.fr f1 (by decide) cr) (mI.dep.fr f1 (by decide) ci) f2 (by decide) (by decide) (mR.dep.fr f2 (by decide) mr1)⟩
theorem e_sure : SAME 149 270 [] := fun σ ⟨A, t, y, P, K, C, G, H, n, f, L, ⟨cb, cr, ci⟩, ⟨mb, mr⟩, i1, i2, i3⟩ => by
  obtain ⟨σ1, g1, r1, f1⟩ := s_sure (d := 0) cb.1.1 cb.1.2.2 cb.2.2.2.2 cb.2.2.2.1 cr
  have mb1 := (mBase.dep.fr f1 (by decide) mb)
  have mr1 := (mR.dep.fr f1 (by decide) mr)
  obtain ⟨σ2, g2, r2, f2⟩ := m_sure (d := 0) (⟨mb1.1.1, mb1.1.2.2, mb1.2.2.2.2.2, mb1.2.2.2.2.1⟩ : mQ A y G H _) mr1
  exact ⟨_, _, σ2, dp g1 (by decide), dp g2 (by decide), INV.q cb mb i1 i2 i3 f1 (by decide) (by decide) r1 (mI.dep.fr f1 (by decide) ci) f2 (by decide) (by decide) r2⟩
theorem e_behind (x : Int32) (z : Int32) : SAME 150 271 [.int x, .int z] := fun σ ⟨A, t, y, P, K, C, G, H, n, f, L, ⟨cb, cr, ci⟩, ⟨mb, mr⟩, i1, i2, i3⟩ => by
  obtain ⟨σ1, g1, r1, f1⟩ := s_behind (d := 0) cb.1.1 cb.1.2.2 cb.2.2.2.2 cr x z
  have mb1 := (mBase.dep.fr f1 (by decide) mb)
  have mr1 := (mR.dep.fr f1 (by decide) mr)
  obtain ⟨σ2, g2, r2, f2⟩ := m_behind (d := 0) mb1.1.1 mb1.1.2.2 mb1.2.2.2.2.2 mr1 x z
  exact ⟨_, _, σ2, dp g1 (by decide), dp g2 (by decide), INV.q cb mb i1 i2 i3 f1 (by decide) (by decide) r1 (mI.dep.fr f1 (by decide) ci) f2 (by decide) (by decide) r2⟩
theorem e_bid (x : Int32) : SAME 151 272 [.int x] := fun σ ⟨A, t, y, P, K, C, G, H, n, f, L, ⟨cb, cr, ci⟩, ⟨mb, mr⟩, i1, i2, i3⟩ => by
  obtain ⟨σ1, g1, r1, f1⟩ := s_bid (d := 0) cb.1.1 cr x
  have mb1 := (mBase.dep.fr f1 (by decide) mb)
  have mr1 := (mR.dep.fr f1 (by decide) mr)
  obtain ⟨σ2, g2, r2, f2⟩ := m_bid (d := 0) mb1.1.1 mr1 x
  exact ⟨_, _, σ2, dp g1 (by decide), dp g2 (by decide), INV.q cb mb i1 i2 i3 f1 (by decide) (by decide) r1 (mI.dep.fr f1 (by decide) ci) f2 (by decide) (by decide) r2⟩
theorem e_rings : SAME 152 274 [] := fun σ ⟨A, t, y, P, K, C, G, H, n, f, L, ⟨cb, cr, ci⟩, ⟨mb, mr⟩, i1, i2, i3⟩ => by
  obtain ⟨σ1, g1, r1, f1⟩ := s_rings (d := 0) cb.1.1
  have mb1 := (mBase.dep.fr f1 (by decide) mb)
  have mr1 := (mR.dep.fr f1 (by decide) mr)
  obtain ⟨σ2, g2, r2, f2⟩ := m_rings (d := 0) mb1.1.1
  exact ⟨_, _, σ2, dp g1 (by decide), dp g2 (by decide), INV.q cb mb i1 i2 i3 f1 (by decide) (by decide) r1 (mI.dep.fr f1 (by decide) ci) f2 (by decide) (by decide) r2⟩
