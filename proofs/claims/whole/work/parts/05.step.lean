/-! One step of the plain machine is one of the real one. -/
theorem hq_2i_some {i : Nat} {L : hq_L} {st : List Value} {σ : hq_St} {f : Int32 → Int32 → Int32} {ob : Int32 → List Prop} {r : hq_R} (h : hq_2i i L st σ f ob = some r) : ∃ a b rr, st = .int b :: .int a :: rr ∧ r = (i + 1, L, .int (f a b) :: rr, σ, ob b) := by
  unfold hq_2i at h
  split at h
  · cases h; exact ⟨_, _, _, rfl, rfl⟩
  · cases h
theorem hq_1i_some {i : Nat} {L : hq_L} {st : List Value} {σ : hq_St} {f : Int32 → Value} {r : hq_R} (h : hq_1i i L st σ f = some r) : ∃ a rr, st = .int a :: rr ∧ r = (i + 1, L, f a :: rr, σ, []) := by
  unfold hq_1i at h
  split at h
  · cases h; exact ⟨_, _, rfl, rfl⟩
  · cases h
theorem hq_1l_some {i : Nat} {L : hq_L} {st : List Value} {σ : hq_St} {f : Int64 → Value} {r : hq_R} (h : hq_1l i L st σ f = some r) : ∃ a rr, st = .long a :: rr ∧ r = (i + 1, L, f a :: rr, σ, []) := by
  unfold hq_1l at h
  split at h
  · cases h; exact ⟨_, _, rfl, rfl⟩
  · cases h
theorem hq_2l_some {i : Nat} {L : hq_L} {st : List Value} {σ : hq_St} {f : Int64 → Int64 → Value} {ob : Int64 → List Prop} {r : hq_R} (h : hq_2l i L st σ f ob = some r) : ∃ a b rr, st = .long b :: .long a :: rr ∧ r = (i + 1, L, f a b :: rr, σ, ob b) := by
  unfold hq_2l at h
  split at h
  · cases h; exact ⟨_, _, _, rfl, rfl⟩
  · cases h
theorem hq_2li_some {i : Nat} {L : hq_L} {st : List Value} {σ : hq_St} {f : Int64 → Int32 → Value} {r : hq_R} (h : hq_2li i L st σ f = some r) : ∃ a b rr, st = .int b :: .long a :: rr ∧ r = (i + 1, L, f a b :: rr, σ, []) := by
  unfold hq_2li at h
  split at h
  · cases h; exact ⟨_, _, _, rfl, rfl⟩
  · cases h
theorem hq_ldi_some {i : Nat} {L : hq_L} {st : List Value} {σ : hq_St} {k : Nat} {r : hq_R} (h : hq_ldi i L st σ k = some r) : ∃ x, hq_ld L k = some (.int x) ∧ r = (i + 1, L, .int x :: st, σ, []) := by
  unfold hq_ldi at h
  split at h
  · rename_i x hx; cases h; exact ⟨x, hx, rfl⟩
  · cases h
theorem hq_ldl_some {i : Nat} {L : hq_L} {st : List Value} {σ : hq_St} {k : Nat} {r : hq_R} (h : hq_ldl i L st σ k = some r) : ∃ x, hq_ld L k = some (.long x) ∧ r = (i + 1, L, .long x :: st, σ, []) := by
  unfold hq_ldl at h
  split at h
  · rename_i x hx; cases h; exact ⟨x, hx, rfl⟩
  · cases h
theorem hq_lda_some {i : Nat} {L : hq_L} {st : List Value} {σ : hq_St} {k : Nat} {r : hq_R} (h : hq_lda i L st σ k = some r) : ∃ x, hq_ld L k = some (.ref x) ∧ r = (i + 1, L, .ref x :: st, σ, []) := by
  unfold hq_lda at h
  split at h
  · rename_i x hx; cases h; exact ⟨x, hx, rfl⟩
  · cases h
theorem hq_sti_some {i : Nat} {L : hq_L} {st : List Value} {σ : hq_St} {k : Nat} {r : hq_R} (h : hq_sti i L st σ k = some r) : ∃ x rr, st = .int x :: rr ∧ k < L.length ∧ r = (i + 1, hq_st1 L k (.int x), rr, σ, []) := by
  unfold hq_sti at h
  split at h
  · split at h
    · rename_i hk; cases h; exact ⟨_, _, rfl, hk, rfl⟩
    · cases h
  · cases h
theorem hq_sta_some {i : Nat} {L : hq_L} {st : List Value} {σ : hq_St} {k : Nat} {r : hq_R} (h : hq_sta i L st σ k = some r) : ∃ x rr, st = .ref x :: rr ∧ k < L.length ∧ r = (i + 1, hq_st1 L k (.ref x), rr, σ, []) := by
  unfold hq_sta at h
  split at h
  · split at h
    · rename_i hk; cases h; exact ⟨_, _, rfl, hk, rfl⟩
    · cases h
  · cases h
theorem hq_stl_some {i : Nat} {L : hq_L} {st : List Value} {σ : hq_St} {k : Nat} {r : hq_R} (h : hq_stl i L st σ k = some r) : ∃ x rr, st = .long x :: rr ∧ k + 1 < L.length ∧ r = (i + 1, hq_st2 L k (.long x), rr, σ, []) := by
  unfold hq_stl at h
  split at h
  · split at h
    · rename_i hk; cases h; exact ⟨_, _, rfl, hk, rfl⟩
    · cases h
  · cases h
theorem hq_getf_some {i : Nat} {L : hq_L} {st : List Value} {σ : hq_St} {x y : Nat} {r : hq_R} (h : hq_getf i L st σ x y = some r) : ∃ c fs f rr, st = .ref c :: rr ∧ hq_lay[c]? = some (.inr (x, fs)) ∧ fs[y]? = some f ∧ r = (i + 1, L, hq_vv σ c y f :: rr, σ, []) := by
  unfold hq_getf at h
  split at h
  · split at h
    · rename_i hl
      split at h
      · rename_i hc
        split at h
        · rename_i hf; cases h; subst hc; exact ⟨_, _, _, _, rfl, hl, hf, rfl⟩
        · cases h
      · cases h
    · cases h
  · cases h
theorem hq_putf_some {i : Nat} {L : hq_L} {st : List Value} {σ : hq_St} {x y : Nat} {r : hq_R} (h : hq_putf i L st σ x y = some r) : (∃ v c fs f rr, st = .int v :: .ref c :: rr ∧ hq_lay[c]? = some (.inr (x, fs)) ∧ fs[y]? = some f ∧ ((f = 0 ∧ r = (i + 1, L, rr, hq_sI σ c y v, [])) ∨ (f = 2 ∧ r = (i + 1, L, rr, hq_sI σ c y v, [v = 0 ∨ v = 1])))) ∨ ∃ v c fs rr, st = .long v :: .ref c :: rr ∧ hq_lay[c]? = some (.inr (x, fs)) ∧ fs[y]? = some 1 ∧ r = (i + 1, L, rr, hq_sJ σ c y v, []) := by
  unfold hq_putf at h
  split at h
  · refine Or.inl ?_
    split at h
    · rename_i hl
      split at h
      · rename_i hc
        subst hc
        split at h
        · rename_i hf; cases h; exact ⟨_, _, _, _, _, rfl, hl, hf, Or.inl ⟨rfl, rfl⟩⟩
        · rename_i hf; cases h; exact ⟨_, _, _, _, _, rfl, hl, hf, Or.inr ⟨rfl, rfl⟩⟩
        · cases h
      · cases h
    · cases h
  · refine Or.inr ?_
    split at h
    · rename_i hl
      split at h
      · rename_i hc
        subst hc
        split at h
        · rename_i hf; cases h; exact ⟨_, _, _, _, rfl, hl, hf, rfl⟩
        · cases h
      · cases h
    · cases h
  · cases h
theorem hq_ald_some {i : Nat} {L : hq_L} {st : List Value} {σ : hq_St} {kd : Nat} {r : hq_R} (h : hq_ald i L st σ kd = some r) : ∃ j c n rr, st = .int j :: .ref c :: rr ∧ hq_lay[c]? = some (.inl (kd, n)) ∧ r = (i + 1, L, (if kd = 1 then Value.long (σ.2 c j.toNatClampNeg) else .int (σ.1 c j.toNatClampNeg)) :: rr, σ, [vp_in j n]) := by
  unfold hq_ald at h
  split at h
  · split at h
    · rename_i hl
      split at h
      · rename_i hc; cases h; subst hc; exact ⟨_, _, _, _, rfl, hl, rfl⟩
      · cases h
    · cases h
  · cases h
theorem hq_ast0_some {i : Nat} {L : hq_L} {st : List Value} {σ : hq_St} {r : hq_R} (h : hq_ast i L st σ 0 = some r) : ∃ v j c n rr, st = .int v :: .int j :: .ref c :: rr ∧ hq_lay[c]? = some (.inl (0, n)) ∧ r = (i + 1, L, rr, hq_sI σ c j.toNatClampNeg v, [vp_in j n]) := by
  unfold hq_ast at h
  split at h
  · split at h
    · rename_i hl; simp at h; exact ⟨_, _, _, _, _, rfl, hl, h.symm⟩
    · simp at h
    · cases h
  · split at h <;> simp at h
  · cases h
theorem hq_ast2_some {i : Nat} {L : hq_L} {st : List Value} {σ : hq_St} {r : hq_R} (h : hq_ast i L st σ 2 = some r) : ∃ v j c n rr, st = .int v :: .int j :: .ref c :: rr ∧ hq_lay[c]? = some (.inl (2, n)) ∧ r = (i + 1, L, rr, hq_sI σ c j.toNatClampNeg v, [vp_in j n, v = 0 ∨ v = 1]) := by
  unfold hq_ast at h
  split at h
  · split at h
    · simp at h
    · rename_i hl; simp at h; exact ⟨_, _, _, _, _, rfl, hl, h.symm⟩
    · cases h
  · split at h <;> simp at h
  · cases h
theorem hq_ast1_some {i : Nat} {L : hq_L} {st : List Value} {σ : hq_St} {r : hq_R} (h : hq_ast i L st σ 1 = some r) : ∃ v j c n rr, st = .long v :: .int j :: .ref c :: rr ∧ hq_lay[c]? = some (.inl (1, n)) ∧ r = (i + 1, L, rr, hq_sJ σ c j.toNatClampNeg v, [vp_in j n]) := by
  unfold hq_ast at h
  split at h
  · split at h <;> simp at h
  · split at h
    · rename_i hl; simp at h; exact ⟨_, _, _, _, _, rfl, hl, h.symm⟩
    · cases h
  · cases h
theorem hq_alen_some {i : Nat} {L : hq_L} {st : List Value} {σ : hq_St} {r : hq_R} (h : hq_alen i L st σ = some r) : ∃ c k n rr, st = .ref c :: rr ∧ hq_lay[c]? = some (.inl (k, n)) ∧ r = (i + 1, L, .int (Int32.ofNat n) :: rr, σ, []) := by
  unfold hq_alen at h
  split at h
  · split at h
    · rename_i hl; cases h; exact ⟨_, _, _, _, rfl, hl, rfl⟩
    · cases h
  · cases h
theorem hq_ofInt {k : Int} (h1 : -2147483648 ≤ k) (h2 : k < 2147483648) (x : Int32) : x = Int32.ofInt k ↔ x.toInt = k := by
  have e : (Int32.ofInt k).toInt = k := Int32.toInt_ofInt_of_le (by omega) (by omega)
  constructor
  · rintro rfl; exact e
  · intro h; apply Int32.toInt_inj.mp; rw [e, h]
theorem hq_sw_tab : ∀ (n : Nat) (lo : Int) (ts : List Nat) (d : Nat) (x : Int32), ts.length = n → -2147483648 ≤ lo → lo + n ≤ 2147483648 → (lo ≤ x.toInt ∧ x.toInt < lo + n → ts[(x.toInt - lo).toNat]? = some (hq_sw (hq_keys n lo) ts d x)) ∧ (x.toInt < lo ∨ lo + n ≤ x.toInt → hq_sw (hq_keys n lo) ts d x = d)
  | 0, lo, ts, d, x, _, _, _ => ⟨fun h => by omega, fun _ => by cases ts <;> rfl⟩
  | n + 1, lo, [], d, x, h, _, _ => by simp at h
  | n + 1, lo, t :: ts, d, x, h, h1, h2 => by
    have ih := hq_sw_tab n (lo + 1) ts d x (by simpa using h) (by omega) (by omega)
    have e : hq_sw (hq_keys (n + 1) lo) (t :: ts) d x = cond (decide (x = Int32.ofInt lo)) t (hq_sw (hq_keys n (lo + 1)) ts d x) := rfl
    rw [e]
    by_cases hx : x.toInt = lo
    · have : x = Int32.ofInt lo := (hq_ofInt (by omega) (by omega) x).mpr hx
      refine ⟨fun _ => ?_, fun q => by omega⟩
      rw [decide_eq_true this, hx]
      simp
    · have : ¬ x = Int32.ofInt lo := fun q => hx ((hq_ofInt (by omega) (by omega) x).mp q)
      rw [decide_eq_false this]
      refine ⟨fun q => ?_, fun q => ih.2 (by omega)⟩
      have e2 : (x.toInt - lo).toNat = (x.toInt - (lo + 1)).toNat + 1 := by omega
      rw [e2, List.getElem?_cons_succ]
      exact ih.1 (by omega)
theorem hq_sw_look {T : List hq_E} {pc : Nat} : ∀ (ps : List (Int × Int)) (ts : List Nat) (dof : Int) (d : Nat) (x : Int32), ts.length = ps.length → (ts.zip ps).all (fun z => decide ((pc : Int) + z.2.2 = (hq_pc T z.1 : Nat)) && decide (-2147483648 ≤ z.2.1 ∧ z.2.1 < 2147483648)) = true → (pc : Int) + dof = (hq_pc T d : Nat) → (pc : Int) + Op.lookupswitch.offset ps dof x.toInt = (hq_pc T (hq_sw (ps.map (·.1)) ts d x) : Nat)
  | [], ts, dof, d, x, h, _, hd => by
    have : ts = [] := List.length_eq_zero_iff.mp h
    subst this
    exact hd
  | (k, of) :: ps, [], dof, d, x, h, _, _ => by simp at h
  | (k, of) :: ps, t :: ts, dof, d, x, h, ha, hd => by
    rw [List.zip_cons_cons, List.all_cons, Bool.and_eq_true, Bool.and_eq_true, decide_eq_true_eq, decide_eq_true_eq] at ha
    have ih := hq_sw_look (T := T) (pc := pc) ps ts dof d x (by simpa using h) ha.2 hd
    have e : hq_sw (((k, of) :: ps).map (·.1)) (t :: ts) d x = cond (decide (x = Int32.ofInt k)) t (hq_sw (ps.map (·.1)) ts d x) := rfl
    rw [e, Op.lookupswitch.offset_cons]
    by_cases hx : x.toInt = k
    · rw [decide_eq_true ((hq_ofInt ha.1.2.1 ha.1.2.2 x).mpr hx)]
      rw [if_pos (by first | exact hx | exact hx.symm)]
      exact ha.1.1
    · rw [decide_eq_false (fun q => hx ((hq_ofInt ha.1.2.1 ha.1.2.2 x).mp q))]
      rw [if_neg (by first | exact hx | exact fun q => hx q.symm)]
      exact ih
theorem hq_mc_some {x i : Nat} {L : hq_L} {st : List Value} {σ : hq_St} {r : hq_R} (h : hq_mc x i L st σ = some r) : (∃ a b rr, st = .int b :: .int a :: rr ∧ (rr.map fun v => v.category).sum ≤ 8 ∧ ((x = 901 ∧ r = (i + 1, L, .int (if a < b then b else a) :: rr, σ, [])) ∨ (x = 902 ∧ r = (i + 1, L, .int (if b < a then b else a) :: rr, σ, [])))) ∨ ∃ a b rr, st = .long b :: .long a :: rr ∧ (rr.map fun v => v.category).sum ≤ 8 ∧ ((x = 903 ∧ r = (i + 1, L, .long (if b < a then a else b) :: rr, σ, [])) ∨ (x = 904 ∧ r = (i + 1, L, .long (if b < a then b else a) :: rr, σ, []))) := by
  unfold hq_mc at h
  split at h
  · refine Or.inl ?_
    split at h
    · rename_i hc
      split at h
      · rename_i hx; cases h; exact ⟨_, _, _, rfl, hc, Or.inl ⟨hx, rfl⟩⟩
      · split at h
        · rename_i hx; cases h; exact ⟨_, _, _, rfl, hc, Or.inr ⟨hx, rfl⟩⟩
        · cases h
    · cases h
  · refine Or.inr ?_
    split at h
    · rename_i hc
      split at h
      · rename_i hx; cases h; exact ⟨_, _, _, rfl, hc, Or.inl ⟨hx, rfl⟩⟩
      · split at h
        · rename_i hx; cases h; exact ⟨_, _, _, rfl, hc, Or.inr ⟨hx, rfl⟩⟩
        · cases h
    · cases h
  · cases h
theorem hq_mw0 : Cond.initialized "java/lang/Math" ∈ hq_tbl := hq_w_in (ts := [1, 12]) (by decide +kernel) rfl
theorem hq_mw1 : Cond.static Lib.Math.max.name ∈ hq_tbl ∧ Cond.code Lib.Math.max.name Lib.Math.max.code 2 (some .int) ∈ hq_tbl := ⟨hq_w_in (ts := [3, 53]) (by decide +kernel) rfl, hq_w_in (ts := [3, 54]) (by decide +kernel) rfl⟩
theorem hq_mw2 : Cond.static Lib.Math.min.name ∈ hq_tbl ∧ Cond.code Lib.Math.min.name Lib.Math.min.code 2 (some .int) ∈ hq_tbl := ⟨hq_w_in (ts := [2, 171]) (by decide +kernel) rfl, hq_w_in (ts := [2, 172]) (by decide +kernel) rfl⟩
theorem hq_mw3 : Cond.static Lib.MathLoose.max_long.x ∈ hq_tbl ∧ Cond.code Lib.MathLoose.max_long.x Lib.MathLoose.max_long.code 4 (some .long) ∈ hq_tbl := ⟨hq_w_in (ts := [5, 21]) (by decide +kernel) rfl, hq_w_in (ts := [5, 22]) (by decide +kernel) rfl⟩
theorem hq_mw4 : Cond.static Lib.MathLoose.min_long.x ∈ hq_tbl ∧ Cond.code Lib.MathLoose.min_long.x Lib.MathLoose.min_long.code 4 (some .long) ∈ hq_tbl := ⟨hq_w_in (ts := [4, 237]) (by decide +kernel) rfl, hq_w_in (ts := [4, 238]) (by decide +kernel) rfl⟩
def hq_pm (pj : Nat → MethodName) : Prop := pj 901 = Lib.Math.max.name ∧ pj 902 = Lib.Math.min.name ∧ pj 903 = Lib.MathLoose.max_long.x ∧ pj 904 = Lib.MathLoose.min_long.x
section HQ1
variable {p : Program} {l : Launch} {e : Env} {R : Room} {s : State} {m : MethodId} {args : Array Value} {below : List Frame} {meth : Method} {c : Code} {H : Heap} {locs : List Loc} {cells slots : Nat} {Q : State → Prop}
variable {D : va_G} {cy : hq_C3} {A : Nat → Prop} {ad : Nat → Nat} {Ts : List Cond} {pj : Nat → MethodName} {sr : Nat → String × Nat × String} {T : List hq_E} {cc : ByteArray} {own : String} {nL : Nat}
theorem hq_ldcwS {pc : Nat} {ls : Array Slot} {rest : List Value} (hexec : p.tables.exec = Jvm.exec) (hb : c.code = cc) {tx : String} {index q : Nat} (hown : s.vm.findClass own = some m.cls) (hZ : vk_R own index tx q s) (hdg : decode cc pc = .ok (.ldc_w index, 3))
    (k : W p l e R s m args below meth c H locs cells slots Q (F0 m (pc + 3) ls (.ref q :: rest))) : W p l e R s m args below meth c H locs cells slots Q (F0 m pc ls rest) := by
  intro T hT X
  obtain ⟨t, a1, b1⟩ := k T hT X
  obtain ⟨k, cf, i, a', hk, hcf, hcp, -, hr, hev'⟩ := Cond.stringRef_spec hown hZ.1
  cases hZ.2.symm.trans hev'
  obtain ⟨k', hk', he⟩ := X.warmed.alike.2.2 _ _ hk
  have hr' : k'.resolved[index]? = some (some (.string q)) := by
    rcases X.warmed.entry hk hk' index with h | ⟨h, -⟩
    · rw [h]; exact hr
    · rw [hr] at h; cases h
  refine ⟨t, ?_, b1⟩
  rw [← hb] at hdg
  jvm_step X.here [hexec, hdg, ldc_w.wp_string (e := e) (s := T) (f := F0 m pc ls rest) X.here.top hk' (by rw [he]; exact hcf) hcp hr']
  exact a1
def hq_ctx (p : Program) (s : State) (m : MethodId) (args : Array Value) (c : Code) (D : va_G) (cy : hq_C3) (A : Nat → Prop) (ad : Nat → Nat) (Ts : List Cond) (pj : Nat → MethodName) (sr : Nat → String × Nat × String) (T : List hq_E) (cc : ByteArray) (own : String) : Prop :=
  p.tables.exec = Jvm.exec ∧ c.code = cc ∧ s.vm.findClass own = some m.cls ∧ (∀ w ∈ Ts, w.before args s = true) ∧ (∀ w ∈ hq_tbl, w ∈ Ts) ∧ va_K D vwCl (hq_tys cy) s ∧ (∀ i j, i < hq_n → j < hq_n → ad i = ad j → i = j) ∧ (∀ i, i < hq_n → A (ad i)) ∧ hq_tok pj sr T cc own ∧ ∀ j, 1000 ≤ j → j < 1017 → vk_R (sr j).1 (sr j).2.1 (sr j).2.2 (ad j) s
def hq_now (D : va_G) (cy : hq_C3) (ad : Nat → Nat) (A : Nat → Prop) (H0 H : Heap) (locs : List Loc) (ls : Array Slot) (nL : Nat) (L : hq_L) (σ : hq_St) : Prop :=
  va_P D vwCl (hq_ws cy ad σ) H ∧ va_S A H0 H locs ∧ lv_has ls nL (hq_lv ad L) ∧ L.length = nL
theorem hq_cellA {cy : hq_C3} {ad : Nat → Nat} {σ : hq_St} {c0 n : Nat} (h : hq_lay[c0]? = some (.inl (0, n))) : (hq_ws cy ad σ)[c0]? = some (ad c0, .inl (cy.1, n, .inl (σ.1 c0))) := by rw [hq_ws_get (hq_lay_lt h)]; unfold hq_cell; rw [h]; rfl
theorem hq_cellJ {cy : hq_C3} {ad : Nat → Nat} {σ : hq_St} {c0 n : Nat} (h : hq_lay[c0]? = some (.inl (1, n))) : (hq_ws cy ad σ)[c0]? = some (ad c0, .inl (cy.2.1, n, .inr (.inl (σ.2 c0)))) := by rw [hq_ws_get (hq_lay_lt h)]; unfold hq_cell; rw [h]; rfl
theorem hq_cellZ {cy : hq_C3} {ad : Nat → Nat} {σ : hq_St} {c0 n : Nat} (h : hq_lay[c0]? = some (.inl (2, n))) : (hq_ws cy ad σ)[c0]? = some (ad c0, .inl (cy.2.2, n, .inl (σ.1 c0))) := by rw [hq_ws_get (hq_lay_lt h)]; unfold hq_cell; rw [h]; rfl
theorem hq_cellO {cy : hq_C3} {ad : Nat → Nat} {σ : hq_St} {c0 ci : Nat} {fs : List Nat} (h : hq_lay[c0]? = some (.inr (ci, fs))) : (hq_ws cy ad σ)[c0]? = some (ad c0, .inr (ci, hq_fs ad σ c0 fs)) := by rw [hq_ws_get (hq_lay_lt h)]; unfold hq_cell; rw [h]
theorem hq_fw_ok {own : String} {idx x y : Nat} {ts : List Nat} {put : Bool} {q : vw_C} (hq : vwCl[x]? = some q) (h : hq_fw own idx x y ts put = true) : y < q.2.2 ∧ Cond.fieldLink own idx (q.2.1 y).1 (q.2.1 y).2.1 (q.2.1 y).2.2.1 ∈ hq_tbl ∧ (put = true → (q.2.1 y).2.2.2 = false) := by
  unfold hq_fw at h
  rw [hq] at h
  simp only [Bool.and_eq_true, decide_eq_true_eq, Bool.or_eq_true, Bool.not_eq_true'] at h
  exact ⟨h.1.1, hq_w_in h.1.2 rfl, fun e => h.2.elim (fun n => by rw [e] at n; cases n) id⟩
theorem hq_int_lt {a b : Int32} : b ≤ a ↔ ¬ a < b := by
  rw [Int32.le_iff_toInt_le, Int32.lt_iff_toInt_lt]; omega
set_option maxHeartbeats 4000000 in
set_option maxRecDepth 100000 in
theorem hq_follow {i : Nat} {L : hq_L} {st : List Value} {σ : hq_St} {r : hq_R} {ls : Array Slot} (C : hq_ctx p s m args c D cy A ad Ts pj sr T cc own) (hpm : hq_pm pj) (hml : c.maxLocals = nL) (hR : 1 ≤ R.frames ∧ 64 ≤ R.locals ∧ cells ≤ R.cells ∧ slots ≤ R.slots) (hI : hq_now D cy ad A s.heap H locs ls nL L σ) (hs : hq_step T i L st σ = some r) (ho : hq_all r.2.2.2.2)
    (kk : ∀ (H' : Heap) (locs' : List Loc) (ls' : Array Slot), hq_now D cy ad A s.heap H' locs' ls' nL r.2.1 r.2.2.2.1 → W p l e R s m args below meth c H' locs' cells slots Q (F0 m (hq_pc T r.1) ls' (r.2.2.1.map (hq_vm ad)))) :
    W p l e R s m args below meth c H locs cells slots Q (F0 m (hq_pc T i) ls (st.map (hq_vm ad))) := by
  obtain ⟨hx, hb, hown, hts, hin, hK, hinj, hA, htok, hstr⟩ := C
  obtain ⟨hP, hS, hl, hLn⟩ := hI
  have hD : ∀ τ : hq_St, va_D A (hq_ws cy ad τ) := fun τ => hq_ap hinj hA
  unfold hq_step at hs
  split at hs
  case h_2 => cases hs
  rename_i e0 he
  obtain ⟨pc, ins, x, y, ts⟩ := e0
  have hk := htok i _ he
  rw [hq_pc_at he]
  unfold hq_eokb at hk
  rw [Bool.and_eq_true, decide_eq_true_eq] at hk
  obtain ⟨hd, hk⟩ := hk
  dsimp only at hs hd hk ⊢
  cases ins
  case iadd =>
    have hk : hq_pc T (i + 1) = pc + 1 := of_decide_eq_true hk
    obtain ⟨a, b, rr, rfl, rfl⟩ := hq_2i_some hs
    refine lv_iadd hx hb hd ?_
    rw [← hk]
    exact kk H locs ls ⟨hP, hS, hl, hLn⟩
  case isub =>
    have hk : hq_pc T (i + 1) = pc + 1 := of_decide_eq_true hk
    obtain ⟨a, b, rr, rfl, rfl⟩ := hq_2i_some hs
    refine lv_isub hx hb hd ?_
    rw [← hk]
    exact kk H locs ls ⟨hP, hS, hl, hLn⟩
  case imul =>
    have hk : hq_pc T (i + 1) = pc + 1 := of_decide_eq_true hk
    obtain ⟨a, b, rr, rfl, rfl⟩ := hq_2i_some hs
    refine lv_imul hx hb hd ?_
    rw [← hk]
    exact kk H locs ls ⟨hP, hS, hl, hLn⟩
  case iand =>
    have hk : hq_pc T (i + 1) = pc + 1 := of_decide_eq_true hk
    obtain ⟨a, b, rr, rfl, rfl⟩ := hq_2i_some hs
    refine lv_iand hx hb hd ?_
    rw [← hk]
    exact kk H locs ls ⟨hP, hS, hl, hLn⟩
  case ior =>
    have hk : hq_pc T (i + 1) = pc + 1 := of_decide_eq_true hk
    obtain ⟨a, b, rr, rfl, rfl⟩ := hq_2i_some hs
    refine lv_ior hx hb hd ?_
    rw [← hk]
    exact kk H locs ls ⟨hP, hS, hl, hLn⟩
  case ixor =>
    have hk : hq_pc T (i + 1) = pc + 1 := of_decide_eq_true hk
    obtain ⟨a, b, rr, rfl, rfl⟩ := hq_2i_some hs
    refine lv_ixor hx hb hd ?_
    rw [← hk]
    exact kk H locs ls ⟨hP, hS, hl, hLn⟩
  case ishl =>
    have hk : hq_pc T (i + 1) = pc + 1 := of_decide_eq_true hk
    obtain ⟨a, b, rr, rfl, rfl⟩ := hq_2i_some hs
    refine lv_ishl hx hb hd ?_
    rw [← hk]
    exact kk H locs ls ⟨hP, hS, hl, hLn⟩
  case ishr =>
    have hk : hq_pc T (i + 1) = pc + 1 := of_decide_eq_true hk
    obtain ⟨a, b, rr, rfl, rfl⟩ := hq_2i_some hs
    refine lv_ishr hx hb hd ?_
    rw [← hk]
    exact kk H locs ls ⟨hP, hS, hl, hLn⟩
  case iushr =>
    have hk : hq_pc T (i + 1) = pc + 1 := of_decide_eq_true hk
    obtain ⟨a, b, rr, rfl, rfl⟩ := hq_2i_some hs
    refine lv_iushr hx hb hd rfl ?_
    rw [← hk]
    exact kk H locs ls ⟨hP, hS, hl, hLn⟩
  case idiv =>
    have hk : hq_pc T (i + 1) = pc + 1 := of_decide_eq_true hk
    obtain ⟨a, b, rr, rfl, rfl⟩ := hq_2i_some hs
    refine lv_idiv hx hb hd ho.1 ?_
    rw [← hk]
    exact kk H locs ls ⟨hP, hS, hl, hLn⟩
  case irem =>
    have hk : hq_pc T (i + 1) = pc + 1 := of_decide_eq_true hk
    obtain ⟨a, b, rr, rfl, rfl⟩ := hq_2i_some hs
    refine lv_irem hx hb hd ho.1 ?_
    rw [← hk]
    exact kk H locs ls ⟨hP, hS, hl, hLn⟩
  case ladd =>
    have hk : hq_pc T (i + 1) = pc + 1 := of_decide_eq_true hk
    obtain ⟨a, b, rr, rfl, rfl⟩ := hq_2l_some hs
    refine lv_ladd hx hb hd ?_
    rw [← hk]
    exact kk H locs ls ⟨hP, hS, hl, hLn⟩
  case lsub =>
    have hk : hq_pc T (i + 1) = pc + 1 := of_decide_eq_true hk
    obtain ⟨a, b, rr, rfl, rfl⟩ := hq_2l_some hs
    refine lv_lsub hx hb hd ?_
    rw [← hk]
    exact kk H locs ls ⟨hP, hS, hl, hLn⟩
  case lmul =>
    have hk : hq_pc T (i + 1) = pc + 1 := of_decide_eq_true hk
    obtain ⟨a, b, rr, rfl, rfl⟩ := hq_2l_some hs
    refine lv_lmul hx hb hd ?_
    rw [← hk]
    exact kk H locs ls ⟨hP, hS, hl, hLn⟩
  case land =>
    have hk : hq_pc T (i + 1) = pc + 1 := of_decide_eq_true hk
    obtain ⟨a, b, rr, rfl, rfl⟩ := hq_2l_some hs
    refine lv_land hx hb hd ?_
    rw [← hk]
    exact kk H locs ls ⟨hP, hS, hl, hLn⟩
  case lor =>
    have hk : hq_pc T (i + 1) = pc + 1 := of_decide_eq_true hk
    obtain ⟨a, b, rr, rfl, rfl⟩ := hq_2l_some hs
    refine lv_lor hx hb hd ?_
    rw [← hk]
    exact kk H locs ls ⟨hP, hS, hl, hLn⟩
  case ldiv =>
    have hk : hq_pc T (i + 1) = pc + 1 := of_decide_eq_true hk
    obtain ⟨a, b, rr, rfl, rfl⟩ := hq_2l_some hs
    refine lv_ldiv hx hb hd ho.1 ?_
    rw [← hk]
    exact kk H locs ls ⟨hP, hS, hl, hLn⟩
  case lrem =>
    have hk : hq_pc T (i + 1) = pc + 1 := of_decide_eq_true hk
    obtain ⟨a, b, rr, rfl, rfl⟩ := hq_2l_some hs
    refine lv_lrem hx hb hd ho.1 ?_
    rw [← hk]
    exact kk H locs ls ⟨hP, hS, hl, hLn⟩
  case lcmp =>
    have hk : hq_pc T (i + 1) = pc + 1 := of_decide_eq_true hk
    obtain ⟨a, b, rr, rfl, rfl⟩ := hq_2l_some hs
    refine W.lcmp hx hb hd ?_
    rw [← hk]
    exact kk H locs ls ⟨hP, hS, hl, hLn⟩
  case lshl =>
    have hk : hq_pc T (i + 1) = pc + 1 := of_decide_eq_true hk
    obtain ⟨a, b, rr, rfl, rfl⟩ := hq_2li_some hs
    refine lv_lshl hx hb hd rfl ?_
    rw [← hk]
    exact kk H locs ls ⟨hP, hS, hl, hLn⟩
  case lshr =>
    have hk : hq_pc T (i + 1) = pc + 1 := of_decide_eq_true hk
    obtain ⟨a, b, rr, rfl, rfl⟩ := hq_2li_some hs
    refine lv_lshr hx hb hd rfl ?_
    rw [← hk]
    exact kk H locs ls ⟨hP, hS, hl, hLn⟩
  case ineg =>
    have hk : hq_pc T (i + 1) = pc + 1 := of_decide_eq_true hk
    obtain ⟨a, rr, rfl, rfl⟩ := hq_1i_some hs
    refine lv_ineg hx hb hd ?_
    rw [← hk]
    exact kk H locs ls ⟨hP, hS, hl, hLn⟩
  case i2l =>
    have hk : hq_pc T (i + 1) = pc + 1 := of_decide_eq_true hk
    obtain ⟨a, rr, rfl, rfl⟩ := hq_1i_some hs
    refine lv_i2l hx hb hd rfl ?_
    rw [← hk]
    exact kk H locs ls ⟨hP, hS, hl, hLn⟩
  case i2b =>
    have hk : hq_pc T (i + 1) = pc + 1 := of_decide_eq_true hk
    obtain ⟨a, rr, rfl, rfl⟩ := hq_1i_some hs
    refine lv_i2b hx hb hd rfl ?_
    rw [← hk]
    exact kk H locs ls ⟨hP, hS, hl, hLn⟩
  case i2s =>
    have hk : hq_pc T (i + 1) = pc + 1 := of_decide_eq_true hk
    obtain ⟨a, rr, rfl, rfl⟩ := hq_1i_some hs
    refine lv_i2s hx hb hd rfl ?_
    rw [← hk]
    exact kk H locs ls ⟨hP, hS, hl, hLn⟩
  case l2i =>
    have hk : hq_pc T (i + 1) = pc + 1 := of_decide_eq_true hk
    obtain ⟨a, rr, rfl, rfl⟩ := hq_1l_some hs
    refine lv_l2i hx hb hd rfl ?_
    rw [← hk]
    exact kk H locs ls ⟨hP, hS, hl, hLn⟩
  case iconst k =>
    have hk : hq_pc T (i + 1) = pc + 1 := of_decide_eq_true hk
    cases hs
    refine lv_iconst hx hb hd rfl ?_
    rw [← hk]
    exact kk H locs ls ⟨hP, hS, hl, hLn⟩
  case bipush k =>
    have hk : hq_pc T (i + 1) = pc + 2 := of_decide_eq_true hk
    cases hs
    refine lv_bipush hx hb hd rfl ?_
    rw [← hk]
    exact kk H locs ls ⟨hP, hS, hl, hLn⟩
  case sipush k =>
    have hk : hq_pc T (i + 1) = pc + 3 := of_decide_eq_true hk
    cases hs
    refine lv_sipush hx hb hd rfl ?_
    rw [← hk]
    exact kk H locs ls ⟨hP, hS, hl, hLn⟩
  case lconst k =>
    have hk : hq_pc T (i + 1) = pc + 1 := of_decide_eq_true hk
    cases hs
    refine lv_lconst hx hb hd rfl ?_
    rw [← hk]
    exact kk H locs ls ⟨hP, hS, hl, hLn⟩
  case iload k =>
    have hk : hq_pc T (i + 1) = pc + 2 := of_decide_eq_true hk
    obtain ⟨v, hv, rfl⟩ := hq_ldi_some hs
    refine lv_iload hx hb hd (hq_has_at hl hv) ?_
    rw [← hk]
    exact kk H locs ls ⟨hP, hS, hl, hLn⟩
  case iload_n k =>
    have hk : hq_pc T (i + 1) = pc + 1 := of_decide_eq_true hk
    obtain ⟨v, hv, rfl⟩ := hq_ldi_some hs
    refine lv_iload_n hx hb hd rfl (hq_has_at hl hv) ?_
    rw [← hk]
    exact kk H locs ls ⟨hP, hS, hl, hLn⟩
  case lload k =>
    have hk : hq_pc T (i + 1) = pc + 2 := of_decide_eq_true hk
    obtain ⟨v, hv, rfl⟩ := hq_ldl_some hs
    refine lv_lload hx hb hd (hq_has_at hl hv) ?_
    rw [← hk]
    exact kk H locs ls ⟨hP, hS, hl, hLn⟩
  case lload_n k =>
    have hk : hq_pc T (i + 1) = pc + 1 := of_decide_eq_true hk
    obtain ⟨v, hv, rfl⟩ := hq_ldl_some hs
    refine lv_lload_n hx hb hd rfl (hq_has_at hl hv) ?_
    rw [← hk]
    exact kk H locs ls ⟨hP, hS, hl, hLn⟩
  case aload k =>
    have hk : hq_pc T (i + 1) = pc + 2 := of_decide_eq_true hk
    obtain ⟨v, hv, rfl⟩ := hq_lda_some hs
    refine lv_aload hx hb hd (hq_has_at hl hv) ?_
    rw [← hk]
    exact kk H locs ls ⟨hP, hS, hl, hLn⟩
  case aload_n k =>
    have hk : hq_pc T (i + 1) = pc + 1 := of_decide_eq_true hk
    obtain ⟨v, hv, rfl⟩ := hq_lda_some hs
    refine lv_aload_n hx hb hd rfl (hq_has_at hl hv) ?_
    rw [← hk]
    exact kk H locs ls ⟨hP, hS, hl, hLn⟩
  case istore k =>
    have hk : hq_pc T (i + 1) = pc + 2 := of_decide_eq_true hk
    obtain ⟨v, rr, rfl, hn, rfl⟩ := hq_sti_some hs
    rw [hLn] at hn
    refine lv_istore hx hb hd hl hn rfl (fun ls' hl' => ?_)
    rw [← hk]
    exact kk H locs ls' ⟨hP, hS, hq_has_mono hl' hq_lv_st1, by rw [hq_st1_len]; exact hLn⟩
  case istore_n k =>
    have hk : hq_pc T (i + 1) = pc + 1 := of_decide_eq_true hk
    obtain ⟨v, rr, rfl, hn, rfl⟩ := hq_sti_some hs
    rw [hLn] at hn
    refine lv_istore_n hx hb hd rfl hl hn rfl (fun ls' hl' => ?_)
    rw [← hk]
    exact kk H locs ls' ⟨hP, hS, hq_has_mono hl' hq_lv_st1, by rw [hq_st1_len]; exact hLn⟩
  case astore k =>
    have hk : hq_pc T (i + 1) = pc + 2 := of_decide_eq_true hk
    obtain ⟨v, rr, rfl, hn, rfl⟩ := hq_sta_some hs
    rw [hLn] at hn
    refine lv_astore hx hb hd hl hn rfl (fun ls' hl' => ?_)
    rw [← hk]
    exact kk H locs ls' ⟨hP, hS, hq_has_mono hl' hq_lv_st1, by rw [hq_st1_len]; exact hLn⟩
  case astore_n k =>
    have hk : hq_pc T (i + 1) = pc + 1 := of_decide_eq_true hk
    obtain ⟨v, rr, rfl, hn, rfl⟩ := hq_sta_some hs
    rw [hLn] at hn
    refine lv_astore_n hx hb hd rfl hl hn rfl (fun ls' hl' => ?_)
    rw [← hk]
    exact kk H locs ls' ⟨hP, hS, hq_has_mono hl' hq_lv_st1, by rw [hq_st1_len]; exact hLn⟩
  case lstore k =>
    have hk : hq_pc T (i + 1) = pc + 2 := of_decide_eq_true hk
    obtain ⟨v, rr, rfl, hn, rfl⟩ := hq_stl_some hs
    rw [hLn] at hn
    refine lv_lstore hx hb hd hl hn rfl (fun ls' hl' => ?_)
    rw [← hk]
    exact kk H locs ls' ⟨hP, hS, hq_has_mono hl' hq_lv_st2, by rw [hq_st2_len]; exact hLn⟩
  case lstore_n k =>
    have hk : hq_pc T (i + 1) = pc + 1 := of_decide_eq_true hk
    obtain ⟨v, rr, rfl, hn, rfl⟩ := hq_stl_some hs
    rw [hLn] at hn
    refine lv_lstore_n hx hb hd rfl hl hn rfl (fun ls' hl' => ?_)
    rw [← hk]
    exact kk H locs ls' ⟨hP, hS, hq_has_mono hl' hq_lv_st2, by rw [hq_st2_len]; exact hLn⟩
  case iinc k n =>
    have hk : hq_pc T (i + 1) = pc + 3 := of_decide_eq_true hk
    dsimp only [hq_ins] at hs
    split at hs
    · rename_i v hv
      split at hs
      · rename_i hn
        cases hs
        rw [hLn] at hn
        have hm : (k, Value.int v) ∈ hq_lv ad L := by
          refine hq_lv_mem.mpr ⟨.int v, ?_, rfl⟩
          unfold hq_ld at hv
          split at hv
          · rename_i w hw
            rw [hw]; cases hv; rfl
          · cases hv
        obtain ⟨k9, hk9⟩ := List.getElem?_of_mem hm
        refine lv_iinc hx hb hd hl hk9 rfl hn rfl (fun ls' hl' => ?_)
        rw [← hk]
        exact kk H locs ls' ⟨hP, hS, hq_has_mono hl' hq_lv_st1, by rw [hq_st1_len]; exact hLn⟩
      · cases hs
    · cases hs
  case dup =>
    have hk : hq_pc T (i + 1) = pc + 1 := of_decide_eq_true hk
    dsimp only [hq_ins] at hs
    split at hs
    · split at hs
      · rename_i hc
        cases hs
        refine lv_dup hx hb hd (by rw [hq_vm_cat]; exact hc) ?_
        rw [← hk]
        exact kk H locs ls ⟨hP, hS, hl, hLn⟩
      · cases hs
    · cases hs
  case pop =>
    have hk : hq_pc T (i + 1) = pc + 1 := of_decide_eq_true hk
    dsimp only [hq_ins] at hs
    split at hs
    · split at hs
      · rename_i hc
        cases hs
        refine lv_pop hx hb hd (by rw [hq_vm_cat]; exact hc) ?_
        rw [← hk]
        exact kk H locs ls ⟨hP, hS, hl, hLn⟩
      · cases hs
    · cases hs
  case pop2 =>
    have hk : hq_pc T (i + 1) = pc + 1 := of_decide_eq_true hk
    dsimp only [hq_ins] at hs
    split at hs
    · split at hs
      · rename_i hc
        cases hs
        refine lv_pop2_2 hx hb hd (by rw [hq_vm_cat]; exact hc) ?_
        rw [← hk]
        exact kk H locs ls ⟨hP, hS, hl, hLn⟩
      · cases hs
    · cases hs
  case dup2 =>
    have hk : hq_pc T (i + 1) = pc + 1 := of_decide_eq_true hk
    dsimp only [hq_ins] at hs
    split at hs
    · split at hs
      · rename_i hc
        cases hs
        refine lv_dup2_11 hx hb hd (by rw [hq_vm_cat]; exact hc.1) (by rw [hq_vm_cat]; exact hc.2) ?_
        rw [← hk]
        exact kk H locs ls ⟨hP, hS, hl, hLn⟩
      · cases hs
    · cases hs
  case goto o =>
    cases hs
    exact lv_goto hx hb hd (of_decide_eq_true hk) (kk H locs ls ⟨hP, hS, hl, hLn⟩)
  case ifCond k o =>
    have hk2 : ((pc : Int) + o = (hq_pc T x : Nat)) ∧ hq_pc T (i + 1) = pc + 3 := by
      rw [Bool.and_eq_true, decide_eq_true_eq, decide_eq_true_eq] at hk; exact hk
    clear hk
    dsimp only [hq_ins] at hs
    split at hs
    · cases hs
      have K := kk H locs ls ⟨hP, hS, hl, hLn⟩
      dsimp only at K
      cases k
      case eq =>
        refine lv_if_eq hx hb hd hk2.1 (fun h => ?_) (fun h => ?_)
        · unfold hq_br at K; dsimp only at K; rw [decide_eq_true h] at K; exact K
        · unfold hq_br at K; dsimp only at K; rw [decide_eq_false h] at K; rw [← hk2.2]; exact K
      case ne =>
        refine lv_if_ne hx hb hd hk2.1 (fun h => ?_) (fun h => ?_)
        · unfold hq_br at K; dsimp only at K; rw [decide_eq_false h] at K; exact K
        · unfold hq_br at K; dsimp only at K; rw [decide_eq_true h] at K; rw [← hk2.2]; exact K
      case lt =>
        refine lv_if_lt hx hb hd hk2.1 (fun h => ?_) (fun h => ?_)
        · unfold hq_br at K; dsimp only at K; rw [decide_eq_true h] at K; exact K
        · unfold hq_br at K; dsimp only at K; rw [decide_eq_false h] at K; rw [← hk2.2]; exact K
      case ge =>
        refine lv_if_ge hx hb hd hk2.1 (fun h => ?_) (fun h => ?_)
        · unfold hq_br at K; dsimp only at K; rw [decide_eq_false (hq_int_lt.mp h)] at K; exact K
        · unfold hq_br at K; dsimp only at K; rw [decide_eq_true (Decidable.not_not.mp (fun q => h (hq_int_lt.mpr q)))] at K; rw [← hk2.2]; exact K
      case gt =>
        refine lv_if_gt hx hb hd hk2.1 (fun h => ?_) (fun h => ?_)
        · unfold hq_br at K; dsimp only at K; rw [decide_eq_true h] at K; exact K
        · unfold hq_br at K; dsimp only at K; rw [decide_eq_false h] at K; rw [← hk2.2]; exact K
      case le =>
        refine lv_if_le hx hb hd hk2.1 (fun h => ?_) (fun h => ?_)
        · unfold hq_br at K; dsimp only at K; rw [decide_eq_false (hq_int_lt.mp h)] at K; exact K
        · unfold hq_br at K; dsimp only at K; rw [decide_eq_true (Decidable.not_not.mp (fun q => h (hq_int_lt.mpr q)))] at K; rw [← hk2.2]; exact K
    · cases hs
  case if_icmp k o =>
    have hk2 : ((pc : Int) + o = (hq_pc T x : Nat)) ∧ hq_pc T (i + 1) = pc + 3 := by
      rw [Bool.and_eq_true, decide_eq_true_eq, decide_eq_true_eq] at hk; exact hk
    clear hk
    dsimp only [hq_ins] at hs
    split at hs
    · cases hs
      have K := kk H locs ls ⟨hP, hS, hl, hLn⟩
      dsimp only at K
      cases k
      case eq =>
        refine lv_icmp_eq hx hb hd hk2.1 (fun h => ?_) (fun h => ?_)
        · unfold hq_br at K; dsimp only at K; rw [decide_eq_true h] at K; exact K
        · unfold hq_br at K; dsimp only at K; rw [decide_eq_false h] at K; rw [← hk2.2]; exact K
      case ne =>
        refine lv_icmp_ne hx hb hd hk2.1 (fun h => ?_) (fun h => ?_)
        · unfold hq_br at K; dsimp only at K; rw [decide_eq_false h] at K; exact K
        · unfold hq_br at K; dsimp only at K; rw [decide_eq_true h] at K; rw [← hk2.2]; exact K
      case lt =>
        refine lv_icmp_lt hx hb hd hk2.1 (fun h => ?_) (fun h => ?_)
        · unfold hq_br at K; dsimp only at K; rw [decide_eq_true h] at K; exact K
        · unfold hq_br at K; dsimp only at K; rw [decide_eq_false h] at K; rw [← hk2.2]; exact K
      case ge =>
        refine lv_icmp_ge hx hb hd hk2.1 (fun h => ?_) (fun h => ?_)
        · unfold hq_br at K; dsimp only at K; rw [decide_eq_false (hq_int_lt.mp h)] at K; exact K
        · unfold hq_br at K; dsimp only at K; rw [decide_eq_true (Decidable.not_not.mp (fun q => h (hq_int_lt.mpr q)))] at K; rw [← hk2.2]; exact K
      case gt =>
        refine lv_icmp_gt hx hb hd hk2.1 (fun h => ?_) (fun h => ?_)
        · unfold hq_br at K; dsimp only at K; rw [decide_eq_true h] at K; exact K
        · unfold hq_br at K; dsimp only at K; rw [decide_eq_false h] at K; rw [← hk2.2]; exact K
      case le =>
        refine lv_icmp_le hx hb hd hk2.1 (fun h => ?_) (fun h => ?_)
        · unfold hq_br at K; dsimp only at K; rw [decide_eq_false (hq_int_lt.mp h)] at K; exact K
        · unfold hq_br at K; dsimp only at K; rw [decide_eq_true (Decidable.not_not.mp (fun q => h (hq_int_lt.mpr q)))] at K; rw [← hk2.2]; exact K
    · cases hs
  case tableswitch dof lo hi offs =>
    have hk : (((((pc : Int) + dof = (hq_pc T x : Nat)) ∧ ts.length = (hi - lo + 1).toNat) ∧ offs.size = (hi - lo + 1).toNat) ∧ (ts.zip offs.toList).all (fun z => decide ((pc : Int) + z.2 = (hq_pc T z.1 : Nat))) = true) ∧ (-2147483648 ≤ lo ∧ hi < 2147483648 ∧ lo ≤ hi) := by
      simpa only [Bool.and_eq_true, decide_eq_true_eq] using hk
    dsimp only [hq_ins] at hs
    split at hs
    · rename_i a rr
      cases hs
      have K := kk H locs ls ⟨hP, hS, hl, hLn⟩
      dsimp only at K
      have hT := hq_sw_tab (hi - lo + 1).toNat lo ts x a hk.1.1.1.2 (by omega) (by omega)
      by_cases h : a.toInt < lo ∨ hi < a.toInt
      · refine lv_tableOut hx hb hd h hk.1.1.1.1 ?_
        rw [hT.2 (by omega)] at K
        exact K
      · have h9 := hT.1 (by omega)
        have hlt : (a.toInt - lo).toNat < offs.size := by omega
        have hz : (ts.zip offs.toList)[(a.toInt - lo).toNat]? = some (hq_sw (hq_keys (hi - lo + 1).toNat lo) ts x a, offs[(a.toInt - lo).toNat]) := by
          rw [List.getElem?_zip_eq_some]
          exact ⟨h9, by rw [Array.getElem?_toList]; exact Array.getElem?_eq_getElem hlt⟩
        have h8 := List.all_eq_true.mp hk.1.2 _ (List.mem_of_getElem? hz)
        rw [decide_eq_true_eq] at h8
        exact lv_tableIn hx hb hd (fun q => h (Or.inl q)) (fun q => h (Or.inr q)) (Array.getElem?_eq_getElem hlt) h8 K
    · cases hs
  case lookupswitch dof ps =>
    have hk : ((((pc : Int) + dof = (hq_pc T x : Nat)) ∧ ts.length = ps.toList.length) ∧ (ts.zip ps.toList).all (fun z => decide ((pc : Int) + z.2.2 = (hq_pc T z.1 : Nat)) && decide (-2147483648 ≤ z.2.1 ∧ z.2.1 < 2147483648)) = true) ∧ (ps.toList.zip (ps.toList.drop 1)).all (fun (a, next) => a.1 < next.1) = true := by
      rw [Bool.and_eq_true, Bool.and_eq_true, Bool.and_eq_true, decide_eq_true_eq, decide_eq_true_eq, decide_eq_true_eq] at hk
      exact hk
    dsimp only [hq_ins] at hs
    split at hs
    · rename_i a rr
      cases hs
      have K := kk H locs ls ⟨hP, hS, hl, hLn⟩
      exact lv_lookup hx hb hd hk.2 rfl (hq_sw_look ps.toList ts dof x a hk.1.1.2 hk.1.2 hk.1.1.1) K
    · cases hs
  case getfield k =>
    have hk : hq_pc T (i + 1) = pc + 3 ∧ hq_fw own k x y ts false = true := by
      rw [Bool.and_eq_true, decide_eq_true_eq] at hk; exact hk
    obtain ⟨c0, fs, f, rr, rfl, hlay, hf, rfl⟩ := hq_getf_some hs
    obtain ⟨q, hq, hN, -⟩ := hq_lok hlay
    obtain ⟨w1, w2, -⟩ := hq_fw_ok hq hk.2
    refine va_get (D := D) (cl := vwCl) (C := q.1) (T := q.2.1) (N := q.2.2) (v := hq_vm ad (hq_vv σ c0 y f)) hx hb hts (fun w hw => hin w ((hq_cls hq).1 w hw)) hown hK hP c0 (hq_cellO hlay) hq y w1 (hts _ (hin _ w2)) (fun _ h9 => h9) (by rw [hq_fs_get, hf]; rfl) hd ?_
    rw [← hk.1]
    exact kk H locs ls ⟨hP, hS, hl, hLn⟩
  case putfield k =>
    have hk : hq_pc T (i + 1) = pc + 3 ∧ hq_fw own k x y ts true = true := by
      rw [Bool.and_eq_true, decide_eq_true_eq] at hk; exact hk
    rcases hq_putf_some hs with ⟨v, c0, fs, f, rr, rfl, hlay, hf, hr⟩ | ⟨v, c0, fs, rr, rfl, hlay, hf, rfl⟩
    · obtain ⟨q, hq, hN, hty⟩ := hq_lok hlay
      obtain ⟨w1, w2, w3⟩ := hq_fw_ok hq hk.2
      obtain ⟨cw, ty0, ht0, hnm⟩ := hq_cls hq
      have hlen : y < (hq_fs ad σ c0 fs).length := by rw [hq_fs_len, hN]; exact w1
      rcases hr with ⟨rfl, rfl⟩ | ⟨rfl, rfl⟩
      · refine va_put (D := D) (cl := vwCl) (C := q.1) (T := q.2.1) (N := q.2.2) (v := .int v) (ty := .int) hx hb hts (fun w hw => hin w (cw w hw)) ty0 ht0 hnm hown hK hP (hD σ) hS c0 (hq_cellO hlay) hq y w1 (hts _ (hin _ w2)) (fun _ h9 => h9) (w3 rfl) ((hty y 0 hf).1 rfl) rfl rfl hlen hd (fun H1 locs1 hP1 _ hS1 => ?_)
        rw [hq_ws_set (τ := hq_sI σ c0 y v) (by unfold hq_cell; rw [hlay]; dsimp only; rw [hq_fs_sI hf (Or.inl rfl)]) hq_cell_sI] at hP1
        rw [← hk.1]
        exact kk H1 locs1 ls ⟨hP1, hS1, hl, hLn⟩
      · have hv : v = 0 ∨ v = 1 := ho.1
        refine va_put (D := D) (cl := vwCl) (C := q.1) (T := q.2.1) (N := q.2.2) (v := .int v) (ty := .boolean) hx hb hts (fun w hw => hin w (cw w hw)) ty0 ht0 hnm hown hK hP (hD σ) hS c0 (hq_cellO hlay) hq y w1 (hts _ (hin _ w2)) (fun _ h9 => h9) (w3 rfl) ((hty y 2 hf).2.2 rfl) (by rcases hv with rfl | rfl <;> rfl) (by rcases hv with rfl | rfl <;> rfl) hlen hd (fun H1 locs1 hP1 _ hS1 => ?_)
        rw [hq_ws_set (τ := hq_sI σ c0 y v) (by unfold hq_cell; rw [hlay]; dsimp only; rw [hq_fs_sI hf (Or.inr rfl)]) hq_cell_sI] at hP1
        rw [← hk.1]
        exact kk H1 locs1 ls ⟨hP1, hS1, hl, hLn⟩
    · obtain ⟨q, hq, hN, hty⟩ := hq_lok hlay
      obtain ⟨w1, w2, w3⟩ := hq_fw_ok hq hk.2
      obtain ⟨cw, ty0, ht0, hnm⟩ := hq_cls hq
      have hlen : y < (hq_fs ad σ c0 fs).length := by rw [hq_fs_len, hN]; exact w1
      refine va_put (D := D) (cl := vwCl) (C := q.1) (T := q.2.1) (N := q.2.2) (v := .long v) (ty := .long) hx hb hts (fun w hw => hin w (cw w hw)) ty0 ht0 hnm hown hK hP (hD σ) hS c0 (hq_cellO hlay) hq y w1 (hts _ (hin _ w2)) (fun _ h9 => h9) (w3 rfl) ((hty y 1 hf).2.1 rfl) rfl rfl hlen hd (fun H1 locs1 hP1 _ hS1 => ?_)
      rw [hq_ws_set (τ := hq_sJ σ c0 y v) (by unfold hq_cell; rw [hlay]; dsimp only; rw [hq_fs_sJ hf]) hq_cell_sJ] at hP1
      rw [← hk.1]
      exact kk H1 locs1 ls ⟨hP1, hS1, hl, hLn⟩
  case iaload =>
    have hk : hq_pc T (i + 1) = pc + 1 := of_decide_eq_true hk
    obtain ⟨j, c0, n, rr, rfl, hlay, rfl⟩ := hq_ald_some hs
    refine va_iald hx hb hK hP c0 0 (hq_cellA hlay) rfl ho.1 hd ?_
    rw [← hk]
    exact kk H locs ls ⟨hP, hS, hl, hLn⟩
  case laload =>
    have hk : hq_pc T (i + 1) = pc + 1 := of_decide_eq_true hk
    obtain ⟨j, c0, n, rr, rfl, hlay, rfl⟩ := hq_ald_some hs
    refine va_lald hx hb hK hP c0 1 (hq_cellJ hlay) rfl ho.1 hd ?_
    rw [← hk]
    exact kk H locs ls ⟨hP, hS, hl, hLn⟩
  case baload =>
    have hk : hq_pc T (i + 1) = pc + 1 := of_decide_eq_true hk
    obtain ⟨j, c0, n, rr, rfl, hlay, rfl⟩ := hq_ald_some hs
    refine va_zald hx hb hK hP c0 2 (hq_cellZ hlay) rfl ho.1 hd ?_
    rw [← hk]
    exact kk H locs ls ⟨hP, hS, hl, hLn⟩
  case iastore =>
    have hk : hq_pc T (i + 1) = pc + 1 := of_decide_eq_true hk
    obtain ⟨v, j, c0, n, rr, rfl, hlay, rfl⟩ := hq_ast0_some hs
    refine va_iast hx hb hK hP (hD σ) hS c0 0 (hq_cellA hlay) rfl ho.1 hd (fun H1 locs1 hP1 _ hS1 => ?_)
    rw [hq_ws_set (τ := hq_sI σ c0 j.toNatClampNeg v) (by unfold hq_cell; rw [hlay, hq_sI_at]; rfl) hq_cell_sI] at hP1
    rw [← hk]
    exact kk H1 locs1 ls ⟨hP1, hS1, hl, hLn⟩
  case lastore =>
    have hk : hq_pc T (i + 1) = pc + 1 := of_decide_eq_true hk
    obtain ⟨v, j, c0, n, rr, rfl, hlay, rfl⟩ := hq_ast1_some hs
    refine va_last hx hb hK hP (hD σ) hS c0 1 (hq_cellJ hlay) rfl ho.1 hd (fun H1 locs1 hP1 _ hS1 => ?_)
    rw [hq_ws_set (τ := hq_sJ σ c0 j.toNatClampNeg v) (by unfold hq_cell; rw [hlay, hq_sJ_at]; rfl) hq_cell_sJ] at hP1
    rw [← hk]
    exact kk H1 locs1 ls ⟨hP1, hS1, hl, hLn⟩
  case bastore =>
    have hk : hq_pc T (i + 1) = pc + 1 := of_decide_eq_true hk
    obtain ⟨v, j, c0, n, rr, rfl, hlay, rfl⟩ := hq_ast2_some hs
    refine va_zast hx hb hK hP (hD σ) hS c0 2 (hq_cellZ hlay) rfl ho.1 hd (fun H1 locs1 hP1 _ hS1 => ?_)
    have hv : vp_nar .boolean v = v := by rcases ho.2.1 with rfl | rfl <;> rfl
    rw [hv] at hP1
    rw [hq_ws_set (τ := hq_sI σ c0 j.toNatClampNeg v) (by unfold hq_cell; rw [hlay, hq_sI_at]; rfl) hq_cell_sI] at hP1
    rw [← hk]
    exact kk H1 locs1 ls ⟨hP1, hS1, hl, hLn⟩
  case arraylength =>
    have hk : hq_pc T (i + 1) = pc + 1 := of_decide_eq_true hk
    obtain ⟨c0, k, n, rr, rfl, hlay, rfl⟩ := hq_alen_some hs
    match k, hlay with
    | 0, hlay =>
      refine va_alen (v := Int32.ofNat n) hx hb hK hP c0 0 (hq_cellA hlay) rfl rfl hd ?_
      rw [← hk]
      exact kk H locs ls ⟨hP, hS, hl, hLn⟩
    | 1, hlay =>
      refine va_alen (v := Int32.ofNat n) hx hb hK hP c0 1 (hq_cellJ hlay) rfl rfl hd ?_
      rw [← hk]
      exact kk H locs ls ⟨hP, hS, hl, hLn⟩
    | k + 2, hlay =>
      have hc : (hq_ws cy ad σ)[c0]? = some (ad c0, .inl (cy.2.2, n, .inl (σ.1 c0))) := by rw [hq_ws_get (hq_lay_lt hlay)]; unfold hq_cell; rw [hlay]; rfl
      refine va_alen (v := Int32.ofNat n) hx hb hK hP c0 2 hc rfl rfl hd ?_
      rw [← hk]
      exact kk H locs ls ⟨hP, hS, hl, hLn⟩
  case invokestatic k =>
    have hk : hq_pc T (i + 1) = pc + 3 ∧ hq_w ts = some (Cond.methodLink own k (pj x)) := by
      rw [Bool.and_eq_true, decide_eq_true_eq, decide_eq_true_eq] at hk; exact hk
    have hw := hts _ (hin _ (hq_w_in hk.2 rfl))
    have hml9 : c.maxLocals = ls.size := by rw [hml]; exact hl.1.symm
    have e9 : ∀ rr : List Value, ((rr.map (hq_vm ad)).map fun v => v.category) = rr.map fun v => v.category := fun rr => by
      rw [List.map_map]
      exact List.map_congr_left (fun v _ => hq_vm_cat ad v)
    rcases hq_mc_some hs with ⟨a, b, rr, rfl, hc, ⟨rfl, rfl⟩ | ⟨rfl, rfl⟩⟩ | ⟨a, b, rr, rfl, hc, ⟨rfl, rfl⟩ | ⟨rfl, rfl⟩⟩
    · rw [hpm.1] at hw
      refine va_mmax (rest := rr.map (hq_vm ad)) hx hb hml9 hown hw (hts _ (hin _ hq_mw1.1)) (hts _ (hin _ hq_mw0)) (hts _ (hin _ hq_mw1.2)) hR.1 (by rw [e9]; omega) hR.2.2.1 hR.2.2.2 hd ?_
      rw [← hk.1]
      exact kk H locs ls ⟨hP, hS, hl, hLn⟩
    · rw [hpm.2.1] at hw
      refine va_mmin (rest := rr.map (hq_vm ad)) hx hb hml9 hown hw (hts _ (hin _ hq_mw2.1)) (hts _ (hin _ hq_mw0)) (hts _ (hin _ hq_mw2.2)) hR.1 (by rw [e9]; omega) hR.2.2.1 hR.2.2.2 hd ?_
      rw [← hk.1]
      exact kk H locs ls ⟨hP, hS, hl, hLn⟩
    · rw [hpm.2.2.1] at hw
      refine va_mmax_long (rest := rr.map (hq_vm ad)) hx hb hml9 hown hw (hts _ (hin _ hq_mw3.1)) (hts _ (hin _ hq_mw0)) (hts _ (hin _ hq_mw3.2)) hR.1 (by rw [e9]; omega) hR.2.2.1 hR.2.2.2 hd ?_
      rw [← hk.1]
      exact kk H locs ls ⟨hP, hS, hl, hLn⟩
    · rw [hpm.2.2.2] at hw
      refine va_mmin_long (rest := rr.map (hq_vm ad)) hx hb hml9 hown hw (hts _ (hin _ hq_mw4.1)) (hts _ (hin _ hq_mw0)) (hts _ (hin _ hq_mw4.2)) hR.1 (by rw [e9]; omega) hR.2.2.1 hR.2.2.2 hd ?_
      rw [← hk.1]
      exact kk H locs ls ⟨hP, hS, hl, hLn⟩
  case ldc k =>
    have hk : hq_pc T (i + 1) = pc + 2 ∧ (if y = 0 then decide (hq_w ts = some (Cond.constant own k (Int32.ofNat x))) else decide (sr x = (own, k, (sr x).2.2)) && decide (1000 ≤ x ∧ x < 1017)) = true := by
      rw [Bool.and_eq_true, decide_eq_true_eq] at hk; exact hk
    dsimp only [hq_ins] at hs
    obtain ⟨hk, hw⟩ := hk
    split at hs
    · rename_i hy
      rw [if_pos hy, decide_eq_true_eq] at hw
      cases hs
      refine lv_ldc hx hb hown (hts _ (hin _ (hq_w_in hw rfl))) hd ?_
      rw [← hk]
      exact kk H locs ls ⟨hP, hS, hl, hLn⟩
    · rename_i hy
      rw [if_neg hy, Bool.and_eq_true, decide_eq_true_eq, decide_eq_true_eq] at hw
      cases hs
      have hz := hstr x hw.2.1 hw.2.2
      rw [hw.1] at hz
      refine va_ldcS hx hb hown hz hd ?_
      rw [← hk]
      exact kk H locs ls ⟨hP, hS, hl, hLn⟩
  case ldc_w k =>
    have hk : hq_pc T (i + 1) = pc + 3 ∧ (if y = 0 then decide (hq_w ts = some (Cond.constant own k (Int32.ofNat x))) else decide (sr x = (own, k, (sr x).2.2)) && decide (1000 ≤ x ∧ x < 1017)) = true := by
      rw [Bool.and_eq_true, decide_eq_true_eq] at hk; exact hk
    dsimp only [hq_ins] at hs
    obtain ⟨hk, hw⟩ := hk
    split at hs
    · rename_i hy
      rw [if_pos hy, decide_eq_true_eq] at hw
      cases hs
      refine lv_ldcw hx hb hown (hts _ (hin _ (hq_w_in hw rfl))) hd ?_
      rw [← hk]
      exact kk H locs ls ⟨hP, hS, hl, hLn⟩
    · rename_i hy
      rw [if_neg hy, Bool.and_eq_true, decide_eq_true_eq, decide_eq_true_eq] at hw
      cases hs
      have hz := hstr x hw.2.1 hw.2.2
      rw [hw.1] at hz
      refine hq_ldcwS hx hb hown hz hd ?_
      rw [← hk]
      exact kk H locs ls ⟨hP, hS, hl, hLn⟩
  case ldc2_w k =>
    have hk : hq_pc T (i + 1) = pc + 3 ∧ hq_w ts = some (Cond.constantLong own k (Int64.ofNat x)) := by
      rw [Bool.and_eq_true, decide_eq_true_eq, decide_eq_true_eq] at hk; exact hk
    cases hs
    refine lv_ldc2 hx hb hown (hts _ (hin _ (hq_w_in hk.2 rfl))) hd ?_
    rw [← hk.1]
    exact kk H locs ls ⟨hP, hS, hl, hLn⟩
  all_goals (cases hs)
end HQ1
