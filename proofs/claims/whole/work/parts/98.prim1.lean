/-! The primitive Rule.adopt -/
section SP
variable {p : Program} {l : Launch} {e : Env} {R : Room} {s : State} {m : MethodId} {args : Array Value} {below : List Frame} {meth : Method} {c : Code} {locs : List Loc} {cells slots : Nat} {Q : State → Prop} {D : va_G} {cy : hq_C3} {A : Nat → Prop} {ad : Nat → Nat} {Ts : List Cond} {pj : Nat → MethodName} {T : List hq_E} {cc : ByteArray} {own : String} {nL : Nat}
/-- a straight stretch on the machine -/
theorem hq_stp (C : hq_ctx p s m args c D cy A ad Ts pj hq_sr T cc own) (hpm : hq_pm pj) (hml : c.maxLocals = nL) (hR : 1 ≤ R.frames ∧ 64 ≤ R.locals ∧ cells ≤ R.cells ∧ slots ≤ R.slots) : ∀ (k : Nat) {i : Nat} {L : hq_L} {st : List Value} {σ : hq_St} {ps : List Prop} {r : hq_R} {H : Heap} {locs : List Loc} {ls : Array Slot}, hq_steps T k i L st σ ps = some r → hq_all r.2.2.2.2 → hq_now D cy ad A s.heap H locs ls nL L σ → (∀ (H' : Heap) (locs' : List Loc) (ls' : Array Slot), hq_now D cy ad A s.heap H' locs' ls' nL r.2.1 r.2.2.2.1 → W p l e R s m args below meth c H' locs' cells slots Q (F0 m (hq_pc T r.1) ls' (r.2.2.1.map (hq_vm ad)))) → W p l e R s m args below meth c H locs cells slots Q (F0 m (hq_pc T i) ls (st.map (hq_vm ad))) ∧ hq_all ps
  | 0, i, L, st, σ, ps, r, H, locs, ls, h1, h2, hI, kk => by
    cases h1
    exact ⟨kk H locs ls hI, h2⟩
  | k + 1, i, L, st, σ, ps, r, H, locs, ls, h1, h2, hI, kk => by
    unfold hq_steps at h1
    split at h1
    · rename_i q hq
      have hall : hq_all (q.2.2.2.2 ++ ps) := by
        have : ∀ (k : Nat) {i : Nat} {L : hq_L} {st : List Value} {σ : hq_St} {ps : List Prop} {r : hq_R}, hq_steps T k i L st σ ps = some r → hq_all r.2.2.2.2 → hq_all ps := by
          intro k
          induction k with
          | zero => intro i L st σ ps r a b; cases a; exact b
          | succ k ih =>
            intro i L st σ ps r a b
            unfold hq_steps at a
            split at a
            · exact (hq_all_app.mp (ih a b)).2
            · cases a
        exact this k h1 h2
      exact ⟨hq_follow C hpm hml hR hI hq (hq_all_app.mp hall).1 (fun H' locs' ls' hI' => (hq_stp C hpm hml hR k h1 h2 hI' kk).1), (hq_all_app.mp hall).2⟩
    · cases h1
end SP
def pjA (x : Nat) : MethodName := if x = 920 then arraycopyName else hq_pjL x
def tbA : List hq_E := [(0, .aload_n 0, 0, 0, []), (1, .aload_n 0, 0, 0, []), (2, .getfield 21, 5, 4, [1, 222]), (5, .putfield 38, 5, 3, [1, 221]), (8, .aload_n 0, 0, 0, []), (9, .getfield 15, 5, 1, [1, 219]), (12, .iconst 0, 0, 0, []), (13, .aload_n 0, 0, 0, []), (14, .getfield 9, 5, 0, [1, 218]), (17, .iconst 0, 0, 0, []), (18, .aload_n 0, 0, 0, []), (19, .getfield 38, 5, 3, [1, 221]), (22, .invokestatic 41, 920, 0, [3, 34]), (25, .return_, 0, 0, [])]
theorem tbA_ok : tbA.zipIdx.all (fun z => hq_eokb pjA hq_sr tbA prog_7_method_3_code "HingesOnHire$Rule" z.2 z.1) = true := by decide +kernel
theorem pr_adopt (l : Launch) {σ τ : hq_St} {n : Nat} (hn : n ≤ 40) (hσ : σ.1 24 4 = nI n) (hτ : τ = (fun a => if a = 25 then va_cpy (σ.1 26) (σ.1 25) 0 0 n else if a = 24 then upd (σ.1 24) 3 (nI n) else σ.1 a, σ.2)) (D : va_G) (cy : hq_C3) (ad av : Nat → Nat) (d : Nat) (hinj : ∀ i j, i < hq_n → j < hq_n → ad i = ad j → i = j) (hd : 8 ≤ d) : hq_MetX l hq_pg hq_pjL hq_pb hq_pt D cy ad av d 49 [.ref 24] σ none τ := by
  obtain ⟨m1, m2, m3, m4, m5, m6, m7, r0, r1, r2, r3⟩ := hq_hML 49 (by decide)
  refine Met.ofW (cc := hq_pb 49) (maxL := (hq_pg 49).2.1) (ret := hq_pt 49) m3 rfl ?_
  intro p e s m args below meth c s₁ B hml hv
  obtain ⟨rfl, hP, hK, hstr⟩ := hv
  have hx := B.exec
  have hb := B.bytes
  have hr := B.returns
  have hts := atoms_spec (ws := Cond.code (hq_pjL 49) (hq_pb 49) (hq_pg 49).2.1 (hq_pt 49) :: hq_tbl) B.pre
  have hown : s.vm.findClass "HingesOnHire$Rule" = some m.cls := findClass_of_methodNamed B.named
  have hlocks := B.notSynchronized
  have hin : ∀ w ∈ hq_tbl, w ∈ (Cond.code (hq_pjL 49) (hq_pb 49) (hq_pg 49).2.1 (hq_pt 49) :: hq_tbl) := fun w hw => List.mem_cons_of_mem _ hw
  rw [lg_entry_eq]
  have hl := lv_entry ([.ref 24].map (hq_vm ad)) (n := 1) (Nat.le_of_ble_eq_true rfl)
  change W _ _ _ _ _ _ _ _ _ _ _ _ _ _ _ (F0 m 0 (lg_sl ([.ref 24].map (hq_vm ad)) ++ List.replicate (1 - (lg_sl ([.ref 24].map (hq_vm ad))).length) Slot.unset).toArray [])
  generalize (lg_sl ([.ref 24].map (hq_vm ad)) ++ List.replicate (1 - (lg_sl ([.ref 24].map (hq_vm ad))).length) Slot.unset).toArray = ls at hl ⊢
  have C : hq_ctx p s m ([.ref 24].map (hq_vm ad)).toArray c D cy (hq_A ad) ad _ pjA hq_sr tbA prog_7_method_3_code "HingesOnHire$Rule" := ⟨hx, hb, hown, hts, hin, hK, hinj, fun i hi => ⟨i, hi, rfl⟩, fun i e he => List.all_eq_true.mp tbA_ok (e, i) (List.mem_zipIdx_iff_getElem?.mpr he), hstr.1⟩
  have hI : hq_now D cy ad (hq_A ad) s.heap s.heap [] ls 1 [some (.ref 24)] σ := ⟨hP, va_S.rf, hq_has_mono hl (fun q hq => hq), rfl⟩
  have hRf : d ≤ (headSpec (Cond.code (hq_pjL 49) (hq_pb 49) (hq_pg 49).2.1 (hq_pt 49) :: hq_tbl) (hq_rm d)).room.frames := Nat.le_refl d
  have hRl : 64 * d ≤ (headSpec (Cond.code (hq_pjL 49) (hq_pb 49) (hq_pg 49).2.1 (hq_pt 49) :: hq_tbl) (hq_rm d)).room.locals := Nat.le_refl (64 * d)
  refine (hq_stp C ⟨rfl, rfl, rfl, rfl⟩ hml ⟨by omega, by omega, Nat.le_refl 0, Nat.le_refl 0⟩ 12 (i := 0) (L := [some (.ref 24)]) (st := []) (ps := []) (r := (12, [some (.ref 24)], [.int (σ.1 24 4), .int 0, .ref 25, .int 0, .ref 26], hq_sI σ 24 3 (σ.1 24 4), [])) rfl trivial hI (fun H locs ls hI => ?_)).1
  obtain ⟨hP, hS, hl, hL⟩ := hI
  have hD : va_D (hq_A ad) (hq_ws cy ad (hq_sI σ 24 3 (σ.1 24 4))) := hq_ap hinj (fun i hi => ⟨i, hi, rfl⟩)
  have a0 := hq_cellA (cy := cy) (ad := ad) (σ := hq_sI σ 24 3 (σ.1 24 4)) (c0 := 26) (n := 40) rfl
  have a1 := hq_cellA (cy := cy) (ad := ad) (σ := hq_sI σ 24 3 (σ.1 24 4)) (c0 := 25) (n := 40) rfl
  rw [hσ] at hP hD a0 a1 ⊢
  have cn : (nI n).toNatClampNeg = n := clamp (by omega)
  have z0 : (0 : Int32).toNatClampNeg = 0 := by decide
  refine va_copyi (p := p) (cc := prog_7_method_3_code) hx hb (hml.trans hl.1.symm) hown (hts _ (hin _ (hq_w_in (ts := [3, 34]) (w := .methodLink "HingesOnHire$Rule" 41 arraycopyName) (by decide +kernel) rfl))) (hts _ (hin _ (hq_w_in (ts := [3, 36]) (w := .native arraycopyName) (by decide +kernel) rfl))) (hts _ (hin _ (hq_w_in (ts := [3, 35]) (w := .static arraycopyName) (by decide +kernel) rfl))) (hts _ (hin _ (hq_w_in (ts := [1, 17]) (w := .initialized "java/lang/System") (by decide +kernel) rfl))) hK hP hD hS 26 25 0 0 a0 a1 rfl rfl rfl (sp := 0) (dp := 0) (n := nI n) (rest := []) (by decide) (by decide) (by rw [ltz, nI_toInt (by omega)]; omega) (by rw [cn, z0]; omega) (by rw [cn, z0]; omega) (fun i hi => rfl) (by omega) (Nat.le_trans (by decide : _ ≤ 512) (by omega)) (by decide +kernel : decode prog_7_method_3_code 22 = .ok (.invokestatic 41, 3)) (fun H1 locs1 hP1 hD1 hS1 => ?_)
  have ew : (hq_ws cy ad (hq_sI σ 24 3 (nI n))).set 25 (ad 25, .inl (cy.1, 40, .inl (va_cpy ((hq_sI σ 24 3 (nI n)).1 26) ((hq_sI σ 24 3 (nI n)).1 25) (0 : Int32).toNatClampNeg (0 : Int32).toNatClampNeg (nI n).toNatClampNeg))) = hq_ws cy ad τ := by
    refine hq_ws_set ?_ (fun a ha => ?_)
    · rw [hτ, cn, z0]
      rfl
    · refine hq_cell_congr ?_ ?_
      · rw [hτ]
        show (if a = 25 then _ else if a = 24 then upd (σ.1 24) 3 (nI n) else σ.1 a) = if a = 24 then upd (σ.1 24) 3 (nI n) else σ.1 a
        rw [if_neg ha]
      · rw [hτ]; rfl
  rw [ew] at hP1
  exact W.vret hx hb hr (fun t ht hW => ⟨rfl, by rw [ht]; exact hP1, hS1.F ht⟩) hS1.2.2 (by decide +kernel : decode prog_7_method_3_code 25 = .ok (.return_, 1))
