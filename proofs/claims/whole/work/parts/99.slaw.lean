/-! The law's door, hinge and row: static methods that catch -/
section SM
variable {p : Program} {l : Launch} {e : Env} {R : Room} {s : State} {m : MethodId} {args : Array Value} {below : List Frame} {meth : Method} {c : Code} {H : Heap} {locs : List Loc} {cells slots mc ms : Nat} {Q : State → Prop}
variable {pc : Nat} {ls : Array Slot} {rest st0 : List Value} {a : Array Value} {A0 : Nat → Prop} {H0 : Heap} {D : va_G} {cy : hq_C3} {ad : Nat → Nat} {v : Option Value} {τ : hq_St}
theorem hq_callkm (hr : va_Run p l e R s m args below meth c H locs cells slots mc ms (F0 m pc ls st0) rest (hq_post D cy ad v τ a) (hq_A ad)) (hS : va_S A0 H0 H locs) (hA : ∀ i, i < hq_n → A0 (ad i))
    (kk : ∀ (H1 : Heap) (locs1 : List Loc), va_P D vwCl (hq_ws cy ad τ) H1 → va_S A0 H0 H1 locs1 → W p l e R s m args below meth c H1 locs1 (cells + mc) (slots + ms) Q (F0 m (pc + 3) ls ((v.map (hq_vm ad)).toList ++ rest))) : W p l e R s m args below meth c H locs cells slots Q (F0 m pc ls st0) := by
  intro T hT X
  obtain ⟨w, st₀, t, T', L, h0, X', hL, e1, e2, ⟨hv, hp, hz, hk⟩, st⟩ := hr T hT X
  cases hv
  rw [h0] at hz hk
  have hsub : ∀ q, hq_A ad q → A0 q := fun q ⟨i, h1, h2⟩ => by rw [h2]; exact hA i h1
  obtain ⟨t2, a1, b1⟩ := kk T'.heap (locs ++ L) (by rw [e1]; exact hp)
    ⟨Nat.le_trans hS.1 (by rw [e1]; exact hz), fun q h1 h2 => by rw [e1, hk q (Nat.lt_of_lt_of_le h1 hS.1) (fun z => h2 (hsub q z))]; exact hS.2.1 q h1 h2, fun q hq => by
      rcases List.mem_append.mp hq with h | h
      · exact hS.2.2 q h
      · exact hsub _ (hL q h)⟩ T' rfl X'
  exact ⟨t2, st t2 a1, b1⟩
end SM
theorem sl_lay0 : ∃ fs, hq_lay[0]? = some (.inr (9, fs)) := ⟨_, rfl⟩
def tbS_door : List hq_E := [(0, .aload_n 3, 0, 0, []), (1, .iconst 0, 0, 0, []), (2, .aload_n 0, 0, 0, []), (3, .iload_n 1, 0, 0, []), (4, .iload_n 2, 0, 0, []), (5, .invokevirtual 7, 114, 0, [5, 146]), (8, .i2l, 0, 0, []), (9, .lastore, 0, 0, []), (10, .goto 7, 12, 0, []), (13, .astore 4, 0, 0, []), (15, .iconst 1, 0, 0, []), (16, .ireturn, 0, 0, []), (17, .iconst 0, 0, 0, []), (18, .ireturn, 0, 0, [])]
theorem tbS_door_ok : tbS_door.zipIdx.all (fun z => hq_eokb hq_pjL hq_sr tbS_door method_3_code "HingesOnHireLaw" z.2 z.1) = true := by decide +kernel
abbrev slW_door : Cond := Cond.codeWith (hq_pjL 910) method_3_code 5 (some .int) [(0, 10, 13, 13)]
theorem slW_door_in : slW_door ∈ hq_tbl := hq_w_in (ts := [5, 144]) (by decide +kernel) rfl
/-- it returns 0 and has stored the answer -/
theorem sr_door {l : Launch} (hp : lwPr l) {p q : Int32} {v : Int32} {σ τ : hq_St} (h : hq_c 114 990 [.ref 0, .int p, .int q] σ (some (.int v)) τ) (D : va_G) (cy : hq_C3) (ad av : Nat → Nat) (hinj : ∀ i j, i < hq_n → j < hq_n → ad i = ad j → i = j) :
    Met l (hq_pjL 910) (slW_door :: hq_tbl) (hq_rm 991) (hq_pre D cy ad av [.ref 0, .int p, .int q, .ref 85] σ) (hq_post D cy ad (some (.int 0)) (hq_sJ τ 85 0 v.toInt64)) 0 0 (hq_A ad) := by
  refine va_MetW (cc := method_3_code) (maxL := 5) (ret := some .int) (hh := [(0, 10, 13, 13)]) (by decide +kernel) rfl ?_
  intro p9 e s m args below meth c s₁ B hml hv
  obtain ⟨rfl, hP, hK, hstr⟩ := hv
  have hx := B.exec
  have hb := B.bytes
  have hr := B.returns
  have hts := atoms_spec (ws := slW_door :: hq_tbl) B.pre
  have hown : s.vm.findClass "HingesOnHireLaw" = some m.cls := findClass_of_methodNamed B.named
  have hlocks := B.notSynchronized
  have hin : ∀ w ∈ hq_tbl, w ∈ (slW_door :: hq_tbl) := fun w hw => List.mem_cons_of_mem _ hw
  rw [lg_entry_eq]
  have hl := lv_entry ([.ref 0, .int p, .int q, .ref 85].map (hq_vm ad)) (n := 5) (Nat.le_of_ble_eq_true rfl)
  generalize (lg_sl ([.ref 0, .int p, .int q, .ref 85].map (hq_vm ad)) ++ List.replicate (5 - (lg_sl ([.ref 0, .int p, .int q, .ref 85].map (hq_vm ad))).length) Slot.unset).toArray = ls at hl ⊢
  have C : hq_ctx p9 s m ([.ref 0, .int p, .int q, .ref 85].map (hq_vm ad)).toArray c D cy (hq_A ad) ad (slW_door :: hq_tbl) hq_pjL hq_sr tbS_door method_3_code "HingesOnHireLaw" := ⟨hx, hb, hown, hts, hin, hK, hinj, fun i hi => ⟨i, hi, rfl⟩, fun i e he => List.all_eq_true.mp tbS_door_ok (e, i) (List.mem_zipIdx_iff_getElem?.mpr he), hstr.1⟩
  have hI : hq_now D cy ad (hq_A ad) s.heap s.heap [] ls 5 [some (.ref 0), some (.int p), some (.int q), some (.ref 85), none] σ := ⟨hP, va_S.rf, hq_has_mono hl (fun q hq => hq), rfl⟩
  have go : hq_go hq_pg hq_prim 991 tbS_door (fun i _ st σ' => i = 13 ∧ st = [.int 0] ∧ σ' = hq_sJ τ 85 0 v.toInt64) 0 [some (.ref 0), some (.int p), some (.int q), some (.ref 85), none] [] σ := by
    refine hq_go.run (by decide) 5 (i' := 5) (L' := [some (.ref 0), some (.int p), some (.int q), some (.ref 85), none]) (st' := [.int q, .int p, .ref 0, .int 0, .ref 85]) (σ' := σ) (ps := []) rfl trivial ?_
    refine hq_go.call (d := 990) (e := (5, .invokevirtual 7, 114, 0, [5, 146])) (as := [.ref 0, .int p, .int q]) (rest := [.int 0, .ref 85]) (v := some (.int v)) (τ := τ) rfl rfl h ?_
    refine hq_go.run (by decide) 4 (i' := 13) (L' := [some (.ref 0), some (.int p), some (.int q), some (.ref 85), none]) (st' := [.int 0]) (σ' := hq_sJ τ 85 0 v.toInt64) (ps := [vp_in 0 1]) rfl ⟨(show ¬ ((0 : Int32) < 0 ∨ 1 ≤ (0 : Int32).toNatClampNeg) by decide), trivial⟩ (hq_go.done ⟨rfl, rfl, rfl⟩)
  obtain ⟨n, hev⟩ := go
  refine hq_snd hq_hML hq_hTL hq_hpmL hp n hev (L := [some (.ref 0), some (.int p), some (.int q), some (.ref 85), none]) (st := []) C hml ⟨Nat.le_refl 991, Nat.le_refl (64 * 991), Nat.zero_le _, Nat.zero_le _⟩ hstr hI ?_
  intro i' L' st' σ' H' locs' ls' hF hI
  obtain ⟨rfl, rfl, rfl⟩ := hF
  obtain ⟨hP', hS', hl', -⟩ := hI
  exact W.iret hx hb hr (fun t ht hW => ⟨rfl, by rw [ht]; exact hP', hS'.F ht⟩) hS'.2.2 (by decide +kernel : decode method_3_code 18 = .ok (.ireturn, 1))
/-- it returns 1: the class has thrown -/
theorem st_door {l : Launch} (hp : lwPr l) (hl0 : l.stackTraces = false) {p q : Int32} {σ : hq_St} (h : lwTh 114 [.ref 0, .int p, .int q] σ) (D : va_G) (cy : hq_C3) (ad av : Nat → Nat) (hinj : ∀ i j, i < hq_n → j < hq_n → ad i = ad j → i = j) :
    Met l (hq_pjL 910) (slW_door :: hq_tbl) (nx_rm 991) (nx_pre D cy ad av [.ref 0, .int p, .int q, .ref 85] σ) (hq_post D cy ad (some (.int 1)) σ) 1 6 (hq_A ad) := by
  refine va_MetW (cc := method_3_code) (maxL := 5) (ret := some .int) (hh := [(0, 10, 13, 13)]) (by decide +kernel) rfl ?_
  intro p9 e s m args below meth c s₁ B hml hv
  obtain ⟨⟨rfl, hP, hK, hstr⟩, hxx⟩ := hv
  have hx := B.exec
  have hb := B.bytes
  have hr := B.returns
  have hts := atoms_spec (ws := slW_door :: hq_tbl) B.pre
  have hown : s.vm.findClass "HingesOnHireLaw" = some m.cls := findClass_of_methodNamed B.named
  have hlocks := B.notSynchronized
  have htab := vx_table (x := hq_pjL 910) B (hts _ List.mem_cons_self)
  have hin : ∀ w ∈ hq_tbl, w ∈ (slW_door :: hq_tbl) := fun w hw => List.mem_cons_of_mem _ hw
  rw [lg_entry_eq]
  have hl := lv_entry ([.ref 0, .int p, .int q, .ref 85].map (hq_vm ad)) (n := 5) (Nat.le_of_ble_eq_true rfl)
  generalize (lg_sl ([.ref 0, .int p, .int q, .ref 85].map (hq_vm ad)) ++ List.replicate (5 - (lg_sl ([.ref 0, .int p, .int q, .ref 85].map (hq_vm ad))).length) Slot.unset).toArray = ls at hl ⊢
  have C : hq_ctx p9 s m ([.ref 0, .int p, .int q, .ref 85].map (hq_vm ad)).toArray c D cy (hq_A ad) ad (slW_door :: hq_tbl) hq_pjL hq_sr tbS_door method_3_code "HingesOnHireLaw" := ⟨hx, hb, hown, hts, hin, hK, hinj, fun i hi => ⟨i, hi, rfl⟩, fun i e he => List.all_eq_true.mp tbS_door_ok (e, i) (List.mem_zipIdx_iff_getElem?.mpr he), hstr.1⟩
  have hI : hq_now D cy ad (hq_A ad) s.heap s.heap [] ls 5 [some (.ref 0), some (.int p), some (.int q), some (.ref 85), none] σ := ⟨hP, va_S.rf, hq_has_mono hl (fun q hq => hq), rfl⟩
  obtain ⟨m1, m2, m3, m4, m5, m6, m7, -⟩ := hq_hML 114 (by decide)
  obtain ⟨z1, z2, ⟨q9, hq9, hq1⟩, z3⟩ := m7 9 rfl
  have hRf : (headSpec (slW_door :: hq_tbl) (nx_rm 991)).room = nx_rm 991 := rfl
  refine (hq_stp C hq_hpmL hml (by rw [hRf]; exact ⟨by decide, by decide, Nat.zero_le _, Nat.zero_le _⟩) 5 (i := 0) (L := [some (.ref 0), some (.int p), some (.int q), some (.ref 85), none]) (st := []) (ps := []) (r := (5, [some (.ref 0), some (.int p), some (.int q), some (.ref 85), none], [.int q, .int p, .ref 0, .int 0, .ref 85], σ, [])) rfl trivial hI (fun H locs ls hI => ?_)).1
  obtain ⟨hP', hS', hl', -⟩ := hI
  obtain ⟨fs, hlay⟩ := sl_lay0
  have hrec := va_recv hK hP' hq9 (hq_cellO hlay)
  rw [hq1] at hrec
  have hM := nx_cls (Qc := va_Qi (fun (_ : Int32) (_ : Unit) => False) (fun _ _ => True) (hq_A ad)) hp hl0 (x := 114) (by decide) rfl nx_ok_door (Nat.le_of_ble_eq_true rfl) h D cy ad av hinj
  have hroom : (nx_rm 990).frames + 1 ≤ (nx_rm 991).frames ∧ 8 + ((hq_pg 114).2.1 + 11) + (nx_rm 990).locals ≤ (nx_rm 991).locals := by decide +kernel
  have z4 : (parseMethodDescriptor (hq_pjL 114).desc).map (fun d => d.parameters.length) = some 2 := by decide +kernel
  have hpre : ∀ U : State, U.heap = H → s.WarmedH U.vm → nx_pre D cy ad av [.ref 0, .int p, .int q] σ ([.ref 0, .int p, .int q].map (hq_vm ad)).toArray U := fun U hU hW => ⟨⟨rfl, by rw [hU]; exact hP', va_K.moved hW.alike hK, fun j a1 a2 => vk_R.warm hW (hstr.1 j a1 a2), by rw [hU]; exact ⟨vk_S.moved hW.alike (hstr.2.1.kept hS'.2.1), hq_sx.moved hW.alike (hstr.2.2.kept hS'.2.1)⟩⟩, by rw [hU]; exact (hxx.kept hS'.2.1).warm hW⟩
  refine vx_calli (vx_runV (b := ad 0) (As := [.int p, .int q]) (rest := [.int 0, .ref (ad 85)]) (g := F0 m 5 ls ([.int q, .int p, .ref 0, .int 0, .ref 85].map (hq_vm ad))) (C := (hq_pjL 114).cls) (n := 2) ⟨hx, hb, hml, hown, hts⟩ hM ⟨callB_of 2 hts (hq_goodx (hq_hML 114 (by decide)) hin) rfl rfl rfl (hts _ (hin _ m2)) (hts _ (hin _ (hq_w_in (ts := [5, 146]) (by decide +kernel) rfl))) ⟨m4.1, m4.2, z4⟩ hroom, hts _ (hin _ z1), hts _ (hin _ z2)⟩ ⟨nx_pre_blind, hrec, hpre⟩ rfl rfl hl'.1 rfl (by decide : 2 * 0 + 2 ≤ 8) (by decide +kernel : decode method_3_code 5 = .ok (.invokevirtual 7, 3)) ⟨Nat.le_refl 1, Nat.le_refl 6⟩) hS' (fun q _ hq => hq) (fun q hq => hq) (fun q _ hq => hq) ?_ ?_
  · intro E ce q8 u t H1 locs1 ht hA hpx hBX hsz hkeep hS1 hce hcv hcl
    obtain ⟨rfl, hPt⟩ := hBX
    rw [ht] at hPt
    refine vx_catch (name := nxN) hown [] ⟨0, 10, 13, 13⟩ [] htab (fun z hz => nomatch hz) rfl (by decide) (hts _ (hin _ (hq_w_in (ts := [5, 145]) (w := Cond.classLink "HingesOnHireLaw" 13 nxN) (by decide +kernel) rfl))) (va_Nw.use rfl (hxx.2.2 (Cond.castable nxN nxN) (by simp [nxD]))) hce hcv hcl ?_
    refine lv_astore hx hb (by decide +kernel : decode method_3_code 13 = .ok (.astore 4, 2)) hl' (by decide) rfl (fun ls' hl9 => ?_)
    refine lv_iconst hx hb (by decide +kernel : decode method_3_code 15 = .ok (.iconst 1, 1)) rfl ?_
    exact W.iret hx hb hr (fun t ht hW => ⟨rfl, by rw [ht]; exact hPt, hS1.F ht⟩) hS1.2.2 (by decide +kernel : decode method_3_code 16 = .ok (.ireturn, 1))
  · intro r u t H1 locs1 ht hA hpost
    exact hpost.elim
def tbS_hinge : List hq_E := [(0, .aload_n 3, 0, 0, []), (1, .iconst 0, 0, 0, []), (2, .aload_n 0, 0, 0, []), (3, .iload_n 1, 0, 0, []), (4, .iload_n 2, 0, 0, []), (5, .invokevirtual 15, 115, 0, [5, 220]), (8, .i2l, 0, 0, []), (9, .lastore, 0, 0, []), (10, .goto 7, 12, 0, []), (13, .astore 4, 0, 0, []), (15, .iconst 1, 0, 0, []), (16, .ireturn, 0, 0, []), (17, .iconst 0, 0, 0, []), (18, .ireturn, 0, 0, [])]
theorem tbS_hinge_ok : tbS_hinge.zipIdx.all (fun z => hq_eokb hq_pjL hq_sr tbS_hinge method_4_code "HingesOnHireLaw" z.2 z.1) = true := by decide +kernel
abbrev slW_hinge : Cond := Cond.codeWith (hq_pjL 911) method_4_code 5 (some .int) [(0, 10, 13, 13)]
theorem slW_hinge_in : slW_hinge ∈ hq_tbl := hq_w_in (ts := [5, 219]) (by decide +kernel) rfl
/-- it returns 0 and has stored the answer -/
theorem sr_hinge {l : Launch} (hp : lwPr l) {p q : Int32} {v : Int32} {σ τ : hq_St} (h : hq_c 115 990 [.ref 0, .int p, .int q] σ (some (.int v)) τ) (D : va_G) (cy : hq_C3) (ad av : Nat → Nat) (hinj : ∀ i j, i < hq_n → j < hq_n → ad i = ad j → i = j) :
    Met l (hq_pjL 911) (slW_hinge :: hq_tbl) (hq_rm 991) (hq_pre D cy ad av [.ref 0, .int p, .int q, .ref 85] σ) (hq_post D cy ad (some (.int 0)) (hq_sJ τ 85 0 v.toInt64)) 0 0 (hq_A ad) := by
  refine va_MetW (cc := method_4_code) (maxL := 5) (ret := some .int) (hh := [(0, 10, 13, 13)]) (by decide +kernel) rfl ?_
  intro p9 e s m args below meth c s₁ B hml hv
  obtain ⟨rfl, hP, hK, hstr⟩ := hv
  have hx := B.exec
  have hb := B.bytes
  have hr := B.returns
  have hts := atoms_spec (ws := slW_hinge :: hq_tbl) B.pre
  have hown : s.vm.findClass "HingesOnHireLaw" = some m.cls := findClass_of_methodNamed B.named
  have hlocks := B.notSynchronized
  have hin : ∀ w ∈ hq_tbl, w ∈ (slW_hinge :: hq_tbl) := fun w hw => List.mem_cons_of_mem _ hw
  rw [lg_entry_eq]
  have hl := lv_entry ([.ref 0, .int p, .int q, .ref 85].map (hq_vm ad)) (n := 5) (Nat.le_of_ble_eq_true rfl)
  generalize (lg_sl ([.ref 0, .int p, .int q, .ref 85].map (hq_vm ad)) ++ List.replicate (5 - (lg_sl ([.ref 0, .int p, .int q, .ref 85].map (hq_vm ad))).length) Slot.unset).toArray = ls at hl ⊢
  have C : hq_ctx p9 s m ([.ref 0, .int p, .int q, .ref 85].map (hq_vm ad)).toArray c D cy (hq_A ad) ad (slW_hinge :: hq_tbl) hq_pjL hq_sr tbS_hinge method_4_code "HingesOnHireLaw" := ⟨hx, hb, hown, hts, hin, hK, hinj, fun i hi => ⟨i, hi, rfl⟩, fun i e he => List.all_eq_true.mp tbS_hinge_ok (e, i) (List.mem_zipIdx_iff_getElem?.mpr he), hstr.1⟩
  have hI : hq_now D cy ad (hq_A ad) s.heap s.heap [] ls 5 [some (.ref 0), some (.int p), some (.int q), some (.ref 85), none] σ := ⟨hP, va_S.rf, hq_has_mono hl (fun q hq => hq), rfl⟩
  have go : hq_go hq_pg hq_prim 991 tbS_hinge (fun i _ st σ' => i = 13 ∧ st = [.int 0] ∧ σ' = hq_sJ τ 85 0 v.toInt64) 0 [some (.ref 0), some (.int p), some (.int q), some (.ref 85), none] [] σ := by
    refine hq_go.run (by decide) 5 (i' := 5) (L' := [some (.ref 0), some (.int p), some (.int q), some (.ref 85), none]) (st' := [.int q, .int p, .ref 0, .int 0, .ref 85]) (σ' := σ) (ps := []) rfl trivial ?_
    refine hq_go.call (d := 990) (e := (5, .invokevirtual 15, 115, 0, [5, 220])) (as := [.ref 0, .int p, .int q]) (rest := [.int 0, .ref 85]) (v := some (.int v)) (τ := τ) rfl rfl h ?_
    refine hq_go.run (by decide) 4 (i' := 13) (L' := [some (.ref 0), some (.int p), some (.int q), some (.ref 85), none]) (st' := [.int 0]) (σ' := hq_sJ τ 85 0 v.toInt64) (ps := [vp_in 0 1]) rfl ⟨(show ¬ ((0 : Int32) < 0 ∨ 1 ≤ (0 : Int32).toNatClampNeg) by decide), trivial⟩ (hq_go.done ⟨rfl, rfl, rfl⟩)
  obtain ⟨n, hev⟩ := go
  refine hq_snd hq_hML hq_hTL hq_hpmL hp n hev (L := [some (.ref 0), some (.int p), some (.int q), some (.ref 85), none]) (st := []) C hml ⟨Nat.le_refl 991, Nat.le_refl (64 * 991), Nat.zero_le _, Nat.zero_le _⟩ hstr hI ?_
  intro i' L' st' σ' H' locs' ls' hF hI
  obtain ⟨rfl, rfl, rfl⟩ := hF
  obtain ⟨hP', hS', hl', -⟩ := hI
  exact W.iret hx hb hr (fun t ht hW => ⟨rfl, by rw [ht]; exact hP', hS'.F ht⟩) hS'.2.2 (by decide +kernel : decode method_4_code 18 = .ok (.ireturn, 1))
/-- it returns 1: the class has thrown -/
theorem st_hinge {l : Launch} (hp : lwPr l) (hl0 : l.stackTraces = false) {p q : Int32} {σ : hq_St} (h : lwTh 115 [.ref 0, .int p, .int q] σ) (D : va_G) (cy : hq_C3) (ad av : Nat → Nat) (hinj : ∀ i j, i < hq_n → j < hq_n → ad i = ad j → i = j) :
    Met l (hq_pjL 911) (slW_hinge :: hq_tbl) (nx_rm 991) (nx_pre D cy ad av [.ref 0, .int p, .int q, .ref 85] σ) (hq_post D cy ad (some (.int 1)) σ) 1 6 (hq_A ad) := by
  refine va_MetW (cc := method_4_code) (maxL := 5) (ret := some .int) (hh := [(0, 10, 13, 13)]) (by decide +kernel) rfl ?_
  intro p9 e s m args below meth c s₁ B hml hv
  obtain ⟨⟨rfl, hP, hK, hstr⟩, hxx⟩ := hv
  have hx := B.exec
  have hb := B.bytes
  have hr := B.returns
  have hts := atoms_spec (ws := slW_hinge :: hq_tbl) B.pre
  have hown : s.vm.findClass "HingesOnHireLaw" = some m.cls := findClass_of_methodNamed B.named
  have hlocks := B.notSynchronized
  have htab := vx_table (x := hq_pjL 911) B (hts _ List.mem_cons_self)
  have hin : ∀ w ∈ hq_tbl, w ∈ (slW_hinge :: hq_tbl) := fun w hw => List.mem_cons_of_mem _ hw
  rw [lg_entry_eq]
  have hl := lv_entry ([.ref 0, .int p, .int q, .ref 85].map (hq_vm ad)) (n := 5) (Nat.le_of_ble_eq_true rfl)
  generalize (lg_sl ([.ref 0, .int p, .int q, .ref 85].map (hq_vm ad)) ++ List.replicate (5 - (lg_sl ([.ref 0, .int p, .int q, .ref 85].map (hq_vm ad))).length) Slot.unset).toArray = ls at hl ⊢
  have C : hq_ctx p9 s m ([.ref 0, .int p, .int q, .ref 85].map (hq_vm ad)).toArray c D cy (hq_A ad) ad (slW_hinge :: hq_tbl) hq_pjL hq_sr tbS_hinge method_4_code "HingesOnHireLaw" := ⟨hx, hb, hown, hts, hin, hK, hinj, fun i hi => ⟨i, hi, rfl⟩, fun i e he => List.all_eq_true.mp tbS_hinge_ok (e, i) (List.mem_zipIdx_iff_getElem?.mpr he), hstr.1⟩
  have hI : hq_now D cy ad (hq_A ad) s.heap s.heap [] ls 5 [some (.ref 0), some (.int p), some (.int q), some (.ref 85), none] σ := ⟨hP, va_S.rf, hq_has_mono hl (fun q hq => hq), rfl⟩
  obtain ⟨m1, m2, m3, m4, m5, m6, m7, -⟩ := hq_hML 115 (by decide)
  obtain ⟨z1, z2, ⟨q9, hq9, hq1⟩, z3⟩ := m7 9 rfl
  have hRf : (headSpec (slW_hinge :: hq_tbl) (nx_rm 991)).room = nx_rm 991 := rfl
  refine (hq_stp C hq_hpmL hml (by rw [hRf]; exact ⟨by decide, by decide, Nat.zero_le _, Nat.zero_le _⟩) 5 (i := 0) (L := [some (.ref 0), some (.int p), some (.int q), some (.ref 85), none]) (st := []) (ps := []) (r := (5, [some (.ref 0), some (.int p), some (.int q), some (.ref 85), none], [.int q, .int p, .ref 0, .int 0, .ref 85], σ, [])) rfl trivial hI (fun H locs ls hI => ?_)).1
  obtain ⟨hP', hS', hl', -⟩ := hI
  obtain ⟨fs, hlay⟩ := sl_lay0
  have hrec := va_recv hK hP' hq9 (hq_cellO hlay)
  rw [hq1] at hrec
  have hM := nx_cls (Qc := va_Qi (fun (_ : Int32) (_ : Unit) => False) (fun _ _ => True) (hq_A ad)) hp hl0 (x := 115) (by decide) rfl nx_ok_hinge (Nat.le_of_ble_eq_true rfl) h D cy ad av hinj
  have hroom : (nx_rm 990).frames + 1 ≤ (nx_rm 991).frames ∧ 8 + ((hq_pg 115).2.1 + 11) + (nx_rm 990).locals ≤ (nx_rm 991).locals := by decide +kernel
  have z4 : (parseMethodDescriptor (hq_pjL 115).desc).map (fun d => d.parameters.length) = some 2 := by decide +kernel
  have hpre : ∀ U : State, U.heap = H → s.WarmedH U.vm → nx_pre D cy ad av [.ref 0, .int p, .int q] σ ([.ref 0, .int p, .int q].map (hq_vm ad)).toArray U := fun U hU hW => ⟨⟨rfl, by rw [hU]; exact hP', va_K.moved hW.alike hK, fun j a1 a2 => vk_R.warm hW (hstr.1 j a1 a2), by rw [hU]; exact ⟨vk_S.moved hW.alike (hstr.2.1.kept hS'.2.1), hq_sx.moved hW.alike (hstr.2.2.kept hS'.2.1)⟩⟩, by rw [hU]; exact (hxx.kept hS'.2.1).warm hW⟩
  refine vx_calli (vx_runV (b := ad 0) (As := [.int p, .int q]) (rest := [.int 0, .ref (ad 85)]) (g := F0 m 5 ls ([.int q, .int p, .ref 0, .int 0, .ref 85].map (hq_vm ad))) (C := (hq_pjL 115).cls) (n := 2) ⟨hx, hb, hml, hown, hts⟩ hM ⟨callB_of 2 hts (hq_goodx (hq_hML 115 (by decide)) hin) rfl rfl rfl (hts _ (hin _ m2)) (hts _ (hin _ (hq_w_in (ts := [5, 220]) (by decide +kernel) rfl))) ⟨m4.1, m4.2, z4⟩ hroom, hts _ (hin _ z1), hts _ (hin _ z2)⟩ ⟨nx_pre_blind, hrec, hpre⟩ rfl rfl hl'.1 rfl (by decide : 2 * 0 + 2 ≤ 8) (by decide +kernel : decode method_4_code 5 = .ok (.invokevirtual 15, 3)) ⟨Nat.le_refl 1, Nat.le_refl 6⟩) hS' (fun q _ hq => hq) (fun q hq => hq) (fun q _ hq => hq) ?_ ?_
  · intro E ce q8 u t H1 locs1 ht hA hpx hBX hsz hkeep hS1 hce hcv hcl
    obtain ⟨rfl, hPt⟩ := hBX
    rw [ht] at hPt
    refine vx_catch (name := nxN) hown [] ⟨0, 10, 13, 13⟩ [] htab (fun z hz => nomatch hz) rfl (by decide) (hts _ (hin _ (hq_w_in (ts := [5, 145]) (w := Cond.classLink "HingesOnHireLaw" 13 nxN) (by decide +kernel) rfl))) (va_Nw.use rfl (hxx.2.2 (Cond.castable nxN nxN) (by simp [nxD]))) hce hcv hcl ?_
    refine lv_astore hx hb (by decide +kernel : decode method_4_code 13 = .ok (.astore 4, 2)) hl' (by decide) rfl (fun ls' hl9 => ?_)
    refine lv_iconst hx hb (by decide +kernel : decode method_4_code 15 = .ok (.iconst 1, 1)) rfl ?_
    exact W.iret hx hb hr (fun t ht hW => ⟨rfl, by rw [ht]; exact hPt, hS1.F ht⟩) hS1.2.2 (by decide +kernel : decode method_4_code 16 = .ok (.ireturn, 1))
  · intro r u t H1 locs1 ht hA hpost
    exact hpost.elim
def tbS_row : List hq_E := [(0, .aload_n 2, 0, 0, []), (1, .iconst 0, 0, 0, []), (2, .aload_n 0, 0, 0, []), (3, .iload_n 1, 0, 0, []), (4, .invokevirtual 18, 156, 0, [5, 229]), (7, .lastore, 0, 0, []), (8, .goto 6, 10, 0, []), (11, .astore_n 3, 0, 0, []), (12, .iconst 1, 0, 0, []), (13, .ireturn, 0, 0, []), (14, .iconst 0, 0, 0, []), (15, .ireturn, 0, 0, [])]
theorem tbS_row_ok : tbS_row.zipIdx.all (fun z => hq_eokb hq_pjL hq_sr tbS_row method_5_code "HingesOnHireLaw" z.2 z.1) = true := by decide +kernel
abbrev slW_row : Cond := Cond.codeWith (hq_pjL 912) method_5_code 4 (some .int) [(0, 8, 11, 13)]
theorem slW_row_in : slW_row ∈ hq_tbl := hq_w_in (ts := [5, 228]) (by decide +kernel) rfl
/-- it returns 0 and has stored the answer -/
theorem sr_row {l : Launch} (hp : lwPr l) {p : Int32} {v : Int64} {σ τ : hq_St} (h : hq_c 156 990 [.ref 0, .int p] σ (some (.long v)) τ) (D : va_G) (cy : hq_C3) (ad av : Nat → Nat) (hinj : ∀ i j, i < hq_n → j < hq_n → ad i = ad j → i = j) :
    Met l (hq_pjL 912) (slW_row :: hq_tbl) (hq_rm 991) (hq_pre D cy ad av [.ref 0, .int p, .ref 85] σ) (hq_post D cy ad (some (.int 0)) (hq_sJ τ 85 0 v)) 0 0 (hq_A ad) := by
  refine va_MetW (cc := method_5_code) (maxL := 4) (ret := some .int) (hh := [(0, 8, 11, 13)]) (by decide +kernel) rfl ?_
  intro p9 e s m args below meth c s₁ B hml hv
  obtain ⟨rfl, hP, hK, hstr⟩ := hv
  have hx := B.exec
  have hb := B.bytes
  have hr := B.returns
  have hts := atoms_spec (ws := slW_row :: hq_tbl) B.pre
  have hown : s.vm.findClass "HingesOnHireLaw" = some m.cls := findClass_of_methodNamed B.named
  have hlocks := B.notSynchronized
  have hin : ∀ w ∈ hq_tbl, w ∈ (slW_row :: hq_tbl) := fun w hw => List.mem_cons_of_mem _ hw
  rw [lg_entry_eq]
  have hl := lv_entry ([.ref 0, .int p, .ref 85].map (hq_vm ad)) (n := 4) (Nat.le_of_ble_eq_true rfl)
  generalize (lg_sl ([.ref 0, .int p, .ref 85].map (hq_vm ad)) ++ List.replicate (4 - (lg_sl ([.ref 0, .int p, .ref 85].map (hq_vm ad))).length) Slot.unset).toArray = ls at hl ⊢
  have C : hq_ctx p9 s m ([.ref 0, .int p, .ref 85].map (hq_vm ad)).toArray c D cy (hq_A ad) ad (slW_row :: hq_tbl) hq_pjL hq_sr tbS_row method_5_code "HingesOnHireLaw" := ⟨hx, hb, hown, hts, hin, hK, hinj, fun i hi => ⟨i, hi, rfl⟩, fun i e he => List.all_eq_true.mp tbS_row_ok (e, i) (List.mem_zipIdx_iff_getElem?.mpr he), hstr.1⟩
  have hI : hq_now D cy ad (hq_A ad) s.heap s.heap [] ls 4 [some (.ref 0), some (.int p), some (.ref 85), none] σ := ⟨hP, va_S.rf, hq_has_mono hl (fun q hq => hq), rfl⟩
  have go : hq_go hq_pg hq_prim 991 tbS_row (fun i _ st σ' => i = 11 ∧ st = [.int 0] ∧ σ' = hq_sJ τ 85 0 v) 0 [some (.ref 0), some (.int p), some (.ref 85), none] [] σ := by
    refine hq_go.run (by decide) 4 (i' := 4) (L' := [some (.ref 0), some (.int p), some (.ref 85), none]) (st' := [.int p, .ref 0, .int 0, .ref 85]) (σ' := σ) (ps := []) rfl trivial ?_
    refine hq_go.call (d := 990) (e := (4, .invokevirtual 18, 156, 0, [5, 229])) (as := [.ref 0, .int p]) (rest := [.int 0, .ref 85]) (v := some (.long v)) (τ := τ) rfl rfl h ?_
    refine hq_go.run (by decide) 3 (i' := 11) (L' := [some (.ref 0), some (.int p), some (.ref 85), none]) (st' := [.int 0]) (σ' := hq_sJ τ 85 0 v) (ps := [vp_in 0 1]) rfl ⟨(show ¬ ((0 : Int32) < 0 ∨ 1 ≤ (0 : Int32).toNatClampNeg) by decide), trivial⟩ (hq_go.done ⟨rfl, rfl, rfl⟩)
  obtain ⟨n, hev⟩ := go
  refine hq_snd hq_hML hq_hTL hq_hpmL hp n hev (L := [some (.ref 0), some (.int p), some (.ref 85), none]) (st := []) C hml ⟨Nat.le_refl 991, Nat.le_refl (64 * 991), Nat.zero_le _, Nat.zero_le _⟩ hstr hI ?_
  intro i' L' st' σ' H' locs' ls' hF hI
  obtain ⟨rfl, rfl, rfl⟩ := hF
  obtain ⟨hP', hS', hl', -⟩ := hI
  exact W.iret hx hb hr (fun t ht hW => ⟨rfl, by rw [ht]; exact hP', hS'.F ht⟩) hS'.2.2 (by decide +kernel : decode method_5_code 15 = .ok (.ireturn, 1))
/-- it returns 1: the class has thrown -/
theorem st_row {l : Launch} (hp : lwPr l) (hl0 : l.stackTraces = false) {p : Int32} {σ : hq_St} (h : lwTh 156 [.ref 0, .int p] σ) (D : va_G) (cy : hq_C3) (ad av : Nat → Nat) (hinj : ∀ i j, i < hq_n → j < hq_n → ad i = ad j → i = j) :
    Met l (hq_pjL 912) (slW_row :: hq_tbl) (nx_rm 991) (nx_pre D cy ad av [.ref 0, .int p, .ref 85] σ) (hq_post D cy ad (some (.int 1)) σ) 1 6 (hq_A ad) := by
  refine va_MetW (cc := method_5_code) (maxL := 4) (ret := some .int) (hh := [(0, 8, 11, 13)]) (by decide +kernel) rfl ?_
  intro p9 e s m args below meth c s₁ B hml hv
  obtain ⟨⟨rfl, hP, hK, hstr⟩, hxx⟩ := hv
  have hx := B.exec
  have hb := B.bytes
  have hr := B.returns
  have hts := atoms_spec (ws := slW_row :: hq_tbl) B.pre
  have hown : s.vm.findClass "HingesOnHireLaw" = some m.cls := findClass_of_methodNamed B.named
  have hlocks := B.notSynchronized
  have htab := vx_table (x := hq_pjL 912) B (hts _ List.mem_cons_self)
  have hin : ∀ w ∈ hq_tbl, w ∈ (slW_row :: hq_tbl) := fun w hw => List.mem_cons_of_mem _ hw
  rw [lg_entry_eq]
  have hl := lv_entry ([.ref 0, .int p, .ref 85].map (hq_vm ad)) (n := 4) (Nat.le_of_ble_eq_true rfl)
  generalize (lg_sl ([.ref 0, .int p, .ref 85].map (hq_vm ad)) ++ List.replicate (4 - (lg_sl ([.ref 0, .int p, .ref 85].map (hq_vm ad))).length) Slot.unset).toArray = ls at hl ⊢
  have C : hq_ctx p9 s m ([.ref 0, .int p, .ref 85].map (hq_vm ad)).toArray c D cy (hq_A ad) ad (slW_row :: hq_tbl) hq_pjL hq_sr tbS_row method_5_code "HingesOnHireLaw" := ⟨hx, hb, hown, hts, hin, hK, hinj, fun i hi => ⟨i, hi, rfl⟩, fun i e he => List.all_eq_true.mp tbS_row_ok (e, i) (List.mem_zipIdx_iff_getElem?.mpr he), hstr.1⟩
  have hI : hq_now D cy ad (hq_A ad) s.heap s.heap [] ls 4 [some (.ref 0), some (.int p), some (.ref 85), none] σ := ⟨hP, va_S.rf, hq_has_mono hl (fun q hq => hq), rfl⟩
  obtain ⟨m1, m2, m3, m4, m5, m6, m7, -⟩ := hq_hML 156 (by decide)
  obtain ⟨z1, z2, ⟨q9, hq9, hq1⟩, z3⟩ := m7 9 rfl
  have hRf : (headSpec (slW_row :: hq_tbl) (nx_rm 991)).room = nx_rm 991 := rfl
  refine (hq_stp C hq_hpmL hml (by rw [hRf]; exact ⟨by decide, by decide, Nat.zero_le _, Nat.zero_le _⟩) 4 (i := 0) (L := [some (.ref 0), some (.int p), some (.ref 85), none]) (st := []) (ps := []) (r := (4, [some (.ref 0), some (.int p), some (.ref 85), none], [.int p, .ref 0, .int 0, .ref 85], σ, [])) rfl trivial hI (fun H locs ls hI => ?_)).1
  obtain ⟨hP', hS', hl', -⟩ := hI
  obtain ⟨fs, hlay⟩ := sl_lay0
  have hrec := va_recv hK hP' hq9 (hq_cellO hlay)
  rw [hq1] at hrec
  have hM := nx_cls (Qc := va_Ql (fun (_ : Int64) (_ : Unit) => False) (fun _ _ => True) (hq_A ad)) hp hl0 (x := 156) (by decide) rfl nx_ok_row (Nat.le_of_ble_eq_true rfl) h D cy ad av hinj
  have hroom : (nx_rm 990).frames + 1 ≤ (nx_rm 991).frames ∧ 8 + ((hq_pg 156).2.1 + 11) + (nx_rm 990).locals ≤ (nx_rm 991).locals := by decide +kernel
  have z4 : (parseMethodDescriptor (hq_pjL 156).desc).map (fun d => d.parameters.length) = some 1 := by decide +kernel
  have hpre : ∀ U : State, U.heap = H → s.WarmedH U.vm → nx_pre D cy ad av [.ref 0, .int p] σ ([.ref 0, .int p].map (hq_vm ad)).toArray U := fun U hU hW => ⟨⟨rfl, by rw [hU]; exact hP', va_K.moved hW.alike hK, fun j a1 a2 => vk_R.warm hW (hstr.1 j a1 a2), by rw [hU]; exact ⟨vk_S.moved hW.alike (hstr.2.1.kept hS'.2.1), hq_sx.moved hW.alike (hstr.2.2.kept hS'.2.1)⟩⟩, by rw [hU]; exact (hxx.kept hS'.2.1).warm hW⟩
  refine vx_calll (vx_runV (b := ad 0) (As := [.int p]) (rest := [.int 0, .ref (ad 85)]) (g := F0 m 4 ls ([.int p, .ref 0, .int 0, .ref 85].map (hq_vm ad))) (C := (hq_pjL 156).cls) (n := 1) ⟨hx, hb, hml, hown, hts⟩ hM ⟨callB_of 1 hts (hq_goodx (hq_hML 156 (by decide)) hin) rfl rfl rfl (hts _ (hin _ m2)) (hts _ (hin _ (hq_w_in (ts := [5, 229]) (by decide +kernel) rfl))) ⟨m4.1, m4.2, z4⟩ hroom, hts _ (hin _ z1), hts _ (hin _ z2)⟩ ⟨nx_pre_blind, hrec, hpre⟩ rfl rfl hl'.1 rfl (by decide : 2 * 0 + 2 ≤ 8) (by decide +kernel : decode method_5_code 4 = .ok (.invokevirtual 18, 3)) ⟨Nat.le_refl 1, Nat.le_refl 6⟩) hS' (fun q _ hq => hq) (fun q hq => hq) (fun q _ hq => hq) ?_ ?_
  · intro E ce q8 u t H1 locs1 ht hA hpx hBX hsz hkeep hS1 hce hcv hcl
    obtain ⟨rfl, hPt⟩ := hBX
    rw [ht] at hPt
    refine vx_catch (name := nxN) hown [] ⟨0, 8, 11, 13⟩ [] htab (fun z hz => nomatch hz) rfl (by decide) (hts _ (hin _ (hq_w_in (ts := [5, 145]) (w := Cond.classLink "HingesOnHireLaw" 13 nxN) (by decide +kernel) rfl))) (va_Nw.use rfl (hxx.2.2 (Cond.castable nxN nxN) (by simp [nxD]))) hce hcv hcl ?_
    refine lv_astore_n hx hb (by decide +kernel : decode method_5_code 11 = .ok (.astore_n 3, 1)) rfl hl' (by decide) rfl (fun ls' hl9 => ?_)
    refine lv_iconst hx hb (by decide +kernel : decode method_5_code 12 = .ok (.iconst 1, 1)) rfl ?_
    exact W.iret hx hb hr (fun t ht hW => ⟨rfl, by rw [ht]; exact hPt, hS1.F ht⟩) hS1.2.2 (by decide +kernel : decode method_5_code 13 = .ok (.ireturn, 1))
  · intro r u t H1 locs1 ht hA hpost
    exact hpost.elim
