/-! The law's calls of its own door, hinge and row, on the machine -/
def tk_ok (z : hq_E × Nat) (r k : Nat) : Bool := !(decide (z.1.2.2.1 = r)) || (decide (z.1.2.1 = .invokestatic k) && decide (hq_pc tb_law (z.2 + 1) = z.1.1 + 3))
set_option maxRecDepth 100000 in
theorem tk_all : tb_law.zipIdx.all (fun z => tk_ok z 910 45 && tk_ok z 911 54 && tk_ok z 912 218) = true := by decide +kernel
theorem tk_at {i r k : Nat} {e : hq_E} (he : tb_law[i]? = some e) (hr : e.2.2.1 = r) (h : (r = 910 ∧ k = 45) ∨ (r = 911 ∧ k = 54) ∨ (r = 912 ∧ k = 218)) : e.2.1 = .invokestatic k ∧ hq_pc tb_law (i + 1) = e.1 + 3 := by
  have h1 := List.all_eq_true.mp tk_all (e, i) (List.mem_zipIdx_iff_getElem?.mpr he)
  simp only [Bool.and_eq_true] at h1
  have use : ∀ {r k : Nat}, tk_ok (e, i) r k = true → e.2.2.1 = r → e.2.1 = .invokestatic k ∧ hq_pc tb_law (i + 1) = e.1 + 3 := by
    intro r k h hr
    unfold tk_ok at h
    dsimp only at h
    rw [decide_eq_true hr, Bool.not_true, Bool.false_or, Bool.and_eq_true, decide_eq_true_eq, decide_eq_true_eq] at h
    exact h
  rcases h with ⟨rfl, rfl⟩ | ⟨rfl, rfl⟩ | ⟨rfl, rfl⟩
  · exact use h1.1.1 hr
  · exact use h1.1.2 hr
  · exact use h1.2 hr
theorem tk_good {own : String} {k : Nat} {y : MethodName} {w0 : Cond} (w1 : Cond.methodLink own k y ∈ hq_tbl) (w2 : Cond.static y ∈ hq_tbl) (w3 : Cond.initialized y.cls ∈ hq_tbl) (w4 : w0 ∈ hq_tbl) : GoodIn lw_tbl (va_wsS own k y (w0 :: hq_tbl)) := by
  intro w hw
  have : w ∈ hq_tbl := by
    unfold va_wsS at hw
    simp only [List.mem_append, List.mem_cons, List.not_mem_nil, or_false] at hw
    rcases hw with (rfl | rfl | rfl) | rfl | h
    · exact w1
    · exact w2
    · exact w3
    · exact w4
    · exact h
  exact ⟨(hq_good w this).1, (hq_good w this).2⟩
section TK
variable {p : Program} {l : Launch} {e : Env} {s : State} {m : MethodId} {b n : Nat} {xs : Nat → Int32} {below : List Frame} {meth : Method} {c : Code} {D : va_G} {cy : hq_C3} {ad av : Nat → Nat} {k : Nat}
theorem tk_pre (C : lwC p s m meth c b n xs D cy ad av) {H : Heap} {locs : List Loc} {as : List Value} {σ : hq_St} (hP : va_P D vwCl (hq_ws cy ad σ) H) (hS : va_S (lwA s) s.heap H locs) (U : State) (hU : U.heap = H) (hW : s.WarmedH U.vm) : hq_pre D cy ad av as σ (as.map (hq_vm ad)).toArray U := by
  obtain ⟨⟨hx, hb, hown, hts, hin, hK, hinj, hA, htok, hst9⟩, hstr, -⟩ := C
  have hsub : ∀ q, hq_A ad q → lwA s q := fun q ⟨i, h1, h2⟩ => by rw [h2]; exact hA i h1
  exact ⟨rfl, by rw [hU]; exact hP, va_K.moved hW.alike hK, fun j a1 a2 => vk_R.warm hW (hstr.1 j a1 a2), by rw [hU]; exact ⟨vk_S.moved hW.alike ((hstr.2.1.kept hS.2.1).narrow hsub), hq_sx.moved hW.alike ((hstr.2.2.kept hS.2.1).narrow hsub)⟩⟩
theorem tk_prx (C : lwC p s m meth c b n xs D cy ad av) (hnx : nx_x (lwA s) s s.heap) {H : Heap} {locs : List Loc} {as : List Value} {σ : hq_St} (hP : va_P D vwCl (hq_ws cy ad σ) H) (hS : va_S (lwA s) s.heap H locs) (U : State) (hU : U.heap = H) (hW : s.WarmedH U.vm) : nx_pre D cy ad av as σ (as.map (hq_vm ad)).toArray U := by
  refine ⟨tk_pre C hP hS U hU hW, ?_⟩
  have hsub : ∀ q, hq_A ad q → lwA s q := fun q ⟨i, h1, h2⟩ => by rw [h2]; exact C.1.2.2.2.2.2.2.2.1 i h1
  rw [hU]
  exact ((hnx.kept hS.2.1).narrow hsub).warm hW
theorem tk_cw_door {args : Array Value} {rm : Room} {mc ms : Nat} (hts : ∀ w ∈ lw_tbl, w.before args s = true) (hc : rm.cells = mc) (hs : rm.slots = ms) (hR : rm.frames = 991 ∧ rm.locals = 64 * 991) : vx_CSW room_1 s args "HingesOnHireLaw" 45 (hq_pjL 910) method_3_code 5 (some .int) [(0, 10, 13, 13)] (slW_door :: hq_tbl) rm mc ms 4 :=
  vx_cwSW 4 hts (tk_good (hq_w_in (ts := [5, 142]) (by decide +kernel) rfl) (hq_w_in (ts := [5, 143]) (by decide +kernel) rfl) (hq_w_in (ts := [1, 0]) (by decide +kernel) rfl) slW_door_in) rfl hc hs (by decide +kernel) (by rw [hR.1, hR.2]; exact ⟨by decide +kernel, by decide +kernel⟩)
theorem KW.ret_door (C : lwC p s m meth c b n xs D cy ad av) (hp : lwPr l) (i : Nat) (e0 : hq_E) (L : hq_L) (p0 q : Int32) (v : Int32) (σ τ : hq_St) (he : tb_law[i]? = some e0) (hr : e0.2.2.1 = 910) (h : hq_c 114 990 [.ref 0, .int p0, .int q] σ (some (.int v)) τ) (kk : KW p l e s m b below meth c D cy ad k (i + 1) L [.int 0] (hq_sJ τ 85 0 v.toInt64)) : KW p l e s m b below meth c D cy ad k i L [.ref 85, .int q, .int p0, .ref 0] σ := by
  intro H locs ls cells slots h1 h2 hI
  obtain ⟨hi, hn⟩ := tk_at he hr (Or.inl ⟨rfl, rfl⟩)
  have hd := lw_dec he
  rw [hi] at hd
  obtain ⟨hP, hS, hl, hL⟩ := hI
  rw [hq_pc_at he]
  refine hq_callkm (rest := []) (vx_runSW (As := [.ref 0, .int p0, .int q, .ref 85].map (hq_vm ad)) (rest := []) (g := F0 m e0.1 ls ([.ref 85, .int q, .int p0, .ref 0].map (hq_vm ad))) ⟨C.1.1, C.1.2.1, C.2.2.2.2.2.1, C.1.2.2.1, C.1.2.2.2.1⟩ (sr_door hp h D cy ad av C.1.2.2.2.2.2.2.1) (tk_cw_door C.1.2.2.2.1 rfl rfl ⟨rfl, rfl⟩) ⟨hq_pre_blind, tk_pre C hP hS⟩ rfl rfl hl.1 rfl (by decide : 2 * 0 + 0 ≤ 8) hd ⟨(by show cells + 0 ≤ 601024; omega), (by show slots + 0 ≤ 7293033; omega)⟩) hS C.1.2.2.2.2.2.2.2.1 (fun H1 locs1 hP1 hS1 => ?_)
  have K := kk H1 locs1 ls cells slots h1 h2 ⟨hP1, hS1, hl, hL⟩
  rw [hn] at K
  exact K
theorem KW.thr_door (C : lwC p s m meth c b n xs D cy ad av) (hp : lwPr l) (hl0 : l.stackTraces = false) (hnx : nx_x (lwA s) s s.heap) (i : Nat) (e0 : hq_E) (L : hq_L) (p0 q : Int32) (σ : hq_St) (he : tb_law[i]? = some e0) (hr : e0.2.2.1 = 910) (h : lwTh 114 [.ref 0, .int p0, .int q] σ) (kk : KW p l e s m b below meth c D cy ad k (i + 1) L [.int 1] σ) : KW p l e s m b below meth c D cy ad (k + 1) i L [.ref 85, .int q, .int p0, .ref 0] σ := by
  intro H locs ls cells slots h1 h2 hI
  obtain ⟨hi, hn⟩ := tk_at he hr (Or.inl ⟨rfl, rfl⟩)
  have hd := lw_dec he
  rw [hi] at hd
  obtain ⟨hP, hS, hl, hL⟩ := hI
  rw [hq_pc_at he]
  refine hq_callkm (rest := []) (vx_runSW (As := [.ref 0, .int p0, .int q, .ref 85].map (hq_vm ad)) (rest := []) (g := F0 m e0.1 ls ([.ref 85, .int q, .int p0, .ref 0].map (hq_vm ad))) ⟨C.1.1, C.1.2.1, C.2.2.2.2.2.1, C.1.2.2.1, C.1.2.2.2.1⟩ (st_door hp hl0 h D cy ad av C.1.2.2.2.2.2.2.1) (tk_cw_door C.1.2.2.2.1 rfl rfl ⟨rfl, rfl⟩) ⟨nx_pre_blind, tk_prx C hnx hP hS⟩ rfl rfl hl.1 rfl (by decide : 2 * 0 + 0 ≤ 8) hd ⟨(by show cells + 1 ≤ 601024; omega), (by show slots + 6 ≤ 7293033; omega)⟩) hS C.1.2.2.2.2.2.2.2.1 (fun H1 locs1 hP1 hS1 => ?_)
  have K := kk H1 locs1 ls (cells + 1) (slots + 6) (by omega) (by omega) ⟨hP1, hS1, hl, hL⟩
  rw [hn] at K
  exact K
theorem tk_cw_hinge {args : Array Value} {rm : Room} {mc ms : Nat} (hts : ∀ w ∈ lw_tbl, w.before args s = true) (hc : rm.cells = mc) (hs : rm.slots = ms) (hR : rm.frames = 991 ∧ rm.locals = 64 * 991) : vx_CSW room_1 s args "HingesOnHireLaw" 54 (hq_pjL 911) method_4_code 5 (some .int) [(0, 10, 13, 13)] (slW_hinge :: hq_tbl) rm mc ms 4 :=
  vx_cwSW 4 hts (tk_good (hq_w_in (ts := [5, 217]) (by decide +kernel) rfl) (hq_w_in (ts := [5, 218]) (by decide +kernel) rfl) (hq_w_in (ts := [1, 0]) (by decide +kernel) rfl) slW_hinge_in) rfl hc hs (by decide +kernel) (by rw [hR.1, hR.2]; exact ⟨by decide +kernel, by decide +kernel⟩)
theorem KW.ret_hinge (C : lwC p s m meth c b n xs D cy ad av) (hp : lwPr l) (i : Nat) (e0 : hq_E) (L : hq_L) (p0 q : Int32) (v : Int32) (σ τ : hq_St) (he : tb_law[i]? = some e0) (hr : e0.2.2.1 = 911) (h : hq_c 115 990 [.ref 0, .int p0, .int q] σ (some (.int v)) τ) (kk : KW p l e s m b below meth c D cy ad k (i + 1) L [.int 0] (hq_sJ τ 85 0 v.toInt64)) : KW p l e s m b below meth c D cy ad k i L [.ref 85, .int q, .int p0, .ref 0] σ := by
  intro H locs ls cells slots h1 h2 hI
  obtain ⟨hi, hn⟩ := tk_at he hr (Or.inr (Or.inl ⟨rfl, rfl⟩))
  have hd := lw_dec he
  rw [hi] at hd
  obtain ⟨hP, hS, hl, hL⟩ := hI
  rw [hq_pc_at he]
  refine hq_callkm (rest := []) (vx_runSW (As := [.ref 0, .int p0, .int q, .ref 85].map (hq_vm ad)) (rest := []) (g := F0 m e0.1 ls ([.ref 85, .int q, .int p0, .ref 0].map (hq_vm ad))) ⟨C.1.1, C.1.2.1, C.2.2.2.2.2.1, C.1.2.2.1, C.1.2.2.2.1⟩ (sr_hinge hp h D cy ad av C.1.2.2.2.2.2.2.1) (tk_cw_hinge C.1.2.2.2.1 rfl rfl ⟨rfl, rfl⟩) ⟨hq_pre_blind, tk_pre C hP hS⟩ rfl rfl hl.1 rfl (by decide : 2 * 0 + 0 ≤ 8) hd ⟨(by show cells + 0 ≤ 601024; omega), (by show slots + 0 ≤ 7293033; omega)⟩) hS C.1.2.2.2.2.2.2.2.1 (fun H1 locs1 hP1 hS1 => ?_)
  have K := kk H1 locs1 ls cells slots h1 h2 ⟨hP1, hS1, hl, hL⟩
  rw [hn] at K
  exact K
theorem KW.thr_hinge (C : lwC p s m meth c b n xs D cy ad av) (hp : lwPr l) (hl0 : l.stackTraces = false) (hnx : nx_x (lwA s) s s.heap) (i : Nat) (e0 : hq_E) (L : hq_L) (p0 q : Int32) (σ : hq_St) (he : tb_law[i]? = some e0) (hr : e0.2.2.1 = 911) (h : lwTh 115 [.ref 0, .int p0, .int q] σ) (kk : KW p l e s m b below meth c D cy ad k (i + 1) L [.int 1] σ) : KW p l e s m b below meth c D cy ad (k + 1) i L [.ref 85, .int q, .int p0, .ref 0] σ := by
  intro H locs ls cells slots h1 h2 hI
  obtain ⟨hi, hn⟩ := tk_at he hr (Or.inr (Or.inl ⟨rfl, rfl⟩))
  have hd := lw_dec he
  rw [hi] at hd
  obtain ⟨hP, hS, hl, hL⟩ := hI
  rw [hq_pc_at he]
  refine hq_callkm (rest := []) (vx_runSW (As := [.ref 0, .int p0, .int q, .ref 85].map (hq_vm ad)) (rest := []) (g := F0 m e0.1 ls ([.ref 85, .int q, .int p0, .ref 0].map (hq_vm ad))) ⟨C.1.1, C.1.2.1, C.2.2.2.2.2.1, C.1.2.2.1, C.1.2.2.2.1⟩ (st_hinge hp hl0 h D cy ad av C.1.2.2.2.2.2.2.1) (tk_cw_hinge C.1.2.2.2.1 rfl rfl ⟨rfl, rfl⟩) ⟨nx_pre_blind, tk_prx C hnx hP hS⟩ rfl rfl hl.1 rfl (by decide : 2 * 0 + 0 ≤ 8) hd ⟨(by show cells + 1 ≤ 601024; omega), (by show slots + 6 ≤ 7293033; omega)⟩) hS C.1.2.2.2.2.2.2.2.1 (fun H1 locs1 hP1 hS1 => ?_)
  have K := kk H1 locs1 ls (cells + 1) (slots + 6) (by omega) (by omega) ⟨hP1, hS1, hl, hL⟩
  rw [hn] at K
  exact K
theorem tk_cw_row {args : Array Value} {rm : Room} {mc ms : Nat} (hts : ∀ w ∈ lw_tbl, w.before args s = true) (hc : rm.cells = mc) (hs : rm.slots = ms) (hR : rm.frames = 991 ∧ rm.locals = 64 * 991) : vx_CSW room_1 s args "HingesOnHireLaw" 218 (hq_pjL 912) method_5_code 4 (some .int) [(0, 8, 11, 13)] (slW_row :: hq_tbl) rm mc ms 3 :=
  vx_cwSW 3 hts (tk_good (hq_w_in (ts := [5, 226]) (by decide +kernel) rfl) (hq_w_in (ts := [5, 227]) (by decide +kernel) rfl) (hq_w_in (ts := [1, 0]) (by decide +kernel) rfl) slW_row_in) rfl hc hs (by decide +kernel) (by rw [hR.1, hR.2]; exact ⟨by decide +kernel, by decide +kernel⟩)
theorem KW.ret_row (C : lwC p s m meth c b n xs D cy ad av) (hp : lwPr l) (i : Nat) (e0 : hq_E) (L : hq_L) (p0 : Int32) (v : Int64) (σ τ : hq_St) (he : tb_law[i]? = some e0) (hr : e0.2.2.1 = 912) (h : hq_c 156 990 [.ref 0, .int p0] σ (some (.long v)) τ) (kk : KW p l e s m b below meth c D cy ad k (i + 1) L [.int 0] (hq_sJ τ 85 0 v)) : KW p l e s m b below meth c D cy ad k i L [.ref 85, .int p0, .ref 0] σ := by
  intro H locs ls cells slots h1 h2 hI
  obtain ⟨hi, hn⟩ := tk_at he hr (Or.inr (Or.inr ⟨rfl, rfl⟩))
  have hd := lw_dec he
  rw [hi] at hd
  obtain ⟨hP, hS, hl, hL⟩ := hI
  rw [hq_pc_at he]
  refine hq_callkm (rest := []) (vx_runSW (As := [.ref 0, .int p0, .ref 85].map (hq_vm ad)) (rest := []) (g := F0 m e0.1 ls ([.ref 85, .int p0, .ref 0].map (hq_vm ad))) ⟨C.1.1, C.1.2.1, C.2.2.2.2.2.1, C.1.2.2.1, C.1.2.2.2.1⟩ (sr_row hp h D cy ad av C.1.2.2.2.2.2.2.1) (tk_cw_row C.1.2.2.2.1 rfl rfl ⟨rfl, rfl⟩) ⟨hq_pre_blind, tk_pre C hP hS⟩ rfl rfl hl.1 rfl (by decide : 2 * 0 + 0 ≤ 8) hd ⟨(by show cells + 0 ≤ 601024; omega), (by show slots + 0 ≤ 7293033; omega)⟩) hS C.1.2.2.2.2.2.2.2.1 (fun H1 locs1 hP1 hS1 => ?_)
  have K := kk H1 locs1 ls cells slots h1 h2 ⟨hP1, hS1, hl, hL⟩
  rw [hn] at K
  exact K
theorem KW.thr_row (C : lwC p s m meth c b n xs D cy ad av) (hp : lwPr l) (hl0 : l.stackTraces = false) (hnx : nx_x (lwA s) s s.heap) (i : Nat) (e0 : hq_E) (L : hq_L) (p0 : Int32) (σ : hq_St) (he : tb_law[i]? = some e0) (hr : e0.2.2.1 = 912) (h : lwTh 156 [.ref 0, .int p0] σ) (kk : KW p l e s m b below meth c D cy ad k (i + 1) L [.int 1] σ) : KW p l e s m b below meth c D cy ad (k + 1) i L [.ref 85, .int p0, .ref 0] σ := by
  intro H locs ls cells slots h1 h2 hI
  obtain ⟨hi, hn⟩ := tk_at he hr (Or.inr (Or.inr ⟨rfl, rfl⟩))
  have hd := lw_dec he
  rw [hi] at hd
  obtain ⟨hP, hS, hl, hL⟩ := hI
  rw [hq_pc_at he]
  refine hq_callkm (rest := []) (vx_runSW (As := [.ref 0, .int p0, .ref 85].map (hq_vm ad)) (rest := []) (g := F0 m e0.1 ls ([.ref 85, .int p0, .ref 0].map (hq_vm ad))) ⟨C.1.1, C.1.2.1, C.2.2.2.2.2.1, C.1.2.2.1, C.1.2.2.2.1⟩ (st_row hp hl0 h D cy ad av C.1.2.2.2.2.2.2.1) (tk_cw_row C.1.2.2.2.1 rfl rfl ⟨rfl, rfl⟩) ⟨nx_pre_blind, tk_prx C hnx hP hS⟩ rfl rfl hl.1 rfl (by decide : 2 * 0 + 0 ≤ 8) hd ⟨(by show cells + 1 ≤ 601024; omega), (by show slots + 6 ≤ 7293033; omega)⟩) hS C.1.2.2.2.2.2.2.2.1 (fun H1 locs1 hP1 hS1 => ?_)
  have K := kk H1 locs1 ls (cells + 1) (slots + 6) (by omega) (by omega) ⟨hP1, hS1, hl, hL⟩
  rw [hn] at K
  exact K
theorem KW.all (C : lwC p s m meth c b n xs D cy ad av) (hp : lwPr l) (hl0 : l.stackTraces = false) (hnx : nx_x (lwA s) s s.heap) (k : Nat) : LK xs n (KW p l e s m b below meth c D cy ad (k + 1)) (KW p l e s m b below meth c D cy ad k) := by
  refine ⟨KW.run C hp, KW.sld C, KW.slen C, KW.ret C, KW.le, ?_, ?_, ?_, ?_, KW.mono⟩
  · intro i e0 L x p0 q v σ τ he hd h kk
    rcases hd with ⟨hr, rfl⟩ | ⟨hr, rfl⟩
    · exact KW.ret_door C hp i e0 L p0 q v σ τ he hr h kk
    · exact KW.ret_hinge C hp i e0 L p0 q v σ τ he hr h kk
  · intro i e0 L x p0 q σ he hd h kk
    rcases hd with ⟨hr, rfl⟩ | ⟨hr, rfl⟩
    · exact KW.thr_door C hp hl0 hnx i e0 L p0 q σ he hr h kk
    · exact KW.thr_hinge C hp hl0 hnx i e0 L p0 q σ he hr h kk
  · intro i e0 L p0 v σ τ he hr h kk
    exact KW.ret_row C hp i e0 L p0 v σ τ he hr h kk
  · intro i e0 L p0 σ he hr h kk
    exact KW.thr_row C hp hl0 hnx i e0 L p0 σ he hr h kk
end TK
theorem lw_nx {s : State} {b : Nat} (hts : ∀ w ∈ lw_tbl, w.before #[Value.ref b] s = true) (hgv : (Jvm.Cond.and given_1 narrow_1).before #[Value.ref b] s = true) : nx_x (lwA s) s s.heap := by
  have hs := flat_of_before _ hgv
  have hA : ∀ a : Nat, a < s.heap.size → ¬ lwA s a := fun a ha => Nat.not_le.mpr ha
  have hi := hts _ (hq_w_tb (ts := [1, 18]) (w := .initialized Bundle.tN) (by decide +kernel))
  refine ⟨vx_Zqof (hts _ (hq_w_tb (ts := [5, 177]) (w := .laysStatic Bundle.tN "UNASSIGNED_STACK" Bundle.steD) (by decide +kernel))) hi (hs (Cond.isRef (.static Bundle.tN "UNASSIGNED_STACK" Bundle.steD)) (by decide +kernel)) hA, vx_Zqof (hts _ (hq_w_tb (ts := [5, 179]) (w := .laysStatic Bundle.tN "SUPPRESSED_SENTINEL" Bundle.listD) (by decide +kernel))) hi (hs (Cond.isRef (.static Bundle.tN "SUPPRESSED_SENTINEL" Bundle.listD)) (by decide +kernel)) hA, fun w hw => ?_⟩
  simp only [nxD, List.mem_cons, List.not_mem_nil, or_false] at hw
  rcases hw with rfl | rfl | rfl | rfl
  · exact va_Nw.of rfl (hts _ (hq_w_tb (ts := [5, 152]) (by decide +kernel)))
  · exact va_Nw.of rfl (hts _ (hq_w_tb (ts := [5, 154]) (by decide +kernel)))
  · exact va_Nw.of rfl (hts _ (hq_w_tb (ts := [5, 156]) (by decide +kernel)))
  · exact va_Nw.of rfl (hts _ (hq_w_tb (ts := [5, 158]) (by decide +kernel)))
theorem whole_start {p : Program} {e : Env} {s : State} {m : MethodId} {below : List Frame} {meth : Method} {c : Code} (l : Launch) (hl : l.stackTraces = false) {b L : Nat} {xs : Nat → Int32} (hL : L ≤ 2560) (C0 : lw_At p s m meth c b L xs) : W p l e room_1 s m #[Value.ref b] below meth c s.heap [] 0 0 (lw_Z below #[Value.ref b] s) (entryFrame m ([Value.ref b] : List Value).toArray 8) := by
  have hnx := lw_nx C0.2.2.2.2.2.1 C0.2.2.2.2.2.2.2.2.2
  refine lw_enter C0 (fun D cy ad av C H locs ls hI => ?_)
  have := LK.loop (xs := xs) (n := L) (K := fun k => KW p l e s m b below meth c D cy ad k) (fun k => KW.all C (lw_pr l) hl hnx k) hL 513 0 (by omega) (by omega) hq_z INV0
  exact this H locs ls 86 46450 (by decide) (by decide) hI
