/-! ===== BEGIN a static call of a method with an exception table ===== -/
section VXS
variable {p : Program} {l : Launch} {e : Env} {R : Room} {s : State} {m : MethodId} {args : Array Value} {below : List Frame} {meth : Method} {c : Code} {T : State} {H : Heap} {locs : List Loc} {cells slots : Nat}
abbrev vx_CSW (R : Room) (s : State) (args : Array Value) (own : String) (index : Nat) (y : MethodName) (bytes : ByteArray) (maxL : Nat) (ret : Option FieldType) (hh : List (Nat × Nat × Nat × Nat)) (ws : List Cond) (rm : Room) (mc ms n : Nat) : Prop :=
  (rm.cells = mc ∧ rm.slots = ms ∧ rm.frames + 1 ≤ R.frames ∧ 8 + (maxL + 11) + rm.locals ≤ R.locals ∧ (∀ w ∈ ws, ∀ (a' : Array Value) (U : State), s.WarmedH U.vm → w.before a' U = true) ∧ Cond.codeWith y bytes maxL ret hh ∈ ws) ∧
  (Cond.codeWith y bytes maxL ret hh).before args s = true ∧ (Cond.initialized y.cls).before args s = true ∧ (y.cls ≠ "java/lang/invoke/MethodHandle" ∧ y.cls ≠ "java/lang/invoke/VarHandle") ∧
  (∀ sig, parseMethodDescriptor y.desc = some sig → n = sig.parameters.length) ∧ (Cond.methodLink own index y).before args s = true ∧ (Cond.static y).before args s = true
theorem vx_cwSW {own : String} {index maxL mc ms : Nat} {y : MethodName} {bytes : ByteArray} {ret : Option FieldType} {hh : List (Nat × Nat × Nat × Nat)} {Ts ws ws' : List Cond} {rm : Room} (n : Nat) (ht : ∀ w ∈ Ts, w.before args s = true) (hT : GoodIn Ts (va_wsS own index y ws)) (hw : ws = Cond.codeWith y bytes maxL ret hh :: ws') (hrc : rm.cells = mc) (hrs : rm.slots = ms)
    (hd : y.cls ≠ "java/lang/invoke/MethodHandle" ∧ y.cls ≠ "java/lang/invoke/VarHandle" ∧ (parseMethodDescriptor y.desc).map (fun d => d.parameters.length) = some n) (hR : rm.frames + 1 ≤ R.frames ∧ 8 + (maxL + 11) + rm.locals ≤ R.locals) :
    vx_CSW R s args own index y bytes maxL ret hh ws rm mc ms n := by
  have ok : ∀ w ∈ va_wsS own index y ws, w.before args s = true := fun w h => ht w (hT w h).1
  have hG : GoodIn Ts ws := fun w h => hT w (by unfold va_wsS; exact List.mem_append_right _ h)
  have hc : Cond.codeWith y bytes maxL ret hh ∈ ws := by rw [hw]; exact List.mem_cons_self
  refine ⟨⟨hrc, hrs, hR.1, hR.2, pay_in ht hG, hc⟩, ht _ (hG _ hc).1, ok _ (by simp [va_wsS]), ⟨hd.1, hd.2.1⟩, fun sig h => ?_, ok _ (by simp [va_wsS]), ok _ (by simp [va_wsS])⟩
  have h2 := hd.2.2
  rw [h] at h2
  exact (Option.some.inj h2).symm
theorem vx_callSW (X : Stand p l e R s m args below meth c T locs cells slots) (hexec : p.tables.exec = Jvm.exec) {own : String} {index : Nat} {y : MethodName} {bytes : ByteArray} {maxL : Nat} {ret : Option FieldType} {hh : List (Nat × Nat × Nat × Nat)}
    (hown : s.vm.findClass own = some m.cls) (hlink : (Cond.methodLink own index y).before args s = true) (hstat : (Cond.static y).before args s = true) (hinit : (Cond.initialized y.cls).before args s = true)
    (hcode : (Cond.codeWith y bytes maxL ret hh).before args s = true) (hy : y.cls ≠ "java/lang/invoke/MethodHandle" ∧ y.cls ≠ "java/lang/invoke/VarHandle")
    {W9 : Nat} {Pre : Pt → Array Value → Prop} {Post : Pt → Array Value → Option Value → Pt → Prop} (hK : Back l R p e below s args y 3 W9 Pre Post)
    {g : JFrame} (hg : g.method = m) (hsize : g.locals.size = c.maxLocals) {argsL rest : List Value} (hlen : ∀ sig, parseMethodDescriptor y.desc = some sig → argsL.length = sig.parameters.length)
    (hstack : g.stack = argsL.reverse ++ rest) (hW : 2 * g.monitorRoom + (rest.map fun v => v.category).sum ≤ W9) (hdg : decode c.code g.pc = .ok (.invokestatic index, 3))
    (hpre : ∀ vm₁, s.WarmedH vm₁ → Pre ⟨T.setVm vm₁, locs, cells, slots⟩ argsL.toArray) :
    ∃ (v : Option Value) (vm₁ : Vm) (B : Pt), s.WarmedH vm₁ ∧ Stand p l e R s m args below meth c B.U B.locs B.cells B.slots ∧ Post ⟨T.setVm vm₁, locs, cells, slots⟩ argsL.toArray v B ∧
      ∀ target, Steps p.tables e below (B.U.setTop { g with pc := g.pc + 3, stack := v.toList ++ rest }) target → Steps p.tables e below (T.setTop g) target := by
  obtain ⟨mk, methM, cM, hnamed, hmethM, -, -, -, -, -, -, hsigM⟩ := Cond.codeWith_spec hcode
  have hstatic : methM.isStatic = true := Cond.static_spec hnamed hmethM hstat
  obtain ⟨kP, hkP, -⟩ := className_of_methodNamed hnamed
  have hinitP : kP.init = .initialized := Cond.initialized_spec (findClass_of_methodNamed hnamed) hkP hinit
  obtain ⟨vm₁, X₁, hstep₁⟩ := X.invokestatic hexec hown hlink hnamed hmethM hstatic hkP hinitP hy (g := g) hg (argsL := argsL) (rest := rest) (hlen _ hsigM) hstack hdg
  obtain ⟨v, B, X', hpost, hsteps⟩ := hK m meth c ⟨T.setVm vm₁, locs, cells, slots⟩ { g with stack := rest } (.invokestatic index) mk argsL.toArray X₁ hg hsize hdg hW (X₁.named hnamed) (hpre vm₁ X₁.warmed)
  exact ⟨v, vm₁, B, X₁.warmed, X', hpost, fun target h => hstep₁ _ fun acts => by rw [doInvoke_state]; exact hsteps.trans h⟩
theorem vx_runSW {y : MethodName} {bytes cc : ByteArray} {maxL nL mc ms n index : Nat} {ret : Option FieldType} {hh : List (Nat × Nat × Nat × Nat)} {ws : List Cond} {rm : Room} {Pc : Array Value → State → Prop} {Qc : Array Value → State → Outcome → State → Prop} {free : Addr → Prop} {Ts : List Cond} {own : String} {As rest : List Value} {g : JFrame}
    (S : CallFix p m c cc nL s args Ts own) (hM : Met l y ws rm Pc Qc mc ms free) (cw : vx_CSW R s args own index y bytes maxL ret hh ws rm mc ms n) (hp : PreS s H Pc As)
    (hg : g.method = m) (hn : As.length = n) (hsize : g.locals.size = nL) (hstack : g.stack = As.reverse ++ rest) (hW : 2 * g.monitorRoom + (rest.map fun v => v.category).sum ≤ 8) (hdg : decode cc g.pc = .ok (.invokestatic index, 3)) (hf : cells + mc ≤ R.cells ∧ slots + ms ≤ R.slots) :
    va_Run p l e R s m args below meth c H locs cells slots mc ms g rest (Qc As.toArray) (free) := by
  obtain ⟨⟨hrc, hrs, hfr, hlo, hws, hcw⟩, hcode, hini, hy, hlen, hl, hstt⟩ := cw
  have hK : Back l R p e below s args y 3 8 (PreOf R mc ms Pc) (PostOf Qc mc ms free) := va_backW (hh := hh) (bytes := bytes) (maxL := maxL) (ret := ret) hM hp.1 hrc hrs hfr hlo hws hcw (fun a' U hW => word_at hW (Or.inl (by first | rfl | simp [Cond.onTables, Cond.keeps, Cond.steady])) hini)
  obtain ⟨hx, hb, hml, ho, -⟩ := S
  intro T hT X
  obtain ⟨v, vm₁, ⟨U', l2, c2, s2⟩, hW₁, X', ⟨g', mk, t, L, e1, e2, hq, h1, hL, h2, h3⟩, st⟩ := vx_callSW X hx (hh := hh) (bytes := bytes) (maxL := maxL) (ret := ret) ho hl hstt hini hcode hy hK hg (hsize.trans hml.symm) (argsL := As) (rest := rest) (fun sig h => hn.trans (hlen sig h)) hstack hW (by rw [hb]; exact hdg)
    (fun vm₁ hW₁ => ⟨hf.1, hf.2, hp.2 (T.setVm vm₁) hT hW₁⟩)
  dsimp only [Pt.U, Pt.locs, Pt.cells, Pt.slots] at X' e1 e2 h1 h2 h3 st
  subst h1; subst h2; subst h3
  exact ⟨v, (T.setVm vm₁).calling g' mk As.toArray, t, U', L, hT, X', hL, e1, e2, hq, st⟩
end VXS
/-! The class throws: its contract -/
def nxD : List Cond := [.castable nxN nxN, .declares (Bundle.initS "java/lang/RuntimeException"), .declares (Bundle.initS "java/lang/Exception"), .declares (Bundle.initS "java/lang/Throwable")]
/-- what a throw asks of the start, apart from the tables' good words -/
def nx_x (A : Nat → Prop) (U : State) (H : Heap) : Prop := vx_Zq Bundle.tN "UNASSIGNED_STACK" Bundle.steD A U H ∧ vx_Zq Bundle.tN "SUPPRESSED_SENTINEL" Bundle.listD A U H ∧ ∀ w ∈ nxD, va_Nw w U
theorem nx_x.warm {A : Nat → Prop} {s U : State} {H : Heap} (hW : s.WarmedH U.vm) (h : nx_x A s H) : nx_x A U H := by
  refine ⟨vx_Zq.moved hW.alike h.1, vx_Zq.moved hW.alike h.2.1, fun w hw => ?_⟩
  have h2 := h.2.2 w hw
  simp only [nxD, List.mem_cons, List.not_mem_nil, or_false] at hw
  rcases hw with rfl | rfl | rfl | rfl
  · exact va_Nw.warmC hW h2
  · exact va_Nw.warmD hW h2
  · exact va_Nw.warmD hW h2
  · exact va_Nw.warmD hW h2
theorem nx_x.kept {A : Nat → Prop} {U : State} {H H1 : Heap} (h : nx_x A U H) (hq : ∀ a : Nat, a < H.size → ¬ A a → H1[a]? = H[a]?) : nx_x A U H1 := ⟨h.1.kept hq, h.2.1.kept hq, h.2.2⟩
theorem nx_x.narrow {A B : Nat → Prop} {U : State} {H : Heap} (h : nx_x A U H) (hAB : ∀ q, B q → A q) : nx_x B U H := ⟨h.1.narrow hAB, h.2.1.narrow hAB, h.2.2⟩
theorem nx_x.same {A : Nat → Prop} {u U : State} {H : Heap} (hv : u.vm = U.vm) (h : nx_x A u H) : nx_x A U H := by
  refine ⟨vx_Zq.moved (by rw [hv]; exact Vm.Alike.refl _) h.1, vx_Zq.moved (by rw [hv]; exact Vm.Alike.refl _) h.2.1, fun w hw => ?_⟩
  have h2 := h.2.2 w hw
  simp only [nxD, List.mem_cons, List.not_mem_nil, or_false] at hw
  rcases hw with rfl | rfl | rfl | rfl <;> exact va_tabs rfl hv h2
def nxP : List (List Nat) := [[1, 18], [5, 172], [5, 181], [5, 183], [5, 186], [5, 188], [5, 173], [5, 174], [1, 29], [1, 30], [5, 175], [5, 180], [5, 184], [5, 204], [5, 162], [5, 205], [5, 164], [5, 206], [5, 166], [5, 176], [5, 178], [5, 168], [5, 200], [5, 201], [5, 203], [5, 168], [5, 191], [5, 192], [5, 193], [5, 194], [5, 194], [5, 195], [5, 196], [5, 197], [5, 197], [5, 198], [5, 199], [5, 200], [5, 190], [5, 151], [5, 159], [5, 160], [5, 161], [5, 163], [5, 165], [5, 167], [5, 171], [5, 170], [5, 169]]
theorem nx_in : ∀ w ∈ (nxB "HingesOnHire" 120).filter goodWord, w ∈ hq_tbl := hq_ws_in _ nxP (by decide +kernel) (by decide +kernel)
theorem nx_ng : ∀ w ∈ (nxB "HingesOnHire" 120).filter (fun w => !goodWord w), w ∈ nxD := by decide +kernel
theorem nx_gd : ∀ w ∈ Cond.classLink "HingesOnHire" 116 nxN :: Cond.initialized nxN :: nxB "HingesOnHire" 120, vx_ot w = true := by decide +kernel
theorem nx_hat {s : State} {args : Array Value} {Ts : List Cond} {A : Nat → Prop} {H : Heap} (hts : ∀ w ∈ Ts, w.before args s = true) (hin : ∀ w ∈ hq_tbl, w ∈ Ts) (h : nx_x A s H) : ∀ w ∈ nxB "HingesOnHire" 120, w.before args s = true := by
  refine vx_hat (fun w hw => hts _ (hin _ (nx_in w hw))) nx_ng (fun w hw => ?_)
  have h2 := h.2.2 w hw
  simp only [nxD, List.mem_cons, List.not_mem_nil, or_false] at hw
  rcases hw with rfl | rfl | rfl | rfl <;> exact va_Nw.use rfl h2
def nx_rm (d : Nat) : Room := { frames := d, cells := 1, slots := 6, locals := 64 * d }
def nx_pre (D : va_G) (cy : hq_C3) (ad av : Nat → Nat) (as : List Value) (σ : hq_St) : Array Value → State → Prop := fun a U => hq_pre D cy ad av as σ a U ∧ nx_x (hq_A ad) U U.heap
theorem nx_pre_blind {D : va_G} {cy : hq_C3} {ad av : Nat → Nat} {as : List Value} {σ : hq_St} : FrameBlind (nx_pre D cy ad av as σ) := by
  intro a U g mk h
  exact ⟨hq_pre_blind a U g mk h.1, nx_x.same (u := U) (U := U.calling g mk a) rfl h.2⟩
def nx_XC (D : va_G) (cy : hq_C3) (ad : Nat → Nat) (σ : hq_St) : String → State → State → Prop := vx_X (fun _ : Unit => True) (fun E _ t => E = nxN ∧ va_P D vwCl (hq_ws cy ad σ) t.heap) (hq_A ad)
/-- a place of a throw: its bytes, its text -/
def nx_ok (x i : Nat) (e : hq_E) : Bool := !(decide (e.2.1 = .new 116)) || (decide (decode (hq_pb x) e.1 = .ok (.new 116, 3)) && decide (decode (hq_pb x) (e.1 + 3) = .ok (.dup, 1)) && match (hq_pg x).1[i + 2]? with
  | some q => decide (1000 ≤ q.2.2.1) && decide (q.2.2.1 < 1017) && decide ((hq_sr q.2.2.1).1 = "HingesOnHire") &&
    ((decide (decode (hq_pb x) (e.1 + 4) = .ok (.ldc (hq_sr q.2.2.1).2.1, 2)) && decide (decode (hq_pb x) (e.1 + 6) = .ok (.invokespecial 120, 3)) && decide (decode (hq_pb x) (e.1 + 9) = .ok (.athrow, 1))) ||
     (decide (decode (hq_pb x) (e.1 + 4) = .ok (.ldc_w (hq_sr q.2.2.1).2.1, 3)) && decide (decode (hq_pb x) (e.1 + 7) = .ok (.invokespecial 120, 3)) && decide (decode (hq_pb x) (e.1 + 10) = .ok (.athrow, 1))))
  | none => false)
theorem nx_ok_door : (hq_pg 114).1.zipIdx.all (fun z => nx_ok 114 z.2 z.1) = true := by decide +kernel
theorem nx_ok_hinge : (hq_pg 115).1.zipIdx.all (fun z => nx_ok 115 z.2 z.1) = true := by decide +kernel
theorem nx_ok_row : (hq_pg 156).1.zipIdx.all (fun z => nx_ok 156 z.2 z.1) = true := by decide +kernel
theorem nx_cls {l : Launch} (hp : lwPr l) (hl : l.stackTraces = false) {x : Nat} (hx9 : x < 900) (hcl : (hq_pjL x).cls = "HingesOnHire") (hok : (hq_pg x).1.zipIdx.all (fun z => nx_ok x z.2 z.1) = true) {as : List Value} (hlen : (hq_sl as).length ≤ (hq_pg x).2.1) {σ : hq_St} (h : lwTh x as σ) (D : va_G) (cy : hq_C3) (ad av : Nat → Nat) (hinj : ∀ i j, i < hq_n → j < hq_n → ad i = ad j → i = j) (Qc : Array Value → State → Outcome → State → Prop) :
    vx_Met l (hq_pjL x) (Cond.code (hq_pjL x) (hq_pb x) (hq_pg x).2.1 (hq_pt x) :: hq_tbl) (nx_rm 990) (nx_pre D cy ad av as σ) Qc (nx_XC D cy ad σ) 1 6 (hq_A ad) := by
  obtain ⟨m1, m2, m3, m4, m5, m6, m7, r0, r1, r2, r3⟩ := hq_hML x hx9
  refine vx_ofW (cc := hq_pb x) (maxL := (hq_pg x).2.1) (ret := hq_pt x) m3 rfl ?_
  intro p e s m args below meth c s₁ B hml htab hv
  obtain ⟨⟨rfl, hP, hK, hstr⟩, hxx⟩ := hv
  have hx := B.exec
  have hb := B.bytes
  have hts := atoms_spec (ws := Cond.code (hq_pjL x) (hq_pb x) (hq_pg x).2.1 (hq_pt x) :: hq_tbl) B.pre
  have hown : s.vm.findClass (hq_pjL x).cls = some m.cls := findClass_of_methodNamed B.named
  have hown2 : s.vm.findClass "HingesOnHire" = some m.cls := by rw [← hcl]; exact hown
  have hlocks := B.notSynchronized
  have hin : ∀ w ∈ hq_tbl, w ∈ (Cond.code (hq_pjL x) (hq_pb x) (hq_pg x).2.1 (hq_pt x) :: hq_tbl) := fun w hw => List.mem_cons_of_mem _ hw
  rw [lg_entry_eq]
  have hls := lv_entry (as.map (hq_vm ad)) (n := (hq_pg x).2.1) (by rw [hq_sl_len]; exact hlen)
  generalize (lg_sl (as.map (hq_vm ad)) ++ List.replicate ((hq_pg x).2.1 - (lg_sl (as.map (hq_vm ad))).length) Slot.unset).toArray = ls at hls ⊢
  have h0 : hq_pc (hq_pg x).1 0 = 0 := (hq_hTL x hx9).2
  obtain ⟨n, hev⟩ := h
  have key := hq_snd hq_hML hq_hTL hq_hpmL hp n hev (p := p) (e := e) (R := (headSpec (Cond.code (hq_pjL x) (hq_pb x) (hq_pg x).2.1 (hq_pt x) :: hq_tbl) (nx_rm 990)).room) (s := s) (m := m) (args := (as.map (hq_vm ad)).toArray) (below := below) (meth := meth) (c := c) (H := s.heap) (locs := []) (cells := 0) (slots := 0)
    (Q := vx_MQ below Qc (nx_XC D cy ad σ) (as.map (hq_vm ad)).toArray s 1 6 (hq_A ad)) (D := D) (cy := cy) (A := hq_A ad) (ad := ad) (av := av) (Ts := Cond.code (hq_pjL x) (hq_pb x) (hq_pg x).2.1 (hq_pt x) :: hq_tbl) (cc := hq_pb x) (own := (hq_pjL x).cls) (nL := (hq_pg x).2.1) (ls := ls)
    ⟨hx, hb, hown, hts, hin, hK, hinj, fun i hi => ⟨i, hi, rfl⟩, (hq_hTL x hx9).1, hstr.1⟩ hml ⟨Nat.le_refl _, Nat.le_refl _, Nat.zero_le _, Nat.zero_le _⟩ hstr ⟨hP, va_S.rf, hq_has_mono hls hq_lv_init, hq_init_len hlen⟩ ?_
  · rw [h0] at key
    exact key
  · intro i' L' st' σ' H' locs' ls' hF hI
    obtain ⟨⟨e0, he, hnew⟩, rfl, rfl⟩ := hF
    obtain ⟨hP', hS', hl', -⟩ := hI
    rw [hq_pc_at he]
    have ok := List.all_eq_true.mp hok (e0, i') (List.mem_zipIdx_iff_getElem?.mpr he)
    unfold nx_ok at ok
    dsimp only at ok
    rw [decide_eq_true hnew, Bool.not_true, Bool.false_or] at ok
    simp only [Bool.and_eq_true, decide_eq_true_eq] at ok
    obtain ⟨⟨d0, d3⟩, ok⟩ := ok
    have hout : ∀ k : Nat, ∀ x ∈ c.exceptionTable.toList, covers x k = false := fun k x hx => (htab x hx).elim
    have hXC : ∀ t : State, s.vm.Alike t.vm → H'.size ≤ t.heap.size → (∀ q : Nat, q < H'.size → t.heap[q]? = H'[q]?) → nx_XC D cy ad σ' nxN s t := fun t hA hsz hk => ⟨(), trivial, ⟨rfl, hP'.kept (fun k q hq => hk q.1 (hP' k q hq).lt)⟩, ⟨Nat.le_trans hS'.1 hsz, fun q h1 h2 => (hk q (Nat.lt_of_lt_of_le h1 hS'.1)).trans (hS'.2.1 q h1 h2)⟩⟩
    cases hq : (hq_pg x).1[i' + 2]? with
    | none => rw [hq] at ok; cases ok
    | some q =>
      rw [hq] at ok
      simp only [Bool.and_eq_true, Bool.or_eq_true, decide_eq_true_eq] at ok
      obtain ⟨⟨⟨j1, j2⟩, j3⟩, ok⟩ := ok
      have hR := hstr.1 q.2.2.1 j1 j2
      rw [j3] at hR
      rcases ok with ⟨⟨d4, d6⟩, d9⟩ | ⟨⟨d4, d7⟩, d10⟩
      · exact nx_throwS hx hb hl hown2 (hts _ (hin _ (hq_w_in (ts := [5, 150]) (by decide +kernel) rfl))) (hts _ (hin _ (hq_w_in (ts := [1, 21]) (by decide +kernel) rfl))) hR (nx_hat hts hin hxx) nx_gd hxx.1 hxx.2.1 hS' (hl'.1.trans hml.symm) d0 d3 d4 d6 d9 (hout _) (by decide : 5 < 990) (by decide : 0 + (13 * 3 + 43) ≤ 64 * 990) (Nat.le_refl 1) (Nat.le_refl 6) hlocks hXC hS'.2.2 (Nat.le_refl 1) (Nat.le_refl 6)
      · exact nx_throwSW hx hb hl hown2 (hts _ (hin _ (hq_w_in (ts := [5, 150]) (by decide +kernel) rfl))) (hts _ (hin _ (hq_w_in (ts := [1, 21]) (by decide +kernel) rfl))) hR (nx_hat hts hin hxx) nx_gd hxx.1 hxx.2.1 hS' (hl'.1.trans hml.symm) d0 d3 d4 d7 d10 (hout _) (by decide : 5 < 990) (by decide : 0 + (13 * 3 + 43) ≤ 64 * 990) (Nat.le_refl 1) (Nat.le_refl 6) hlocks hXC hS'.2.2 (Nat.le_refl 1) (Nat.le_refl 6)
