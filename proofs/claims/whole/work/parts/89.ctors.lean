/-! The constructors that only make arrays -/
def ctP (D : va_G) (cy : hq_C3) (ci : Nat) (fs : List Value) (h0 sz : Nat) : Array Value → State → Prop := va_Pc [.ref h0] (fun U => U.heap.size = sz ∧ va_P D vwCl [(h0, .inr (ci, fs))] U.heap ∧ va_K D vwCl (hq_tys cy) U ∧ va_D (fun _ => True) [(h0, .inr (ci, fs))])
def ctQ (D : va_G) (w : List Nat → va_W) (A : Nat → Prop) : Array Value → State → Outcome → State → Prop := va_Qv (fun _ : List Nat => True) (fun u t => va_P D vwCl (w u) t.heap ∧ va_D A (w u)) A
def cwX2 (cy : hq_C3) (h0 : Nat) (u : List Nat) : va_W := [(h0, .inr (2, [.ref (u.getD 0 0), .int 0, .int 0, .int 0])), (u.getD 0 0, ctE cy 0 30)]
def cfX2 : List Value := [.null, .int 0, .int 0, .int 0]
set_option maxHeartbeats 4000000 in
set_option maxRecDepth 100000 in
theorem ct_X2 (l : Launch) (D : va_G) (cy : hq_C3) (h0 sz : Nat) : Met l ⟨"HingesOnHire$Orders", "<init>", "()V"⟩ (Cond.code ⟨"HingesOnHire$Orders", "<init>", "()V"⟩ prog_4_method_1_code 1 none :: hq_tbl) { frames := 1, cells := 1, slots := 30, locals := 12 } (ctP D cy 2 cfX2 h0 sz) (ctQ D (cwX2 cy h0) (va_A [(h0, .inr (2, cfX2))] sz)) 1 30 (va_A [(h0, .inr (2, cfX2))] sz) := by
  refine Met.ofW (cc := prog_4_method_1_code) (maxL := 1) (ret := none) (by decide) rfl ?_
  intro p e s m args below meth c s₁ B hml hv
  obtain ⟨rfl, hsz, hP, hK, hD0⟩ := hv
  have hx := B.exec
  have hb := B.bytes
  have hr := B.returns
  have hts := atoms_spec (ws := Cond.code ⟨"HingesOnHire$Orders", "<init>", "()V"⟩ prog_4_method_1_code 1 none :: hq_tbl) B.pre
  have hown : s.vm.findClass "HingesOnHire$Orders" = some m.cls := findClass_of_methodNamed B.named
  have hin : meth.name = "<init>" := (name_of_methodNamed B.named B.method).1
  subst hsz
  have hD := hD0.self (sz := s.heap.size)
  generalize hAe : va_A [(h0, .inr (2, cfX2))] s.heap.size = A at hD ⊢
  have hA : ∀ q : Nat, s.heap.size ≤ q → A q := fun q h => by rw [← hAe]; exact Or.inr h
  have hS : va_S A s.heap s.heap [] := va_S.rf
  have hl := lv_entry ([.ref h0]) (n := 1) (Nat.le_of_ble_eq_true rfl)
  rw [lg_entry_eq]
  generalize (lg_sl ([.ref h0]) ++ List.replicate (1 - (lg_sl ([.ref h0])).length) Slot.unset).toArray = ls at hl ⊢
  have hl : lv_has ls 1 [(0, .ref h0)] := hl
  have hCt : ctC p s m _ meth c D cy _ _ _ := ⟨hx, hb, hown, hts, fun w hw => List.mem_cons_of_mem _ hw, hK, hin⟩
  refine lv_aload_n hx hb (by decide +kernel : decode prog_4_method_1_code 0 = .ok (.aload_n 0, 1)) rfl (lv_at hl 0 rfl) ?_
  refine W.objInit hx hb hown (hts _ (List.mem_cons_of_mem _ (hq_w_in (ts := [2, 18]) (w := .methodLink "HingesOnHire$Orders" 3 Lib.objectInit) (by decide +kernel) rfl))) (hts _ (List.mem_cons_of_mem _ (hq_w_in (ts := [1, 29]) (w := .instanceMethod Lib.objectInit) (by decide +kernel) rfl))) (hts _ (List.mem_cons_of_mem _ (hq_w_in (ts := [1, 30]) (w := .code Lib.objectInit ⟨#[0xb1]⟩ 1 none) (by decide +kernel) rfl))) rfl (by rw [hml]; exact hl.1) rfl (by decide +kernel : decode prog_4_method_1_code 1 = .ok (.invokespecial 3, 3)) (Nat.le_of_ble_eq_true rfl) (Nat.le_of_ble_eq_true rfl) ?_
  refine W.eq (g2 := F0 m 4 ls []) rfl ?_
  refine ct_arr0 hCt (ci := 2) (n := 30) (k := 0) (idx := 9) (pc := 4) (pc2 := 7) rfl rfl (lv_at hl 0 rfl) hP hD hS hA rfl (by decide) (Nat.le_of_ble_eq_true rfl) (by decide +kernel) rfl rfl (tq := [2, 19]) (by decide +kernel) (by decide) (Nat.le_of_ble_eq_true rfl) (Nat.le_of_ble_eq_true rfl) (by decide +kernel) (fun k => lv_bipush (n := 30) (v := nI 30) hx hb (by decide +kernel) (by decide) k) (by decide +kernel) (by decide +kernel) (fun q0 H locs hP hD hS => ?_)
  have hP : va_P D vwCl [(h0, .inr (2, [.ref q0, .int 0, .int 0, .int 0])), (q0, ctE cy 0 30)] H := hP
  have hD : va_D A [(h0, .inr (2, [.ref q0, .int 0, .int 0, .int 0])), (q0, ctE cy 0 30)] := hD
  refine W.widen (k := 1) (n := 30) (Nat.le_of_ble_eq_true rfl) (Nat.le_of_ble_eq_true rfl) ?_
  exact W.vret hx hb hr (fun t ht hW => ⟨⟨[q0], rfl, trivial, by rw [ht]; exact hP, hD⟩, hS.F ht⟩) hS.2.2 (by decide +kernel : decode prog_4_method_1_code 12 = .ok (.return_, 1))
def cwX4 (cy : hq_C3) (h0 : Nat) (u : List Nat) : va_W := [(h0, .inr (4, [.ref (u.getD 0 0), .int 0])), (u.getD 0 0, ctE cy 1 16)]
def cfX4 : List Value := [.null, .int 0]
set_option maxHeartbeats 4000000 in
set_option maxRecDepth 100000 in
theorem ct_X4 (l : Launch) (D : va_G) (cy : hq_C3) (h0 sz : Nat) : Met l ⟨"HingesOnHire$Row", "<init>", "()V"⟩ (Cond.code ⟨"HingesOnHire$Row", "<init>", "()V"⟩ prog_6_method_1_code 1 none :: hq_tbl) { frames := 1, cells := 1, slots := 16, locals := 12 } (ctP D cy 4 cfX4 h0 sz) (ctQ D (cwX4 cy h0) (va_A [(h0, .inr (4, cfX4))] sz)) 1 16 (va_A [(h0, .inr (4, cfX4))] sz) := by
  refine Met.ofW (cc := prog_6_method_1_code) (maxL := 1) (ret := none) (by decide) rfl ?_
  intro p e s m args below meth c s₁ B hml hv
  obtain ⟨rfl, hsz, hP, hK, hD0⟩ := hv
  have hx := B.exec
  have hb := B.bytes
  have hr := B.returns
  have hts := atoms_spec (ws := Cond.code ⟨"HingesOnHire$Row", "<init>", "()V"⟩ prog_6_method_1_code 1 none :: hq_tbl) B.pre
  have hown : s.vm.findClass "HingesOnHire$Row" = some m.cls := findClass_of_methodNamed B.named
  have hin : meth.name = "<init>" := (name_of_methodNamed B.named B.method).1
  subst hsz
  have hD := hD0.self (sz := s.heap.size)
  generalize hAe : va_A [(h0, .inr (4, cfX4))] s.heap.size = A at hD ⊢
  have hA : ∀ q : Nat, s.heap.size ≤ q → A q := fun q h => by rw [← hAe]; exact Or.inr h
  have hS : va_S A s.heap s.heap [] := va_S.rf
  have hl := lv_entry ([.ref h0]) (n := 1) (Nat.le_of_ble_eq_true rfl)
  rw [lg_entry_eq]
  generalize (lg_sl ([.ref h0]) ++ List.replicate (1 - (lg_sl ([.ref h0])).length) Slot.unset).toArray = ls at hl ⊢
  have hl : lv_has ls 1 [(0, .ref h0)] := hl
  have hCt : ctC p s m _ meth c D cy _ _ _ := ⟨hx, hb, hown, hts, fun w hw => List.mem_cons_of_mem _ hw, hK, hin⟩
  refine lv_aload_n hx hb (by decide +kernel : decode prog_6_method_1_code 0 = .ok (.aload_n 0, 1)) rfl (lv_at hl 0 rfl) ?_
  refine W.objInit hx hb hown (hts _ (List.mem_cons_of_mem _ (hq_w_in (ts := [1, 62]) (w := .methodLink "HingesOnHire$Row" 1 Lib.objectInit) (by decide +kernel) rfl))) (hts _ (List.mem_cons_of_mem _ (hq_w_in (ts := [1, 29]) (w := .instanceMethod Lib.objectInit) (by decide +kernel) rfl))) (hts _ (List.mem_cons_of_mem _ (hq_w_in (ts := [1, 30]) (w := .code Lib.objectInit ⟨#[0xb1]⟩ 1 none) (by decide +kernel) rfl))) rfl (by rw [hml]; exact hl.1) rfl (by decide +kernel : decode prog_6_method_1_code 1 = .ok (.invokespecial 1, 3)) (Nat.le_of_ble_eq_true rfl) (Nat.le_of_ble_eq_true rfl) ?_
  refine W.eq (g2 := F0 m 4 ls []) rfl ?_
  refine ct_arr1 hCt (ci := 4) (n := 16) (k := 0) (idx := 7) (pc := 4) (pc2 := 7) rfl rfl (lv_at hl 0 rfl) hP hD hS hA rfl (by decide) (Nat.le_of_ble_eq_true rfl) (by decide +kernel) rfl rfl (tq := [1, 63]) (by decide +kernel) (by decide) (Nat.le_of_ble_eq_true rfl) (Nat.le_of_ble_eq_true rfl) (by decide +kernel) (fun k => lv_bipush (n := 16) (v := nI 16) hx hb (by decide +kernel) (by decide) k) (by decide +kernel) (by decide +kernel) (fun q0 H locs hP hD hS => ?_)
  have hP : va_P D vwCl [(h0, .inr (4, [.ref q0, .int 0])), (q0, ctE cy 1 16)] H := hP
  have hD : va_D A [(h0, .inr (4, [.ref q0, .int 0])), (q0, ctE cy 1 16)] := hD
  refine W.widen (k := 1) (n := 16) (Nat.le_of_ble_eq_true rfl) (Nat.le_of_ble_eq_true rfl) ?_
  exact W.vret hx hb hr (fun t ht hW => ⟨⟨[q0], rfl, trivial, by rw [ht]; exact hP, hD⟩, hS.F ht⟩) hS.2.2 (by decide +kernel : decode prog_6_method_1_code 12 = .ok (.return_, 1))
def cwX6 (cy : hq_C3) (h0 : Nat) (u : List Nat) : va_W := [(h0, .inr (6, [.ref (u.getD 0 0), .int 0, .int 0, .int 0])), (u.getD 0 0, ctE cy 0 80)]
def cfX6 : List Value := [.null, .int 0, .int 0, .int 0]
set_option maxHeartbeats 4000000 in
set_option maxRecDepth 100000 in
theorem ct_X6 (l : Launch) (D : va_G) (cy : hq_C3) (h0 sz : Nat) : Met l ⟨"HingesOnHire$Signs", "<init>", "()V"⟩ (Cond.code ⟨"HingesOnHire$Signs", "<init>", "()V"⟩ prog_8_method_1_code 1 none :: hq_tbl) { frames := 1, cells := 1, slots := 80, locals := 12 } (ctP D cy 6 cfX6 h0 sz) (ctQ D (cwX6 cy h0) (va_A [(h0, .inr (6, cfX6))] sz)) 1 80 (va_A [(h0, .inr (6, cfX6))] sz) := by
  refine Met.ofW (cc := prog_8_method_1_code) (maxL := 1) (ret := none) (by decide) rfl ?_
  intro p e s m args below meth c s₁ B hml hv
  obtain ⟨rfl, hsz, hP, hK, hD0⟩ := hv
  have hx := B.exec
  have hb := B.bytes
  have hr := B.returns
  have hts := atoms_spec (ws := Cond.code ⟨"HingesOnHire$Signs", "<init>", "()V"⟩ prog_8_method_1_code 1 none :: hq_tbl) B.pre
  have hown : s.vm.findClass "HingesOnHire$Signs" = some m.cls := findClass_of_methodNamed B.named
  have hin : meth.name = "<init>" := (name_of_methodNamed B.named B.method).1
  subst hsz
  have hD := hD0.self (sz := s.heap.size)
  generalize hAe : va_A [(h0, .inr (6, cfX6))] s.heap.size = A at hD ⊢
  have hA : ∀ q : Nat, s.heap.size ≤ q → A q := fun q h => by rw [← hAe]; exact Or.inr h
  have hS : va_S A s.heap s.heap [] := va_S.rf
  have hl := lv_entry ([.ref h0]) (n := 1) (Nat.le_of_ble_eq_true rfl)
  rw [lg_entry_eq]
  generalize (lg_sl ([.ref h0]) ++ List.replicate (1 - (lg_sl ([.ref h0])).length) Slot.unset).toArray = ls at hl ⊢
  have hl : lv_has ls 1 [(0, .ref h0)] := hl
  have hCt : ctC p s m _ meth c D cy _ _ _ := ⟨hx, hb, hown, hts, fun w hw => List.mem_cons_of_mem _ hw, hK, hin⟩
  refine lv_aload_n hx hb (by decide +kernel : decode prog_8_method_1_code 0 = .ok (.aload_n 0, 1)) rfl (lv_at hl 0 rfl) ?_
  refine W.objInit hx hb hown (hts _ (List.mem_cons_of_mem _ (hq_w_in (ts := [1, 36]) (w := .methodLink "HingesOnHire$Signs" 3 Lib.objectInit) (by decide +kernel) rfl))) (hts _ (List.mem_cons_of_mem _ (hq_w_in (ts := [1, 29]) (w := .instanceMethod Lib.objectInit) (by decide +kernel) rfl))) (hts _ (List.mem_cons_of_mem _ (hq_w_in (ts := [1, 30]) (w := .code Lib.objectInit ⟨#[0xb1]⟩ 1 none) (by decide +kernel) rfl))) rfl (by rw [hml]; exact hl.1) rfl (by decide +kernel : decode prog_8_method_1_code 1 = .ok (.invokespecial 3, 3)) (Nat.le_of_ble_eq_true rfl) (Nat.le_of_ble_eq_true rfl) ?_
  refine W.eq (g2 := F0 m 4 ls []) rfl ?_
  refine ct_arr0 hCt (ci := 6) (n := 80) (k := 0) (idx := 11) (pc := 4) (pc2 := 7) rfl rfl (lv_at hl 0 rfl) hP hD hS hA rfl (by decide) (Nat.le_of_ble_eq_true rfl) (by decide +kernel) rfl rfl (tq := [1, 37]) (by decide +kernel) (by decide) (Nat.le_of_ble_eq_true rfl) (Nat.le_of_ble_eq_true rfl) (by decide +kernel) (fun k => lv_bipush (n := 80) (v := nI 80) hx hb (by decide +kernel) (by decide) k) (by decide +kernel) (by decide +kernel) (fun q0 H locs hP hD hS => ?_)
  have hP : va_P D vwCl [(h0, .inr (6, [.ref q0, .int 0, .int 0, .int 0])), (q0, ctE cy 0 80)] H := hP
  have hD : va_D A [(h0, .inr (6, [.ref q0, .int 0, .int 0, .int 0])), (q0, ctE cy 0 80)] := hD
  refine W.widen (k := 1) (n := 80) (Nat.le_of_ble_eq_true rfl) (Nat.le_of_ble_eq_true rfl) ?_
  exact W.vret hx hb hr (fun t ht hW => ⟨⟨[q0], rfl, trivial, by rw [ht]; exact hP, hD⟩, hS.F ht⟩) hS.2.2 (by decide +kernel : decode prog_8_method_1_code 12 = .ok (.return_, 1))
def cwX0 (cy : hq_C3) (h0 : Nat) (u : List Nat) : va_W := [(h0, .inr (0, [.ref (u.getD 0 0), .ref (u.getD 1 0), .int 0, .int 0])), (u.getD 0 0, ctE cy 0 8), (u.getD 1 0, ctE cy 0 12)]
def cfX0 : List Value := [.null, .null, .int 0, .int 0]
set_option maxHeartbeats 4000000 in
set_option maxRecDepth 100000 in
theorem ct_X0 (l : Launch) (D : va_G) (cy : hq_C3) (h0 sz : Nat) : Met l ⟨"HingesOnHire$Builder", "<init>", "()V"⟩ (Cond.code ⟨"HingesOnHire$Builder", "<init>", "()V"⟩ prog_2_method_1_code 1 none :: hq_tbl) { frames := 1, cells := 2, slots := 20, locals := 12 } (ctP D cy 0 cfX0 h0 sz) (ctQ D (cwX0 cy h0) (va_A [(h0, .inr (0, cfX0))] sz)) 2 20 (va_A [(h0, .inr (0, cfX0))] sz) := by
  refine Met.ofW (cc := prog_2_method_1_code) (maxL := 1) (ret := none) (by decide) rfl ?_
  intro p e s m args below meth c s₁ B hml hv
  obtain ⟨rfl, hsz, hP, hK, hD0⟩ := hv
  have hx := B.exec
  have hb := B.bytes
  have hr := B.returns
  have hts := atoms_spec (ws := Cond.code ⟨"HingesOnHire$Builder", "<init>", "()V"⟩ prog_2_method_1_code 1 none :: hq_tbl) B.pre
  have hown : s.vm.findClass "HingesOnHire$Builder" = some m.cls := findClass_of_methodNamed B.named
  have hin : meth.name = "<init>" := (name_of_methodNamed B.named B.method).1
  subst hsz
  have hD := hD0.self (sz := s.heap.size)
  generalize hAe : va_A [(h0, .inr (0, cfX0))] s.heap.size = A at hD ⊢
  have hA : ∀ q : Nat, s.heap.size ≤ q → A q := fun q h => by rw [← hAe]; exact Or.inr h
  have hS : va_S A s.heap s.heap [] := va_S.rf
  have hl := lv_entry ([.ref h0]) (n := 1) (Nat.le_of_ble_eq_true rfl)
  rw [lg_entry_eq]
  generalize (lg_sl ([.ref h0]) ++ List.replicate (1 - (lg_sl ([.ref h0])).length) Slot.unset).toArray = ls at hl ⊢
  have hl : lv_has ls 1 [(0, .ref h0)] := hl
  have hCt : ctC p s m _ meth c D cy _ _ _ := ⟨hx, hb, hown, hts, fun w hw => List.mem_cons_of_mem _ hw, hK, hin⟩
  refine lv_aload_n hx hb (by decide +kernel : decode prog_2_method_1_code 0 = .ok (.aload_n 0, 1)) rfl (lv_at hl 0 rfl) ?_
  refine W.objInit hx hb hown (hts _ (List.mem_cons_of_mem _ (hq_w_in (ts := [1, 239]) (w := .methodLink "HingesOnHire$Builder" 3 Lib.objectInit) (by decide +kernel) rfl))) (hts _ (List.mem_cons_of_mem _ (hq_w_in (ts := [1, 29]) (w := .instanceMethod Lib.objectInit) (by decide +kernel) rfl))) (hts _ (List.mem_cons_of_mem _ (hq_w_in (ts := [1, 30]) (w := .code Lib.objectInit ⟨#[0xb1]⟩ 1 none) (by decide +kernel) rfl))) rfl (by rw [hml]; exact hl.1) rfl (by decide +kernel : decode prog_2_method_1_code 1 = .ok (.invokespecial 3, 3)) (Nat.le_of_ble_eq_true rfl) (Nat.le_of_ble_eq_true rfl) ?_
  refine W.eq (g2 := F0 m 4 ls []) rfl ?_
  refine ct_arr0 hCt (ci := 0) (n := 8) (k := 0) (idx := 9) (pc := 4) (pc2 := 7) rfl rfl (lv_at hl 0 rfl) hP hD hS hA rfl (by decide) (Nat.le_of_ble_eq_true rfl) (by decide +kernel) rfl rfl (tq := [2, 0]) (by decide +kernel) (by decide) (Nat.le_of_ble_eq_true rfl) (Nat.le_of_ble_eq_true rfl) (by decide +kernel) (fun k => lv_bipush (n := 8) (v := nI 8) hx hb (by decide +kernel) (by decide) k) (by decide +kernel) (by decide +kernel) (fun q0 H locs hP hD hS => ?_)
  have hP : va_P D vwCl [(h0, .inr (0, [.ref q0, .null, .int 0, .int 0])), (q0, ctE cy 0 8)] H := hP
  have hD : va_D A [(h0, .inr (0, [.ref q0, .null, .int 0, .int 0])), (q0, ctE cy 0 8)] := hD
  refine ct_arr0 hCt (ci := 0) (n := 12) (k := 1) (idx := 15) (pc := 12) (pc2 := 15) rfl rfl (lv_at hl 0 rfl) hP hD hS hA rfl (by decide) (Nat.le_of_ble_eq_true rfl) (by decide +kernel) rfl rfl (tq := [2, 1]) (by decide +kernel) (by decide) (Nat.le_of_ble_eq_true rfl) (Nat.le_of_ble_eq_true rfl) (by decide +kernel) (fun k => lv_bipush (n := 12) (v := nI 12) hx hb (by decide +kernel) (by decide) k) (by decide +kernel) (by decide +kernel) (fun q1 H locs hP hD hS => ?_)
  have hP : va_P D vwCl [(h0, .inr (0, [.ref q0, .ref q1, .int 0, .int 0])), (q0, ctE cy 0 8), (q1, ctE cy 0 12)] H := hP
  have hD : va_D A [(h0, .inr (0, [.ref q0, .ref q1, .int 0, .int 0])), (q0, ctE cy 0 8), (q1, ctE cy 0 12)] := hD
  refine W.widen (k := 2) (n := 20) (Nat.le_of_ble_eq_true rfl) (Nat.le_of_ble_eq_true rfl) ?_
  exact W.vret hx hb hr (fun t ht hW => ⟨⟨[q0, q1], rfl, trivial, by rw [ht]; exact hP, hD⟩, hS.F ht⟩) hS.2.2 (by decide +kernel : decode prog_2_method_1_code 20 = .ok (.return_, 1))
def cwX5 (cy : hq_C3) (h0 : Nat) (u : List Nat) : va_W := [(h0, .inr (5, [.ref (u.getD 0 0), .ref (u.getD 1 0), .ref (u.getD 2 0), .int 0, .int 0])), (u.getD 0 0, ctE cy 0 40), (u.getD 1 0, ctE cy 0 40), (u.getD 2 0, ctE cy 0 41)]
def cfX5 : List Value := [.null, .null, .null, .int 0, .int 0]
set_option maxHeartbeats 4000000 in
set_option maxRecDepth 100000 in
theorem ct_X5 (l : Launch) (D : va_G) (cy : hq_C3) (h0 sz : Nat) : Met l ⟨"HingesOnHire$Rule", "<init>", "()V"⟩ (Cond.code ⟨"HingesOnHire$Rule", "<init>", "()V"⟩ prog_7_method_1_code 1 none :: hq_tbl) { frames := 1, cells := 3, slots := 121, locals := 12 } (ctP D cy 5 cfX5 h0 sz) (ctQ D (cwX5 cy h0) (va_A [(h0, .inr (5, cfX5))] sz)) 3 121 (va_A [(h0, .inr (5, cfX5))] sz) := by
  refine Met.ofW (cc := prog_7_method_1_code) (maxL := 1) (ret := none) (by decide) rfl ?_
  intro p e s m args below meth c s₁ B hml hv
  obtain ⟨rfl, hsz, hP, hK, hD0⟩ := hv
  have hx := B.exec
  have hb := B.bytes
  have hr := B.returns
  have hts := atoms_spec (ws := Cond.code ⟨"HingesOnHire$Rule", "<init>", "()V"⟩ prog_7_method_1_code 1 none :: hq_tbl) B.pre
  have hown : s.vm.findClass "HingesOnHire$Rule" = some m.cls := findClass_of_methodNamed B.named
  have hin : meth.name = "<init>" := (name_of_methodNamed B.named B.method).1
  subst hsz
  have hD := hD0.self (sz := s.heap.size)
  generalize hAe : va_A [(h0, .inr (5, cfX5))] s.heap.size = A at hD ⊢
  have hA : ∀ q : Nat, s.heap.size ≤ q → A q := fun q h => by rw [← hAe]; exact Or.inr h
  have hS : va_S A s.heap s.heap [] := va_S.rf
  have hl := lv_entry ([.ref h0]) (n := 1) (Nat.le_of_ble_eq_true rfl)
  rw [lg_entry_eq]
  generalize (lg_sl ([.ref h0]) ++ List.replicate (1 - (lg_sl ([.ref h0])).length) Slot.unset).toArray = ls at hl ⊢
  have hl : lv_has ls 1 [(0, .ref h0)] := hl
  have hCt : ctC p s m _ meth c D cy _ _ _ := ⟨hx, hb, hown, hts, fun w hw => List.mem_cons_of_mem _ hw, hK, hin⟩
  refine lv_aload_n hx hb (by decide +kernel : decode prog_7_method_1_code 0 = .ok (.aload_n 0, 1)) rfl (lv_at hl 0 rfl) ?_
  refine W.objInit hx hb hown (hts _ (List.mem_cons_of_mem _ (hq_w_in (ts := [1, 217]) (w := .methodLink "HingesOnHire$Rule" 3 Lib.objectInit) (by decide +kernel) rfl))) (hts _ (List.mem_cons_of_mem _ (hq_w_in (ts := [1, 29]) (w := .instanceMethod Lib.objectInit) (by decide +kernel) rfl))) (hts _ (List.mem_cons_of_mem _ (hq_w_in (ts := [1, 30]) (w := .code Lib.objectInit ⟨#[0xb1]⟩ 1 none) (by decide +kernel) rfl))) rfl (by rw [hml]; exact hl.1) rfl (by decide +kernel : decode prog_7_method_1_code 1 = .ok (.invokespecial 3, 3)) (Nat.le_of_ble_eq_true rfl) (Nat.le_of_ble_eq_true rfl) ?_
  refine W.eq (g2 := F0 m 4 ls []) rfl ?_
  refine ct_arr0 hCt (ci := 5) (n := 40) (k := 0) (idx := 9) (pc := 4) (pc2 := 7) rfl rfl (lv_at hl 0 rfl) hP hD hS hA rfl (by decide) (Nat.le_of_ble_eq_true rfl) (by decide +kernel) rfl rfl (tq := [1, 218]) (by decide +kernel) (by decide) (Nat.le_of_ble_eq_true rfl) (Nat.le_of_ble_eq_true rfl) (by decide +kernel) (fun k => lv_bipush (n := 40) (v := nI 40) hx hb (by decide +kernel) (by decide) k) (by decide +kernel) (by decide +kernel) (fun q0 H locs hP hD hS => ?_)
  have hP : va_P D vwCl [(h0, .inr (5, [.ref q0, .null, .null, .int 0, .int 0])), (q0, ctE cy 0 40)] H := hP
  have hD : va_D A [(h0, .inr (5, [.ref q0, .null, .null, .int 0, .int 0])), (q0, ctE cy 0 40)] := hD
  refine ct_arr0 hCt (ci := 5) (n := 40) (k := 1) (idx := 15) (pc := 12) (pc2 := 15) rfl rfl (lv_at hl 0 rfl) hP hD hS hA rfl (by decide) (Nat.le_of_ble_eq_true rfl) (by decide +kernel) rfl rfl (tq := [1, 219]) (by decide +kernel) (by decide) (Nat.le_of_ble_eq_true rfl) (Nat.le_of_ble_eq_true rfl) (by decide +kernel) (fun k => lv_bipush (n := 40) (v := nI 40) hx hb (by decide +kernel) (by decide) k) (by decide +kernel) (by decide +kernel) (fun q1 H locs hP hD hS => ?_)
  have hP : va_P D vwCl [(h0, .inr (5, [.ref q0, .ref q1, .null, .int 0, .int 0])), (q0, ctE cy 0 40), (q1, ctE cy 0 40)] H := hP
  have hD : va_D A [(h0, .inr (5, [.ref q0, .ref q1, .null, .int 0, .int 0])), (q0, ctE cy 0 40), (q1, ctE cy 0 40)] := hD
  refine ct_arr0 hCt (ci := 5) (n := 41) (k := 2) (idx := 18) (pc := 20) (pc2 := 23) rfl rfl (lv_at hl 0 rfl) hP hD hS hA rfl (by decide) (Nat.le_of_ble_eq_true rfl) (by decide +kernel) rfl rfl (tq := [1, 220]) (by decide +kernel) (by decide) (Nat.le_of_ble_eq_true rfl) (Nat.le_of_ble_eq_true rfl) (by decide +kernel) (fun k => lv_bipush (n := 41) (v := nI 41) hx hb (by decide +kernel) (by decide) k) (by decide +kernel) (by decide +kernel) (fun q2 H locs hP hD hS => ?_)
  have hP : va_P D vwCl [(h0, .inr (5, [.ref q0, .ref q1, .ref q2, .int 0, .int 0])), (q0, ctE cy 0 40), (q1, ctE cy 0 40), (q2, ctE cy 0 41)] H := hP
  have hD : va_D A [(h0, .inr (5, [.ref q0, .ref q1, .ref q2, .int 0, .int 0])), (q0, ctE cy 0 40), (q1, ctE cy 0 40), (q2, ctE cy 0 41)] := hD
  refine W.widen (k := 3) (n := 121) (Nat.le_of_ble_eq_true rfl) (Nat.le_of_ble_eq_true rfl) ?_
  exact W.vret hx hb hr (fun t ht hW => ⟨⟨[q0, q1, q2], rfl, trivial, by rw [ht]; exact hP, hD⟩, hS.F ht⟩) hS.2.2 (by decide +kernel : decode prog_7_method_1_code 28 = .ok (.return_, 1))
