/-! The constructors: one array made and put, by kind -/
def ctE (cy : hq_C3) (kd n : Nat) : va_E := if kd = 0 then .inl (cy.1, n, .inl (fun _ => 0)) else if kd = 1 then .inl (cy.2.1, n, .inr (.inl (fun _ => 0))) else .inl (cy.2.2, n, .inl (fun _ => 0))
def ctC (p : Program) (s : State) (m : MethodId) (args : Array Value) (meth : Method) (c : Code) (D : va_G) (cy : hq_C3) (Ts : List Cond) (cc : ByteArray) (own : String) : Prop := p.tables.exec = Jvm.exec ∧ c.code = cc ∧ s.vm.findClass own = some m.cls ∧ (∀ w ∈ Ts, w.before args s = true) ∧ (∀ w ∈ hq_tbl, w ∈ Ts) ∧ va_K D vwCl (hq_tys cy) s ∧ meth.name = "<init>"
section CT
variable {p : Program} {l : Launch} {e : Env} {R : Room} {s : State} {m : MethodId} {args : Array Value} {below : List Frame} {meth : Method} {c : Code} {H H0 : Heap} {locs : List Loc} {cells slots : Nat} {Q : State → Prop} {D : va_G} {cy : hq_C3} {A : Nat → Prop} {ws : va_W} {ls : Array Slot} {cc : ByteArray} {Ts : List Cond} {own : String}
theorem ct_arr0 (C : ctC p s m args meth c D cy Ts cc own) {ci h0 n k idx pc pc2 : Nat} {q : vw_C} (hq : vwCl[ci]? = some q) (hC : q.1 = own) (hl : ls[0]? = some (.val (.ref h0))) (hP : va_P D vwCl ws H) (hD : va_D A ws) (hS : va_S A H0 H locs) (hA : ∀ q, H0.size ≤ q → A q) {fs : List Value} (hw : ws[0]? = some (h0, .inr (ci, fs))) (hk : k < q.2.2) (hkf : k < fs.length) (hdesc : parseFieldDescriptor (q.2.1 k).2.2.1 = some (.array FieldType.int)) (hfin : (q.2.1 k).2.2.2 = true) (hdecl : (q.2.1 k).1 = own) {tq : List Nat} (hlink : hq_w tq = some (Cond.fieldLink own idx own (q.2.1 k).2.1 (q.2.1 k).2.2.1)) (hn : n ≤ 36864)
    (hc1 : cells + 1 ≤ R.cells) (hs1 : slots + n ≤ R.slots) (d1 : decode cc pc = .ok (.aload_n 0, 1)) (push : W p l e R s m args below meth c H locs cells slots Q (F0 m pc2 ls [.int (nI n), .ref h0]) → W p l e R s m args below meth c H locs cells slots Q (F0 m (pc + 1) ls [.ref h0])) (d3 : decode cc pc2 = .ok (.newarray .int, 2)) (d4 : decode cc (pc2 + 2) = .ok (.putfield idx, 3))
    (kk : ∀ (qa : Nat) (H1 : Heap) (locs1 : List Loc), va_P D vwCl ((ws ++ [(qa, ctE cy 0 n)]).set 0 (h0, .inr (ci, fs.set k (.ref qa)))) H1 → va_D A ((ws ++ [(qa, ctE cy 0 n)]).set 0 (h0, .inr (ci, fs.set k (.ref qa)))) → va_S A H0 H1 locs1 → W p l e R s m args below meth c H1 locs1 (cells + 1) (slots + n) Q (F0 m (pc2 + 5) ls [])) : W p l e R s m args below meth c H locs cells slots Q (F0 m pc ls []) := by
  obtain ⟨hx, hb, hown, hts, hin, hK, hinit⟩ := C
  obtain ⟨hcw, ty0, hty, hnm⟩ := hq_cls hq
  obtain ⟨C0, T0, N0⟩ := q
  dsimp only at hC hk hdesc hfin hdecl hlink hty hnm hcw
  subst hC
  refine lv_aload_n hx hb d1 rfl hl (push ?_)
  refine va_newa (atype := .int) (ty := FieldType.int) (a0 := (n, .inl (fun _ => 0))) hx hb (hts _ (hin _ (hq_w_in (ts := [1, 56]) (w := Cond.arrayClass FieldType.int) (by decide +kernel) rfl))) rfl hK hP hD hS hA (fun cA => rfl) (by rw [ltz, nI_toInt (by omega)]; omega) (by show (nI n).toInt.toNat = n; rw [nI_toInt (by omega)]; omega) (by show n * _ ≤ _; simp [componentBytes]; omega) hc1 hs1 d3 (fun qa cA H1 hK1 hP1 hD1 hS1 => ?_)
  have e1 := (hK.2 0 _ rfl).2
  have e2 := (hK1.2 3 _ rfl).2
  have e3 : cA = cy.1 := Option.some.inj (e2.symm.trans e1)
  subst e3
  have hw1 : (ws ++ [(qa, ctE cy 0 n)])[0]? = some (h0, .inr (ci, fs)) := by rw [List.getElem?_append_left (by rcases ws with _ | ⟨a, r⟩ <;> simp at hw ⊢)]; exact hw
  refine va_putF (D := D) (ci := ci) (v := .ref qa) (ty := .array FieldType.int) (C := C0) (T := T0) (N := N0) hx hb hts (fun w h => hin w (hcw w h)) ty0 hty hnm hown hK1 hP1 hD1 hS1 0 hw1 hq k hk (hts _ (hin _ (hq_w_in hlink rfl))) (fun _ h9 => by rw [hdecl] at h9; exact h9) hfin hinit hdecl hdesc rfl rfl hkf d4 (fun H2 locs2 hP2 hD2 hS2 => ?_)
  exact kk qa H2 locs2 hP2 hD2 hS2
theorem ct_arr1 (C : ctC p s m args meth c D cy Ts cc own) {ci h0 n k idx pc pc2 : Nat} {q : vw_C} (hq : vwCl[ci]? = some q) (hC : q.1 = own) (hl : ls[0]? = some (.val (.ref h0))) (hP : va_P D vwCl ws H) (hD : va_D A ws) (hS : va_S A H0 H locs) (hA : ∀ q, H0.size ≤ q → A q) {fs : List Value} (hw : ws[0]? = some (h0, .inr (ci, fs))) (hk : k < q.2.2) (hkf : k < fs.length) (hdesc : parseFieldDescriptor (q.2.1 k).2.2.1 = some (.array FieldType.long)) (hfin : (q.2.1 k).2.2.2 = true) (hdecl : (q.2.1 k).1 = own) {tq : List Nat} (hlink : hq_w tq = some (Cond.fieldLink own idx own (q.2.1 k).2.1 (q.2.1 k).2.2.1)) (hn : n ≤ 36864)
    (hc1 : cells + 1 ≤ R.cells) (hs1 : slots + n ≤ R.slots) (d1 : decode cc pc = .ok (.aload_n 0, 1)) (push : W p l e R s m args below meth c H locs cells slots Q (F0 m pc2 ls [.int (nI n), .ref h0]) → W p l e R s m args below meth c H locs cells slots Q (F0 m (pc + 1) ls [.ref h0])) (d3 : decode cc pc2 = .ok (.newarray .long, 2)) (d4 : decode cc (pc2 + 2) = .ok (.putfield idx, 3))
    (kk : ∀ (qa : Nat) (H1 : Heap) (locs1 : List Loc), va_P D vwCl ((ws ++ [(qa, ctE cy 1 n)]).set 0 (h0, .inr (ci, fs.set k (.ref qa)))) H1 → va_D A ((ws ++ [(qa, ctE cy 1 n)]).set 0 (h0, .inr (ci, fs.set k (.ref qa)))) → va_S A H0 H1 locs1 → W p l e R s m args below meth c H1 locs1 (cells + 1) (slots + n) Q (F0 m (pc2 + 5) ls [])) : W p l e R s m args below meth c H locs cells slots Q (F0 m pc ls []) := by
  obtain ⟨hx, hb, hown, hts, hin, hK, hinit⟩ := C
  obtain ⟨hcw, ty0, hty, hnm⟩ := hq_cls hq
  obtain ⟨C0, T0, N0⟩ := q
  dsimp only at hC hk hdesc hfin hdecl hlink hty hnm hcw
  subst hC
  refine lv_aload_n hx hb d1 rfl hl (push ?_)
  refine va_newa (atype := .long) (ty := FieldType.long) (a0 := (n, .inr (.inl (fun _ => 0)))) hx hb (hts _ (hin _ (hq_w_in (ts := [1, 72]) (w := Cond.arrayClass FieldType.long) (by decide +kernel) rfl))) rfl hK hP hD hS hA (fun cA => rfl) (by rw [ltz, nI_toInt (by omega)]; omega) (by show (nI n).toInt.toNat = n; rw [nI_toInt (by omega)]; omega) (by show n * _ ≤ _; simp [componentBytes]; omega) hc1 hs1 d3 (fun qa cA H1 hK1 hP1 hD1 hS1 => ?_)
  have e1 := (hK.2 1 _ rfl).2
  have e2 := (hK1.2 3 _ rfl).2
  have e3 : cA = cy.2.1 := Option.some.inj (e2.symm.trans e1)
  subst e3
  have hw1 : (ws ++ [(qa, ctE cy 1 n)])[0]? = some (h0, .inr (ci, fs)) := by rw [List.getElem?_append_left (by rcases ws with _ | ⟨a, r⟩ <;> simp at hw ⊢)]; exact hw
  refine va_putF (D := D) (ci := ci) (v := .ref qa) (ty := .array FieldType.long) (C := C0) (T := T0) (N := N0) hx hb hts (fun w h => hin w (hcw w h)) ty0 hty hnm hown hK1 hP1 hD1 hS1 0 hw1 hq k hk (hts _ (hin _ (hq_w_in hlink rfl))) (fun _ h9 => by rw [hdecl] at h9; exact h9) hfin hinit hdecl hdesc rfl rfl hkf d4 (fun H2 locs2 hP2 hD2 hS2 => ?_)
  exact kk qa H2 locs2 hP2 hD2 hS2
theorem ct_arr2 (C : ctC p s m args meth c D cy Ts cc own) {ci h0 n k idx pc pc2 : Nat} {q : vw_C} (hq : vwCl[ci]? = some q) (hC : q.1 = own) (hl : ls[0]? = some (.val (.ref h0))) (hP : va_P D vwCl ws H) (hD : va_D A ws) (hS : va_S A H0 H locs) (hA : ∀ q, H0.size ≤ q → A q) {fs : List Value} (hw : ws[0]? = some (h0, .inr (ci, fs))) (hk : k < q.2.2) (hkf : k < fs.length) (hdesc : parseFieldDescriptor (q.2.1 k).2.2.1 = some (.array FieldType.boolean)) (hfin : (q.2.1 k).2.2.2 = true) (hdecl : (q.2.1 k).1 = own) {tq : List Nat} (hlink : hq_w tq = some (Cond.fieldLink own idx own (q.2.1 k).2.1 (q.2.1 k).2.2.1)) (hn : n ≤ 36864)
    (hc1 : cells + 1 ≤ R.cells) (hs1 : slots + n ≤ R.slots) (d1 : decode cc pc = .ok (.aload_n 0, 1)) (push : W p l e R s m args below meth c H locs cells slots Q (F0 m pc2 ls [.int (nI n), .ref h0]) → W p l e R s m args below meth c H locs cells slots Q (F0 m (pc + 1) ls [.ref h0])) (d3 : decode cc pc2 = .ok (.newarray .boolean, 2)) (d4 : decode cc (pc2 + 2) = .ok (.putfield idx, 3))
    (kk : ∀ (qa : Nat) (H1 : Heap) (locs1 : List Loc), va_P D vwCl ((ws ++ [(qa, ctE cy 2 n)]).set 0 (h0, .inr (ci, fs.set k (.ref qa)))) H1 → va_D A ((ws ++ [(qa, ctE cy 2 n)]).set 0 (h0, .inr (ci, fs.set k (.ref qa)))) → va_S A H0 H1 locs1 → W p l e R s m args below meth c H1 locs1 (cells + 1) (slots + n) Q (F0 m (pc2 + 5) ls [])) : W p l e R s m args below meth c H locs cells slots Q (F0 m pc ls []) := by
  obtain ⟨hx, hb, hown, hts, hin, hK, hinit⟩ := C
  obtain ⟨hcw, ty0, hty, hnm⟩ := hq_cls hq
  obtain ⟨C0, T0, N0⟩ := q
  dsimp only at hC hk hdesc hfin hdecl hlink hty hnm hcw
  subst hC
  refine lv_aload_n hx hb d1 rfl hl (push ?_)
  refine va_newa (atype := .boolean) (ty := FieldType.boolean) (a0 := (n, .inl (fun _ => 0))) hx hb (hts _ (hin _ (hq_w_in (ts := [1, 211]) (w := Cond.arrayClass FieldType.boolean) (by decide +kernel) rfl))) rfl hK hP hD hS hA (fun cA => rfl) (by rw [ltz, nI_toInt (by omega)]; omega) (by show (nI n).toInt.toNat = n; rw [nI_toInt (by omega)]; omega) (by show n * _ ≤ _; simp [componentBytes]; omega) hc1 hs1 d3 (fun qa cA H1 hK1 hP1 hD1 hS1 => ?_)
  have e1 := (hK.2 2 _ rfl).2
  have e2 := (hK1.2 3 _ rfl).2
  have e3 : cA = cy.2.2 := Option.some.inj (e2.symm.trans e1)
  subst e3
  have hw1 : (ws ++ [(qa, ctE cy 2 n)])[0]? = some (h0, .inr (ci, fs)) := by rw [List.getElem?_append_left (by rcases ws with _ | ⟨a, r⟩ <;> simp at hw ⊢)]; exact hw
  refine va_putF (D := D) (ci := ci) (v := .ref qa) (ty := .array FieldType.boolean) (C := C0) (T := T0) (N := N0) hx hb hts (fun w h => hin w (hcw w h)) ty0 hty hnm hown hK1 hP1 hD1 hS1 0 hw1 hq k hk (hts _ (hin _ (hq_w_in hlink rfl))) (fun _ h9 => by rw [hdecl] at h9; exact h9) hfin hinit hdecl hdesc rfl rfl hkf d4 (fun H2 locs2 hP2 hD2 hS2 => ?_)
  exact kk qa H2 locs2 hP2 hD2 hS2
end CT
