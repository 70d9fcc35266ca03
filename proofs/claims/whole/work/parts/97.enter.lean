/-! The law's first instructions: the world is made -/
def lw_ad (qa : Nat) (u : List Nat) (qm : Nat) (um : List Nat) (qo : Nat) (adK : Nat → Nat) (b : Nat) : Nat → Nat := fun c => if c < 86 then ([qa, u.getD 0 0, u.getD 1 0, u.getD 2 0, u.getD 3 0, u.getD 4 0, u.getD 5 0, u.getD 6 0, u.getD 7 0, u.getD 8 0, u.getD 9 0, u.getD 10 0, u.getD 11 0, u.getD 12 0, u.getD 13 0, u.getD 14 0, u.getD 15 0, u.getD 16 0, u.getD 17 0, u.getD 18 0, u.getD 19 0, u.getD 20 0, u.getD 21 0, u.getD 22 0, u.getD 23 0, u.getD 24 0, u.getD 25 0, u.getD 26 0, u.getD 27 0, u.getD 28 0, u.getD 29 0, u.getD 30 0, u.getD 31 0, u.getD 32 0, u.getD 33 0, u.getD 34 0, u.getD 35 0, u.getD 36 0, u.getD 37 0, u.getD 38 0, u.getD 39 0, u.getD 40 0, u.getD 41 0, u.getD 42 0, u.getD 43 0, u.getD 44 0, u.getD 45 0, u.getD 46 0, u.getD 47 0, u.getD 48 0, u.getD 49 0, u.getD 50 0, qm, um.getD 0 0, um.getD 1 0, um.getD 2 0, um.getD 3 0, um.getD 4 0, um.getD 5 0, um.getD 6 0, um.getD 7 0, um.getD 8 0, um.getD 9 0, um.getD 10 0, um.getD 11 0, um.getD 12 0, um.getD 13 0, um.getD 14 0, um.getD 15 0, um.getD 16 0, um.getD 17 0, um.getD 18 0, um.getD 19 0, um.getD 20 0, um.getD 21 0, um.getD 22 0, um.getD 23 0, um.getD 24 0, um.getD 25 0, um.getD 26 0, um.getD 27 0, um.getD 28 0, um.getD 29 0, um.getD 30 0, um.getD 31 0, qo] : List Nat).getD c 0 else if c < 2000 then adK (c - 1000) else b
set_option maxRecDepth 100000 in
set_option maxHeartbeats 4000000 in
theorem lw_world (cy : hq_C3) (qa : Nat) (u : List Nat) (qm : Nat) (um : List Nat) (qo : Nat) (adK : Nat → Nat) (b : Nat) : hq_ws cy (lw_ad qa u qm um qo adK b) hq_z = cwX9 cy qa u ++ cwX10 cy qm um ++ [(qo, ctE cy 1 1)] := rfl
def lw_S : Nat := 46450
set_option maxRecDepth 100000 in
set_option maxHeartbeats 8000000 in
theorem lw_enter {p : Program} {l : Launch} {e : Env} {s : State} {m : MethodId} {below : List Frame} {meth : Method} {c : Code} {b n : Nat} {xs : Nat → Int32} (C0 : lw_At p s m meth c b n xs) (kk : ∀ (D : va_G) (cy : hq_C3) (ad av : Nat → Nat), lwC p s m meth c b n xs D cy ad av → ∀ (H : Heap) (locs : List Loc) (ls : Array Slot), hq_now D cy ad (lwA s) s.heap H locs ls 8 (LL 0) hq_z → W p l e room_1 s m #[Value.ref b] below meth c H locs 86 46450 (lw_Z below #[Value.ref b] s) (F0 m 23 ls [])) : W p l e room_1 s m #[Value.ref b] below meth c s.heap [] 0 0 (lw_Z below #[Value.ref b] s) (entryFrame m ([Value.ref b] : List Value).toArray 8) := by
  obtain ⟨hx, hb, hr, hml, hown, hts, hX, hbl, hlocks, hgv⟩ := id C0
  have hown : s.vm.findClass "HingesOnHireLaw" = some m.cls := hown
  have hin : ∀ w ∈ hq_tbl, w ∈ lw_tbl := fun w h => (hq_good w h).1
  obtain ⟨D, cy, hK⟩ := lw_cls hts
  obtain ⟨adK, adV, hV, hRr⟩ := lw_strs hts hgv
  have hSx := lw_sx hts hgv
  have hA : ∀ q : Nat, s.heap.size ≤ q → lwA s q := fun _ h => h
  have hS : va_S (lwA s) s.heap s.heap [] := va_S.rf
  have hP : va_P D vwCl [] s.heap := fun k q h => by simp at h
  have hD : va_D (lwA s) [] := ⟨fun i j p q h => by simp at h, fun k q h => by simp at h⟩
  have hl := lv_entry ([.ref b]) (n := 8) (Nat.le_of_ble_eq_true rfl)
  rw [lg_entry_eq]
  generalize (lg_sl ([.ref b]) ++ List.replicate (8 - (lg_sl ([.ref b])).length) Slot.unset).toArray = ls at hl ⊢
  have hl : lv_has ls 8 [(0, .ref b)] := hl
  refine ct_new (ci := 9) (fs := cfX9) (w2 := cwX9 cy) (i1 := 8) (i2 := 22) (pc := 0) (nL := 8) hx hb hown hts hin hK hml hl.1 (rest := []) (Nat.le_of_ble_eq_true rfl) hP hD hS hA rfl (by decide +kernel) (ct_X9 l D cy) (t1 := [1, 23]) (t2 := [1, 24]) (t3 := [1, 1]) (t4 := [1, 25]) (t5 := [1, 26]) (t6 := [1, 27]) (by decide +kernel) (by decide +kernel) (by decide +kernel) (by decide +kernel) (by decide +kernel) (by decide +kernel) (by decide) rfl rfl ⟨Nat.le_of_ble_eq_true rfl, Nat.le_of_ble_eq_true rfl⟩ (Nat.le_of_ble_eq_true rfl) (Nat.le_of_ble_eq_true rfl) (by decide +kernel) (by decide +kernel) (by decide +kernel) [] 0 (fun _ => rfl) (fun _ => rfl) rfl (by decide) (fun qa u H locs hP hD hS => ?_)
  have hP : va_P D vwCl (cwX9 cy qa u) H := hP
  have hD : va_D (lwA s) (cwX9 cy qa u) := hD
  refine W.widen (k := 52) (n := 7138) (Nat.le_of_ble_eq_true rfl) (Nat.le_of_ble_eq_true rfl) ?_
  refine lv_astore_n (lv' := [(1, .ref qa), (0, .ref b)]) hx hb (by decide +kernel : decode code 7 = .ok (.astore_n 1, 1)) rfl hl (by decide) rfl (fun ls hl => ?_)
  refine ct_new (ci := 10) (fs := cfX10) (w2 := cwX10 cy) (i1 := 23) (i2 := 25) (pc := 8) (nL := 8) hx hb hown hts hin hK hml hl.1 (rest := []) (Nat.le_of_ble_eq_true rfl) hP hD hS hA rfl (by decide +kernel) (ct_X10 l D cy) (t1 := [8, 42]) (t2 := [6, 16]) (t3 := [1, 11]) (t4 := [8, 43]) (t5 := [8, 44]) (t6 := [8, 45]) (by decide +kernel) (by decide +kernel) (by decide +kernel) (by decide +kernel) (by decide +kernel) (by decide +kernel) (by decide) rfl rfl ⟨Nat.le_of_ble_eq_true rfl, Nat.le_of_ble_eq_true rfl⟩ (Nat.le_of_ble_eq_true rfl) (Nat.le_of_ble_eq_true rfl) (by decide +kernel) (by decide +kernel) (by decide +kernel) [0, 1, 2, 3, 4, 5, 6, 7, 8, 9, 10, 11, 12, 13, 14, 15, 16, 17, 18, 19, 20, 21, 22, 23, 24, 25, 26, 27, 28, 29, 30, 31, 32, 33, 34, 35, 36, 37, 38, 39, 40, 41, 42, 43, 44, 45, 46, 47, 48, 49, 50, 51] 52 (fun _ => rfl) (fun _ => rfl) rfl (by decide) (fun qm um H locs hP hD hS => ?_)
  refine W.widen (k := 85) (n := 46449) (Nat.le_of_ble_eq_true rfl) (Nat.le_of_ble_eq_true rfl) ?_
  refine lv_astore_n (lv' := [(2, .ref qm), (1, .ref qa), (0, .ref b)]) hx hb (by decide +kernel : decode code 15 = .ok (.astore_n 2, 1)) rfl hl (by decide) rfl (fun ls hl => ?_)
  refine lv_iconst (n := 1) (v := nI 1) hx hb (by decide +kernel : decode code 16 = .ok (.iconst 1, 1)) (by decide) ?_
  refine va_newa (atype := .long) (ty := .long) (N' := 1) (a0 := (1, .inr (.inl (fun _ => 0)))) hx hb (hts _ (hin _ (hq_w_in (ts := [1, 72]) (w := Cond.arrayClass .long) (by decide +kernel) rfl))) rfl hK hP hD hS hA (fun cA => rfl) (by decide) (by decide) (by decide) (Nat.le_of_ble_eq_true rfl) (Nat.le_of_ble_eq_true rfl) (by decide +kernel : decode code 17 = .ok (.newarray .long, 2)) (fun qo cA H hK1 hP hD hS => ?_)
  have e1 := (hK.2 1 _ rfl).2
  have e2 := (hK1.2 3 _ rfl).2
  have e3 : cA = cy.2.1 := Option.some.inj (e2.symm.trans e1)
  subst e3
  refine lv_astore_n (lv' := [(3, .ref qo), (2, .ref qm), (1, .ref qa), (0, .ref b)]) hx hb (by decide +kernel : decode code 19 = .ok (.astore_n 3, 1)) rfl hl (by decide) rfl (fun ls hl => ?_)
  refine lv_iconst (n := 0) (v := nI 0) hx hb (by decide +kernel : decode code 20 = .ok (.iconst 0, 1)) (by decide) ?_
  refine lv_istore (lv' := [(4, .int (nI 0)), (3, .ref qo), (2, .ref qm), (1, .ref qa), (0, .ref b)]) hx hb (by decide +kernel : decode code 21 = .ok (.istore 4, 2)) hl (by decide) rfl (fun ls hl => ?_)
  have hw := lw_world cy qa u qm um qo adK b
  have hP2 : va_P D vwCl (hq_ws cy (lw_ad qa u qm um qo adK b) hq_z) H := by rw [hw]; exact hP
  have hD2 : va_D (lwA s) (hq_ws cy (lw_ad qa u qm um qo adK b) hq_z) := by rw [hw]; exact hD
  have hk : ∀ i, i < 17 → lw_ad qa u qm um qo adK b (1000 + i) = adK i := fun i hi => by
    unfold lw_ad
    rw [if_neg (by omega), if_pos (by omega), Nat.add_sub_cancel_left]
  have hst : hq_str (lw_ad qa u qm um qo adK b) adV (lwA s) s s.heap := by
    refine ⟨fun j h1 h2 => ?_, ⟨fun i hi => ?_, fun i j hi hj h => ?_⟩, hSx⟩
    · obtain ⟨i, rfl⟩ : ∃ i, j = 1000 + i := ⟨j - 1000, by omega⟩
      rw [hk i (by omega)]
      exact hRr i (by omega)
    · have := hV.1 i hi
      rw [← hk i hi] at this
      exact this
    · dsimp only at h
      rw [hk i hi, hk j hj] at h
      exact hV.2 i j hi hj h
  refine kk D cy (lw_ad qa u qm um qo adK b) adV ⟨⟨hx, hb, hown, hts, hin, hK, fun i j hi hj h => hD2.1 i j _ _ (hq_ws_get hi) (hq_ws_get hj) h, fun i hi => hD2.2 i _ (hq_ws_get hi), lw_tok, hst.1⟩, hst, ?_, hX, hbl, hml, hr, hlocks⟩ H _ ls ⟨hP2, hS, hq_has_mono hl ?_, rfl⟩
  · unfold lw_ad
    rw [if_neg (by omega), if_neg (by omega)]
  · have e9 : hq_lv (lw_ad qa u qm um qo adK b) (LL 0) = [(0, .ref b), (1, .ref qa), (2, .ref qm), (3, .ref qo), (4, .int (nI 0))] := rfl
    rw [e9]
    intro q hq
    simp only [List.mem_cons, List.not_mem_nil, or_false] at hq ⊢
    rcases hq with h | h | h | h | h
    · exact Or.inr (Or.inr (Or.inr (Or.inr h)))
    · exact Or.inr (Or.inr (Or.inr (Or.inl h)))
    · exact Or.inr (Or.inr (Or.inl h))
    · exact Or.inr (Or.inl h)
    · exact Or.inl h
