/-! An object made, its constructor called -/
section CN
variable {p : Program} {l : Launch} {e : Env} {R : Room} {s : State} {m : MethodId} {args : Array Value} {below : List Frame} {meth : Method} {c : Code} {H H0 : Heap} {locs : List Loc} {cells slots : Nat} {Q : State → Prop} {D : va_G} {cy : hq_C3} {A : Nat → Prop} {ws : va_W} {ls : Array Slot} {cc : ByteArray} {Ts : List Cond} {own : String}
set_option maxHeartbeats 4000000 in
theorem ct_new (hx : p.tables.exec = Jvm.exec) (hb : c.code = cc) (hown : s.vm.findClass own = some m.cls) (hts : ∀ w ∈ Ts, w.before args s = true) (hin : ∀ w ∈ hq_tbl, w ∈ Ts) (hK : va_K D vwCl (hq_tys cy) s) {nL : Nat} (hml : c.maxLocals = nL) (hsz : ls.size = nL) {rest : List Value} (hcat : (rest.map fun v => v.category).sum ≤ 7)
    (hP : va_P D vwCl ws H) (hD : va_D A ws) (hS : va_S A H0 H locs) (hA : ∀ q, H0.size ≤ q → A q) {ci i1 i2 pc K S : Nat} {q : vw_C} (hq : vwCl[ci]? = some q) {fs : List Value} (hfs : ∀ j, j < q.2.2 → (parseFieldDescriptor (q.2.1 j).2.2.1).map defaultValue = some (vp_V fs j)) {code2 : ByteArray} {rm : Room} {w2 : Nat → List Nat → va_W}
    (hM : ∀ qa sz, Met l ⟨q.1, "<init>", "()V"⟩ (Cond.code ⟨q.1, "<init>", "()V"⟩ code2 1 none :: hq_tbl) rm (ctP D cy ci fs qa sz) (ctQ D (w2 qa) (va_A [(qa, .inr (ci, fs))] sz)) K S (va_A [(qa, .inr (ci, fs))] sz))
    {t1 t2 t3 t4 t5 t6 : List Nat} (k1 : hq_w t1 = some (Cond.classLink own i1 q.1)) (k2 : hq_w t2 = some (Cond.instantiable q.1 q.2.2)) (k3 : hq_w t3 = some (Cond.initialized q.1)) (k4 : hq_w t4 = some (Cond.methodLink own i2 ⟨q.1, "<init>", "()V"⟩)) (k5 : hq_w t5 = some (Cond.instanceMethod ⟨q.1, "<init>", "()V"⟩)) (k6 : hq_w t6 = some (Cond.code ⟨q.1, "<init>", "()V"⟩ code2 1 none)) (hne : q.1 ≠ "java/lang/invoke/MethodHandle" ∧ q.1 ≠ "java/lang/invoke/VarHandle")
    (hrc : rm.cells = K) (hrs : rm.slots = S) (hR : rm.frames + 1 ≤ R.frames ∧ 8 + (1 + 11) + rm.locals ≤ R.locals) (hc1 : cells + 1 + K ≤ R.cells) (hs1 : slots + q.2.2 + S ≤ R.slots)
    (d1 : decode cc pc = .ok (.new i1, 3)) (d2 : decode cc (pc + 3) = .ok (.dup, 1)) (d3 : decode cc (pc + 4) = .ok (.invokespecial i2, 3)) (isR : List Nat) (isC : Nat)
    (hR1 : ∀ x : Nat × va_E, isR.map (fun i => (ws ++ [x])[i]?) = ws.map some) (hC1 : ∀ x : Nat × va_E, (ws ++ [x])[isC]? = some x) (hn : va_nd isR = true) (hdis : ∀ i ∈ isR, i ∉ [isC])
    (kk : ∀ (qa : Nat) (u : List Nat) (H1 : Heap) (locs1 : List Loc), va_P D vwCl (ws ++ w2 qa u) H1 → va_D A (ws ++ w2 qa u) → va_S A H0 H1 locs1 → W p l e R s m args below meth c H1 locs1 (cells + 1 + K) (slots + q.2.2 + S) Q (F0 m (pc + 7) ls (.ref qa :: rest))) : W p l e R s m args below meth c H locs cells slots Q (F0 m pc ls rest) := by
  obtain ⟨hcw, ty0, hty, hnm⟩ := hq_cls hq
  obtain ⟨C0, T0, N0⟩ := q
  dsimp only at hfs hM k1 k2 k3 k4 k5 k6 hne hs1 kk hty hnm hcw
  have hfs2 : ∀ j, j < N0 → defaultValue (ty0 j) = vp_V fs j := fun j hj => by
    have := hfs j hj
    rw [hty j hj] at this
    exact Option.some.inj this
  refine va_new (ci := ci) (fs := fs) (C := C0) (T := T0) (N := N0) hx hb hts (fun w h => hin w (hcw w h)) ty0 hty hown (hts _ (hin _ (hq_w_in k1 rfl))) (hts _ (hin _ (hq_w_in k2 rfl))) (hts _ (hin _ (hq_w_in k3 rfl))) hK hP hD hS hA hq hfs2 (by omega) (by omega) d1 (fun qa H1 hP1 hD1 hS1 => ?_)
  refine lv_dup hx hb d2 rfl ?_
  have hPc : va_P D vwCl [(qa, .inr (ci, fs))] H1 := hP1.sub [isC] (by simp [hC1])
  have hDc : va_D A [(qa, .inr (ci, fs))] := hD1.sub [isC] rfl (by simp [hC1])
  have hFc := va_free (wc := [(qa, .inr (ci, fs))]) hD1 hS1 hA [isC] (by simp [hC1])
  have hG : GoodIn Ts (Cond.code ⟨C0, "<init>", "()V"⟩ code2 1 none :: hq_tbl) := by
    intro w hw
    have h1 : w ∈ hq_tbl := by
      rcases List.mem_cons.mp hw with rfl | h2
      · exact hq_w_in k6 rfl
      · exact h2
    exact ⟨hin w h1, (hq_good w h1).2⟩
  have hcat8 : ((Value.ref qa :: rest).map fun v => v.category).sum ≤ 8 := by
    rw [List.map_cons, List.sum_cons]
    have : (Value.ref qa).category = 1 := rfl
    omega
  refine va_callv (va_runI (b := qa) (As := []) (rest := .ref qa :: rest) ⟨hx, hb, hml, hown, hts⟩ (hM qa H1.size) (cwI 0 hts hG rfl hrc hrs (hts _ (hin _ (hq_w_in k3 rfl))) (hts _ (hin _ (hq_w_in k4 rfl))) (hts _ (hin _ (hq_w_in k5 rfl))) rfl ⟨hne.1, hne.2, (show (parseMethodDescriptor "()V").map (fun d => d.parameters.length) = some 0 by decide +kernel)⟩ hR) ⟨fun a U g mk q => by obtain ⟨q0, q1, qP, qK, qD⟩ := q; exact ⟨q0, q1, qP, va_K.moved (u := U) (U := U.calling g mk a) (Vm.Alike.refl U.vm) qK, qD⟩, fun U hU hW => ⟨rfl, by rw [hU], by rw [hU]; exact hPc, va_K.moved hW.alike hK, hDc.weaken (fun _ _ _ _ => trivial)⟩⟩ rfl rfl hsz rfl (lv_room hcat8) d3 ⟨by omega, by omega⟩) hS1 (fun q _ h => hFc q h) hFc (fun u t H2 locs2 ht hvm hw hB hz1 hk1 hS2 => ?_)
  obtain ⟨hP2, hD2⟩ := hB
  rw [ht] at hP2
  obtain ⟨hP3, hD3⟩ := va_join (wr := ws) (w1 := w2 qa u) hP1 hD1 [isC] isR (by simp [hC1]) (hR1 _) hn hdis hk1 hFc hP2 hD2
  exact kk qa u H2 locs2 hP3 hD3 hS2
end CN
