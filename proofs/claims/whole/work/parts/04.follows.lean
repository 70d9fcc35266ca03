/-! The real machine follows the plain one. -/
def hq_vm (ad : Nat → Nat) : Value → Value
  | .ref a => .ref (ad a)
  | v => v
theorem hq_vm_cat (ad : Nat → Nat) (v : Value) : (hq_vm ad v).category = v.category := by cases v <;> rfl
def hq_lv (ad : Nat → Nat) (L : hq_L) : List (Nat × Value) := L.zipIdx.filterMap (fun q => q.1.map (fun v => (q.2, hq_vm ad v)))
theorem hq_lv_mem {ad : Nat → Nat} {L : hq_L} {i : Nat} {w : Value} : (i, w) ∈ hq_lv ad L ↔ ∃ v, L[i]? = some (some v) ∧ w = hq_vm ad v := by
  unfold hq_lv
  rw [List.mem_filterMap]
  constructor
  · rintro ⟨⟨a, j⟩, h1, h2⟩
    rw [List.mem_zipIdx_iff_getElem?] at h1
    cases a with
    | none => simp at h2
    | some v =>
      simp at h2
      obtain ⟨rfl, rfl⟩ := h2
      exact ⟨v, h1, rfl⟩
  · rintro ⟨v, h1, rfl⟩
    exact ⟨(some v, i), List.mem_zipIdx_iff_getElem?.mpr h1, rfl⟩
theorem hq_has_mono {ls : Array Slot} {n : Nat} {l l' : List (Nat × Value)} (h : lv_has ls n l) (hs : ∀ q ∈ l', q ∈ l) : lv_has ls n l' := ⟨h.1, h.2.1, fun q hq => h.2.2 q (hs q hq)⟩
theorem hq_has_at {ad : Nat → Nat} {ls : Array Slot} {n i : Nat} {L : hq_L} {v : Value} (h : lv_has ls n (hq_lv ad L)) (hv : hq_ld L i = some v) : ls[i]? = some (.val (hq_vm ad v)) := by
  refine h.2.2 (i, hq_vm ad v) (hq_lv_mem.mpr ⟨v, ?_, rfl⟩)
  unfold hq_ld at hv
  split at hv
  · rename_i w hw
    rw [hw]; cases hv; rfl
  · cases hv
theorem hq_c2_len (L : hq_L) (i : Nat) : (hq_c2 L i).length = L.length := by
  unfold hq_c2
  split
  · rfl
  · split
    · split <;> simp
    · rfl
theorem hq_c2_get {L : hq_L} {i j : Nat} {v : Value} (h : (hq_c2 L i)[j]? = some (some v)) : L[j]? = some (some v) ∧ ¬ (j + 1 = i ∧ v.category = 2) := by
  unfold hq_c2 at h
  split at h
  · exact ⟨h, fun q => by omega⟩
  · rename_i k
    split at h
    · rename_i w hw
      split at h
      · rename_i hc
        rw [List.getElem?_set] at h
        split at h
        · split at h <;> cases h
        · rename_i hk
          exact ⟨h, fun q => hk (by omega)⟩
      · rename_i hc
        refine ⟨h, fun q => ?_⟩
        have e : j = k := by omega
        subst e
        rw [hw] at h
        cases h
        exact hc q.2
    · rename_i hw
      refine ⟨h, fun q => ?_⟩
      have e : j = k := by omega
      subst e
      exact hw _ h
theorem hq_st1_len (L : hq_L) (i : Nat) (v : Value) : (hq_st1 L i v).length = L.length := by simp [hq_st1, hq_c2_len]
theorem hq_st2_len (L : hq_L) (i : Nat) (v : Value) : (hq_st2 L i v).length = L.length := by simp [hq_st2, hq_c2_len]
theorem hq_lv_st1 {ad : Nat → Nat} {L : hq_L} {i : Nat} {v : Value} : ∀ q ∈ hq_lv ad (hq_st1 L i v), q ∈ (i, hq_vm ad v) :: (hq_lv ad L).filter (fun q => !(q.1 == i) && !(q.1 + 1 == i && q.2.category == 2)) := by
  rintro ⟨j, w⟩ hq
  obtain ⟨u, h1, rfl⟩ := hq_lv_mem.mp hq
  unfold hq_st1 at h1
  rw [List.getElem?_set] at h1
  split at h1
  · rename_i e
    split at h1
    · cases h1; subst e; exact List.mem_cons_self
    · cases h1
  · rename_i e
    obtain ⟨h2, h3⟩ := hq_c2_get h1
    refine List.mem_cons_of_mem _ (List.mem_filter.mpr ⟨hq_lv_mem.mpr ⟨u, h2, rfl⟩, ?_⟩)
    have h4 : ¬ j = i := fun q => e q.symm
    by_cases h5 : j + 1 = i
    · have h6 : ¬ u.category = 2 := fun q => h3 ⟨h5, q⟩
      simp [h4, h5, hq_vm_cat, h6]
    · simp [h4, h5]
theorem hq_lv_st2 {ad : Nat → Nat} {L : hq_L} {i : Nat} {v : Value} : ∀ q ∈ hq_lv ad (hq_st2 L i v), q ∈ (i, hq_vm ad v) :: (hq_lv ad L).filter (fun q => !(q.1 == i) && (!(q.1 == i + 1) && !(q.1 + 1 == i && q.2.category == 2))) := by
  rintro ⟨j, w⟩ hq
  obtain ⟨u, h1, rfl⟩ := hq_lv_mem.mp hq
  unfold hq_st2 at h1
  rw [List.getElem?_set] at h1
  split at h1
  · rename_i e
    split at h1
    · cases h1; subst e; exact List.mem_cons_self
    · cases h1
  · rename_i e
    rw [List.getElem?_set] at h1
    split at h1
    · split at h1 <;> cases h1
    · rename_i e2
      obtain ⟨h2, h3⟩ := hq_c2_get h1
      refine List.mem_cons_of_mem _ (List.mem_filter.mpr ⟨hq_lv_mem.mpr ⟨u, h2, rfl⟩, ?_⟩)
      have h4 : ¬ j = i := fun q => e q.symm
      have h7 : ¬ j = i + 1 := fun q => e2 q.symm
      by_cases h5 : j + 1 = i
      · have h6 : ¬ u.category = 2 := fun q => h3 ⟨h5, q⟩
        simp [h4, h5, h7, hq_vm_cat, h6]
      · simp [h4, h5, h7]
def hq_fs (ad : Nat → Nat) (σ : hq_St) (c : Nat) (fs : List Nat) : List Value := fs.zipIdx.map (fun q => hq_vm ad (hq_vv σ c q.2 q.1))
theorem hq_fs_get (ad : Nat → Nat) (σ : hq_St) (c : Nat) (fs : List Nat) (k : Nat) : (hq_fs ad σ c fs)[k]? = fs[k]?.map (fun f => hq_vm ad (hq_vv σ c k f)) := by
  unfold hq_fs
  rw [List.getElem?_map, List.getElem?_zipIdx]
  cases fs[k]? <;> simp
theorem hq_fs_len (ad : Nat → Nat) (σ : hq_St) (c : Nat) (fs : List Nat) : (hq_fs ad σ c fs).length = fs.length := by simp [hq_fs]
abbrev hq_C3 : Type := ClassId × ClassId × ClassId
def hq_cell (cy : hq_C3) (ad : Nat → Nat) (σ : hq_St) (c : Nat) : va_E := match hq_lay[c]? with
  | some (.inl (0, n)) => .inl (cy.1, n, .inl (σ.1 c))
  | some (.inl (1, n)) => .inl (cy.2.1, n, .inr (.inl (σ.2 c)))
  | some (.inl (_, n)) => .inl (cy.2.2, n, .inl (σ.1 c))
  | some (.inr (ci, fs)) => .inr (ci, hq_fs ad σ c fs)
  | none => .inr (0, [])
def hq_ws (cy : hq_C3) (ad : Nat → Nat) (σ : hq_St) : va_W := (List.range hq_n).map (fun c => (ad c, hq_cell cy ad σ c))
def hq_tys (cy : hq_C3) : List (ClassId × FieldType) := [(cy.1, .int), (cy.2.1, .long), (cy.2.2, .boolean)]
theorem hq_lay_len : hq_lay.length = hq_n := by decide +kernel
theorem hq_lay_lt {c : Nat} {k : (Nat × Nat) ⊕ (Nat × List Nat)} (h : hq_lay[c]? = some k) : c < hq_n := by
  rw [← hq_lay_len]; exact (List.getElem?_eq_some_iff.mp h).1
theorem hq_ws_get {cy : hq_C3} {ad : Nat → Nat} {σ : hq_St} {c : Nat} (h : c < hq_n) : (hq_ws cy ad σ)[c]? = some (ad c, hq_cell cy ad σ c) := by
  unfold hq_ws
  rw [List.getElem?_map, List.getElem?_range h]; rfl
theorem hq_ws_set {cy : hq_C3} {ad : Nat → Nat} {σ τ : hq_St} {c : Nat} {E : va_E} (h : hq_cell cy ad τ c = E) (ho : ∀ a, a ≠ c → hq_cell cy ad τ a = hq_cell cy ad σ a) : (hq_ws cy ad σ).set c (ad c, E) = hq_ws cy ad τ := by
  subst h
  refine List.ext_getElem? fun k => ?_
  rw [List.getElem?_set]
  by_cases hk : k < hq_n
  · rw [hq_ws_get hk, hq_ws_get hk]
    by_cases e : c = k
    · subst e
      rw [if_pos rfl, if_pos (by unfold hq_ws; simpa using hk)]
    · rw [if_neg e, ho k (fun q => e q.symm)]
  · have e1 : ∀ ρ : hq_St, (hq_ws cy ad ρ)[k]? = none := fun ρ => by unfold hq_ws; simp; omega
    rw [e1, e1]
    split
    · rename_i e
      subst e
      rw [if_neg]
      unfold hq_ws; simpa using hk
    · rfl
theorem hq_fs_congr {ad : Nat → Nat} {σ τ : hq_St} {c : Nat} {fs : List Nat} (h1 : τ.1 c = σ.1 c) (h2 : τ.2 c = σ.2 c) : hq_fs ad τ c fs = hq_fs ad σ c fs := by
  refine List.ext_getElem? fun k => ?_
  rw [hq_fs_get, hq_fs_get]
  cases fs[k]? with
  | none => rfl
  | some f =>
    have : hq_vv τ c k f = hq_vv σ c k f := by
      unfold hq_vv
      rw [h1, h2]
    simp [this]
theorem hq_cell_congr {cy : hq_C3} {ad : Nat → Nat} {σ τ : hq_St} {a : Nat} (h1 : τ.1 a = σ.1 a) (h2 : τ.2 a = σ.2 a) : hq_cell cy ad τ a = hq_cell cy ad σ a := by
  unfold hq_cell
  rw [h1, h2]
  simp only [hq_fs_congr h1 h2]
theorem hq_sI_ne {σ : hq_St} {c a j : Nat} {v : Int32} (h : a ≠ c) : (hq_sI σ c j v).1 a = σ.1 a := if_neg h
theorem hq_sI_at (σ : hq_St) (c j : Nat) (v : Int32) : (hq_sI σ c j v).1 c = upd (σ.1 c) j v := if_pos rfl
theorem hq_sI_2 (σ : hq_St) (c j : Nat) (v : Int32) : (hq_sI σ c j v).2 = σ.2 := rfl
theorem hq_sJ_ne {σ : hq_St} {c a j : Nat} {v : Int64} (h : a ≠ c) : (hq_sJ σ c j v).2 a = σ.2 a := if_neg h
theorem hq_sJ_at (σ : hq_St) (c j : Nat) (v : Int64) : (hq_sJ σ c j v).2 c = vp_updL (σ.2 c) j v := if_pos rfl
theorem hq_sJ_1 (σ : hq_St) (c j : Nat) (v : Int64) : (hq_sJ σ c j v).1 = σ.1 := rfl
theorem hq_cell_sI {cy : hq_C3} {ad : Nat → Nat} {σ : hq_St} {c j : Nat} {v : Int32} : ∀ a, a ≠ c → hq_cell cy ad (hq_sI σ c j v) a = hq_cell cy ad σ a := fun _ h => hq_cell_congr (hq_sI_ne h) rfl
theorem hq_cell_sJ {cy : hq_C3} {ad : Nat → Nat} {σ : hq_St} {c j : Nat} {v : Int64} : ∀ a, a ≠ c → hq_cell cy ad (hq_sJ σ c j v) a = hq_cell cy ad σ a := fun _ h => hq_cell_congr rfl (hq_sJ_ne h)
theorem hq_fs_sI {ad : Nat → Nat} {σ : hq_St} {c y f : Nat} {fs : List Nat} {v : Int32} (hf : fs[y]? = some f) (h : f = 0 ∨ f = 2) : hq_fs ad (hq_sI σ c y v) c fs = (hq_fs ad σ c fs).set y (.int v) := by
  refine List.ext_getElem? fun k => ?_
  rw [List.getElem?_set, hq_fs_get, hq_fs_get, hq_fs_len]
  by_cases e : y = k
  · subst e
    rw [if_pos rfl, if_pos (List.getElem?_eq_some_iff.mp hf).1, hf]
    rcases h with rfl | rfl <;> simp [hq_vv, hq_vm, hq_sI_at, upd]
  · rw [if_neg e]
    cases fs[k]? with
    | none => rfl
    | some g =>
      have e2 : ¬ k = y := fun q => e q.symm
      have : hq_vv (hq_sI σ c y v) c k g = hq_vv σ c k g := by
        unfold hq_vv
        rw [hq_sI_at, hq_sI_2]
        simp [upd, e2]
      simp [this]
theorem hq_fs_sJ {ad : Nat → Nat} {σ : hq_St} {c y : Nat} {fs : List Nat} {v : Int64} (hf : fs[y]? = some 1) : hq_fs ad (hq_sJ σ c y v) c fs = (hq_fs ad σ c fs).set y (.long v) := by
  refine List.ext_getElem? fun k => ?_
  rw [List.getElem?_set, hq_fs_get, hq_fs_get, hq_fs_len]
  by_cases e : y = k
  · subst e
    rw [if_pos rfl, if_pos (List.getElem?_eq_some_iff.mp hf).1, hf]
    simp [hq_vv, hq_vm, hq_sJ_at, vp_updL]
  · rw [if_neg e]
    cases fs[k]? with
    | none => rfl
    | some g =>
      have e2 : ¬ k = y := fun q => e q.symm
      have : hq_vv (hq_sJ σ c y v) c k g = hq_vv σ c k g := by
        unfold hq_vv
        rw [hq_sJ_at, hq_sJ_1]
        simp [vp_updL, e2]
      simp [this]
theorem hq_ap {cy : hq_C3} {ad : Nat → Nat} {σ : hq_St} {A : Nat → Prop} (h1 : ∀ i j, i < hq_n → j < hq_n → ad i = ad j → i = j) (h2 : ∀ i, i < hq_n → A (ad i)) : va_D A (hq_ws cy ad σ) := by
  have lt : ∀ (i : Nat) (p : Nat × va_E), (hq_ws cy ad σ)[i]? = some p → i < hq_n ∧ p.1 = ad i := by
    intro i p h
    have hi : i < hq_n := by
      have := (List.getElem?_eq_some_iff.mp h).1
      unfold hq_ws at this; simpa using this
    rw [hq_ws_get hi] at h
    cases h
    exact ⟨hi, rfl⟩
  refine ⟨fun i j p q hp hq e => ?_, fun k q hq => ?_⟩
  · obtain ⟨a1, a2⟩ := lt i p hp
    obtain ⟨b1, b2⟩ := lt j q hq
    exact h1 i j a1 b1 (by rw [← a2, ← b2]; exact e)
  · obtain ⟨a1, a2⟩ := lt k q hq
    rw [a2]; exact h2 k a1
def hq_lokb : Bool := hq_lay.all (fun k => match k with
  | .inl _ => true
  | .inr (ci, fs) => match vwCl[ci]? with
    | some q => decide (fs.length = q.2.2) && fs.zipIdx.all (fun z => (decide (z.1 ≠ 0) || decide (parseFieldDescriptor (q.2.1 z.2).2.2.1 = some .int)) && (decide (z.1 ≠ 1) || decide (parseFieldDescriptor (q.2.1 z.2).2.2.1 = some .long)) && (decide (z.1 ≠ 2) || decide (parseFieldDescriptor (q.2.1 z.2).2.2.1 = some .boolean)))
    | none => false)
theorem hq_lokb_ok : hq_lokb = true := by decide +kernel
theorem hq_lok {c ci : Nat} {fs : List Nat} (h : hq_lay[c]? = some (.inr (ci, fs))) : ∃ q : vw_C, vwCl[ci]? = some q ∧ fs.length = q.2.2 ∧ ∀ y f, fs[y]? = some f → (f = 0 → parseFieldDescriptor (q.2.1 y).2.2.1 = some .int) ∧ (f = 1 → parseFieldDescriptor (q.2.1 y).2.2.1 = some .long) ∧ (f = 2 → parseFieldDescriptor (q.2.1 y).2.2.1 = some .boolean) := by
  have h1 := List.all_eq_true.mp hq_lokb_ok _ (List.mem_of_getElem? h)
  dsimp only at h1
  split at h1
  · rename_i q hq
    rw [Bool.and_eq_true, decide_eq_true_eq] at h1
    refine ⟨q, hq, h1.1, fun y f hf => ?_⟩
    have h2 := List.all_eq_true.mp h1.2 (f, y) (List.mem_zipIdx_iff_getElem?.mpr hf)
    simp only [Bool.and_eq_true, Bool.or_eq_true, decide_eq_true_eq] at h2
    exact ⟨fun e => (h2.1.1).elim (fun n => absurd e n) id, fun e => (h2.1.2).elim (fun n => absurd e n) id, fun e => (h2.2).elim (fun n => absurd e n) id⟩
  · cases h1

def hq_pc (T : List hq_E) (i : Nat) : Nat := match T[i]? with
  | some e => e.1
  | none => 0
def hq_w (ts : List Nat) : Option Cond := match ts with
  | [q, r] => match hq_tw[q]? with
    | some l => l[r]?
    | none => none
  | _ => none
theorem hq_w_in {ts : List Nat} {w : Cond} (h : hq_w ts = some w) (hg : goodWord w = true) : w ∈ hq_tbl := by
  unfold hq_w at h
  split at h
  · split at h
    · rename_i l hl
      exact hq_tw_in hl (List.mem_of_getElem? h) hg
    · cases h
  · cases h
theorem hq_ws_in (ws : List Cond) (ps : List (List Nat)) (h : ws.length = ps.length) (h2 : (ws.zip ps).all (fun z => decide (hq_w z.2 = some z.1) && goodWord z.1) = true) : ∀ w ∈ ws, w ∈ hq_tbl := by
  intro w hw
  obtain ⟨i, hi⟩ := List.getElem?_of_mem hw
  have hl : i < ps.length := by rw [← h]; exact (List.getElem?_eq_some_iff.mp hi).1
  have h3 : (ws.zip ps)[i]? = some (w, ps[i]) := by rw [List.getElem?_zip_eq_some]; exact ⟨hi, List.getElem?_eq_getElem hl⟩
  have h4 := List.all_eq_true.mp h2 _ (List.mem_of_getElem? h3)
  rw [Bool.and_eq_true, decide_eq_true_eq] at h4
  exact hq_w_in h4.1 h4.2
theorem hq_cw0 : ∀ w ∈ wsX00, w ∈ hq_tbl := hq_ws_in _ [[2, 4], [2, 6], [2, 8], [2, 10]] (by decide +kernel) (by decide +kernel)
theorem hq_cw1 : ∀ w ∈ wsX10, w ∈ hq_tbl := hq_ws_in _ [[2, 60], [2, 62], [2, 64], [2, 66], [2, 68], [2, 70], [2, 72], [2, 74], [2, 76], [2, 78], [2, 80], [2, 82], [2, 84], [2, 86], [2, 88], [2, 90], [2, 92], [2, 94], [2, 96]] (by decide +kernel) (by decide +kernel)
theorem hq_cw2 : ∀ w ∈ wsX20, w ∈ hq_tbl := hq_ws_in _ [[2, 25], [2, 27], [2, 29], [2, 31]] (by decide +kernel) (by decide +kernel)
theorem hq_cw3 : ∀ w ∈ wsX30, w ∈ hq_tbl := hq_ws_in _ [[1, 198], [1, 200], [1, 202], [1, 204], [1, 206], [1, 208]] (by decide +kernel) (by decide +kernel)
theorem hq_cw4 : ∀ w ∈ wsX40, w ∈ hq_tbl := hq_ws_in _ [[1, 67], [1, 69]] (by decide +kernel) (by decide +kernel)
theorem hq_cw5 : ∀ w ∈ wsX50, w ∈ hq_tbl := hq_ws_in _ [[1, 223], [1, 225], [1, 227], [1, 229], [1, 231]] (by decide +kernel) (by decide +kernel)
theorem hq_cw6 : ∀ w ∈ wsX60, w ∈ hq_tbl := hq_ws_in _ [[1, 47], [1, 49], [1, 51], [1, 53]] (by decide +kernel) (by decide +kernel)
theorem hq_cw7 : ∀ w ∈ wsX70, w ∈ hq_tbl := hq_ws_in _ [[2, 111], [2, 113], [2, 115], [2, 117], [2, 119]] (by decide +kernel) (by decide +kernel)
theorem hq_cw8 : ∀ w ∈ wsX80, w ∈ hq_tbl := hq_ws_in _ [[1, 150], [1, 152], [1, 154], [1, 156], [1, 158], [1, 160], [1, 162], [1, 164], [1, 166], [1, 168], [1, 170], [1, 172], [1, 174], [1, 176], [1, 178], [1, 180], [1, 182]] (by decide +kernel) (by decide +kernel)
theorem hq_cw9 : ∀ w ∈ wsX90, w ∈ hq_tbl := hq_ws_in _ [[2, 131], [2, 133], [2, 135], [2, 137], [2, 139], [2, 141], [2, 143], [2, 145], [2, 147]] (by decide +kernel) (by decide +kernel)
theorem hq_cw10 : ∀ w ∈ wsX100, w ∈ hq_tbl := hq_ws_in _ [[8, 99], [8, 101], [8, 103], [8, 105], [8, 107], [8, 109], [8, 111], [8, 113], [8, 115], [8, 117], [8, 119], [8, 121], [8, 123], [8, 125], [8, 127], [8, 129], [8, 131], [8, 133], [8, 135], [8, 137], [8, 139], [8, 141], [8, 143], [8, 145], [8, 147], [8, 149], [8, 151], [8, 153], [8, 155], [8, 157], [8, 159], [8, 161], [8, 163], [8, 165], [8, 167], [8, 169], [8, 171], [8, 173], [8, 175], [8, 177], [8, 179], [8, 181], [8, 183], [8, 185], [8, 187], [8, 189], [8, 191], [8, 193], [8, 195], [8, 197], [8, 199]] (by decide +kernel) (by decide +kernel)
theorem hq_cls {ci : Nat} {q : vw_C} (h : vwCl[ci]? = some q) : (∀ w ∈ u_ws q.1 q.2.1 q.2.2, w ∈ hq_tbl) ∧ ∃ ty : Nat → FieldType, (∀ k, k < q.2.2 → parseFieldDescriptor (q.2.1 k).2.2.1 = some (ty k)) ∧ ∀ a, a < q.2.2 → ∀ b, b < q.2.2 → a ≠ b → (q.2.1 a).2.1 ≠ (q.2.1 b).2.1 := by
  match ci, h with
  | 0, h => cases h; exact ⟨hq_cw0, tyX0, tyX0_ok, nmX0⟩
  | 1, h => cases h; exact ⟨hq_cw1, tyX1, tyX1_ok, nmX1⟩
  | 2, h => cases h; exact ⟨hq_cw2, tyX2, tyX2_ok, nmX2⟩
  | 3, h => cases h; exact ⟨hq_cw3, tyX3, tyX3_ok, nmX3⟩
  | 4, h => cases h; exact ⟨hq_cw4, tyX4, tyX4_ok, nmX4⟩
  | 5, h => cases h; exact ⟨hq_cw5, tyX5, tyX5_ok, nmX5⟩
  | 6, h => cases h; exact ⟨hq_cw6, tyX6, tyX6_ok, nmX6⟩
  | 7, h => cases h; exact ⟨hq_cw7, tyX7, tyX7_ok, nmX7⟩
  | 8, h => cases h; exact ⟨hq_cw8, tyX8, tyX8_ok, nmX8⟩
  | 9, h => cases h; exact ⟨hq_cw9, tyX9, tyX9_ok, nmX9⟩
  | 10, h => cases h; exact ⟨hq_cw10, tyX10, tyX10_ok, nmX10⟩
  | n + 11, h => exact absurd h (by simp)
def hq_len (y : Nat) : Instr → Nat
  | .bipush _ | .ldc _ | .iload _ | .lload _ | .aload _ | .istore _ | .lstore _ | .astore _ | .newarray _ => 2
  | .sipush _ | .ldc_w _ | .ldc2_w _ | .iinc _ _ | .goto _ | .ifCond _ _ | .if_icmp _ _ | .getfield _ | .putfield _ | .invokevirtual _ | .invokestatic _ | .invokespecial _ | .new _ => 3
  | .tableswitch _ _ _ _ | .lookupswitch _ _ => y
  | _ => 1
/-- a field's word -/
def hq_fw (own : String) (idx x y : Nat) (ts : List Nat) (put : Bool) : Bool := match vwCl[x]? with
  | some q => decide (y < q.2.2) && decide (hq_w ts = some (Cond.fieldLink own idx (q.2.1 y).1 (q.2.1 y).2.1 (q.2.1 y).2.2.1)) && (!put || decide ((q.2.1 y).2.2.2 = false))
  | none => false
def hq_eokb (pj : Nat → MethodName) (st : Nat → String × Nat × String) (T : List hq_E) (cc : ByteArray) (own : String) (i : Nat) (e : hq_E) : Bool :=
  decide (decode cc e.1 = .ok (e.2.1, hq_len e.2.2.2.1 e.2.1)) && (match e.2.1 with
    | .goto o => decide ((e.1 : Int) + o = (hq_pc T e.2.2.1 : Nat))
    | .ifCond _ o | .if_icmp _ o => decide ((e.1 : Int) + o = (hq_pc T e.2.2.1 : Nat)) && decide (hq_pc T (i + 1) = e.1 + 3)
    | .tableswitch d lo hi offs => decide ((e.1 : Int) + d = (hq_pc T e.2.2.1 : Nat)) && decide (e.2.2.2.2.length = (hi - lo + 1).toNat) && decide (offs.size = (hi - lo + 1).toNat) && (e.2.2.2.2.zip offs.toList).all (fun z => decide ((e.1 : Int) + z.2 = (hq_pc T z.1 : Nat))) && decide (-2147483648 ≤ lo ∧ hi < 2147483648 ∧ lo ≤ hi)
    | .lookupswitch d ps => decide ((e.1 : Int) + d = (hq_pc T e.2.2.1 : Nat)) && decide (e.2.2.2.2.length = ps.toList.length) && (e.2.2.2.2.zip ps.toList).all (fun z => decide ((e.1 : Int) + z.2.2 = (hq_pc T z.1 : Nat)) && decide (-2147483648 ≤ z.2.1 ∧ z.2.1 < 2147483648)) && decide ((ps.toList.zip (ps.toList.drop 1)).all (fun (a, next) => a.1 < next.1) = true)
    | .ireturn | .lreturn | .return_ | .areturn | .athrow => true
    | .getfield k => decide (hq_pc T (i + 1) = e.1 + 3) && hq_fw own k e.2.2.1 e.2.2.2.1 e.2.2.2.2 false
    | .putfield k => decide (hq_pc T (i + 1) = e.1 + 3) && hq_fw own k e.2.2.1 e.2.2.2.1 e.2.2.2.2 true
    | .ldc k => decide (hq_pc T (i + 1) = e.1 + 2) && (if e.2.2.2.1 = 0 then decide (hq_w e.2.2.2.2 = some (Cond.constant own k (Int32.ofNat e.2.2.1))) else decide (st e.2.2.1 = (own, k, (st e.2.2.1).2.2)) && decide (1000 ≤ e.2.2.1 ∧ e.2.2.1 < 1017))
    | .ldc_w k => decide (hq_pc T (i + 1) = e.1 + 3) && (if e.2.2.2.1 = 0 then decide (hq_w e.2.2.2.2 = some (Cond.constant own k (Int32.ofNat e.2.2.1))) else decide (st e.2.2.1 = (own, k, (st e.2.2.1).2.2)) && decide (1000 ≤ e.2.2.1 ∧ e.2.2.1 < 1017))
    | .ldc2_w k => decide (hq_pc T (i + 1) = e.1 + 3) && decide (hq_w e.2.2.2.2 = some (Cond.constantLong own k (Int64.ofNat e.2.2.1)))
    | .invokevirtual k | .invokestatic k => decide (hq_pc T (i + 1) = e.1 + 3) && decide (hq_w e.2.2.2.2 = some (Cond.methodLink own k (pj e.2.2.1)))
    | ins => decide (hq_pc T (i + 1) = e.1 + hq_len e.2.2.2.1 ins))
def hq_tok (pj : Nat → MethodName) (st : Nat → String × Nat × String) (T : List hq_E) (cc : ByteArray) (own : String) : Prop := ∀ i e, T[i]? = some e → hq_eokb pj st T cc own i e = true
theorem hq_pc_at {T : List hq_E} {i : Nat} {e : hq_E} (h : T[i]? = some e) : hq_pc T i = e.1 := by unfold hq_pc; rw [h]

