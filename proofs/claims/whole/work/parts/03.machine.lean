/-! A plain machine over numbered cells: what a method's instructions do to locals, stack and cells, as a function; and that the real machine follows it. -/
abbrev hq_E : Type := Nat × Instr × Nat × Nat × List Nat
abbrev hq_St : Type := (Nat → Nat → Int32) × (Nat → Nat → Int64)
abbrev hq_L : Type := List (Option Value)
abbrev hq_R : Type := Nat × hq_L × List Value × hq_St × List Prop
def hq_sI (σ : hq_St) (c j : Nat) (v : Int32) : hq_St := (fun a => if a = c then upd (σ.1 c) j v else σ.1 a, σ.2)
def hq_sJ (σ : hq_St) (c j : Nat) (v : Int64) : hq_St := (σ.1, fun a => if a = c then vp_updL (σ.2 c) j v else σ.2 a)
def hq_all : List Prop → Prop
  | [] => True
  | p :: r => p ∧ hq_all r
def hq_ld (L : hq_L) (i : Nat) : Option Value := match L[i]? with
  | some (some v) => some v
  | _ => none
/-- a long just ahead of a place that is written is gone -/
def hq_c2 (L : hq_L) (i : Nat) : hq_L := match i with
  | 0 => L
  | j + 1 => match L[j]? with
    | some (some v) => if v.category = 2 then L.set j none else L
    | _ => L
def hq_st1 (L : hq_L) (i : Nat) (v : Value) : hq_L := (hq_c2 L i).set i (some v)
def hq_st2 (L : hq_L) (i : Nat) (v : Value) : hq_L := ((hq_c2 L i).set (i + 1) none).set i (some v)
/-- what slot j of the cell c holds -/
def hq_vv (σ : hq_St) (c j f : Nat) : Value := match f with
  | 0 => .int (σ.1 c j)
  | 1 => .long (σ.2 c j)
  | 2 => .int (σ.1 c j)
  | k + 3 => .ref k
def hq_2i (i : Nat) (L : hq_L) (st : List Value) (σ : hq_St) (f : Int32 → Int32 → Int32) (ob : Int32 → List Prop) : Option hq_R := match st with
  | .int b :: .int a :: r => some (i + 1, L, .int (f a b) :: r, σ, ob b)
  | _ => none
def hq_1i (i : Nat) (L : hq_L) (st : List Value) (σ : hq_St) (f : Int32 → Value) : Option hq_R := match st with
  | .int a :: r => some (i + 1, L, f a :: r, σ, [])
  | _ => none
def hq_1l (i : Nat) (L : hq_L) (st : List Value) (σ : hq_St) (f : Int64 → Value) : Option hq_R := match st with
  | .long a :: r => some (i + 1, L, f a :: r, σ, [])
  | _ => none
def hq_2l (i : Nat) (L : hq_L) (st : List Value) (σ : hq_St) (f : Int64 → Int64 → Value) (ob : Int64 → List Prop) : Option hq_R := match st with
  | .long b :: .long a :: r => some (i + 1, L, f a b :: r, σ, ob b)
  | _ => none
def hq_2li (i : Nat) (L : hq_L) (st : List Value) (σ : hq_St) (f : Int64 → Int32 → Value) : Option hq_R := match st with
  | .int b :: .long a :: r => some (i + 1, L, f a b :: r, σ, [])
  | _ => none
def hq_ldi (i : Nat) (L : hq_L) (st : List Value) (σ : hq_St) (k : Nat) : Option hq_R := match hq_ld L k with
  | some (.int x) => some (i + 1, L, .int x :: st, σ, [])
  | _ => none
def hq_ldl (i : Nat) (L : hq_L) (st : List Value) (σ : hq_St) (k : Nat) : Option hq_R := match hq_ld L k with
  | some (.long x) => some (i + 1, L, .long x :: st, σ, [])
  | _ => none
def hq_lda (i : Nat) (L : hq_L) (st : List Value) (σ : hq_St) (k : Nat) : Option hq_R := match hq_ld L k with
  | some (.ref x) => some (i + 1, L, .ref x :: st, σ, [])
  | _ => none
def hq_sti (i : Nat) (L : hq_L) (st : List Value) (σ : hq_St) (k : Nat) : Option hq_R := match st with
  | .int x :: r => if k < L.length then some (i + 1, hq_st1 L k (.int x), r, σ, []) else none
  | _ => none
def hq_sta (i : Nat) (L : hq_L) (st : List Value) (σ : hq_St) (k : Nat) : Option hq_R := match st with
  | .ref x :: r => if k < L.length then some (i + 1, hq_st1 L k (.ref x), r, σ, []) else none
  | _ => none
def hq_stl (i : Nat) (L : hq_L) (st : List Value) (σ : hq_St) (k : Nat) : Option hq_R := match st with
  | .long x :: r => if k + 1 < L.length then some (i + 1, hq_st2 L k (.long x), r, σ, []) else none
  | _ => none
def hq_br (k : Jvm.ClassFile.Cond) (a b : Int32) (x y : Nat) : Nat := match k with
  | .eq => cond (decide (a = b)) x y
  | .ne => cond (decide (a = b)) y x
  | .lt => cond (decide (a < b)) x y
  | .ge => cond (decide (a < b)) y x
  | .gt => cond (decide (b < a)) x y
  | .le => cond (decide (b < a)) y x
def hq_sw : List Int → List Nat → Nat → Int32 → Nat
  | k :: ks, t :: ts, d, x => cond (decide (x = Int32.ofInt k)) t (hq_sw ks ts d x)
  | _, _, d, _ => d
def hq_keys : Nat → Int → List Int
  | 0, _ => []
  | n + 1, a => a :: hq_keys n (a + 1)
def hq_getf (i : Nat) (L : hq_L) (st : List Value) (σ : hq_St) (x y : Nat) : Option hq_R := match st with
  | .ref c :: r => match hq_lay[c]? with
    | some (.inr (ci, fs)) => if ci = x then match fs[y]? with
      | some f => some (i + 1, L, hq_vv σ c y f :: r, σ, [])
      | none => none
      else none
    | _ => none
  | _ => none
def hq_putf (i : Nat) (L : hq_L) (st : List Value) (σ : hq_St) (x y : Nat) : Option hq_R := match st with
  | .int v :: .ref c :: r => match hq_lay[c]? with
    | some (.inr (ci, fs)) => if ci = x then match fs[y]? with
      | some 0 => some (i + 1, L, r, hq_sI σ c y v, [])
      | some 2 => some (i + 1, L, r, hq_sI σ c y v, [v = 0 ∨ v = 1])
      | _ => none
      else none
    | _ => none
  | .long v :: .ref c :: r => match hq_lay[c]? with
    | some (.inr (ci, fs)) => if ci = x then match fs[y]? with
      | some 1 => some (i + 1, L, r, hq_sJ σ c y v, [])
      | _ => none
      else none
    | _ => none
  | _ => none
def hq_ald (i : Nat) (L : hq_L) (st : List Value) (σ : hq_St) (kd : Nat) : Option hq_R := match st with
  | .int j :: .ref c :: r => match hq_lay[c]? with
    | some (.inl (k, n)) => if k = kd then some (i + 1, L, (if kd = 1 then Value.long (σ.2 c j.toNatClampNeg) else .int (σ.1 c j.toNatClampNeg)) :: r, σ, [vp_in j n]) else none
    | _ => none
  | _ => none
def hq_ast (i : Nat) (L : hq_L) (st : List Value) (σ : hq_St) (kd : Nat) : Option hq_R := match st with
  | .int v :: .int j :: .ref c :: r => match hq_lay[c]? with
    | some (.inl (0, n)) => if kd = 0 then some (i + 1, L, r, hq_sI σ c j.toNatClampNeg v, [vp_in j n]) else none
    | some (.inl (2, n)) => if kd = 2 then some (i + 1, L, r, hq_sI σ c j.toNatClampNeg v, [vp_in j n, v = 0 ∨ v = 1]) else none
    | _ => none
  | .long v :: .int j :: .ref c :: r => match hq_lay[c]? with
    | some (.inl (1, n)) => if kd = 1 then some (i + 1, L, r, hq_sJ σ c j.toNatClampNeg v, [vp_in j n]) else none
    | _ => none
  | _ => none
def hq_alen (i : Nat) (L : hq_L) (st : List Value) (σ : hq_St) : Option hq_R := match st with
  | .ref c :: r => match hq_lay[c]? with
    | some (.inl (_, n)) => some (i + 1, L, .int (Int32.ofNat n) :: r, σ, [])
    | _ => none
  | _ => none
/-- Math.max and Math.min, of ints and longs -/
def hq_mc (x i : Nat) (L : hq_L) (st : List Value) (σ : hq_St) : Option hq_R := match st with
  | .int b :: .int a :: r => if (r.map fun v => v.category).sum ≤ 8 then (if x = 901 then some (i + 1, L, .int (if a < b then b else a) :: r, σ, []) else if x = 902 then some (i + 1, L, .int (if b < a then b else a) :: r, σ, []) else none) else none
  | .long b :: .long a :: r => if (r.map fun v => v.category).sum ≤ 8 then (if x = 903 then some (i + 1, L, .long (if b < a then a else b) :: r, σ, []) else if x = 904 then some (i + 1, L, .long (if b < a then b else a) :: r, σ, []) else none) else none
  | _ => none
def hq_ins (ins : Instr) (x y : Nat) (ts : List Nat) (i : Nat) (L : hq_L) (st : List Value) (σ : hq_St) : Option hq_R := match ins with
  | .iconst n => some (i + 1, L, .int (Int32.ofInt n) :: st, σ, [])
  | .bipush n => some (i + 1, L, .int (Int8.ofInt n).toInt32 :: st, σ, [])
  | .sipush n => some (i + 1, L, .int (Int16.ofInt n).toInt32 :: st, σ, [])
  | .lconst n => some (i + 1, L, .long (Int64.ofNat (n : Nat)) :: st, σ, [])
  | .ldc _ => if y = 0 then some (i + 1, L, .int (Int32.ofNat x) :: st, σ, []) else some (i + 1, L, .ref x :: st, σ, [])
  | .ldc_w _ => if y = 0 then some (i + 1, L, .int (Int32.ofNat x) :: st, σ, []) else some (i + 1, L, .ref x :: st, σ, [])
  | .ldc2_w _ => some (i + 1, L, .long (Int64.ofNat x) :: st, σ, [])
  | .iload k => hq_ldi i L st σ k
  | .iload_n k => hq_ldi i L st σ k
  | .lload k => hq_ldl i L st σ k
  | .lload_n k => hq_ldl i L st σ k
  | .aload k => hq_lda i L st σ k
  | .aload_n k => hq_lda i L st σ k
  | .istore k => hq_sti i L st σ k
  | .istore_n k => hq_sti i L st σ k
  | .lstore k => hq_stl i L st σ k
  | .lstore_n k => hq_stl i L st σ k
  | .astore k => hq_sta i L st σ k
  | .astore_n k => hq_sta i L st σ k
  | .iinc k n => match hq_ld L k with
    | some (.int v) => if k < L.length then some (i + 1, hq_st1 L k (.int (v + Int32.ofInt n)), st, σ, []) else none
    | _ => none
  | .iadd => hq_2i i L st σ (fun a b => a + b) (fun _ => [])
  | .isub => hq_2i i L st σ (fun a b => a - b) (fun _ => [])
  | .imul => hq_2i i L st σ (fun a b => a * b) (fun _ => [])
  | .iand => hq_2i i L st σ (fun a b => a &&& b) (fun _ => [])
  | .ior => hq_2i i L st σ (fun a b => a ||| b) (fun _ => [])
  | .ixor => hq_2i i L st σ (fun a b => a ^^^ b) (fun _ => [])
  | .idiv => hq_2i i L st σ (fun a b => a / b) (fun b => [¬ b = 0])
  | .irem => hq_2i i L st σ (fun a b => a - a / b * b) (fun b => [¬ b = 0])
  | .ishl => hq_2i i L st σ (fun a b => a <<< (b &&& 31)) (fun _ => [])
  | .ishr => hq_2i i L st σ (fun a b => a >>> (b &&& 31)) (fun _ => [])
  | .iushr => hq_2i i L st σ (fun a b => (a.toUInt32 >>> (b.toUInt32 &&& Int32.toUInt32 31)).toInt32) (fun _ => [])
  | .ineg => hq_1i i L st σ (fun a => .int (-a))
  | .i2l => hq_1i i L st σ (fun a => .long a.toInt64)
  | .i2b => hq_1i i L st σ (fun a => .int a.toInt8.toInt32)
  | .i2s => hq_1i i L st σ (fun a => .int a.toInt16.toInt32)
  | .l2i => hq_1l i L st σ (fun a => .int a.toInt32)
  | .ladd => hq_2l i L st σ (fun a b => .long (a + b)) (fun _ => [])
  | .lsub => hq_2l i L st σ (fun a b => .long (a - b)) (fun _ => [])
  | .lmul => hq_2l i L st σ (fun a b => .long (a * b)) (fun _ => [])
  | .land => hq_2l i L st σ (fun a b => .long (a &&& b)) (fun _ => [])
  | .lor => hq_2l i L st σ (fun a b => .long (a ||| b)) (fun _ => [])
  | .ldiv => hq_2l i L st σ (fun a b => .long (a / b)) (fun b => [¬ b = 0])
  | .lrem => hq_2l i L st σ (fun a b => .long (a - a / b * b)) (fun b => [¬ b = 0])
  | .lcmp => hq_2l i L st σ (fun a b => .int (lg_cmp a b)) (fun _ => [])
  | .lshl => hq_2li i L st σ (fun a b => .long (a <<< (b.toInt64 &&& 63)))
  | .lshr => hq_2li i L st σ (fun a b => .long (a >>> (b.toInt64 &&& 63)))
  | .dup => match st with
    | v :: r => if v.category = 1 then some (i + 1, L, v :: v :: r, σ, []) else none
    | _ => none
  | .pop => match st with
    | v :: r => if v.category = 1 then some (i + 1, L, r, σ, []) else none
    | _ => none
  | .pop2 => match st with
    | v :: r => if v.category = 2 then some (i + 1, L, r, σ, []) else none
    | _ => none
  | .dup2 => match st with
    | v :: w :: r => if v.category = 1 ∧ w.category = 1 then some (i + 1, L, v :: w :: v :: w :: r, σ, []) else none
    | _ => none
  | .goto _ => some (x, L, st, σ, [])
  | .ifCond k _ => match st with
    | .int a :: r => some (hq_br k a 0 x (i + 1), L, r, σ, [])
    | _ => none
  | .if_icmp k _ => match st with
    | .int b :: .int a :: r => some (hq_br k a b x (i + 1), L, r, σ, [])
    | _ => none
  | .tableswitch _ lo hi _ => match st with
    | .int a :: r => some (hq_sw (hq_keys (hi - lo + 1).toNat lo) ts x a, L, r, σ, [])
    | _ => none
  | .lookupswitch _ ps => match st with
    | .int a :: r => some (hq_sw (ps.toList.map (·.1)) ts x a, L, r, σ, [])
    | _ => none
  | .getfield _ => hq_getf i L st σ x y
  | .putfield _ => hq_putf i L st σ x y
  | .iaload => hq_ald i L st σ 0
  | .laload => hq_ald i L st σ 1
  | .baload => hq_ald i L st σ 2
  | .iastore => hq_ast i L st σ 0
  | .lastore => hq_ast i L st σ 1
  | .bastore => hq_ast i L st σ 2
  | .arraylength => hq_alen i L st σ
  | .invokestatic _ => hq_mc x i L st σ
  | _ => none
def hq_step (T : List hq_E) (i : Nat) (L : hq_L) (st : List Value) (σ : hq_St) : Option hq_R := match T[i]? with
  | some e => hq_ins e.2.1 e.2.2.1 e.2.2.2.1 e.2.2.2.2 i L st σ
  | none => none
