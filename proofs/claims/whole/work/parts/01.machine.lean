/-! ===== the mini machine: values, memory, tables, one step, runs ===== -/
abbrev mm_T9 : Type := Nat → Nat → Option Nat
/-- kinds, methods, code, handlers, fields' types, finals, field links, method links, int constants, long constants, new, anewarray, thrown ones, the script -/
abbrev mm_P : Type := (Nat → Option mm_K) × (Nat → Option mm_E) × (Nat → Nat → Option (Instr × Nat)) × (Nat → Nat → Nat → Option Nat) × (Nat → Nat → Option FieldType) × (Nat → Nat → Bool) × (Nat → Nat → Option (Nat × Nat)) × mm_T9 × (Nat → Nat → Option Int) × (Nat → Nat → Option Int) × mm_T9 × mm_T9 × mm_T9 × (Nat × (Int → Int))
abbrev mm_kd (P : mm_P) := P.1
abbrev mm_mt (P : mm_P) := P.2.1
abbrev mm_co (P : mm_P) := P.2.2.1
abbrev mm_hd (P : mm_P) := P.2.2.2.1
abbrev mm_ft (P : mm_P) := P.2.2.2.2.1
abbrev mm_fi (P : mm_P) := P.2.2.2.2.2.1
abbrev mm_lf (P : mm_P) := P.2.2.2.2.2.2.1
abbrev mm_lm (P : mm_P) := P.2.2.2.2.2.2.2.1
abbrev mm_lc (P : mm_P) := P.2.2.2.2.2.2.2.2.1
abbrev mm_lj (P : mm_P) := P.2.2.2.2.2.2.2.2.2.1
abbrev mm_ln (P : mm_P) := P.2.2.2.2.2.2.2.2.2.2.1
abbrev mm_la (P : mm_P) := P.2.2.2.2.2.2.2.2.2.2.2.1
abbrev mm_lt (P : mm_P) := P.2.2.2.2.2.2.2.2.2.2.2.2.1
abbrev mm_sc (P : mm_P) := P.2.2.2.2.2.2.2.2.2.2.2.2.2
/-- the script's own number -/
abbrev mm_scr : Nat := 1000
def mm_putN (M : mm_M) (a : Nat) (k x : Int) : mm_M := (fun b j => if b = a ∧ j = k then x else M.1 b j, M.2.1, M.2.2)
def mm_putR (M : mm_M) (a : Nat) (k : Int) (x : Option Nat) : mm_M := (M.1, fun b j => if b = a ∧ j = k then x else M.2.1 b j, M.2.2)
def mm_fresh (M : mm_M) (a : Nat) : mm_M := (fun b j => if b = a then 0 else M.1 b j, fun b j => if b = a then none else M.2.1 b j, M.2.2)
def mm_cpy (M : mm_M) (f t : Nat) (sp dp n : Int) : mm_M := (fun b j => if b = t ∧ dp ≤ j ∧ j < dp + n then M.1 f (sp + (j - dp)) else M.1 b j, M.2.1, M.2.2)
abbrev mm_I (x : Int) : Int32 := Int32.ofInt x
abbrev mm_J (x : Int) : Int64 := Int64.ofInt x
def mm_cat : mm_V → Nat
  | .inr (.inl _) => 2
  | _ => 1
def mm_wd (st : List mm_V) : Nat := (st.map mm_cat).sum
def mm_fix (ls : List mm_V) (i : Nat) : List mm_V := match i with
  | 0 => ls
  | j + 1 => match ls[j]? with
    | some (.inr (.inl _)) => ls.set j mm_u
    | _ => ls
def mm_st1 (ls : List mm_V) (i : Nat) (v : mm_V) : List mm_V := (mm_fix ls i).set i v
def mm_st2 (ls : List mm_V) (i : Nat) (v : mm_V) : List mm_V := ((mm_fix ls i).set i v).set (i + 1) mm_u
def mm_len : Instr → Nat
  | .aload _ | .astore _ | .iload _ | .istore _ | .lload _ | .lstore _ | .bipush _ | .ldc _ | .newarray _ => 2
  | .getfield _ | .putfield _ | .goto _ | .if_icmp .. | .ifCond .. | .iinc .. | .sipush _ | .new _ | .anewarray _ | .invokespecial _ | .invokestatic _ | .invokevirtual _ | .ldc_w _ | .ldc2_w _ => 3
  | _ => 1
def mm_lok (i : Instr) (n : Nat) : Bool := match i with
  | .tableswitch .. | .lookupswitch .. => true
  | i => n == mm_len i
section
variable (pc : Nat) (ls st : List mm_V) (n : Nat) (M : mm_M)
def mm_at (k : Nat) (s : List mm_V) : Option mm_S := some (pc + k, ls, s, n, M)
def mm_ld (k i w : Nat) : Option mm_S := match ls[i]?, w with
  | some (.inl x), 0 => some (pc + k, ls, mm_i x :: st, n, M)
  | some (.inr (.inl x)), 1 => some (pc + k, ls, mm_j x :: st, n, M)
  | some (.inr (.inr (.inl x))), 2 => some (pc + k, ls, mm_r x :: st, n, M)
  | _, _ => none
def mm_sto (k i w : Nat) : Option mm_S := match st, w with
  | .inl x :: r, 0 => if i < ls.length then some (pc + k, mm_st1 ls i (mm_i x), r, n, M) else none
  | .inr (.inl x) :: r, 1 => if i + 1 < ls.length then some (pc + k, mm_st2 ls i (mm_j x), r, n, M) else none
  | .inr (.inr (.inl x)) :: r, 2 => if i < ls.length then some (pc + k, mm_st1 ls i (mm_r x), r, n, M) else none
  | _, _ => none
def mm_i1 (f : Int → Int) : Option mm_S := match st with
  | .inl x :: r => some (pc + 1, ls, mm_i (f x) :: r, n, M)
  | _ => none
def mm_i2 (f : Int → Int → Int) : Option mm_S := match st with
  | .inl y :: .inl x :: r => some (pc + 1, ls, mm_i (f x y) :: r, n, M)
  | _ => none
def mm_j1 (f : Int → Int) : Option mm_S := match st with
  | .inr (.inl x) :: r => some (pc + 1, ls, mm_j (f x) :: r, n, M)
  | _ => none
def mm_j2 (f : Int → Int → Int) : Option mm_S := match st with
  | .inr (.inl y) :: .inr (.inl x) :: r => some (pc + 1, ls, mm_j (f x y) :: r, n, M)
  | _ => none
def mm_js (f : Int → Int → Int) : Option mm_S := match st with
  | .inl y :: .inr (.inl x) :: r => some (pc + 1, ls, mm_j (f x y) :: r, n, M)
  | _ => none
def mm_to (off : Int) (s : List mm_V) : Option mm_S := if 0 ≤ (pc : Int) + off then some (((pc : Int) + off).toNat, ls, s, n, M) else none
def mm_if1 (p : Int32 → Bool) (off : Int) : Option mm_S := match st with
  | .inl x :: r => match mm_to pc ls n M off r with
    | some σ => if p (mm_I x) = true then some σ else some (pc + 3, ls, r, n, M)
    | none => none
  | _ => none
def mm_if2 (p : Int32 → Int32 → Bool) (off : Int) : Option mm_S := match st with
  | .inl y :: .inl x :: r => match mm_to pc ls n M off r with
    | some σ => if p (mm_I x) (mm_I y) = true then some σ else some (pc + 3, ls, r, n, M)
    | none => none
  | _ => none
variable (P : mm_P) (c : Nat) (ini : Bool)
/-- an array of that component type: its number, place and length are fine -/
def mm_arr (ty : FieldType) (a : Nat) (i : Int) : Bool := match mm_kd P a with
  | some (.inr (t, m)) => decide (a < n) && decide (t = ty) && decide (0 ≤ i) && decide (i < m) && decide (m < 2147483648)
  | _ => false
def mm_ald (ty : FieldType) (w : Nat) : Option mm_S := match st with
  | .inl i :: .inr (.inr (.inl a)) :: r =>
    if a = mm_scr ∧ ty = .int then (if 0 ≤ i ∧ i < (mm_sc P).1 ∧ (mm_sc P).1 < 2147483648 then some (pc + 1, ls, mm_i ((mm_sc P).2 i) :: r, n, M) else none)
    else if mm_arr n P ty a i = true then some (pc + 1, ls, (if w = 0 then mm_i (M.1 a i) else mm_j (M.1 a i)) :: r, n, M) else none
  | _ => none
def mm_ast (ty : FieldType) (w : Nat) : Option mm_S := match st, w with
  | .inl x :: .inl i :: .inr (.inr (.inl a)) :: r, 0 => if mm_arr n P ty a i = true ∧ (ty = .boolean → x = 0 ∨ x = 1) then some (pc + 1, ls, r, n, mm_putN M a i (mm_I x).toInt) else none
  | .inr (.inl x) :: .inl i :: .inr (.inr (.inl a)) :: r, 1 => if mm_arr n P ty a i = true then some (pc + 1, ls, r, n, mm_putN M a i (mm_J x).toInt) else none
  | _, _ => none
def mm_aald : Option mm_S := match st with
  | .inl i :: .inr (.inr (.inl a)) :: r => match mm_kd P a, M.2.1 a i with
    | some (.inr (.object C, m)), some b => if a < n ∧ 0 ≤ i ∧ i < m ∧ m < 2147483648 then some (pc + 1, ls, mm_r b :: r, n, M) else none
    | _, _ => none
  | _ => none
def mm_aast : Option mm_S := match st with
  | .inr (.inr (.inl b)) :: .inl i :: .inr (.inr (.inl a)) :: r => match mm_kd P a, mm_kd P b with
    | some (.inr (.object C, m)), some (.inl 0) => if a < n ∧ b < n ∧ 0 ≤ i ∧ i < m ∧ m < 2147483648 then some (pc + 1, ls, r, n, mm_putR M a i (some b)) else none
    | _, _ => none
  | _ => none
def mm_alen : Option mm_S := match st with
  | .inr (.inr (.inl a)) :: r =>
    if a = mm_scr then some (pc + 1, ls, mm_i (mm_sc P).1 :: r, n, M)
    else match mm_kd P a with
    | some (.inr (_, m)) => if a < n then some (pc + 1, ls, mm_i m :: r, n, M) else none
    | _ => none
  | _ => none
def mm_get (idx : Nat) : Option mm_S := match st, mm_lf P c idx with
  | .inr (.inr (.inl a)) :: r, some (d, k) => if mm_kd P a = some (.inl d) ∧ a < n then (match mm_ft P d k with
      | some .int | some .boolean => some (pc + 3, ls, mm_i (M.1 a k) :: r, n, M)
      | some .long => some (pc + 3, ls, mm_j (M.1 a k) :: r, n, M)
      | some (.object _) | some (.array _) => (match M.2.1 a k with
        | some b => some (pc + 3, ls, mm_r b :: r, n, M)
        | none => none)
      | _ => none) else none
  | _, _ => none
def mm_put (idx : Nat) : Option mm_S := match st, mm_lf P c idx with
  | v :: .inr (.inr (.inl a)) :: r, some (d, k) => if mm_kd P a = some (.inl d) ∧ a < n ∧ (mm_fi P d k = true → ini = true ∧ c = d) then (match mm_ft P d k, v with
      | some .int, .inl x => some (pc + 3, ls, r, n, mm_putN M a k (mm_I x).toInt)
      | some .boolean, .inl x => if x = 0 ∨ x = 1 then some (pc + 3, ls, r, n, mm_putN M a k x) else none
      | some .long, .inr (.inl x) => some (pc + 3, ls, r, n, mm_putN M a k (mm_J x).toInt)
      | some (.object _), .inr (.inr (.inl b)) => some (pc + 3, ls, r, n, mm_putR M a k (some b))
      | some (.array _), .inr (.inr (.inl b)) => some (pc + 3, ls, r, n, mm_putR M a k (some b))
      | _, _ => none) else none
  | _, _ => none
def mm_nwa (ty : FieldType) (k : Nat) : Option mm_S := match st with
  | .inl x :: r => if mm_kd P n = some (.inr (ty, x.toNat)) ∧ 0 ≤ x ∧ x < 60000000 ∧ n < mm_scr then some (pc + k, ls, mm_r n :: r, n + 1, mm_fresh M n) else none
  | _ => none
def mm_new (idx : Nat) : Option mm_S := match mm_ln P c idx with
  | some d => if mm_kd P n = some (.inl d) ∧ n < mm_scr then some (pc + 3, ls, mm_r n :: st, n + 1, mm_fresh M n) else none
  | none => none
def mm_sw (x : Int) (r : List mm_V) (dflt lo hi : Int) (offs : Array Int) : Option mm_S :=
  if (mm_I x).toInt < lo ∨ hi < (mm_I x).toInt then mm_to pc ls n M dflt r
  else match offs[((mm_I x).toInt - lo).toNat]? with
    | some off => mm_to pc ls n M off r
    | none => none
def mm_lsw (x : Int) (r : List mm_V) (dflt : Int) (ps : Array (Int × Int)) : Option mm_S :=
  if (ps.toList.zip (ps.toList.drop 1)).all (fun (a, next) => a.1 < next.1) = true then mm_to pc ls n M (Op.lookupswitch.offset ps.toList dflt (mm_I x).toInt) r else none
/-- one step that is no call and no end -/
def mm_do (i : Instr) : Option mm_S := match i with
  | .iconst v => some (pc + 1, ls, mm_i v :: st, n, M)
  | .bipush v => if -128 ≤ v ∧ v < 128 then some (pc + 2, ls, mm_i v :: st, n, M) else none
  | .sipush v => if -32768 ≤ v ∧ v < 32768 then some (pc + 3, ls, mm_i v :: st, n, M) else none
  | .lconst v => some (pc + 1, ls, mm_j (v : Nat) :: st, n, M)
  | .ldc idx => match mm_lc P c idx with
    | some v => some (pc + 2, ls, mm_i v :: st, n, M)
    | none => none
  | .ldc_w idx => match mm_lc P c idx with
    | some v => some (pc + 3, ls, mm_i v :: st, n, M)
    | none => none
  | .ldc2_w idx => match mm_lj P c idx with
    | some v => some (pc + 3, ls, mm_j v :: st, n, M)
    | none => none
  | .iload i => mm_ld pc ls st n M 2 i 0
  | .iload_n i => mm_ld pc ls st n M 1 i 0
  | .lload i => mm_ld pc ls st n M 2 i 1
  | .lload_n i => mm_ld pc ls st n M 1 i 1
  | .aload i => mm_ld pc ls st n M 2 i 2
  | .aload_n i => mm_ld pc ls st n M 1 i 2
  | .istore i => mm_sto pc ls st n M 2 i 0
  | .istore_n i => mm_sto pc ls st n M 1 i 0
  | .lstore i => mm_sto pc ls st n M 2 i 1
  | .lstore_n i => mm_sto pc ls st n M 1 i 1
  | .astore i => mm_sto pc ls st n M 2 i 2
  | .astore_n i => mm_sto pc ls st n M 1 i 2
  | .iinc i v => match ls[i]? with
    | some (.inl x) => some (pc + 3, mm_st1 ls i (mm_i (x + v)), st, n, M)
    | _ => none
  | .iadd => mm_i2 pc ls st n M (fun x y => x + y)
  | .isub => mm_i2 pc ls st n M (fun x y => x - y)
  | .imul => mm_i2 pc ls st n M (fun x y => x * y)
  | .idiv => match st with
    | .inl y :: .inl x :: r => if mm_I y = 0 then none else some (pc + 1, ls, mm_i (mm_I x / mm_I y).toInt :: r, n, M)
    | _ => none
  | .irem => match st with
    | .inl y :: .inl x :: r => if mm_I y = 0 then none else some (pc + 1, ls, mm_i (mm_I x - mm_I x / mm_I y * mm_I y).toInt :: r, n, M)
    | _ => none
  | .ineg => mm_i1 pc ls st n M (fun x => 0 - x)
  | .iand => mm_i2 pc ls st n M (fun x y => (mm_I x &&& mm_I y).toInt)
  | .ior => mm_i2 pc ls st n M (fun x y => (mm_I x ||| mm_I y).toInt)
  | .ixor => mm_i2 pc ls st n M (fun x y => (mm_I x ^^^ mm_I y).toInt)
  | .ishl => mm_i2 pc ls st n M (fun x y => (mm_I x <<< (mm_I y &&& 31)).toInt)
  | .ishr => mm_i2 pc ls st n M (fun x y => (mm_I x >>> (mm_I y &&& 31)).toInt)
  | .iushr => mm_i2 pc ls st n M (fun x y => ((mm_I x).toUInt32 >>> ((mm_I y).toUInt32 &&& Int32.toUInt32 31)).toInt32.toInt)
  | .ladd => mm_j2 pc ls st n M (fun x y => x + y)
  | .lsub => mm_j2 pc ls st n M (fun x y => x - y)
  | .lmul => mm_j2 pc ls st n M (fun x y => x * y)
  | .ldiv => match st with
    | .inr (.inl y) :: .inr (.inl x) :: r => if mm_J y = 0 then none else some (pc + 1, ls, mm_j (mm_J x / mm_J y).toInt :: r, n, M)
    | _ => none
  | .land => mm_j2 pc ls st n M (fun x y => (mm_J x &&& mm_J y).toInt)
  | .lor => mm_j2 pc ls st n M (fun x y => (mm_J x ||| mm_J y).toInt)
  | .lxor => mm_j2 pc ls st n M (fun x y => (mm_J x ^^^ mm_J y).toInt)
  | .lshl => mm_js pc ls st n M (fun x y => (mm_J x <<< ((mm_I y).toInt64 &&& 63)).toInt)
  | .lushr => mm_js pc ls st n M (fun x y => ((mm_J x).toUInt64 >>> ((mm_I y).toInt64.toUInt64 &&& Int64.toUInt64 63)).toInt64.toInt)
  | .i2l => match st with
    | .inl x :: r => some (pc + 1, ls, mm_j (mm_I x).toInt :: r, n, M)
    | _ => none
  | .l2i => match st with
    | .inr (.inl x) :: r => some (pc + 1, ls, mm_i x :: r, n, M)
    | _ => none
  | .lcmp => match st with
    | .inr (.inl y) :: .inr (.inl x) :: r => some (pc + 1, ls, mm_i (lg_cmp (mm_J x) (mm_J y)).toInt :: r, n, M)
    | _ => none
  | .dup => match st with
    | v :: r => if mm_cat v = 1 then some (pc + 1, ls, v :: v :: r, n, M) else none
    | _ => none
  | .pop => match st with
    | v :: r => if mm_cat v = 1 then some (pc + 1, ls, r, n, M) else none
    | _ => none
  | .dup_x1 => match st with
    | v :: w :: r => if mm_cat v = 1 ∧ mm_cat w = 1 then some (pc + 1, ls, v :: w :: v :: r, n, M) else none
    | _ => none
  | .dup2 => match st with
    | v :: w :: r => if mm_cat v = 1 ∧ mm_cat w = 1 then some (pc + 1, ls, v :: w :: v :: w :: r, n, M) else none
    | _ => none
  | .goto off => mm_to pc ls n M off st
  | .ifCond .eq off => mm_if1 pc ls st n M (fun x => decide (x = 0)) off
  | .ifCond .ne off => mm_if1 pc ls st n M (fun x => decide (x ≠ 0)) off
  | .ifCond .lt off => mm_if1 pc ls st n M (fun x => decide (x < 0)) off
  | .ifCond .ge off => mm_if1 pc ls st n M (fun x => decide (0 ≤ x)) off
  | .ifCond .gt off => mm_if1 pc ls st n M (fun x => decide (0 < x)) off
  | .ifCond .le off => mm_if1 pc ls st n M (fun x => decide (x ≤ 0)) off
  | .if_icmp .eq off => mm_if2 pc ls st n M (fun x y => decide (x = y)) off
  | .if_icmp .ne off => mm_if2 pc ls st n M (fun x y => decide (x ≠ y)) off
  | .if_icmp .lt off => mm_if2 pc ls st n M (fun x y => decide (x < y)) off
  | .if_icmp .ge off => mm_if2 pc ls st n M (fun x y => decide (y ≤ x)) off
  | .if_icmp .gt off => mm_if2 pc ls st n M (fun x y => decide (y < x)) off
  | .if_icmp .le off => mm_if2 pc ls st n M (fun x y => decide (x ≤ y)) off
  | .tableswitch dflt lo hi offs => match st with
    | .inl x :: r => mm_sw pc ls n M x r dflt lo hi offs
    | _ => none
  | .lookupswitch dflt ps => match st with
    | .inl x :: r => mm_lsw pc ls n M x r dflt ps
    | _ => none
  | .getfield idx => mm_get pc ls st n M P c idx
  | .putfield idx => mm_put pc ls st n M P c ini idx
  | .iaload => mm_ald pc ls st n M P .int 0
  | .baload => mm_ald pc ls st n M P .boolean 0
  | .laload => mm_ald pc ls st n M P .long 1
  | .aaload => mm_aald pc ls st n M P
  | .iastore => mm_ast pc ls st n M P .int 0
  | .bastore => mm_ast pc ls st n M P .boolean 0
  | .lastore => mm_ast pc ls st n M P .long 1
  | .aastore => mm_aast pc ls st n M P
  | .arraylength => mm_alen pc ls st n M P
  | .newarray .int => mm_nwa pc ls st n M P .int 2
  | .newarray .boolean => mm_nwa pc ls st n M P .boolean 2
  | .newarray .long => mm_nwa pc ls st n M P .long 2
  | .anewarray idx => match mm_la P c idx with
    | some 0 => mm_nwa pc ls st n M P (.object "CellAreas$Area") 3
    | _ => none
  | .new idx => mm_new pc ls st n M P c idx
  | _ => none
end

def mm_iv : Instr → Option (Nat × Nat)
  | .invokestatic idx => some (0, idx)
  | .invokevirtual idx => some (1, idx)
  | .invokespecial idx => some (2, idx)
  | _ => none
def mm_ret (t : Option FieldType) (i : Instr) (st : List mm_V) : Option (Option mm_V) := match i, t, st with
  | .ireturn, some .int, [.inl x] => some (some (mm_i x))
  | .ireturn, some .boolean, [.inl x] => if x = 0 ∨ x = 1 then some (some (mm_i x)) else none
  | .lreturn, some .long, [.inr (.inl x)] => some (some (mm_j x))
  | .areturn, some (.object _), [.inr (.inr (.inl x))] => some (some (mm_r x))
  | .return_, none, [] => some none
  | _, _, _ => none
/-- new; dup; <init>; athrow -/
def mm_thr (P : mm_P) (y : Nat) (me : mm_E) (pc : Nat) (st : List mm_V) (i : Instr) : Option Nat := match i with
  | .new idx => match mm_lt P me.1 idx, mm_co P y (pc + 3), mm_co P y (pc + 4), mm_co P y (pc + 7) with
    | some x, some (.dup, 1), some (.invokespecial ic, 3), some (.athrow, 1) => if mm_lt P me.1 ic = some (x + 100) ∧ st = [] ∧ 6 ≤ me.2.2.2.2.2.1 ∧ 81 ≤ me.2.2.2.2.2.2 then some x else none
    | _, _, _, _ => none
  | _ => none
def mm_args (k : Nat) (st : List mm_V) : Option (List mm_V × List mm_V) := if k ≤ st.length then some ((st.take k).reverse, st.drop k) else none
def mm_exp (as : List mm_V) : List mm_V := as.flatMap (fun v => if mm_cat v = 2 then [v, mm_u] else [v])
def mm_ent (m : Nat) (as : List mm_V) : List mm_V := mm_exp as ++ List.replicate (m - (mm_exp as).length) mm_u
/-- a call has its room, its receiver is there -/
def mm_cok (P : mm_P) (w : Nat) (me mz : mm_E) (as r : List mm_V) (n : Nat) : Bool :=
  decide (mm_wd r ≤ 8) && decide (mz.2.2.2.2.2.1 + 1 ≤ me.2.2.2.2.2.1) && decide (8 + (mz.2.2.2.1 + 11) + mz.2.2.2.2.2.2 ≤ me.2.2.2.2.2.2) && decide ((mm_exp as).length ≤ mz.2.2.2.1) &&
  (decide (w = 0) || (match as.head? with
    | some (.inr (.inr (.inl a))) => decide (mm_kd P a = some (.inl mz.1)) && decide (a < n)
    | _ => false))
/-- what is done at once: Object.<init>, Math.max, min, abs, System.arraycopy of longs -/
def mm_bi (P : mm_P) (me : mm_E) (b w pc : Nat) (ls st : List mm_V) (n : Nat) (M : mm_M) : Option mm_S :=
  if 1 ≤ me.2.2.2.2.2.1 ∧ mm_wd st + 40 ≤ me.2.2.2.2.2.2 then (match b, w, st with
  | 10, 2, .inr (.inr (.inl _)) :: r => some (pc + 3, ls, r, n, M)
  | 11, 0, .inl y :: .inl x :: r => some (pc + 3, ls, mm_i (if mm_I x < mm_I y then y else x) :: r, n, M)
  | 12, 0, .inl y :: .inl x :: r => some (pc + 3, ls, mm_i (if mm_I y < mm_I x then y else x) :: r, n, M)
  | 13, 0, .inl x :: r => some (pc + 3, ls, mm_i (if 0 ≤ mm_I x then x else 0 - x) :: r, n, M)
  | 14, 0, .inl k :: .inl dp :: .inr (.inr (.inl t)) :: .inl sp :: .inr (.inr (.inl a)) :: r => (match mm_kd P a, mm_kd P t with
    | some (.inr (.long, m)), some (.inr (.long, m2)) => if a < n ∧ t < n ∧ 0 ≤ k ∧ 0 ≤ sp ∧ 0 ≤ dp ∧ sp + k ≤ m ∧ dp + k ≤ m2 ∧ m < 2147483648 ∧ m2 < 2147483648 then some (pc + 3, ls, r, n, mm_cpy M a t sp dp k) else none
    | _, _ => none)
  | _, _, _ => none) else none
/-- where a thrown x is caught: behind the handler's store -/
def mm_cat9 (P : mm_P) (y pc x : Nat) (ls : List mm_V) (n : Nat) (M : mm_M) : Option mm_S := match mm_hd P y pc x with
  | none => none
  | some h => match mm_co P y h with
    | some (.astore_n k, 1) => if (k : Nat) < ls.length then some (h + 1, mm_st1 ls k mm_u, [], n, M) else none
    | some (.astore k, 2) => if k < ls.length then some (h + 2, mm_st1 ls k mm_u, [], n, M) else none
    | _ => none
/-- a run: the method's answer, how many things there are, the memory -/
def mm_ev (P : mm_P) : Nat → Nat → mm_S → Option (mm_R × Nat × mm_M)
  | 0, _, _ => none
  | f + 1, y, (pc, ls, st, n, M) => match mm_mt P y, mm_co P y pc with
    | some me, some (i, len) => if mm_lok i len = true then (match mm_iv i with
      | some (w, idx) => (match mm_lm P me.1 idx with
        | some z => (match mm_mt P z with
          | some mz => if 10 ≤ mz.2.1 then (match mm_bi P me mz.2.1 w pc ls st n M with
              | some σ => mm_ev P f y σ
              | none => none)
            else if mz.2.1 = w ∧ (w = 2 → mm_kd P n ≠ none) then (match mm_args (mz.2.2.1 + (if w = 0 then 0 else 1)) st with
              | some (as, r) => if mm_cok P w me mz as r n = true then (match mm_ev P f z (0, mm_ent mz.2.2.2.1 as, [], n, M) with
                  | some (.inl v, n', M') => mm_ev P f y (pc + 3, ls, v.toList ++ r, n', M')
                  | some (.inr x, n', M') => if mz.2.1 = 2 ∨ 100 ≤ x then none else (match mm_hd P y pc x with
                    | none => some (.inr x, n', M')
                    | some _ => (match mm_cat9 P y pc x ls n' M' with
                      | some σ => mm_ev P f y σ
                      | none => none))
                  | none => none) else none
              | none => none)
            else none
          | none => none)
        | none => none)
      | none => (match mm_ret me.2.2.2.2.1 i st with
        | some v => some (.inl v, n, M)
        | none => (match mm_thr P y me pc st i with
          | some x => some (.inr x, n, (M.1, M.2.1, M.2.2 + 1))
          | none => (match mm_do pc ls st n M P me.1 (me.2.1 == 2) i with
            | some σ => mm_ev P f y σ
            | none => none)))) else none
    | _, _ => none
