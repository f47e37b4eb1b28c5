/-! the abstract machine -/
abbrev am_L : Type := List (Option Value)
abbrev am_M : Type := Nat × Nat × (Nat → Nat × Nat) × (Nat → Nat → Int32) × (Nat → Nat → Int64) × (Nat → Nat → Nat)
def mN (M : am_M) : Nat := M.1
def mS (M : am_M) : Nat := M.2.1
def mK (M : am_M) : Nat → Nat × Nat := M.2.2.1
def mI (M : am_M) : Nat → Nat → Int32 := M.2.2.2.1
def mL (M : am_M) : Nat → Nat → Int64 := M.2.2.2.2.1
def mA (M : am_M) : Nat → Nat → Nat := M.2.2.2.2.2
def am_up {α : Type} (f : Nat → α) (k : Nat) (v : α) : Nat → α := fun j => if j = k then v else f j
def wI (M : am_M) (i : Nat) (f : Nat → Int32) : am_M := (mN M, mS M, mK M, am_up (mI M) i f, mL M, mA M)
def wL (M : am_M) (i : Nat) (f : Nat → Int64) : am_M := (mN M, mS M, mK M, mI M, am_up (mL M) i f, mA M)
def wA (M : am_M) (i : Nat) (f : Nat → Nat) : am_M := (mN M, mS M, mK M, mI M, mL M, am_up (mA M) i f)
/-- a new thing of a kind and a length, with its rows -/
def am_alloc (M : am_M) (k n : Nat) (fi : Nat → Int32) : am_M :=
  (mN M + 1, mS M + n, am_up (mK M) (mN M) (k, n), am_up (mI M) (mN M) fi, am_up (mL M) (mN M) (fun _ => 0), am_up (mA M) (mN M) (fun _ => 0))
def am_kd (b : Bool) (M : am_M) (i : Nat) : Nat × Nat :=
  if i = 0 then mK M 0 else if i < 118 then (if b || decide (i < mN M) then am_KD i else (99, 0)) else mK M i
def am_rv (n : Nat) : Value := match n with
  | 0 => .null
  | k + 1 => .ref k
/-- a field's value: slot k, of the type ty (0, 3, 4 whole, 1 long, 2 a reference) -/
def am_fv (b : Bool) (M : am_M) (i k ty : Nat) : Value := match ty with
  | 1 => .long (mL M i k)
  | 2 => match (if b && decide (i < 118) then am_FA i k else 0) with
    | 0 => am_rv (mA M i k)
    | n + 1 => .ref n
  | _ => .int (mI M i k)
def am_kl (v : Option Value) : Option Value := match v with
  | some (.long _) => none
  | some (.double _) => none
  | x => x
def am_set1 : am_L → Nat → Value → am_L
  | [], _, _ => []
  | _ :: t, 0, v => some v :: t
  | h :: t, 1, v => am_kl h :: am_set1 t 0 v
  | h :: t, n + 2, v => h :: am_set1 t (n + 1) v
def am_set2 : am_L → Nat → Value → am_L
  | [], _, _ => []
  | [_], _, _ => []
  | _ :: _ :: t, 0, v => some v :: none :: t
  | h :: t, 1, v => am_kl h :: am_set2 t 0 v
  | h :: t, n + 2, v => h :: am_set2 t (n + 1) v
def am_inb (j : Int32) (n : Nat) : Prop := ¬ (j < 0 ∨ n ≤ j.toNatClampNeg)
/-- what an instruction that isn't a call or an end does: a jump's block (none: the next instruction), locals, stack, memory -/
abbrev am_R : Type := Option (Option Nat × am_L × List Value × am_M)
def am_fin (z c : Nat) (fin : Bool) : Bool := !fin || ((am_yn z).name == "<init>" && am_own z == c)
def am_put (b : Bool) (z fid : Nat) (v : Value) (i : Nat) (M : am_M) : Option am_M :=
  match am_fd fid with
  | (c, k, ty, fin) => if 9 ≤ i ∧ (am_kd b M i).1 = c ∧ k < am_nf c ∧ c < 13 ∧ am_fin z c fin = true then
    match ty, v with
    | 0, .int x => some (wI M i (am_up (mI M i) k x))
    | 3, .int x => if x = 0 ∨ x = 1 then some (wI M i (am_up (mI M i) k x)) else none
    | 1, .long x => some (wL M i (am_up (mL M i) k x))
    | 2, .null => if b = true ∧ i < 118 ∧ am_FA i k ≠ 0 then none else some (wA M i (am_up (mA M i) k 0))
    | 2, .ref r => if b = true ∧ i < 118 ∧ am_FA i k ≠ 0 then none else some (wA M i (am_up (mA M i) k (r + 1)))
    | _, _ => none
    else none
def am_get (b : Bool) (fid i : Nat) (M : am_M) : Option Value :=
  match am_fd fid with
  | (c, k, ty, _) => if (am_kd b M i).1 = c ∧ k < am_nf c ∧ c < 14 then some (am_fv b M i k ty) else none
def am_cmp (c : Jvm.ClassFile.Cond) (x y : Int32) : Bool := match c with
  | .eq => x == y
  | .ne => x != y
  | .lt => decide (x < y)
  | .ge => decide (y ≤ x)
  | .gt => decide (y < x)
  | .le => decide (x ≤ y)
def am_jmp (b : Bool) (t : Nat) : Option Nat := if b = true then some t else none
def am_tsw (d lo hi : Int) (offs : Array Int) (x : Int32) : Nat := if x.toInt < lo ∨ hi < x.toInt then d.toNat else (offs.getD (x.toInt - lo).toNat 0).toNat
def am_lsw (d : Int) (ps : List (Int × Int)) (x : Int32) : Nat := match ps with
  | [] => d.toNat
  | (k, o) :: t => if x.toInt = k then o.toNat else am_lsw d t x
def am_at (t : ArrayType) : Nat := match t with
  | .boolean => 22
  | .byte => 23
  | .int => 20
  | .long => 21
  | _ => 98
def am_canA (b : Bool) (M : am_M) (k n : Nat) : Prop := 118 ≤ mN M ∨ (b = false ∧ am_KD (mN M) = (k, n))
/-- negative constants: nM n is -(n + 1) -/
def nM (n : Nat) : Int32 := Int32.ofInt (Int.negSucc n)
def lM (n : Nat) : Int64 := Int64.ofInt (Int.negSucc n)
theorem am_ofI (n : Nat) : Int32.ofInt (Int.ofNat n) = nI n := Int32.ofInt_eq_ofNat
theorem am_ofL (n : Nat) : Int64.ofInt (Int.ofNat n) = lN n := Int64.ofInt_eq_ofNat
def am_step (b : Bool) (z : Nat) (ins : Instr) (lv : am_L) (st : List Value) (M : am_M) : am_R :=
  match ins with
  | .iconst v => match v with
    | .ofNat n => some (none, lv, .int (nI n) :: st, M)
    | .negSucc n => some (none, lv, .int (nM n) :: st, M)
  | .jsr v => match v with
    | .ofNat n => some (none, lv, .long (lN n) :: st, M)
    | .negSucc n => some (none, lv, .long (lM n) :: st, M)
  | .ldc k => if k = 5 ∨ k = 6 then some (none, lv, .ref k :: st, M) else none
  | .aconst_null => some (none, lv, .null :: st, M)
  | .getstatic k => match am_SV k with
    | some v => some (none, lv, v :: st, M)
    | none => none
  | .iload n => match lv[n]? with
    | some (some (.int x)) => some (none, lv, .int x :: st, M)
    | _ => none
  | .lload n => match lv[n]? with
    | some (some (.long x)) => some (none, lv, .long x :: st, M)
    | _ => none
  | .aload n => match lv[n]? with
    | some (some (.ref x)) => some (none, lv, .ref x :: st, M)
    | some (some .null) => some (none, lv, .null :: st, M)
    | some (some (.retAddr x)) => some (none, lv, .retAddr x :: st, M)
    | _ => none
  | .istore n => match st with
    | .int x :: r => if n < lv.length then some (none, am_set1 lv n (.int x), r, M) else none
    | _ => none
  | .lstore n => match st with
    | .long x :: r => if n + 1 < lv.length then some (none, am_set2 lv n (.long x), r, M) else none
    | _ => none
  | .astore n => match st with
    | .ref x :: r => if n < lv.length then some (none, am_set1 lv n (.ref x), r, M) else none
    | .null :: r => if n < lv.length then some (none, am_set1 lv n .null, r, M) else none
    | _ => none
  | .iinc n c => match lv[n]? with
    | some (some (.int x)) => if n < lv.length then (match c with
      | .ofNat q => some (none, am_set1 lv n (.int (x + nI q)), st, M)
      | .negSucc q => some (none, am_set1 lv n (.int (x + nM q)), st, M)) else none
    | _ => none
  | .iadd => match st with
    | .int y :: .int x :: r => some (none, lv, .int (x + y) :: r, M)
    | _ => none
  | .isub => match st with
    | .int y :: .int x :: r => some (none, lv, .int (x - y) :: r, M)
    | _ => none
  | .imul => match st with
    | .int y :: .int x :: r => some (none, lv, .int (x * y) :: r, M)
    | _ => none
  | .iand => match st with
    | .int y :: .int x :: r => some (none, lv, .int (x &&& y) :: r, M)
    | _ => none
  | .ior => match st with
    | .int y :: .int x :: r => some (none, lv, .int (x ||| y) :: r, M)
    | _ => none
  | .ixor => match st with
    | .int y :: .int x :: r => some (none, lv, .int (x ^^^ y) :: r, M)
    | _ => none
  | .idiv => match st with
    | .int y :: .int x :: r => if y = 0 then none else some (none, lv, .int (x / y) :: r, M)
    | _ => none
  | .irem => match st with
    | .int y :: .int x :: r => if y = 0 then none else some (none, lv, .int (x - x / y * y) :: r, M)
    | _ => none
  | .ineg => match st with
    | .int x :: r => some (none, lv, .int (-x) :: r, M)
    | _ => none
  | .ishl => match st with
    | .int y :: .int x :: r => some (none, lv, .int (x <<< (y &&& 31)) :: r, M)
    | _ => none
  | .ishr => match st with
    | .int y :: .int x :: r => some (none, lv, .int (x >>> (y &&& 31)) :: r, M)
    | _ => none
  | .iushr => match st with
    | .int y :: .int x :: r => some (none, lv, .int ((x.toUInt32 >>> (y.toUInt32 &&& Int32.toUInt32 31)).toInt32) :: r, M)
    | _ => none
  | .i2l => match st with
    | .int x :: r => some (none, lv, .long x.toInt64 :: r, M)
    | _ => none
  | .l2i => match st with
    | .long x :: r => some (none, lv, .int x.toInt32 :: r, M)
    | _ => none
  | .i2b => match st with
    | .int x :: r => some (none, lv, .int x.toInt8.toInt32 :: r, M)
    | _ => none
  | .i2c => match st with
    | .int x :: r => some (none, lv, .int (x.toUInt32 % 65536).toInt32 :: r, M)
    | _ => none
  | .ladd => match st with
    | .long y :: .long x :: r => some (none, lv, .long (x + y) :: r, M)
    | _ => none
  | .lsub => match st with
    | .long y :: .long x :: r => some (none, lv, .long (x - y) :: r, M)
    | _ => none
  | .lmul => match st with
    | .long y :: .long x :: r => some (none, lv, .long (x * y) :: r, M)
    | _ => none
  | .ldiv => match st with
    | .long y :: .long x :: r => if y = 0 then none else some (none, lv, .long (x / y) :: r, M)
    | _ => none
  | .land => match st with
    | .long y :: .long x :: r => some (none, lv, .long (x &&& y) :: r, M)
    | _ => none
  | .lor => match st with
    | .long y :: .long x :: r => some (none, lv, .long (x ||| y) :: r, M)
    | _ => none
  | .lxor => match st with
    | .long y :: .long x :: r => some (none, lv, .long (x ^^^ y) :: r, M)
    | _ => none
  | .lshl => match st with
    | .int y :: .long x :: r => some (none, lv, .long (x <<< (y.toInt64 &&& 63)) :: r, M)
    | _ => none
  | .lushr => match st with
    | .int y :: .long x :: r => some (none, lv, .long ((x.toUInt64 >>> (y.toInt64.toUInt64 &&& Int64.toUInt64 63)).toInt64) :: r, M)
    | _ => none
  | .lcmp => match st with
    | .long y :: .long x :: r => some (none, lv, .int (lg_cmp x y) :: r, M)
    | _ => none
  | .dup => match st with
    | .int x :: r => some (none, lv, .int x :: .int x :: r, M)
    | .ref x :: r => some (none, lv, .ref x :: .ref x :: r, M)
    | _ => none
  | .dup2 => match st with
    | .int y :: .ref x :: r => some (none, lv, .int y :: .ref x :: .int y :: .ref x :: r, M)
    | _ => none
  | .pop => match st with
    | .int _ :: r => some (none, lv, r, M)
    | _ => none
  | .monitorenter => match st with
    | .ref _ :: r => if (r.map Value.category).sum ≤ 8 then some (none, lv, r, M) else none
    | _ => none
  | .checkcast _ => match st with
    | .ref x :: r => if (am_kd b M x).1 = 20 ∧ 9 ≤ x then some (none, lv, .ref x :: r, M) else none
    | _ => none
  | .getfield fid => match st with
    | .ref i :: r => match am_get b fid i M with
      | some (.int x) => some (none, lv, .int x :: r, M)
      | some (.ref x) => some (none, lv, .ref x :: r, M)
      | some .null => some (none, lv, .null :: r, M)
      | some (.long x) => some (none, lv, .long x :: r, M)
      | _ => none
    | _ => none
  | .putfield fid => match st with
    | v :: .ref i :: r => match am_put b z fid v i M with
      | some M' => some (none, lv, r, M')
      | none => none
    | _ => none
  | .arraylength => match st with
    | .ref i :: r => match am_kd b M i with
      | (k, n) => if 20 ≤ k ∧ k ≤ 24 then some (none, lv, .int (nI n) :: r, M) else none
    | _ => none
  | .iaload => match st with
    | .int j :: .ref i :: r => if (am_kd b M i).1 = 20 ∧ ¬ (j < 0 ∨ (am_kd b M i).2 ≤ j.toNatClampNeg) then some (none, lv, .int (mI M i j.toNatClampNeg) :: r, M) else none
    | _ => none
  | .laload => match st with
    | .int j :: .ref i :: r => if (am_kd b M i).1 = 21 ∧ ¬ (j < 0 ∨ (am_kd b M i).2 ≤ j.toNatClampNeg) then some (none, lv, .long (mL M i j.toNatClampNeg) :: r, M) else none
    | _ => none
  | .baload => match st with
    | .int j :: .ref i :: r => if ((am_kd b M i).1 = 22 ∨ (am_kd b M i).1 = 23) ∧ ¬ (j < 0 ∨ (am_kd b M i).2 ≤ j.toNatClampNeg) then some (none, lv, .int (mI M i j.toNatClampNeg) :: r, M) else none
    | _ => none
  | .aaload => match st with
    | .int j :: .ref i :: r => if (am_kd b M i).1 = 24 ∧ ¬ (j < 0 ∨ (am_kd b M i).2 ≤ j.toNatClampNeg) then some (none, lv, am_rv (mA M i j.toNatClampNeg) :: r, M) else none
    | _ => none
  | .iastore => match st with
    | .int x :: .int j :: .ref i :: r => if 9 ≤ i ∧ (am_kd b M i).1 = 20 ∧ ¬ (j < 0 ∨ (am_kd b M i).2 ≤ j.toNatClampNeg) then some (none, lv, r, wI M i (am_up (mI M i) j.toNatClampNeg x)) else none
    | _ => none
  | .bastore => match st with
    | .int x :: .int j :: .ref i :: r =>
      if 9 ≤ i ∧ (am_kd b M i).1 = 22 ∧ ¬ (j < 0 ∨ (am_kd b M i).2 ≤ j.toNatClampNeg) then some (none, lv, r, wI M i (am_up (mI M i) j.toNatClampNeg (x &&& 1)))
      else if 9 ≤ i ∧ (am_kd b M i).1 = 23 ∧ ¬ (j < 0 ∨ (am_kd b M i).2 ≤ j.toNatClampNeg) then some (none, lv, r, wI M i (am_up (mI M i) j.toNatClampNeg x.toInt8.toInt32)) else none
    | _ => none
  | .lastore => match st with
    | .long x :: .int j :: .ref i :: r => if 9 ≤ i ∧ (am_kd b M i).1 = 21 ∧ ¬ (j < 0 ∨ (am_kd b M i).2 ≤ j.toNatClampNeg) then some (none, lv, r, wL M i (am_up (mL M i) j.toNatClampNeg x)) else none
    | _ => none
  | .aastore => match st with
    | .ref x :: .int j :: .ref i :: r => if 9 ≤ i ∧ (am_kd b M i).1 = 24 ∧ (am_kd b M x).1 = 11 ∧ ¬ (j < 0 ∨ (am_kd b M i).2 ≤ j.toNatClampNeg) then some (none, lv, r, wA M i (am_up (mA M i) j.toNatClampNeg (x + 1))) else none
    | _ => none
  | .new c => if c < 13 ∧ (118 ≤ mN M ∨ (b = false ∧ am_KD (mN M) = (c, am_nf c))) then some (none, lv, .ref (mN M) :: st, am_alloc M c (am_nf c) (fun _ => 0)) else none
  | .newarray t => match st with
    | .int j :: r => if ¬ j < 0 ∧ j.toNatClampNeg ≤ 10000 ∧ am_at t ≠ 98 ∧ (118 ≤ mN M ∨ (b = false ∧ am_KD (mN M) = (am_at t, j.toNatClampNeg))) then some (none, lv, .ref (mN M) :: r, am_alloc M (am_at t) j.toNatClampNeg (fun _ => 0)) else none
    | _ => none
  | .anewarray c => match st with
    | .int j :: r => if c = 11 ∧ ¬ j < 0 ∧ j.toNatClampNeg ≤ 10000 ∧ (118 ≤ mN M ∨ (b = false ∧ am_KD (mN M) = (24, j.toNatClampNeg))) then some (none, lv, .ref (mN M) :: r, am_alloc M 24 j.toNatClampNeg (fun _ => 0)) else none
    | _ => none
  | .invokedynamic k => if k = 0 then (match st with
    | .int n :: .int dp :: .ref di :: .int sp :: .ref si :: r => if sp = 0 ∧ dp = 0 ∧ ¬ n < 0 ∧ 9 ≤ di ∧ (am_kd b M si).1 = 20 ∧ (am_kd b M di).1 = 20 ∧ n.toNatClampNeg ≤ (am_kd b M si).2 ∧ n.toNatClampNeg ≤ (am_kd b M di).2 ∧ (r.map Value.category).sum ≤ 8 then
        some (none, lv, r, wI M di (fun j => if j < n.toNatClampNeg then mI M si j else mI M di j)) else none
    | _ => none)
    else if k = 1 then (match st with
    | .ref i :: r => if 9 ≤ i ∧ (am_kd b M i).1 = 20 ∧ 118 ≤ mN M ∧ (r.map Value.category).sum ≤ 8 then some (none, lv, .ref (mN M) :: r, am_alloc M 20 (am_kd b M i).2 (mI M i)) else none
    | _ => none)
    else none
  | .goto t => some (some t.toNat, lv, st, M)
  | .jsr_w t => some (some t.toNat, lv, st, M)
  | .goto_w t => some (some t.toNat, lv, st, M)
  | .ret t => some (some t, lv, st, M)
  | .ifCond c t => match st with
    | .int x :: r => some (am_jmp (am_cmp c x 0) t.toNat, lv, r, M)
    | _ => none
  | .if_icmp c t => match st with
    | .int y :: .int x :: r => some (am_jmp (am_cmp c x y) t.toNat, lv, r, M)
    | _ => none
  | .ifnull t => match st with
    | .null :: r => some (some t.toNat, lv, r, M)
    | .ref _ :: r => some (none, lv, r, M)
    | _ => none
  | .ifnonnull t => match st with
    | .null :: r => some (none, lv, r, M)
    | .ref _ :: r => some (some t.toNat, lv, r, M)
    | _ => none
  | .tableswitch d lo hi offs => match st with
    | .int x :: r => some (some (am_tsw d lo hi offs x), lv, r, M)
    | _ => none
  | .lookupswitch d ps => match st with
    | .int x :: r => some (some (am_lsw d ps.toList x), lv, r, M)
    | _ => none
  | _ => none
def am_pop : Nat → List Value → List Value → Option (List Value × List Value)
  | 0, acc, st => some (acc, st)
  | _ + 1, _, [] => none
  | n + 1, acc, v :: st => am_pop n (v :: acc) st
def am_lva : List Value → am_L
  | [] => []
  | .long x :: t => some (.long x) :: none :: am_lva t
  | .double x :: t => some (.double x) :: none :: am_lva t
  | v :: t => some v :: am_lva t
def am_ent (z : Nat) (as : List Value) : am_L := am_lva as ++ List.replicate (am_ml z - (am_lva as).length) none
/-- a method's end -/
def am_end (z : Nat) (ins : Instr) (st : List Value) : Option (Option Value) :=
  match ins with
  | .return_ => match am_rt z, st with
    | none, [] => some none
    | _, _ => none
  | .ireturn => match am_rt z, st with
    | some ty, [.int v] => if narrow ty (.int v) = .int v ∧ ty ≠ .long then some (some (.int v)) else none
    | _, _ => none
  | .lreturn => match am_rt z, st with
    | some .long, [.long v] => some (some (.long v))
    | _, _ => none
  | .areturn => match am_rt z, st with
    | some (.object _), [.ref v] => some (some (.ref v))
    | some (.object _), [.null] => some (some .null)
    | some (.array _), [.ref v] => some (some (.ref v))
    | _, _ => none
  | _ => none
/-- the receiver -/
def am_rcv (b : Bool) (z : Nat) (M : am_M) (as : List Value) : Prop := match as with
  | .ref i :: _ => (am_kd b M i).1 = am_own z ∧ am_own z < 14
  | _ => False
def am_rcvB (b : Bool) (z : Nat) (M : am_M) (as : List Value) : Bool := match as with
  | .ref i :: _ => Nat.beq (am_kd b M i).1 (am_own z) && decide (am_own z < 14)
  | _ => false
def am_fit (z : Nat) (as rs : List Value) : Bool := decide ((am_lva as).length ≤ am_ml z) && decide ((rs.map Value.category).sum ≤ 8)
def am_call (b : Bool) (ins : Instr) (st : List Value) (M : am_M) : Option (Nat × List Value × List Value) :=
  match ins with
  | .invokestatic z => match am_pop (am_na z) [] st with
    | some (as, rs) => if am_fit z as rs = true then some (z, as, rs) else none
    | none => none
  | .invokevirtual z => match am_pop (am_na z) [] st with
    | some (as, rs) => if (am_fit z as rs && am_rcvB b z M as) = true then some (z, as, rs) else none
    | none => none
  | .invokespecial z => match am_pop (am_na z) [] st with
    | some (as, rs) => if (am_fit z as rs && am_rcvB b z M as) = true then some (z, as, rs) else none
    | none => none
  | _ => none
def am_one (b : Bool) (rec : Nat → Nat → List Instr → am_L → List Value → am_M → Option (Option Value × am_M)) (d z : Nat) (ins : Instr) (rest : List Instr) (lv : am_L) (st : List Value) (M : am_M) : Option (Option Value × am_M) :=
  match am_step b z ins lv st M with
  | some (none, lv', st', M') => rec d z rest lv' st' M'
  | some (some t, lv', st', M') => rec d z (am_blk z t) lv' st' M'
  | none => match am_end z ins st with
    | some r => some (r, M)
    | none => match d with
      | 0 => none
      | d' + 1 => match am_call b ins st M with
        | none => none
        | some (z', as, rs) => match rec d' z' (am_blk z' 0) (am_ent z' as) [] M with
          | none => none
          | some (r, M') => rec (d' + 1) z rest lv (r.toList ++ rs) M'
def am_exec (b : Bool) : Nat → Nat → Nat → List Instr → am_L → List Value → am_M → Option (Option Value × am_M)
  | 0 => fun _ _ _ _ _ _ => none
  | f + 1 => fun d z code lv st M => match code with
    | [] => none
    | ins :: rest => am_one b (am_exec b f) d z ins rest lv st M
theorem am_exec_cons (b : Bool) (f d z : Nat) (ins : Instr) (rest : List Instr) (lv : am_L) (st : List Value) (M : am_M) : am_exec b (f + 1) d z (ins :: rest) lv st M = am_one b (am_exec b f) d z ins rest lv st M := rfl
