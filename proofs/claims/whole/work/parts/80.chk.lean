/-! which raw instructions a resolved one may stand for; the check of all blocks against the bytes -/
def am_off (z pc t : Nat) : Int := (am_bpc z t : Int) - (pc : Int)
def am_fl (z fid : Nat) : List Nat := am_FL.filterMap (fun e => if e.1 = am_own z ∧ e.2.2.1 = fid then some e.2.1 else none)
def am_sl (z k : Nat) : List Nat := am_SL.filterMap (fun e => if e.1 = am_own z ∧ e.2.2.1 = k then some e.2.1 else none)
def am_mls (z y : Nat) : List Nat := am_ML.filterMap (fun e => if e.1 = am_own z ∧ e.2.2.1 = y then some e.2.1 else none)
def am_cl (z k : Nat) : List Nat := am_CL.filterMap (fun e => if e.1 = am_own z ∧ e.2.2.1 = k then some e.2.1 else none)
def am_kl1 (z : Nat) (v : Int) : List Nat := am_KL.filterMap (fun e => if e.1 = am_own z ∧ e.2.2.1 = v then some e.2.1 else none)
def am_kl2 (z : Nat) (v : Int) : List Nat := am_KLL.filterMap (fun e => if e.1 = am_own z ∧ e.2.2.1 = v then some e.2.1 else none)
def am_oi (z : Nat) : List Nat := am_OI.filterMap (fun e => if e.1 = am_own z then some e.2.1 else none)
def am_fin4 (n : Nat) : List (Fin 4) := if h : n < 4 then [⟨n, h⟩] else []
def am_raws (z pc len : Nat) (ins : Instr) : List (Instr × Nat) :=
  match ins with
  | .iconst v => (.iconst v, 1) :: ((if (Int8.ofInt v).toInt32 = Int32.ofInt v then [(.bipush v, 2)] else []) ++ ((if (Int16.ofInt v).toInt32 = Int32.ofInt v then [(.sipush v, 3)] else []) ++ ((am_kl1 z v).map (fun i => (.ldc i, 2)) ++ (am_kl1 z v).map (fun i => (.ldc_w i, 3)))))
  | .jsr v => (if v = 0 then [(.lconst 0, 1)] else if v = 1 then [(.lconst 1, 1)] else []) ++ (am_kl2 z v).map (fun i => (.ldc2_w i, 3))
  | .ldc k => if am_own z = 9 ∧ k = 5 then [(.ldc 72, 2)] else if am_own z = 9 ∧ k = 6 then [(.ldc 64, 2)] else []
  | .getstatic k => (am_sl z k).map (fun i => (.getstatic i, 3))
  | .iload n => (.iload n, 2) :: (am_fin4 n).map (fun k => (.iload_n k, 1))
  | .lload n => (.lload n, 2) :: (am_fin4 n).map (fun k => (.lload_n k, 1))
  | .aload n => (.aload n, 2) :: (am_fin4 n).map (fun k => (.aload_n k, 1))
  | .istore n => (.istore n, 2) :: (am_fin4 n).map (fun k => (.istore_n k, 1))
  | .lstore n => (.lstore n, 2) :: (am_fin4 n).map (fun k => (.lstore_n k, 1))
  | .astore n => (.astore n, 2) :: (am_fin4 n).map (fun k => (.astore_n k, 1))
  | .iinc n c => [(.iinc n c, 3)]
  | .monitorenter => (am_oi z).map (fun i => (.invokespecial i, 3))
  | .checkcast _ => if am_own z = 15 then [(.checkcast 317, 3)] else []
  | .getfield f => (am_fl z f).map (fun i => (.getfield i, 3))
  | .putfield f => (am_fl z f).map (fun i => (.putfield i, 3))
  | .new c => (am_cl z c).map (fun i => (.new i, 3))
  | .newarray t => [(.newarray t, 2)]
  | .anewarray c => (am_cl z c).map (fun i => (.anewarray i, 3))
  | .invokedynamic k => if k = 0 then (if am_own z = 7 then [(.invokestatic 99, 3)] else if am_own z = 15 then [(.invokestatic 150, 3)] else []) else if am_own z = 15 then [(.invokevirtual 316, 3)] else []
  | .goto t => [(.goto (am_off z pc t.toNat), 3)]
  | .jsr_w t => [(.goto (am_off z pc t.toNat), 3)]
  | .ifCond c t => [(.ifCond c (am_off z pc t.toNat), 3)]
  | .if_icmp c t => [(.if_icmp c (am_off z pc t.toNat), 3)]
  | .ifnull t => [(.ifnull (am_off z pc t.toNat), 3)]
  | .ifnonnull t => [(.ifnonnull (am_off z pc t.toNat), 3)]
  | .tableswitch d lo hi offs => if (offs.size : Int) = hi - lo + 1 then [(.tableswitch (am_off z pc d.toNat) lo hi (offs.map (fun t => am_off z pc t.toNat)), len)] else []
  | .lookupswitch d ps => if (ps.toList.zip (ps.toList.drop 1)).all (fun (a, next) => a.1 < next.1) = true then [(.lookupswitch (am_off z pc d.toNat) (ps.map (fun q => (q.1, am_off z pc q.2.toNat))), len)] else []
  | .invokestatic y => if am_stc y = true then (am_mls z y).map (fun i => (.invokestatic i, 3)) else []
  | .invokevirtual y => if am_stc y = false ∧ ((am_yn y).name == "<init>") = false then (am_mls z y).map (fun i => (.invokevirtual i, 3)) else []
  | .invokespecial y => if am_stc y = false ∧ ((am_yn y).name == "<init>") = true ∧ am_rt y = none then (am_mls z y).map (fun i => (.invokespecial i, 3)) else []
  | i => [(i, 1)]
def am_ok (z : Nat) : Nat → List Instr → Bool
  | _, [] => true
  | pc, ins :: rest => match ins with
    | .goto_w t => am_bpc z t.toNat == pc
    | .ret t => am_bpc z t == pc
    | _ => match decode (am_by z) pc with
      | .ok (raw, len) => (am_raws z pc len ins).any (fun q => decide (q = (raw, len))) && am_ok z (pc + len) rest
      | .error _ => false
def am_okz (z : Nat) : Bool := (am_bt z).all (fun q => am_ok z q.1 q.2)
