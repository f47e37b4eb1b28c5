/-! words of the tables, by their places -/
def am_nst (w : Cond) : Bool := match w with
  | .fieldLinkNest .. => true
  | .methodLinkNest .. => true
  | _ => false
def am_good : List Cond := lw_tbl.filter goodWord
def am_wat (i : Nat) (w : Cond) : Bool := decide (lw_tbl[i]? = some w)
theorem am_wat_mem {i : Nat} {w : Cond} (h : am_wat i w = true) : w ∈ lw_tbl := List.mem_of_getElem? (of_decide_eq_true h)
theorem am_good_mem {w : Cond} (h : w ∈ lw_tbl) (hg : goodWord w = true) : w ∈ am_good := List.mem_filter.mpr ⟨h, hg⟩
def am_flw (e : Nat × Nat × Nat × Bool × Nat) : Cond := if e.2.2.2.1 then .fieldLinkNest (am_CN e.1) e.2.1 (am_CN (am_fd e.2.2.1).1) (am_f (am_fd e.2.2.1).1 (am_fd e.2.2.1).2.1).1 (am_f (am_fd e.2.2.1).1 (am_fd e.2.2.1).2.1).2.1 "IceSearch" else .fieldLink (am_CN e.1) e.2.1 (am_CN (am_fd e.2.2.1).1) (am_f (am_fd e.2.2.1).1 (am_fd e.2.2.1).2.1).1 (am_f (am_fd e.2.2.1).1 (am_fd e.2.2.1).2.1).2.1
def am_mlw (e : Nat × Nat × Nat × Bool × Nat) : Cond := if e.2.2.2.1 then .methodLinkNest (am_CN e.1) e.2.1 (am_yn e.2.2.1) "IceSearch" else .methodLink (am_CN e.1) e.2.1 (am_yn e.2.2.1)
def am_slw (e : Nat × Nat × Nat × Nat) : Cond := .fieldLink (am_CN e.1) e.2.1 (am_SN e.2.2.1).1 (am_SN e.2.2.1).2.1 (am_SN e.2.2.1).2.2
def am_clw (e : Nat × Nat × Nat × Nat) : Cond := .classLink (am_CN e.1) e.2.1 (am_CN e.2.2.1)
def am_klw (e : Nat × Nat × Int × Nat) : Cond := .constant (am_CN e.1) e.2.1 (Int32.ofInt e.2.2.1)
def am_kllw (e : Nat × Nat × Int × Nat) : Cond := .constantLong (am_CN e.1) e.2.1 (Int64.ofInt e.2.2.1)
def am_oiw (e : Nat × Nat × Nat) : Cond := .methodLink (am_CN e.1) e.2.1 Lib.objectInit
set_option maxRecDepth 100000 in
theorem am_FL_ok : am_FL.all (fun e => am_wat e.2.2.2.2 (am_flw e)) = true := by decide +kernel
set_option maxRecDepth 100000 in
theorem am_ML_ok : am_ML.all (fun e => am_wat e.2.2.2.2 (am_mlw e)) = true := by decide +kernel
set_option maxRecDepth 100000 in
theorem am_SL_ok : am_SL.all (fun e => am_wat e.2.2.2 (am_slw e)) = true := by decide +kernel
set_option maxRecDepth 100000 in
theorem am_CL_ok : am_CL.all (fun e => am_wat e.2.2.2 (am_clw e)) = true := by decide +kernel
set_option maxRecDepth 100000 in
theorem am_KL_ok : am_KL.all (fun e => am_wat e.2.2.2 (am_klw e)) = true := by decide +kernel
set_option maxRecDepth 100000 in
theorem am_KLL_ok : am_KLL.all (fun e => am_wat e.2.2.2 (am_kllw e)) = true := by decide +kernel
set_option maxRecDepth 100000 in
theorem am_OI_ok : am_OI.all (fun e => am_wat e.2.2 (am_oiw e)) = true := by decide +kernel
def am_mpw (e : Nat × Nat × Nat × Nat × Nat) : Bool :=
  am_wat e.2.2.1 (if am_stc e.1 then .static (am_yn e.1) else .instanceMethod (am_yn e.1)) && am_wat e.2.2.2.1 (.initialized (am_yn e.1).cls) && (am_stc e.1 || (am_yn e.1).name == "<init>" || am_wat e.2.2.2.2 (.selects (am_yn e.1).cls (am_yn e.1) (am_yn e.1)))
def am_mpx (e : Nat × Nat × Nat × Nat × Nat) : Bool :=
  decide ((am_yn e.1).cls = am_CN (am_own e.1)) && decide ((am_yn e.1).cls ≠ "java/lang/invoke/MethodHandle" ∧ (am_yn e.1).cls ≠ "java/lang/invoke/VarHandle") && decide ((parseMethodDescriptor (am_yn e.1).desc).map (fun d => d.parameters.length) = some (if am_stc e.1 then am_na e.1 else am_na e.1 - 1)) && (am_stc e.1 || decide (1 ≤ am_na e.1)) && plainFor (am_yn e.1) && decide (am_ml e.1 ≤ 20)
theorem am_MPx_ok : am_MP.all am_mpx = true := by decide +kernel
set_option maxRecDepth 100000 in
theorem am_MP_ok : am_MP.all am_mpw = true := by decide +kernel
set_option maxRecDepth 100000 in
theorem am_MPc0 : ((am_MP.drop 0).take 20).map (fun e => lw_tbl[e.2.1]?) = ((am_MP.drop 0).take 20).map (fun e => some (Cond.code (am_yn e.1) (am_by e.1) (am_ml e.1) (am_rt e.1))) := rfl
set_option maxRecDepth 100000 in
theorem am_MPc1 : ((am_MP.drop 20).take 20).map (fun e => lw_tbl[e.2.1]?) = ((am_MP.drop 20).take 20).map (fun e => some (Cond.code (am_yn e.1) (am_by e.1) (am_ml e.1) (am_rt e.1))) := rfl
set_option maxRecDepth 100000 in
theorem am_MPc2 : ((am_MP.drop 40).take 20).map (fun e => lw_tbl[e.2.1]?) = ((am_MP.drop 40).take 20).map (fun e => some (Cond.code (am_yn e.1) (am_by e.1) (am_ml e.1) (am_rt e.1))) := rfl
set_option maxRecDepth 100000 in
theorem am_MPc3 : ((am_MP.drop 60).take 20).map (fun e => lw_tbl[e.2.1]?) = ((am_MP.drop 60).take 20).map (fun e => some (Cond.code (am_yn e.1) (am_by e.1) (am_ml e.1) (am_rt e.1))) := rfl
set_option maxRecDepth 100000 in
theorem am_MPc4 : ((am_MP.drop 80).take 20).map (fun e => lw_tbl[e.2.1]?) = ((am_MP.drop 80).take 20).map (fun e => some (Cond.code (am_yn e.1) (am_by e.1) (am_ml e.1) (am_rt e.1))) := rfl
set_option maxRecDepth 100000 in
theorem am_MPc5 : ((am_MP.drop 100).take 20).map (fun e => lw_tbl[e.2.1]?) = ((am_MP.drop 100).take 20).map (fun e => some (Cond.code (am_yn e.1) (am_by e.1) (am_ml e.1) (am_rt e.1))) := rfl
set_option maxRecDepth 100000 in
theorem am_MPc6 : ((am_MP.drop 120).take 20).map (fun e => lw_tbl[e.2.1]?) = ((am_MP.drop 120).take 20).map (fun e => some (Cond.code (am_yn e.1) (am_by e.1) (am_ml e.1) (am_rt e.1))) := rfl
set_option maxRecDepth 100000 in
theorem am_MPc7 : ((am_MP.drop 140).take 20).map (fun e => lw_tbl[e.2.1]?) = ((am_MP.drop 140).take 20).map (fun e => some (Cond.code (am_yn e.1) (am_by e.1) (am_ml e.1) (am_rt e.1))) := rfl
set_option maxRecDepth 100000 in
theorem am_MPc8 : ((am_MP.drop 160).take 20).map (fun e => lw_tbl[e.2.1]?) = ((am_MP.drop 160).take 20).map (fun e => some (Cond.code (am_yn e.1) (am_by e.1) (am_ml e.1) (am_rt e.1))) := rfl
set_option maxRecDepth 100000 in
theorem am_MPc9 : ((am_MP.drop 180).take 20).map (fun e => lw_tbl[e.2.1]?) = ((am_MP.drop 180).take 20).map (fun e => some (Cond.code (am_yn e.1) (am_by e.1) (am_ml e.1) (am_rt e.1))) := rfl
set_option maxRecDepth 100000 in
theorem am_MPc10 : ((am_MP.drop 200).take 20).map (fun e => lw_tbl[e.2.1]?) = ((am_MP.drop 200).take 20).map (fun e => some (Cond.code (am_yn e.1) (am_by e.1) (am_ml e.1) (am_rt e.1))) := rfl
set_option maxRecDepth 100000 in
theorem am_MPc11 : ((am_MP.drop 220).take 20).map (fun e => lw_tbl[e.2.1]?) = ((am_MP.drop 220).take 20).map (fun e => some (Cond.code (am_yn e.1) (am_by e.1) (am_ml e.1) (am_rt e.1))) := rfl
set_option maxRecDepth 100000 in
theorem am_MPc12 : ((am_MP.drop 240).take 20).map (fun e => lw_tbl[e.2.1]?) = ((am_MP.drop 240).take 20).map (fun e => some (Cond.code (am_yn e.1) (am_by e.1) (am_ml e.1) (am_rt e.1))) := rfl
set_option maxRecDepth 100000 in
theorem am_MPc13 : ((am_MP.drop 260).take 20).map (fun e => lw_tbl[e.2.1]?) = ((am_MP.drop 260).take 20).map (fun e => some (Cond.code (am_yn e.1) (am_by e.1) (am_ml e.1) (am_rt e.1))) := rfl
theorem am_MP_all : ∀ z, z < 279 → am_MP.any (fun e => e.1 == z) = true := by decide +kernel
