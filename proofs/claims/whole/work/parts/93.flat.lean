/-! what the Statement gives of the start, by places -/
abbrev am_F : List Cond := flatC (Jvm.Cond.and given_1 narrow_1)
def am_sgI (tm : Term) (ty : FieldType) (N : Nat) (l : List Int) : List Cond := Cond.arrayOf tm ty :: Cond.eq (.length tm) (.int (Int32.ofNat N)) :: (List.range N).map (fun j => Cond.eq (.elem tm (.int (Int32.ofNat j))) (.int (Int32.ofInt (l.getD j 0))))
def am_sgL (tm : Term) (ty : FieldType) (N : Nat) (l : List Int) : List Cond := Cond.arrayOf tm ty :: Cond.eq (.length tm) (.int (Int32.ofNat N)) :: (List.range N).map (fun j => Cond.eq (.elem tm (.int (Int32.ofNat j))) (.long (Int64.ofInt (l.getD j 0))))
set_option maxRecDepth 100000 in
theorem am_seg1 : (am_F.drop 14).take 11 = am_sgI (.static "IceSearch" "ROWS_OF_MOVE" "[I") .int 9 am_rows := by decide +kernel
set_option maxRecDepth 100000 in
theorem am_seg2 : (am_F.drop 26).take 11 = am_sgI (.static "IceSearch" "COLUMNS_OF_MOVE" "[I") .int 9 am_cols := by decide +kernel
set_option maxRecDepth 100000 in
theorem am_seg3 : (am_F.drop 5).take 8 = am_sgL (.static "IceSearch$Ways" "SETS_WITH" "[J") .long 6 am_swith := by decide +kernel
set_option maxRecDepth 100000 in
theorem am_seg4 : (am_F.drop 43).take 8 = am_sgL (.static "IceSearchModel" "WITHOUT" "[J") .long 6 am_swout := by decide +kernel
set_option maxRecDepth 100000 in
theorem am_seg7 : (am_F.drop 53).take 140 = am_sgI (.field (.string "IceSearch$Tape" 72) "java/lang/String" "value" "[B") .byte 138 am_txA := by decide +kernel
set_option maxRecDepth 100000 in
theorem am_seg8 : (am_F.drop 195).take 8 = am_sgI (.field (.string "IceSearch$Tape" 64) "java/lang/String" "value" "[B") .byte 6 am_txB := by decide +kernel
theorem am_F51 : am_F[51]? = some (.exactly (.string "IceSearch$Tape" 72) "java/lang/String") := by decide +kernel
theorem am_F52 : am_F[52]? = some (.eq (.field (.string "IceSearch$Tape" 72) "java/lang/String" "coder" "B") (.int 0)) := by decide +kernel
theorem am_F193 : am_F[193]? = some (.exactly (.string "IceSearch$Tape" 64) "java/lang/String") := by decide +kernel
theorem am_F194 : am_F[194]? = some (.eq (.field (.string "IceSearch$Tape" 64) "java/lang/String" "coder" "B") (.int 0)) := by decide +kernel
theorem am_F37 : am_F[37]? = some (.eq (.static "java/lang/String" "COMPACT_STRINGS" "Z") (.int 1)) := by decide +kernel
theorem am_F38 : am_F[38]? = some (.isRef (.static "jdk/internal/util/Preconditions" "SIOOBE_FORMATTER" "Ljava/util/function/BiFunction;")) := by decide +kernel
theorem am_flat {b : Nat} {s : State} (h : (Jvm.Cond.and given_1 narrow_1).before #[Value.ref b] s = true) {w : Cond} (hw : w ∈ am_F) : w.before #[Value.ref b] s = true := flat_of_before _ h w hw
theorem am_sgI_mem {tm : Term} {ty : FieldType} {N p : Nat} {l : List Int} (h : (am_F.drop p).take (N + 2) = am_sgI tm ty N l) : Cond.arrayOf tm ty ∈ am_F ∧ Cond.eq (.length tm) (.int (Int32.ofNat N)) ∈ am_F ∧ ∀ j, j < N → Cond.eq (.elem tm (.int (Int32.ofNat j))) (.int (Int32.ofInt (l.getD j 0))) ∈ am_F := by
  have key : ∀ w ∈ am_sgI tm ty N l, w ∈ am_F := fun w hw => List.mem_of_mem_drop (List.mem_of_mem_take (h ▸ hw))
  exact ⟨key _ List.mem_cons_self, key _ (List.mem_cons_of_mem _ List.mem_cons_self), fun j hj => key _ (List.mem_cons_of_mem _ (List.mem_cons_of_mem _ (List.mem_map.mpr ⟨j, List.mem_range.mpr hj, rfl⟩)))⟩
theorem am_sgL_mem {tm : Term} {ty : FieldType} {N p : Nat} {l : List Int} (h : (am_F.drop p).take (N + 2) = am_sgL tm ty N l) : Cond.arrayOf tm ty ∈ am_F ∧ Cond.eq (.length tm) (.int (Int32.ofNat N)) ∈ am_F ∧ ∀ j, j < N → Cond.eq (.elem tm (.int (Int32.ofNat j))) (.long (Int64.ofInt (l.getD j 0))) ∈ am_F := by
  have key : ∀ w ∈ am_sgL tm ty N l, w ∈ am_F := fun w hw => List.mem_of_mem_drop (List.mem_of_mem_take (h ▸ hw))
  exact ⟨key _ List.mem_cons_self, key _ (List.mem_cons_of_mem _ List.mem_cons_self), fun j hj => key _ (List.mem_cons_of_mem _ (List.mem_cons_of_mem _ (List.mem_map.mpr ⟨j, List.mem_range.mpr hj, rfl⟩)))⟩
