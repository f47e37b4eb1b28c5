/-! rows of things: arrays -/
section ARR
variable {p : Program} {l : Launch} {e : Env} {R : Room} {s : State} {m : MethodId} {args : Array Value} {below : List Frame} {meth : Method} {c : Code} {H : Heap} {locs : List Loc} {cells slots : Nat} {Q : State → Prop}
variable {G : am_G} {z : Nat} {b : Bool} {M : am_M} {pc : Nat} {ls : Array Slot} {rest : List Value}
theorem am_arr_of (hR : am_rel G b s M H) {i : Nat} (h1 : 20 ≤ (am_kd b M i).1) (h2 : (am_kd b M i).1 ≤ 24) : am_arr G s M H i (am_kd b M i).1 (am_kd b M i).2 :=
  (hR.2.2.2.2.2.2 i (am_kd_lt hR (by omega))).2 h1 h2
theorem am_inb_of {cell : Cell} {n : Nat} {j : Int32} (hn : n ≤ cell.slots.size) (hj : ¬ (j < 0 ∨ n ≤ j.toNatClampNeg)) : ¬ (j < 0 ∨ cell.slots.size ≤ j.toNatClampNeg) := fun q => hj (q.elim Or.inl (fun q => Or.inr (Nat.le_trans hn q)))
theorem am_jlt {n : Nat} {j : Int32} (hj : ¬ (j < 0 ∨ n ≤ j.toNatClampNeg)) : j.toNatClampNeg < n := Nat.not_le.mp fun q => hj (Or.inr q)
theorem am_s_alen (C : am_ctx G z p s m args meth c) (hR : am_rel G b s M H) {i : Nat} (h1 : 20 ≤ (am_kd b M i).1) (h2 : (am_kd b M i).1 ≤ 24) (hdg : decode (am_by z) pc = .ok (.arraylength, 1))
    (kk : W p l e R s m args below meth c H locs cells slots Q (F0 m (pc + 1) ls (.int (Int32.ofNat (am_kd b M i).2) :: rest))) : W p l e R s m args below meth c H locs cells slots Q (F0 m pc ls (.ref (am_ad G i) :: rest)) := by
  obtain ⟨cell, q1, q2, q3, q4, q5, -⟩ := am_arr_of hR h1 h2
  exact W.alen C.1 C.2.1 q1 q2 q5 rfl rfl hdg kk
theorem am_s_iald (C : am_ctx G z p s m args meth c) (hR : am_rel G b s M H) {i : Nat} {j : Int32} (h1 : (am_kd b M i).1 = 20) (hj : ¬ (j < 0 ∨ (am_kd b M i).2 ≤ j.toNatClampNeg)) (hdg : decode (am_by z) pc = .ok (.iaload, 1))
    (kk : W p l e R s m args below meth c H locs cells slots Q (F0 m (pc + 1) ls (.int (mI M i j.toNatClampNeg) :: rest))) : W p l e R s m args below meth c H locs cells slots Q (F0 m pc ls (.int j :: .ref (am_ad G i) :: rest)) := by
  obtain ⟨cell, q1, q2, q3, q4, q5, q6, q7, q8, q9⟩ := am_arr_of hR (i := i) (by omega) (by omega)
  rw [h1] at q2
  have := q9 _ (am_jlt hj)
  rw [h1] at this
  exact W.iald C.1 C.2.1 q1 q2 q3 (am_inb_of q4 hj) this rfl rfl hdg kk
theorem am_s_lald (C : am_ctx G z p s m args meth c) (hR : am_rel G b s M H) {i : Nat} {j : Int32} (h1 : (am_kd b M i).1 = 21) (hj : ¬ (j < 0 ∨ (am_kd b M i).2 ≤ j.toNatClampNeg)) (hdg : decode (am_by z) pc = .ok (.laload, 1))
    (kk : W p l e R s m args below meth c H locs cells slots Q (F0 m (pc + 1) ls (.long (mL M i j.toNatClampNeg) :: rest))) : W p l e R s m args below meth c H locs cells slots Q (F0 m pc ls (.int j :: .ref (am_ad G i) :: rest)) := by
  obtain ⟨cell, q1, q2, q3, q4, q5, q6, q7, q8, q9⟩ := am_arr_of hR (i := i) (by omega) (by omega)
  rw [h1] at q2
  have := q9 _ (am_jlt hj)
  rw [h1] at this
  exact W.lald C.1 C.2.1 q1 q2 q3 (am_inb_of q4 hj) this rfl rfl hdg kk
theorem am_s_bald (C : am_ctx G z p s m args meth c) (hR : am_rel G b s M H) {i : Nat} {j : Int32} (h1 : (am_kd b M i).1 = 22 ∨ (am_kd b M i).1 = 23) (hj : ¬ (j < 0 ∨ (am_kd b M i).2 ≤ j.toNatClampNeg)) (hdg : decode (am_by z) pc = .ok (.baload, 1))
    (kk : W p l e R s m args below meth c H locs cells slots Q (F0 m (pc + 1) ls (.int (mI M i j.toNatClampNeg) :: rest))) : W p l e R s m args below meth c H locs cells slots Q (F0 m pc ls (.int j :: .ref (am_ad G i) :: rest)) := by
  obtain ⟨cell, q1, q2, q3, q4, q5, q6, q7, q8, q9⟩ := am_arr_of hR (i := i) (by omega) (by omega)
  have := q9 _ (am_jlt hj)
  rcases h1 with h1 | h1
  · rw [h1] at q2 this
    exact W.zald C.1 C.2.1 q1 q2 q3 (am_inb_of q4 hj) this rfl rfl hdg kk
  · rw [h1] at q2 this
    exact W.bald C.1 C.2.1 q1 q2 q3 (am_inb_of q4 hj) this rfl rfl hdg kk
theorem am_s_aald (C : am_ctx G z p s m args meth c) (hR : am_rel G b s M H) {i : Nat} {j : Int32} (h1 : (am_kd b M i).1 = 24) (hj : ¬ (j < 0 ∨ (am_kd b M i).2 ≤ j.toNatClampNeg)) (hdg : decode (am_by z) pc = .ok (.aaload, 1))
    (kk : W p l e R s m args below meth c H locs cells slots Q (F0 m (pc + 1) ls (am_ra G (am_rv (mA M i j.toNatClampNeg)) :: rest))) : W p l e R s m args below meth c H locs cells slots Q (F0 m pc ls (.int j :: .ref (am_ad G i) :: rest)) := by
  obtain ⟨cell, q1, q2, q3, q4, q5, q6, q7, q8, q9⟩ := am_arr_of hR (i := i) (by omega) (by omega)
  rw [h1] at q2
  have := q9 _ (am_jlt hj)
  rw [h1] at this
  exact W.aald C.1 C.2.1 q1 q2 rfl q3 (am_inb_of q4 hj) this rfl rfl hdg kk
/-- an element is written -/
theorem am_arr_wr (hR : am_rel G b s M H) (hL : ∀ q ∈ locs, gH G ≤ q.base) {M' : am_M} {i : Nat} {j : Int32} {v : Value} (hi : 9 ≤ i) (h1 : 20 ≤ (am_kd b M i).1) (h2 : (am_kd b M i).1 ≤ 24) (hj : ¬ (j < 0 ∨ (am_kd b M i).2 ≤ j.toNatClampNeg))
    (hN : mN M' = mN M) (hKM : mK M' = mK M) (hI : ∀ j, j ≠ i → mI M' j = mI M j) (hLL : ∀ j, j ≠ i → mL M' j = mL M j) (hA : ∀ j, j ≠ i → mA M' j = mA M j) (hF : b = true → ∀ k, i < 118 → am_FA i k ≠ 0 → mA M' i k = am_FA i k)
    (hv : ∀ q, am_ev M' i (am_kd b M i).1 q = if q = j.toNatClampNeg then v else am_ev M i (am_kd b M i).1 q) {cell : Cell} (hc : H[am_ad G i]? = some cell) {H' : Heap} (e1 : H'[am_ad G i]? = some (cell.setSlot j.toNatClampNeg (am_ra G v))) (e2 : H'.size = H.size) (e3 : ∀ q, q ≠ am_ad G i → H'[q]? = H[q]?) :
    am_rel G b s M' H' ∧ ∀ q ∈ locs ++ [⟨am_ad G i, j.toNatClampNeg⟩], gH G ≤ q.base := by
  obtain ⟨cell', q1, q2, q3, q4, q5, q6, q7, q8, q9⟩ := am_arr_of hR (i := i) h1 h2
  cases q1.symm.trans hc
  refine ⟨am_rel_wr hR hi hN hKM hI hLL hA hF e2 e3 ?_, fun q hq => ?_⟩
  · have hk0 : am_kd b M' i = am_kd b M i := by unfold am_kd; rw [hN, hKM]
    unfold am_cell
    rw [hk0]
    refine ⟨fun h => by omega, fun _ _ => ⟨_, e1, q2, q3, ?_, ?_, q6, ?_, q8, fun q hq => ?_⟩⟩
    · rw [k2_slotsz]; exact q4
    · rw [k2_slotsz]; exact q5
    · rw [k2_slotsz]; exact q7
    · rw [hv q]
      by_cases ej : q = j.toNatClampNeg
      · subst ej
        rw [if_pos rfl]
        exact Cell.slots_setSlot_self _ (by have := am_jlt hj; omega)
      · rw [if_neg ej, slot_ne _ _ (Ne.symm ej)]
        exact q9 q hq
  · rcases List.mem_append.mp hq with h | h
    · exact hL q h
    · rw [List.mem_singleton.mp h]
      exact am_ad_ge G hi
theorem am_s_iast (C : am_ctx G z p s m args meth c) (hR : am_rel G b s M H) (hL : ∀ q ∈ locs, gH G ≤ q.base) {i : Nat} {j x : Int32} (hi : 9 ≤ i) (h1 : (am_kd b M i).1 = 20) (hj : ¬ (j < 0 ∨ (am_kd b M i).2 ≤ j.toNatClampNeg)) (hdg : decode (am_by z) pc = .ok (.iastore, 1))
    (kk : ∀ (H' : Heap) (locs' : List Loc), am_rel G b s (wI M i (am_up (mI M i) j.toNatClampNeg x)) H' → (∀ q ∈ locs', gH G ≤ q.base) → W p l e R s m args below meth c H' locs' cells slots Q (F0 m (pc + 1) ls rest)) : W p l e R s m args below meth c H locs cells slots Q (F0 m pc ls (.int x :: .int j :: .ref (am_ad G i) :: rest)) := by
  obtain ⟨cell, q1, q2, q3, q4, q5, q6, q7, q8, q9⟩ := am_arr_of hR (i := i) (by omega) (by omega)
  rw [h1] at q2
  refine W.iast C.1 C.2.1 q1 q2 q3 (am_inb_of q4 hj) rfl rfl hdg fun H' e1 e2 e3 => ?_
  obtain ⟨r1, r2⟩ := am_arr_wr (M' := wI M i (am_up (mI M i) j.toNatClampNeg x)) (v := .int x) hR hL hi (by omega) (by omega) hj rfl rfl (fun j hj => am_up_ne _ _ hj) (fun j hj => rfl) (fun j hj => rfl) (fun hb => (hR.2.2.1 hb).2 i) (fun q => by
    rw [h1]
    show Value.int (am_up (mI M) i _ i q) = _
    rw [am_up_self]
    unfold am_up
    split <;> rfl) q1 e1 e2 e3
  exact kk H' _ r1 r2
theorem am_s_bastZ (C : am_ctx G z p s m args meth c) (hR : am_rel G b s M H) (hL : ∀ q ∈ locs, gH G ≤ q.base) {i : Nat} {j x : Int32} (hi : 9 ≤ i) (h1 : (am_kd b M i).1 = 22) (hj : ¬ (j < 0 ∨ (am_kd b M i).2 ≤ j.toNatClampNeg)) (hdg : decode (am_by z) pc = .ok (.bastore, 1))
    (kk : ∀ (H' : Heap) (locs' : List Loc), am_rel G b s (wI M i (am_up (mI M i) j.toNatClampNeg (x &&& 1))) H' → (∀ q ∈ locs', gH G ≤ q.base) → W p l e R s m args below meth c H' locs' cells slots Q (F0 m (pc + 1) ls rest)) : W p l e R s m args below meth c H locs cells slots Q (F0 m pc ls (.int x :: .int j :: .ref (am_ad G i) :: rest)) := by
  obtain ⟨cell, q1, q2, q3, q4, q5, q6, q7, q8, q9⟩ := am_arr_of hR (i := i) (by omega) (by omega)
  rw [h1] at q2
  refine W.zast C.1 C.2.1 q1 q2 q3 (am_inb_of q4 hj) rfl rfl hdg fun H' e1 e2 e3 => ?_
  obtain ⟨r1, r2⟩ := am_arr_wr (M' := wI M i (am_up (mI M i) j.toNatClampNeg (x &&& 1))) (v := .int (x &&& 1)) hR hL hi (by omega) (by omega) hj rfl rfl (fun j hj => am_up_ne _ _ hj) (fun j hj => rfl) (fun j hj => rfl) (fun hb => (hR.2.2.1 hb).2 i) (fun q => by
    rw [h1]
    show Value.int (am_up (mI M) i _ i q) = _
    rw [am_up_self]
    unfold am_up
    split <;> rfl) q1 e1 e2 e3
  exact kk H' _ r1 r2
theorem am_s_bastB (C : am_ctx G z p s m args meth c) (hR : am_rel G b s M H) (hL : ∀ q ∈ locs, gH G ≤ q.base) {i : Nat} {j x : Int32} (hi : 9 ≤ i) (h1 : (am_kd b M i).1 = 23) (hj : ¬ (j < 0 ∨ (am_kd b M i).2 ≤ j.toNatClampNeg)) (hdg : decode (am_by z) pc = .ok (.bastore, 1))
    (kk : ∀ (H' : Heap) (locs' : List Loc), am_rel G b s (wI M i (am_up (mI M i) j.toNatClampNeg x.toInt8.toInt32)) H' → (∀ q ∈ locs', gH G ≤ q.base) → W p l e R s m args below meth c H' locs' cells slots Q (F0 m (pc + 1) ls rest)) : W p l e R s m args below meth c H locs cells slots Q (F0 m pc ls (.int x :: .int j :: .ref (am_ad G i) :: rest)) := by
  obtain ⟨cell, q1, q2, q3, q4, q5, q6, q7, q8, q9⟩ := am_arr_of hR (i := i) (by omega) (by omega)
  rw [h1] at q2
  refine W.bast C.1 C.2.1 q1 q2 q3 (am_inb_of q4 hj) rfl rfl hdg fun H' e1 e2 e3 => ?_
  obtain ⟨r1, r2⟩ := am_arr_wr (M' := wI M i (am_up (mI M i) j.toNatClampNeg x.toInt8.toInt32)) (v := .int x.toInt8.toInt32) hR hL hi (by omega) (by omega) hj rfl rfl (fun j hj => am_up_ne _ _ hj) (fun j hj => rfl) (fun j hj => rfl) (fun hb => (hR.2.2.1 hb).2 i) (fun q => by
    rw [h1]
    show Value.int (am_up (mI M) i _ i q) = _
    rw [am_up_self]
    unfold am_up
    split <;> rfl) q1 e1 e2 e3
  exact kk H' _ r1 r2
theorem am_s_last (C : am_ctx G z p s m args meth c) (hR : am_rel G b s M H) (hL : ∀ q ∈ locs, gH G ≤ q.base) {i : Nat} {j : Int32} {x : Int64} (hi : 9 ≤ i) (h1 : (am_kd b M i).1 = 21) (hj : ¬ (j < 0 ∨ (am_kd b M i).2 ≤ j.toNatClampNeg)) (hdg : decode (am_by z) pc = .ok (.lastore, 1))
    (kk : ∀ (H' : Heap) (locs' : List Loc), am_rel G b s (wL M i (am_up (mL M i) j.toNatClampNeg x)) H' → (∀ q ∈ locs', gH G ≤ q.base) → W p l e R s m args below meth c H' locs' cells slots Q (F0 m (pc + 1) ls rest)) : W p l e R s m args below meth c H locs cells slots Q (F0 m pc ls (.long x :: .int j :: .ref (am_ad G i) :: rest)) := by
  obtain ⟨cell, q1, q2, q3, q4, q5, q6, q7, q8, q9⟩ := am_arr_of hR (i := i) (by omega) (by omega)
  rw [h1] at q2
  refine W.last C.1 C.2.1 q1 q2 q3 (am_inb_of q4 hj) rfl rfl hdg fun H' e1 e2 e3 => ?_
  obtain ⟨r1, r2⟩ := am_arr_wr (M' := wL M i (am_up (mL M i) j.toNatClampNeg x)) (v := .long x) hR hL hi (by omega) (by omega) hj rfl rfl (fun j hj => rfl) (fun j hj => am_up_ne _ _ hj) (fun j hj => rfl) (fun hb => (hR.2.2.1 hb).2 i) (fun q => by
    rw [h1]
    show Value.long (am_up (mL M) i _ i q) = _
    rw [am_up_self]
    unfold am_up
    split <;> rfl) q1 e1 e2 e3
  exact kk H' _ r1 r2
theorem am_FA_arr : ∀ i, i < 118 → 14 ≤ (am_KD i).1 → ∀ k, am_FA i k = 0 := by
  have h : ∀ i, i < 118 → 14 ≤ (am_KD i).1 → am_FAT.getD i [] = [] := by decide +kernel
  intro i hi hk k
  unfold am_FA
  rw [h i hi hk]
  rfl
theorem am_kd_KD (hR : am_rel G b s M H) {i : Nat} (h0 : 9 ≤ i) (hi : i < 118) (hk : (am_kd b M i).1 ≠ 99) : am_kd b M i = am_KD i := by
  have hlt := am_kd_lt hR hk
  unfold am_kd
  rw [if_neg (by omega), if_pos hi, if_pos (by simp [hlt])]
theorem am_s_aast (C : am_ctx G z p s m args meth c) (hR : am_rel G b s M H) (hL : ∀ q ∈ locs, gH G ≤ q.base) {i x : Nat} {j : Int32} (hi : 9 ≤ i) (h1 : (am_kd b M i).1 = 24) (hx : (am_kd b M x).1 = 11) (hj : ¬ (j < 0 ∨ (am_kd b M i).2 ≤ j.toNatClampNeg)) (hdg : decode (am_by z) pc = .ok (.aastore, 1))
    (kk : ∀ (H' : Heap) (locs' : List Loc), am_rel G b s (wA M i (am_up (mA M i) j.toNatClampNeg (x + 1))) H' → (∀ q ∈ locs', gH G ≤ q.base) → W p l e R s m args below meth c H' locs' cells slots Q (F0 m (pc + 1) ls rest)) : W p l e R s m args below meth c H locs cells slots Q (F0 m pc ls (.ref (am_ad G x) :: .int j :: .ref (am_ad G i) :: rest)) := by
  obtain ⟨cell, q1, q2, q3, q4, q5, q6, q7, q8, q9⟩ := am_arr_of hR (i := i) (by omega) (by omega)
  obtain ⟨cellx, x1, x2, x3, x4, x5, x6⟩ := (hR.2.2.2.2.2.2 x (am_kd_lt hR (by omega))).1 (by omega)
  rw [hx] at x2
  have hK := C.2.2.2.2.2.1
  obtain ⟨kv, hkv, -⟩ := hK.2.2.1 11 (by omega)
  obtain ⟨kA, hkA, hkind⟩ := q8 h1
  refine W.aast C.1 C.2.1 q1 q2.1 q3 hkA hkind rfl hkv ⟨fun q => hj (Or.inl q), by have := am_jlt hj; omega⟩ x1 (fun q h => by rw [h] at x3; cases x3) (by rw [x2]; exact hkv) (by rw [x2]; exact va_asg _ _) rfl rfl hdg fun H' e1 e2 e3 => ?_
  obtain ⟨r1, r2⟩ := am_arr_wr (M' := wA M i (am_up (mA M i) j.toNatClampNeg (x + 1))) (v := .ref x) hR hL hi (by omega) (by omega) hj rfl rfl (fun j hj => rfl) (fun j hj => rfl) (fun j hj => am_up_ne _ _ hj) (fun hb k h8 hf => absurd (am_FA_arr i h8 (by have := am_kd_KD hR hi h8 (by omega); rw [← this]; omega) k) hf) (fun q => by
    rw [h1]
    show am_rv (am_up (mA M) i _ i q) = if q = _ then Value.ref x else am_rv (mA M i q)
    rw [am_up_self]
    unfold am_up
    split <;> rfl) q1 e1 e2 e3
  exact kk H' _ r1 r2
end ARR
