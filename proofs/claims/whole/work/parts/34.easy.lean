/-! the easy ops -/
theorem IFind_td {n n2 tn td td' : Int32} {tr by_ fa ki pl fi la re te fr_ to : Nat → Int32} (h : IFind n n2 tn td tr by_ fa ki pl fi la re te fr_ to) (ht : td.toInt ≤ td'.toInt) : IFind n n2 tn td' tr by_ fa ki pl fi la re te fr_ to := by
  obtain ⟨a1, a2, a3, b0, b1, b2, b3, b4, b5, b6, b7, b8, ok, mo⟩ := h
  refine ⟨a1, a2, a3, b0, b1, b2, b3, b4, b5, b6, b7, b8, fun f hf => ?_, mo⟩
  obtain ⟨c1, c2, c3, c4, c5, c6, c7, c8, c9, c10, c11, c12, c13, c14, c15⟩ := ok f hf
  exact ⟨c1, c2, c3, c4, c5, c6, c7, c8, c9, c10, c11, c12, c13, c14, by omega⟩
theorem IRule_td {n n2 hb td td' : Int32} {A : Nat → Nat → Nat} {D : Nat → Nat → Int32} {K : Nat → Nat × Nat} {N : Nat} {st tk so of_ co wh nk nf nn nw ns nu : Nat → Int32} (h : IRule n n2 hb td A D K N st tk so of_ co wh nk nf nn nw ns nu) (ht : td.toInt ≤ td'.toInt) : IRule n n2 hb td' A D K N st tk so of_ co wh nk nf nn nw ns nu := by
  obtain ⟨a1, a2, a3, e, b⟩ := h
  refine ⟨a1, a2, a3, fun k hk => ?_, b⟩
  obtain ⟨r, c1, c2, c3, c4⟩ := e k hk
  exact ⟨r, c1, c2, c3, by omega⟩
set_option maxRecDepth 100000 in
theorem ok_day : okOp_day Inv := by
  intro M a0 hI
  have e1 := hI.misc.td_eq
  have l1 := hI.misc.td_lo
  have l2 := hI.misc.td_hi
  unfold opOK
  refine rcallI rfl rfl ?_
  repeat' (first | (refine r1 rfl ?_) | (refine rgoto rfl ?_) | (refine rfall rfl ?_) | (refine re1 ?_) | (refine re0 ?_) | (refine rn1 ?_) | (refine rn0 ?_) | (refine rend rfl rfl ?_) | (refine rin rfl rfl rfl rfl rfl ?_) | (refine riald rfl (by omega) (by decide) ?_) | (refine ciald rfl (by (first | omega | (simp (disch := omega) only [nI_toInt, nM_toInt]; omega))) (by decide) ?_) | (refine czald rfl (by (first | omega | (simp (disch := omega) only [nI_toInt, nM_toInt]; omega))) (by decide) ?_) | (refine riast (by decide) rfl (by omega) (by decide) ?_) | (refine ciast (by decide) rfl (by (first | omega | (simp (disch := omega) only [nI_toInt, nM_toInt]; omega))) (by decide) ?_) | (refine czast (by decide) rfl (by (first | omega | (simp (disch := omega) only [nI_toInt, nM_toInt]; omega))) (by decide) (by omega) ?_) | (refine ⟨_, rfl, rcallI rfl rfl ?_⟩) | ((first | (refine rb_lt (fun h => ?_) (fun h => ?_)) | (refine rb_ge (fun h => ?_) (fun h => ?_)) | (refine rb_gt (fun h => ?_) (fun h => ?_)) | (refine rb_le (fun h => ?_) (fun h => ?_)) | (refine rb_eq (fun h => ?_) (fun h => ?_)) | (refine rb_ne (fun h => ?_) (fun h => ?_)) | (refine rc_lt (fun h => ?_) (fun h => ?_)) | (refine rc_ge (fun h => ?_) (fun h => ?_)) | (refine rc_gt (fun h => ?_) (fun h => ?_)) | (refine rc_le (fun h => ?_) (fun h => ?_)) | (refine rc_eq (fun h => ?_) (fun h => ?_)) | (refine rc_ne (fun h => ?_) (fun h => ?_))) <;> (try (simp (disch := omega) only [nI_toInt, nM_toInt, mI_wI, mI_wL, mI_wA, mL_wI, mL_wL, mL_wA, mA_wI, mA_wL, mA_wA, am_up, reduceIte, Nat.reduceEqDiff, e1] at h)) <;> (try (exfalso; omega))))
  · exact ⟨rfl, hI, Nat.le_add_right _ _, Nat.le_add_right _ _⟩
  · refine ⟨rfl, ?_, Nat.le_add_right _ _, Nat.le_add_right _ _⟩
    obtain ⟨b0, b1, b2, b3⟩ := hI.misc
    refine ⟨?_, ?_, ?_, ?_, ?_, ?_, ?_, ?_, ?_, ?_, ?_⟩ <;> first | exact hI.misc | exact hI.land | exact hI.ice | exact hI.tel | exact hI.find | exact hI.doubt | exact hI.row | exact hI.ship | exact hI.tape | exact hI.rule | exact hI.stat | (simp (disch := decide) only [dyn_wI]; exact hI.rule) | skip
    · exact ⟨rfl, show 0 ≤ a0.toInt by omega, show a0.toInt ≤ 999 by omega, b3⟩
    · exact IFind_td hI.find (show (mI M 9 15).toInt ≤ a0.toInt by omega)
    · simp (disch := decide) only [dyn_wI]
      exact IRule_td hI.rule (show (mI M 9 15).toInt ≤ a0.toInt by omega)
  · exact ⟨rfl, hI, Nat.le_add_right _ _, Nat.le_add_right _ _⟩
