/-! the easy ops -/
theorem IFind_td {n n2 tn td td' : Int32} {tr by_ fa ki pl fi la re te fr_ to : Nat → Int32} (h : IFind n n2 tn td tr by_ fa ki pl fi la re te fr_ to) (ht : td.toInt ≤ td'.toInt) : IFind n n2 tn td' tr by_ fa ki pl fi la re te fr_ to := by
  obtain ⟨a1, a2, a3, b0, b1, b2, b3, b4, b5, b6, b7, b8, ok, mo⟩ := h
  refine ⟨a1, a2, a3, b0, b1, b2, b3, b4, b5, b6, b7, b8, fun f hf => ?_, mo⟩
  obtain ⟨c1, c2, c3, c4, c5, c6, c7, c8, c9, c10, c11, c12, c13, c14, c15⟩ := ok f hf
  exact ⟨c1, c2, c3, c4, c5, c6, c7, c8, c9, c10, c11, c12, c13, c14, by omega⟩
theorem IRule_td {n n2 hb td td' : Int32} {A : Nat → Nat → Nat} {D : Nat → Nat → Int32} {K : Nat → Nat × Nat} {N : Nat} {st tk so of_ co wh nk nf nn nw ns nu : Nat → Int32} (h : IRule n n2 hb td A D K N st tk so of_ co wh nk nf nn nw ns nu) (ht : td.toInt ≤ td'.toInt) : IRule n n2 hb td' A D K N st tk so of_ co wh nk nf nn nw ns nu := by
  obtain ⟨a1, a2, a3, e, b⟩ := h
  refine ⟨a1, a2, a3, fun k hk => ?_, b⟩
  obtain ⟨r, c1, c2, c3, c4⟩ := e k hk
  exact ⟨r, c1, c2, c3, by omega⟩
set_option maxRecDepth 100000 in
theorem ok_day : okOp_day Inv := by
  intro M a0 hI
  have e1 := hI.misc.td_eq
  have l1 := hI.misc.td_lo
  have l2 := hI.misc.td_hi
  unfold opOK
  refine rcallI rfl rfl ?_
  repeat' (first | (refine r1 rfl ?_) | (refine rgoto rfl ?_) | (refine rfall rfl ?_) | (refine re1 ?_) | (refine re0 ?_) | (refine rn1 ?_) | (refine rn0 ?_) | (refine rend rfl rfl ?_) | (refine rin rfl rfl rfl rfl rfl ?_) | (refine riald rfl (by omega) (by decide) ?_) | (refine ciald rfl (by (first | omega | (simp (disch := omega) only [nI_toInt, nM_toInt]; omega))) (by decide) ?_) | (refine czald rfl (by (first | omega | (simp (disch := omega) only [nI_toInt, nM_toInt]; omega))) (by decide) ?_) | (refine riast (by decide) rfl (by omega) (by decide) ?_) | (refine ciast (by decide) rfl (by (first | omega | (simp (disch := omega) only [nI_toInt, nM_toInt]; omega))) (by decide) ?_) | (refine czast (by decide) rfl (by (first | omega | (simp (disch := omega) only [nI_toInt, nM_toInt]; omega))) (by decide) (by omega) ?_) | (refine ⟨_, rfl, rcallI rfl rfl ?_⟩) | ((first | (refine rb_lt (fun h => ?_) (fun h => ?_)) | (refine rb_ge (fun h => ?_) (fun h => ?_)) | (refine rb_gt (fun h => ?_) (fun h => ?_)) | (refine rb_le (fun h => ?_) (fun h => ?_)) | (refine rb_eq (fun h => ?_) (fun h => ?_)) | (refine rb_ne (fun h => ?_) (fun h => ?_)) | (refine rc_lt (fun h => ?_) (fun h => ?_)) | (refine rc_ge (fun h => ?_) (fun h => ?_)) | (refine rc_gt (fun h => ?_) (fun h => ?_)) | (refine rc_le (fun h => ?_) (fun h => ?_)) | (refine rc_eq (fun h => ?_) (fun h => ?_)) | (refine rc_ne (fun h => ?_) (fun h => ?_))) <;> (try (simp (disch := omega) only [nI_toInt, nM_toInt, mI_wI, mI_wL, mI_wA, mL_wI, mL_wL, mL_wA, mA_wI, mA_wL, mA_wA, am_up, reduceIte, Nat.reduceEqDiff, Int.reduceNatCast', e1] at h)) <;> (try (exfalso; omega))))
  · exact ⟨rfl, hI, Nat.le_add_right _ _, Nat.le_add_right _ _⟩
  · refine ⟨rfl, ?_, Nat.le_add_right _ _, Nat.le_add_right _ _⟩
    obtain ⟨b0, b1, b2, b3⟩ := hI.misc
    refine ⟨?_, ?_, ?_, ?_, ?_, ?_, ?_, ?_, ?_, ?_, ?_⟩ <;> first | exact hI.misc | exact hI.land | exact hI.ice | exact hI.tel | exact hI.find | exact hI.doubt | exact hI.row | exact hI.ship | exact hI.tape | exact hI.rule | exact hI.stat | (simp (disch := decide) only [dyn_wI]; exact hI.rule) | skip
    · exact ⟨rfl, show 0 ≤ a0.toInt by omega, show a0.toInt ≤ 999 by omega, b3⟩
    · exact IFind_td hI.find (show (mI M 9 15).toInt ≤ a0.toInt by omega)
    · simp (disch := decide) only [dyn_wI]
      exact IRule_td hI.rule (show (mI M 9 15).toInt ≤ a0.toInt by omega)
  · exact ⟨rfl, hI, Nat.le_add_right _ _, Nat.le_add_right _ _⟩
theorem am_up_same {α : Type} {f : Nat → α} {k : Nat} {v : α} (h : f k = v) : am_up f k v = f := by
  funext j
  unfold am_up
  split
  · next e => rw [e, h]
  · rfl
theorem cntF_up_ge {f : Nat → Int32} {k : Nat} {v : Int32} : ∀ n, n ≤ k → cntF (am_up f k v) n = cntF f n
  | 0, _ => rfl
  | n + 1, h => by
    unfold cntF
    rw [cntF_up_ge n (by omega), bm_up_ne f v (show n ≠ k by omega)]
theorem cntF_up1 {f : Nat → Int32} {k : Nat} (h : f k = nI 0) : ∀ n, k < n → cntF (am_up f k (nI 1)) n = cntF f n + 1
  | 0, hk => absurd hk (by omega)
  | n + 1, hk => by
    unfold cntF
    by_cases e : k = n
    · subst e
      rw [cntF_up_ge k (Nat.le_refl k), bm_up_self, h, if_pos rfl, if_neg (by decide)]
    · rw [cntF_up1 h n (by omega), bm_up_ne f _ (show n ≠ k by omega)]
      omega
theorem cntF_up0 {f : Nat → Int32} {k : Nat} (h : f k = nI 1) : ∀ n, k < n → cntF (am_up f k (nI 0)) n + 1 = cntF f n
  | 0, hk => absurd hk (by omega)
  | n + 1, hk => by
    unfold cntF
    by_cases e : k = n
    · subst e
      rw [cntF_up_ge k (Nat.le_refl k), bm_up_self, h, if_pos rfl, if_neg (by decide)]
    · rw [← cntF_up0 h n (by omega), bm_up_ne f _ (show n ≠ k by omega)]
      omega
theorem of_toInt {v : Int32} {k : Nat} (h : v.toInt = k) (hk : k < 2147483648) : v = nI k := Int32.toInt_inj.mp (by rw [nI_toInt hk]; exact h)
theorem b01 {v : Int32} (h : v = nI 0 ∨ v = nI 1) : v.toInt = 0 ∨ v.toInt = 1 := by
  rcases h with rfl | rfl
  · exact Or.inl rfl
  · exact Or.inr rfl
theorem up_b {f : Nat → Int32} {k : Nat} {v : Int32} (h : ∀ j, f j = nI 0 ∨ f j = nI 1) (hv : v = nI 0 ∨ v = nI 1) : ∀ j, am_up f k v j = nI 0 ∨ am_up f k v j = nI 1 := by
  intro j
  unfold am_up
  split
  · exact hv
  · exact h j
theorem ILand_same {la la2 ho ho2 : Nat → Int32} {lc hc v : Int32} {k : Nat} (h : ILand la la2 ho ho2 lc hc) (hv : la k = v) : ILand la (am_up la2 k v) ho ho2 lc hc := by
  obtain ⟨a, b⟩ := h
  exact ⟨by rw [a, am_up_same hv], b⟩
theorem ILand_on {la la2 ho ho2 : Nat → Int32} {lc hc : Int32} {k : Nat} (h : ILand la la2 ho ho2 lc hc) (hk : k < 256) (hv : la k = nI 0) : ILand (am_up la k (nI 1)) (am_up la2 k (nI 1)) ho ho2 (lc + nI 1) hc := by
  obtain ⟨a, b, c, d, e, f⟩ := h
  exact ⟨by rw [a], b, up_b c (Or.inr rfl), d, by rw [e, nI_add, cntF_up1 hv 256 hk], f⟩
theorem ILand_off {la la2 ho ho2 : Nat → Int32} {lc hc : Int32} {k : Nat} (h : ILand la la2 ho ho2 lc hc) (hk : k < 256) (hv : la k = nI 1) : ILand (am_up la k (nI 0)) (am_up la2 k (nI 0)) ho ho2 (lc + nM 0) hc := by
  obtain ⟨a, b, c, d, e, f⟩ := h
  refine ⟨by rw [a], b, up_b c (Or.inl rfl), d, ?_, f⟩
  rw [e, ← cntF_up0 hv 256 hk, ← nI_add, Int32.add_assoc, show nI 1 + nM 0 = 0 from by decide, Int32.add_zero]
theorem ILand_sym {la la2 ho ho2 : Nat → Int32} {lc hc : Int32} (h : ILand la la2 ho ho2 lc hc) : ILand ho ho2 la la2 hc lc := by
  obtain ⟨a, b, c, d, e, f⟩ := h
  exact ⟨b, a, d, c, f, e⟩
theorem cix256 {a : Int32} (h : 0 ≤ a.toInt) (h2 : a.toInt < 256) : a.toNatClampNeg < 256 := by
  have : a.toNatClampNeg = a.toInt.toNat := rfl
  omega
set_option maxRecDepth 100000 in
theorem t5 (M : am_M) (a0 : Int32) (hI : Inv M) (Q : Option Value → am_M → Prop) (hq : ∀ r M', Q r M') : am_Call true 59 13 [.ref 9, .int a0, .int (nI 0)] M (fun r M1 => ∃ v, r = some (.int v) ∧ am_Call true 59 189 [.ref 67, .int a0, .int (nI 0)] M1 Q) := by
  have e1 := hI.misc.ce_eq
  have l1 := hI.misc.ce_lo
  have l2 := hI.misc.ce_hi
  have e2 := hI.land.la_eq
  have hb := b01 (hI.land.la_b a0.toNatClampNeg)
  refine rcallI rfl rfl ?_
  repeat' (first | (refine r1 rfl ?_) | (refine rgoto rfl ?_) | (refine rfall rfl ?_) | (refine re1 ?_) | (refine re0 ?_) | (refine rn1 ?_) | (refine rn0 ?_) | (refine rend rfl rfl ?_) | (refine rin rfl rfl rfl rfl rfl ?_) | (refine riald rfl (by omega) (by decide) ?_) | (refine ciald rfl (by (first | omega | (simp (disch := omega) only [nI_toInt, nM_toInt]; omega))) (by decide) ?_) | (refine czald rfl (by (first | omega | (simp (disch := omega) only [nI_toInt, nM_toInt]; omega))) (by decide) ?_) | (refine riast (by decide) rfl (by omega) (by decide) ?_) | (refine ciast (by decide) rfl (by (first | omega | (simp (disch := omega) only [nI_toInt, nM_toInt]; omega))) (by decide) ?_) | (refine czast (by decide) rfl (by (first | omega | (simp (disch := omega) only [nI_toInt, nM_toInt]; omega))) (by decide) (by omega) ?_) | (refine ⟨_, rfl, rcallI rfl rfl ?_⟩) | ((first | (refine rb_lt (fun h => ?_) (fun h => ?_)) | (refine rb_ge (fun h => ?_) (fun h => ?_)) | (refine rb_gt (fun h => ?_) (fun h => ?_)) | (refine rb_le (fun h => ?_) (fun h => ?_)) | (refine rb_eq (fun h => ?_) (fun h => ?_)) | (refine rb_ne (fun h => ?_) (fun h => ?_)) | (refine rc_lt (fun h => ?_) (fun h => ?_)) | (refine rc_ge (fun h => ?_) (fun h => ?_)) | (refine rc_gt (fun h => ?_) (fun h => ?_)) | (refine rc_le (fun h => ?_) (fun h => ?_)) | (refine rc_eq (fun h => ?_) (fun h => ?_)) | (refine rc_ne (fun h => ?_) (fun h => ?_))) <;> (try (simp (disch := omega) only [nI_toInt, nM_toInt, mI_wI, mI_wL, mI_wA, mL_wI, mL_wL, mL_wA, mA_wI, mA_wL, mA_wA, am_up, reduceIte, Nat.reduceEqDiff, Int.reduceNatCast', e1, e2] at h)) <;> (try (exfalso; omega))))
  all_goals exact hq _ _
