/-! the easy ops -/
theorem opgo {d zm : Nat} {as : List Value} {v : Int32} {M1 : am_M} {Q : Int32 → Option Value → am_M → Prop} {code : List Instr} {lv' : am_L} (h3 : am_blk zm 0 = code) (h4 : am_ent zm as = lv') (c : am_Run true d zm code lv' [] M1 (Q v)) : ∃ w, some (Value.int v) = some (Value.int w) ∧ am_Call true d zm as M1 (Q w) := ⟨v, rfl, rcallI h3 h4 c⟩
theorem IFind_td {n n2 tn td td' : Int32} {tr by_ fa ki pl fi la re te fr_ to : Nat → Int32} (h : IFind n n2 tn td tr by_ fa ki pl fi la re te fr_ to) (ht : td.toInt ≤ td'.toInt) : IFind n n2 tn td' tr by_ fa ki pl fi la re te fr_ to := by
  obtain ⟨a1, a2, a3, b0, b1, b2, b3, b4, b5, b6, b7, b8, ok, mo⟩ := h
  refine ⟨a1, a2, a3, b0, b1, b2, b3, b4, b5, b6, b7, b8, fun f hf => ?_, mo⟩
  obtain ⟨c1, c2, c3, c4, c5, c6, c7, c8, c9, c10, c11, c12, c13, c14, c15⟩ := ok f hf
  exact ⟨c1, c2, c3, c4, c5, c6, c7, c8, c9, c10, c11, c12, c13, c14, by omega⟩
theorem IRule_td {n n2 hb td td' : Int32} {A : Nat → Nat → Nat} {D : Nat → Nat → Int32} {K : Nat → Nat × Nat} {N : Nat} {st tk so of_ co wh nk nf nn nw ns nu : Nat → Int32} (h : IRule n n2 hb td A D K N st tk so of_ co wh nk nf nn nw ns nu) (ht : td.toInt ≤ td'.toInt) : IRule n n2 hb td' A D K N st tk so of_ co wh nk nf nn nw ns nu := by
  obtain ⟨a1, a2, a3, e, b⟩ := h
  refine ⟨a1, a2, a3, fun k hk => ?_, b⟩
  obtain ⟨r, c1, c2, c3, c4⟩ := e k hk
  exact ⟨r, c1, c2, c3, by omega⟩
theorem am_up_same {α : Type} {f : Nat → α} {k : Nat} {v : α} (h : f k = v) : am_up f k v = f := by
  funext j
  unfold am_up
  split
  · next e => rw [e, h]
  · rfl
theorem cntF_up_ge {f : Nat → Int32} {k : Nat} {v : Int32} : ∀ n, n ≤ k → cntF (am_up f k v) n = cntF f n
  | 0, _ => rfl
  | n + 1, h => by
    unfold cntF
    rw [cntF_up_ge n (by omega), bm_up_ne f v (show n ≠ k by omega)]
theorem cntF_up1 {f : Nat → Int32} {k : Nat} (h : f k = nI 0) : ∀ n, k < n → cntF (am_up f k (nI 1)) n = cntF f n + 1
  | 0, hk => absurd hk (by omega)
  | n + 1, hk => by
    unfold cntF
    by_cases e : k = n
    · subst e
      rw [cntF_up_ge k (Nat.le_refl k), bm_up_self, h, if_pos rfl, if_neg (by decide)]
    · rw [cntF_up1 h n (by omega), bm_up_ne f _ (show n ≠ k by omega)]
      omega
theorem cntF_up0 {f : Nat → Int32} {k : Nat} (h : f k = nI 1) : ∀ n, k < n → cntF (am_up f k (nI 0)) n + 1 = cntF f n
  | 0, hk => absurd hk (by omega)
  | n + 1, hk => by
    unfold cntF
    by_cases e : k = n
    · subst e
      rw [cntF_up_ge k (Nat.le_refl k), bm_up_self, h, if_pos rfl, if_neg (by decide)]
    · rw [← cntF_up0 h n (by omega), bm_up_ne f _ (show n ≠ k by omega)]
      omega
theorem b01 {v : Int32} (h : v = nI 0 ∨ v = nI 1) : v.toInt = 0 ∨ v.toInt = 1 := by
  rcases h with rfl | rfl
  · exact Or.inl rfl
  · exact Or.inr rfl
theorem up_b {f : Nat → Int32} {k : Nat} {v : Int32} (h : ∀ j, f j = nI 0 ∨ f j = nI 1) (hv : v = nI 0 ∨ v = nI 1) : ∀ j, am_up f k v j = nI 0 ∨ am_up f k v j = nI 1 := by
  intro j
  unfold am_up
  split
  · exact hv
  · exact h j
theorem ILand_same {la la2 ho ho2 : Nat → Int32} {lc hc v : Int32} {k : Nat} (h : ILand la la2 ho ho2 lc hc) (hv : la k = v) : ILand la (am_up la2 k v) ho ho2 lc hc := by
  obtain ⟨a, b⟩ := h
  exact ⟨by rw [a, am_up_same hv], b⟩
theorem ILand_on {la la2 ho ho2 : Nat → Int32} {lc hc : Int32} {k : Nat} (h : ILand la la2 ho ho2 lc hc) (hk : k < 256) (hv : la k = nI 0) : ILand (am_up la k (nI 1)) (am_up la2 k (nI 1)) ho ho2 (lc + nI 1) hc := by
  obtain ⟨a, b, c, d, e, f⟩ := h
  exact ⟨by rw [a], b, up_b c (Or.inr rfl), d, by rw [e, nI_add, cntF_up1 hv 256 hk], f⟩
theorem ILand_off {la la2 ho ho2 : Nat → Int32} {lc hc : Int32} {k : Nat} (h : ILand la la2 ho ho2 lc hc) (hk : k < 256) (hv : la k = nI 1) : ILand (am_up la k (nI 0)) (am_up la2 k (nI 0)) ho ho2 (lc + nM 0) hc := by
  obtain ⟨a, b, c, d, e, f⟩ := h
  refine ⟨by rw [a], b, up_b c (Or.inl rfl), d, ?_, f⟩
  rw [e, ← cntF_up0 hv 256 hk, ← nI_add, Int32.add_assoc, show nI 1 + nM 0 = 0 from by decide, Int32.add_zero]
theorem ILand_sym {la la2 ho ho2 : Nat → Int32} {lc hc : Int32} (h : ILand la la2 ho ho2 lc hc) : ILand ho ho2 la la2 hc lc := by
  obtain ⟨a, b, c, d, e, f⟩ := h
  exact ⟨b, a, d, c, f, e⟩
theorem cix256 {a : Int32} (h : 0 ≤ a.toInt) (h2 : a.toInt < 256) : a.toNatClampNeg < 256 := by
  have : a.toNatClampNeg = a.toInt.toNat := rfl
  omega
set_option maxRecDepth 100000 in
theorem ok_day : okOp_day Inv := by
  intro M a0 hI
  have e1 := hI.misc.td_eq
  have l1 := hI.misc.td_lo
  have l2 := hI.misc.td_hi
  unfold opOK
  refine rcallI rfl rfl ?_
  repeat' (first | (apply riald; exact rfl; omega; decide) | (apply rlald; exact rfl; omega; decide) | (apply rzald; exact rfl; omega; decide) | (apply rbald; exact rfl; omega; decide) | (apply rzast; decide; exact rfl; omega; decide; omega) | (apply riast; decide; exact rfl; omega; decide) | (apply rlast; decide; exact rfl; omega; decide) | (apply ciald; exact rfl; (first | omega | (simp (disch := omega) only [nI_toInt, nM_toInt, i_ne, i_eq, l_ne, l_eq, a_ne, a_eq, i_L, i_A, l_I, l_A, a_I, a_L, up_ne, up_eq, ne_eq, Nat.reduceEqDiff, not_false_eq_true, Int.reduceNatCast', e1] <;> omega)); decide) | (apply czald; exact rfl; (first | omega | (simp (disch := omega) only [nI_toInt, nM_toInt, i_ne, i_eq, l_ne, l_eq, a_ne, a_eq, i_L, i_A, l_I, l_A, a_I, a_L, up_ne, up_eq, ne_eq, Nat.reduceEqDiff, not_false_eq_true, Int.reduceNatCast', e1] <;> omega)); decide) | (apply clald; exact rfl; (first | omega | (simp (disch := omega) only [nI_toInt, nM_toInt, i_ne, i_eq, l_ne, l_eq, a_ne, a_eq, i_L, i_A, l_I, l_A, a_I, a_L, up_ne, up_eq, ne_eq, Nat.reduceEqDiff, not_false_eq_true, Int.reduceNatCast', e1] <;> omega)); decide) | (apply ciast; decide; exact rfl; (first | omega | (simp (disch := omega) only [nI_toInt, nM_toInt, i_ne, i_eq, l_ne, l_eq, a_ne, a_eq, i_L, i_A, l_I, l_A, a_I, a_L, up_ne, up_eq, ne_eq, Nat.reduceEqDiff, not_false_eq_true, Int.reduceNatCast', e1] <;> omega)); decide) | (apply czast; decide; exact rfl; (first | omega | (simp (disch := omega) only [nI_toInt, nM_toInt, i_ne, i_eq, l_ne, l_eq, a_ne, a_eq, i_L, i_A, l_I, l_A, a_I, a_L, up_ne, up_eq, ne_eq, Nat.reduceEqDiff, not_false_eq_true, Int.reduceNatCast', e1] <;> omega)); decide; omega) | (refine re1 ?_) | (refine re0 ?_) | (refine rn1 ?_) | (refine rn0 ?_) | ((first | (refine rb_lt (fun h => ?_) (fun h => ?_)) | (refine rb_ge (fun h => ?_) (fun h => ?_)) | (refine rb_gt (fun h => ?_) (fun h => ?_)) | (refine rb_le (fun h => ?_) (fun h => ?_)) | (refine rb_eq (fun h => ?_) (fun h => ?_)) | (refine rb_ne (fun h => ?_) (fun h => ?_)) | (refine rc_lt (fun h => ?_) (fun h => ?_)) | (refine rc_ge (fun h => ?_) (fun h => ?_)) | (refine rc_gt (fun h => ?_) (fun h => ?_)) | (refine rc_le (fun h => ?_) (fun h => ?_)) | (refine rc_eq (fun h => ?_) (fun h => ?_)) | (refine rc_ne (fun h => ?_) (fun h => ?_))) <;> (try (simp (disch := omega) only [nI_toInt, nM_toInt, i_ne, i_eq, l_ne, l_eq, a_ne, a_eq, i_L, i_A, l_I, l_A, a_I, a_L, up_ne, up_eq, ne_eq, Nat.reduceEqDiff, not_false_eq_true, Int.reduceNatCast', e1] at h)) <;> (try (exfalso; omega))) | (refine riaddN ?_) | (refine rimulN ?_) | (apply risubN; omega) | (apply r1; exact rfl) | (apply rgoto; exact rfl) | (apply rfall; exact rfl) | (apply rirI; exact rfl) | (apply rend; exact rfl; exact rfl) | (apply opgo; exact rfl; exact rfl) | (apply rcallC; exact rfl; exact rfl; exact rfl; first |  (apply rcallI; exact rfl; exact rfl)))
  · exact ⟨rfl, hI, Nat.le_add_right _ _, Nat.le_add_right _ _⟩
  · refine ⟨rfl, ?_, Nat.le_add_right _ _, Nat.le_add_right _ _⟩
    obtain ⟨b0, b1, b2, b3⟩ := hI.misc
    refine ⟨?_, ?_, ?_, ?_, ?_, ?_, ?_, ?_, ?_, ?_, ?_⟩ <;> first | exact hI.misc | exact hI.land | exact hI.ice | exact hI.tel | exact hI.find | exact hI.doubt | exact hI.row | exact hI.ship | exact hI.tape | exact hI.rule | exact hI.stat | (simp (disch := decide) only [dyn_wI]; exact hI.rule) | skip
    · exact ⟨rfl, show 0 ≤ a0.toInt by omega, show a0.toInt ≤ 999 by omega, b3⟩
    · exact IFind_td hI.find (show (mI M 9 15).toInt ≤ a0.toInt by omega)
    · simp (disch := decide) only [dyn_wI]
      exact IRule_td hI.rule (show (mI M 9 15).toInt ≤ a0.toInt by omega)
  · exact ⟨rfl, hI, Nat.le_add_right _ _, Nat.le_add_right _ _⟩
set_option maxRecDepth 100000 in
theorem ok_land : okOp_land Inv := by
  intro M a0 a1 hI h01
  have e1 := hI.misc.ce_eq
  have l1 := hI.misc.ce_lo
  have l2 := hI.misc.ce_hi
  have e2 := hI.land.la_eq
  have hb := b01 (hI.land.la_b a0.toNatClampNeg)
  unfold opOK
  refine rcallI rfl rfl ?_
  rcases (show a1 = 0 ∨ a1 = 1 by omega) with rfl | rfl
  · repeat' (first | (apply riald; exact rfl; omega; decide) | (apply rlald; exact rfl; omega; decide) | (apply rzald; exact rfl; omega; decide) | (apply rbald; exact rfl; omega; decide) | (apply rzast; decide; exact rfl; omega; decide; omega) | (apply riast; decide; exact rfl; omega; decide) | (apply rlast; decide; exact rfl; omega; decide) | (apply ciald; exact rfl; (first | omega | (simp (disch := omega) only [nI_toInt, nM_toInt, i_ne, i_eq, l_ne, l_eq, a_ne, a_eq, i_L, i_A, l_I, l_A, a_I, a_L, up_ne, up_eq, ne_eq, Nat.reduceEqDiff, not_false_eq_true, Int.reduceNatCast', e1, e2] <;> omega)); decide) | (apply czald; exact rfl; (first | omega | (simp (disch := omega) only [nI_toInt, nM_toInt, i_ne, i_eq, l_ne, l_eq, a_ne, a_eq, i_L, i_A, l_I, l_A, a_I, a_L, up_ne, up_eq, ne_eq, Nat.reduceEqDiff, not_false_eq_true, Int.reduceNatCast', e1, e2] <;> omega)); decide) | (apply clald; exact rfl; (first | omega | (simp (disch := omega) only [nI_toInt, nM_toInt, i_ne, i_eq, l_ne, l_eq, a_ne, a_eq, i_L, i_A, l_I, l_A, a_I, a_L, up_ne, up_eq, ne_eq, Nat.reduceEqDiff, not_false_eq_true, Int.reduceNatCast', e1, e2] <;> omega)); decide) | (apply ciast; decide; exact rfl; (first | omega | (simp (disch := omega) only [nI_toInt, nM_toInt, i_ne, i_eq, l_ne, l_eq, a_ne, a_eq, i_L, i_A, l_I, l_A, a_I, a_L, up_ne, up_eq, ne_eq, Nat.reduceEqDiff, not_false_eq_true, Int.reduceNatCast', e1, e2] <;> omega)); decide) | (apply czast; decide; exact rfl; (first | omega | (simp (disch := omega) only [nI_toInt, nM_toInt, i_ne, i_eq, l_ne, l_eq, a_ne, a_eq, i_L, i_A, l_I, l_A, a_I, a_L, up_ne, up_eq, ne_eq, Nat.reduceEqDiff, not_false_eq_true, Int.reduceNatCast', e1, e2] <;> omega)); decide; omega) | (refine re1 ?_) | (refine re0 ?_) | (refine rn1 ?_) | (refine rn0 ?_) | ((first | (refine rb_lt (fun h => ?_) (fun h => ?_)) | (refine rb_ge (fun h => ?_) (fun h => ?_)) | (refine rb_gt (fun h => ?_) (fun h => ?_)) | (refine rb_le (fun h => ?_) (fun h => ?_)) | (refine rb_eq (fun h => ?_) (fun h => ?_)) | (refine rb_ne (fun h => ?_) (fun h => ?_)) | (refine rc_lt (fun h => ?_) (fun h => ?_)) | (refine rc_ge (fun h => ?_) (fun h => ?_)) | (refine rc_gt (fun h => ?_) (fun h => ?_)) | (refine rc_le (fun h => ?_) (fun h => ?_)) | (refine rc_eq (fun h => ?_) (fun h => ?_)) | (refine rc_ne (fun h => ?_) (fun h => ?_))) <;> (try (simp (disch := omega) only [nI_toInt, nM_toInt, i_ne, i_eq, l_ne, l_eq, a_ne, a_eq, i_L, i_A, l_I, l_A, a_I, a_L, up_ne, up_eq, ne_eq, Nat.reduceEqDiff, not_false_eq_true, Int.reduceNatCast', e1, e2] at h)) <;> (try (exfalso; omega))) | (refine riaddN ?_) | (refine rimulN ?_) | (apply risubN; omega) | (apply r1; exact rfl) | (apply rgoto; exact rfl) | (apply rfall; exact rfl) | (apply rirI; exact rfl) | (apply rend; exact rfl; exact rfl) | (apply opgo; exact rfl; exact rfl) | (apply rcallC; exact rfl; exact rfl; exact rfl; first | (refine cc_isCell (fun h => ?_) (fun h => ?_)) | (refine cc_isDay (fun h => ?_) (fun h => ?_)) | (refine cc_isYear (fun h => ?_) (fun h => ?_)) | (refine cc_isStep (fun h => ?_) (fun h => ?_)) | (refine cc_isFinder (fun h => ?_) (fun h => ?_)) | (refine cc_isHund (fun h => ?_) (fun h => ?_)) | (refine cc_isAsked (fun h => ?_) (fun h => ?_)) | (apply rcallI; exact rfl; exact rfl)))
    all_goals first | exact ⟨rfl, hI, Nat.le_add_right (mN M) 3, Nat.le_add_right (mS M) 900⟩ | skip
    · have hz : mI M 11 a0.toNatClampNeg = nI 0 := of_toInt (by omega) (by omega)
      refine ⟨rfl, ?_, Nat.le_add_right _ _, Nat.le_add_right _ _⟩
      refine ⟨?_, ?_, ?_, ?_, ?_, ?_, ?_, ?_, ?_, ?_, ?_⟩ <;> first | exact hI.misc | exact hI.land | exact hI.ice | exact hI.tel | exact hI.find | exact hI.doubt | exact hI.row | exact hI.ship | exact hI.tape | exact hI.rule | exact hI.stat | (simp (disch := decide) only [dyn_wI]; exact hI.rule) | skip
      exact (ILand_same (hI.land) hz)
    · have hz : mI M 11 a0.toNatClampNeg = nI 1 := of_toInt (by omega) (by omega)
      refine ⟨rfl, ?_, Nat.le_add_right _ _, Nat.le_add_right _ _⟩
      refine ⟨?_, ?_, ?_, ?_, ?_, ?_, ?_, ?_, ?_, ?_, ?_⟩ <;> first | exact hI.misc | exact hI.land | exact hI.ice | exact hI.tel | exact hI.find | exact hI.doubt | exact hI.row | exact hI.ship | exact hI.tape | exact hI.rule | exact hI.stat | (simp (disch := decide) only [dyn_wI]; exact hI.rule) | skip
      exact (ILand_off (hI.land) (cix256 (by omega) (by omega)) hz)
  · repeat' (first | (apply riald; exact rfl; omega; decide) | (apply rlald; exact rfl; omega; decide) | (apply rzald; exact rfl; omega; decide) | (apply rbald; exact rfl; omega; decide) | (apply rzast; decide; exact rfl; omega; decide; omega) | (apply riast; decide; exact rfl; omega; decide) | (apply rlast; decide; exact rfl; omega; decide) | (apply ciald; exact rfl; (first | omega | (simp (disch := omega) only [nI_toInt, nM_toInt, i_ne, i_eq, l_ne, l_eq, a_ne, a_eq, i_L, i_A, l_I, l_A, a_I, a_L, up_ne, up_eq, ne_eq, Nat.reduceEqDiff, not_false_eq_true, Int.reduceNatCast', e1, e2] <;> omega)); decide) | (apply czald; exact rfl; (first | omega | (simp (disch := omega) only [nI_toInt, nM_toInt, i_ne, i_eq, l_ne, l_eq, a_ne, a_eq, i_L, i_A, l_I, l_A, a_I, a_L, up_ne, up_eq, ne_eq, Nat.reduceEqDiff, not_false_eq_true, Int.reduceNatCast', e1, e2] <;> omega)); decide) | (apply clald; exact rfl; (first | omega | (simp (disch := omega) only [nI_toInt, nM_toInt, i_ne, i_eq, l_ne, l_eq, a_ne, a_eq, i_L, i_A, l_I, l_A, a_I, a_L, up_ne, up_eq, ne_eq, Nat.reduceEqDiff, not_false_eq_true, Int.reduceNatCast', e1, e2] <;> omega)); decide) | (apply ciast; decide; exact rfl; (first | omega | (simp (disch := omega) only [nI_toInt, nM_toInt, i_ne, i_eq, l_ne, l_eq, a_ne, a_eq, i_L, i_A, l_I, l_A, a_I, a_L, up_ne, up_eq, ne_eq, Nat.reduceEqDiff, not_false_eq_true, Int.reduceNatCast', e1, e2] <;> omega)); decide) | (apply czast; decide; exact rfl; (first | omega | (simp (disch := omega) only [nI_toInt, nM_toInt, i_ne, i_eq, l_ne, l_eq, a_ne, a_eq, i_L, i_A, l_I, l_A, a_I, a_L, up_ne, up_eq, ne_eq, Nat.reduceEqDiff, not_false_eq_true, Int.reduceNatCast', e1, e2] <;> omega)); decide; omega) | (refine re1 ?_) | (refine re0 ?_) | (refine rn1 ?_) | (refine rn0 ?_) | ((first | (refine rb_lt (fun h => ?_) (fun h => ?_)) | (refine rb_ge (fun h => ?_) (fun h => ?_)) | (refine rb_gt (fun h => ?_) (fun h => ?_)) | (refine rb_le (fun h => ?_) (fun h => ?_)) | (refine rb_eq (fun h => ?_) (fun h => ?_)) | (refine rb_ne (fun h => ?_) (fun h => ?_)) | (refine rc_lt (fun h => ?_) (fun h => ?_)) | (refine rc_ge (fun h => ?_) (fun h => ?_)) | (refine rc_gt (fun h => ?_) (fun h => ?_)) | (refine rc_le (fun h => ?_) (fun h => ?_)) | (refine rc_eq (fun h => ?_) (fun h => ?_)) | (refine rc_ne (fun h => ?_) (fun h => ?_))) <;> (try (simp (disch := omega) only [nI_toInt, nM_toInt, i_ne, i_eq, l_ne, l_eq, a_ne, a_eq, i_L, i_A, l_I, l_A, a_I, a_L, up_ne, up_eq, ne_eq, Nat.reduceEqDiff, not_false_eq_true, Int.reduceNatCast', e1, e2] at h)) <;> (try (exfalso; omega))) | (refine riaddN ?_) | (refine rimulN ?_) | (apply risubN; omega) | (apply r1; exact rfl) | (apply rgoto; exact rfl) | (apply rfall; exact rfl) | (apply rirI; exact rfl) | (apply rend; exact rfl; exact rfl) | (apply opgo; exact rfl; exact rfl) | (apply rcallC; exact rfl; exact rfl; exact rfl; first | (refine cc_isCell (fun h => ?_) (fun h => ?_)) | (refine cc_isDay (fun h => ?_) (fun h => ?_)) | (refine cc_isYear (fun h => ?_) (fun h => ?_)) | (refine cc_isStep (fun h => ?_) (fun h => ?_)) | (refine cc_isFinder (fun h => ?_) (fun h => ?_)) | (refine cc_isHund (fun h => ?_) (fun h => ?_)) | (refine cc_isAsked (fun h => ?_) (fun h => ?_)) | (apply rcallI; exact rfl; exact rfl)))
    all_goals first | exact ⟨rfl, hI, Nat.le_add_right (mN M) 3, Nat.le_add_right (mS M) 900⟩ | skip
    · have hz : mI M 11 a0.toNatClampNeg = nI 1 := of_toInt (by omega) (by omega)
      refine ⟨rfl, ?_, Nat.le_add_right _ _, Nat.le_add_right _ _⟩
      refine ⟨?_, ?_, ?_, ?_, ?_, ?_, ?_, ?_, ?_, ?_, ?_⟩ <;> first | exact hI.misc | exact hI.land | exact hI.ice | exact hI.tel | exact hI.find | exact hI.doubt | exact hI.row | exact hI.ship | exact hI.tape | exact hI.rule | exact hI.stat | (simp (disch := decide) only [dyn_wI]; exact hI.rule) | skip
      exact (ILand_same (hI.land) hz)
    · have hz : mI M 11 a0.toNatClampNeg = nI 0 := of_toInt (by omega) (by omega)
      refine ⟨rfl, ?_, Nat.le_add_right _ _, Nat.le_add_right _ _⟩
      refine ⟨?_, ?_, ?_, ?_, ?_, ?_, ?_, ?_, ?_, ?_, ?_⟩ <;> first | exact hI.misc | exact hI.land | exact hI.ice | exact hI.tel | exact hI.find | exact hI.doubt | exact hI.row | exact hI.ship | exact hI.tape | exact hI.rule | exact hI.stat | (simp (disch := decide) only [dyn_wI]; exact hI.rule) | skip
      exact (ILand_on (hI.land) (cix256 (by omega) (by omega)) hz)
set_option maxRecDepth 100000 in
theorem ok_home : okOp_home Inv := by
  intro M a0 a1 hI h01
  have e2 := hI.land.ho_eq
  have hb := b01 (hI.land.ho_b a0.toNatClampNeg)
  unfold opOK
  refine rcallI rfl rfl ?_
  rcases (show a1 = 0 ∨ a1 = 1 by omega) with rfl | rfl
  · repeat' (first | (apply riald; exact rfl; omega; decide) | (apply rlald; exact rfl; omega; decide) | (apply rzald; exact rfl; omega; decide) | (apply rbald; exact rfl; omega; decide) | (apply rzast; decide; exact rfl; omega; decide; omega) | (apply riast; decide; exact rfl; omega; decide) | (apply rlast; decide; exact rfl; omega; decide) | (apply ciald; exact rfl; (first | omega | (simp (disch := omega) only [nI_toInt, nM_toInt, i_ne, i_eq, l_ne, l_eq, a_ne, a_eq, i_L, i_A, l_I, l_A, a_I, a_L, up_ne, up_eq, ne_eq, Nat.reduceEqDiff, not_false_eq_true, Int.reduceNatCast', e2] <;> omega)); decide) | (apply czald; exact rfl; (first | omega | (simp (disch := omega) only [nI_toInt, nM_toInt, i_ne, i_eq, l_ne, l_eq, a_ne, a_eq, i_L, i_A, l_I, l_A, a_I, a_L, up_ne, up_eq, ne_eq, Nat.reduceEqDiff, not_false_eq_true, Int.reduceNatCast', e2] <;> omega)); decide) | (apply clald; exact rfl; (first | omega | (simp (disch := omega) only [nI_toInt, nM_toInt, i_ne, i_eq, l_ne, l_eq, a_ne, a_eq, i_L, i_A, l_I, l_A, a_I, a_L, up_ne, up_eq, ne_eq, Nat.reduceEqDiff, not_false_eq_true, Int.reduceNatCast', e2] <;> omega)); decide) | (apply ciast; decide; exact rfl; (first | omega | (simp (disch := omega) only [nI_toInt, nM_toInt, i_ne, i_eq, l_ne, l_eq, a_ne, a_eq, i_L, i_A, l_I, l_A, a_I, a_L, up_ne, up_eq, ne_eq, Nat.reduceEqDiff, not_false_eq_true, Int.reduceNatCast', e2] <;> omega)); decide) | (apply czast; decide; exact rfl; (first | omega | (simp (disch := omega) only [nI_toInt, nM_toInt, i_ne, i_eq, l_ne, l_eq, a_ne, a_eq, i_L, i_A, l_I, l_A, a_I, a_L, up_ne, up_eq, ne_eq, Nat.reduceEqDiff, not_false_eq_true, Int.reduceNatCast', e2] <;> omega)); decide; omega) | (refine re1 ?_) | (refine re0 ?_) | (refine rn1 ?_) | (refine rn0 ?_) | ((first | (refine rb_lt (fun h => ?_) (fun h => ?_)) | (refine rb_ge (fun h => ?_) (fun h => ?_)) | (refine rb_gt (fun h => ?_) (fun h => ?_)) | (refine rb_le (fun h => ?_) (fun h => ?_)) | (refine rb_eq (fun h => ?_) (fun h => ?_)) | (refine rb_ne (fun h => ?_) (fun h => ?_)) | (refine rc_lt (fun h => ?_) (fun h => ?_)) | (refine rc_ge (fun h => ?_) (fun h => ?_)) | (refine rc_gt (fun h => ?_) (fun h => ?_)) | (refine rc_le (fun h => ?_) (fun h => ?_)) | (refine rc_eq (fun h => ?_) (fun h => ?_)) | (refine rc_ne (fun h => ?_) (fun h => ?_))) <;> (try (simp (disch := omega) only [nI_toInt, nM_toInt, i_ne, i_eq, l_ne, l_eq, a_ne, a_eq, i_L, i_A, l_I, l_A, a_I, a_L, up_ne, up_eq, ne_eq, Nat.reduceEqDiff, not_false_eq_true, Int.reduceNatCast', e2] at h)) <;> (try (exfalso; omega))) | (refine riaddN ?_) | (refine rimulN ?_) | (apply risubN; omega) | (apply r1; exact rfl) | (apply rgoto; exact rfl) | (apply rfall; exact rfl) | (apply rirI; exact rfl) | (apply rend; exact rfl; exact rfl) | (apply opgo; exact rfl; exact rfl) | (apply rcallC; exact rfl; exact rfl; exact rfl; first | (refine cc_isCell (fun h => ?_) (fun h => ?_)) | (refine cc_isDay (fun h => ?_) (fun h => ?_)) | (refine cc_isYear (fun h => ?_) (fun h => ?_)) | (refine cc_isStep (fun h => ?_) (fun h => ?_)) | (refine cc_isFinder (fun h => ?_) (fun h => ?_)) | (refine cc_isHund (fun h => ?_) (fun h => ?_)) | (refine cc_isAsked (fun h => ?_) (fun h => ?_)) | (apply rcallI; exact rfl; exact rfl)))
    all_goals first | exact ⟨rfl, hI, Nat.le_add_right (mN M) 3, Nat.le_add_right (mS M) 900⟩ | skip
    · have hz : mI M 12 a0.toNatClampNeg = nI 0 := of_toInt (by omega) (by omega)
      refine ⟨rfl, ?_, Nat.le_add_right _ _, Nat.le_add_right _ _⟩
      refine ⟨?_, ?_, ?_, ?_, ?_, ?_, ?_, ?_, ?_, ?_, ?_⟩ <;> first | exact hI.misc | exact hI.land | exact hI.ice | exact hI.tel | exact hI.find | exact hI.doubt | exact hI.row | exact hI.ship | exact hI.tape | exact hI.rule | exact hI.stat | (simp (disch := decide) only [dyn_wI]; exact hI.rule) | skip
      exact ILand_sym (ILand_same (ILand_sym hI.land) hz)
    · have hz : mI M 12 a0.toNatClampNeg = nI 1 := of_toInt (by omega) (by omega)
      refine ⟨rfl, ?_, Nat.le_add_right _ _, Nat.le_add_right _ _⟩
      refine ⟨?_, ?_, ?_, ?_, ?_, ?_, ?_, ?_, ?_, ?_, ?_⟩ <;> first | exact hI.misc | exact hI.land | exact hI.ice | exact hI.tel | exact hI.find | exact hI.doubt | exact hI.row | exact hI.ship | exact hI.tape | exact hI.rule | exact hI.stat | (simp (disch := decide) only [dyn_wI]; exact hI.rule) | skip
      exact ILand_sym (ILand_off (ILand_sym hI.land) (cix256 (by omega) (by omega)) hz)
  · repeat' (first | (apply riald; exact rfl; omega; decide) | (apply rlald; exact rfl; omega; decide) | (apply rzald; exact rfl; omega; decide) | (apply rbald; exact rfl; omega; decide) | (apply rzast; decide; exact rfl; omega; decide; omega) | (apply riast; decide; exact rfl; omega; decide) | (apply rlast; decide; exact rfl; omega; decide) | (apply ciald; exact rfl; (first | omega | (simp (disch := omega) only [nI_toInt, nM_toInt, i_ne, i_eq, l_ne, l_eq, a_ne, a_eq, i_L, i_A, l_I, l_A, a_I, a_L, up_ne, up_eq, ne_eq, Nat.reduceEqDiff, not_false_eq_true, Int.reduceNatCast', e2] <;> omega)); decide) | (apply czald; exact rfl; (first | omega | (simp (disch := omega) only [nI_toInt, nM_toInt, i_ne, i_eq, l_ne, l_eq, a_ne, a_eq, i_L, i_A, l_I, l_A, a_I, a_L, up_ne, up_eq, ne_eq, Nat.reduceEqDiff, not_false_eq_true, Int.reduceNatCast', e2] <;> omega)); decide) | (apply clald; exact rfl; (first | omega | (simp (disch := omega) only [nI_toInt, nM_toInt, i_ne, i_eq, l_ne, l_eq, a_ne, a_eq, i_L, i_A, l_I, l_A, a_I, a_L, up_ne, up_eq, ne_eq, Nat.reduceEqDiff, not_false_eq_true, Int.reduceNatCast', e2] <;> omega)); decide) | (apply ciast; decide; exact rfl; (first | omega | (simp (disch := omega) only [nI_toInt, nM_toInt, i_ne, i_eq, l_ne, l_eq, a_ne, a_eq, i_L, i_A, l_I, l_A, a_I, a_L, up_ne, up_eq, ne_eq, Nat.reduceEqDiff, not_false_eq_true, Int.reduceNatCast', e2] <;> omega)); decide) | (apply czast; decide; exact rfl; (first | omega | (simp (disch := omega) only [nI_toInt, nM_toInt, i_ne, i_eq, l_ne, l_eq, a_ne, a_eq, i_L, i_A, l_I, l_A, a_I, a_L, up_ne, up_eq, ne_eq, Nat.reduceEqDiff, not_false_eq_true, Int.reduceNatCast', e2] <;> omega)); decide; omega) | (refine re1 ?_) | (refine re0 ?_) | (refine rn1 ?_) | (refine rn0 ?_) | ((first | (refine rb_lt (fun h => ?_) (fun h => ?_)) | (refine rb_ge (fun h => ?_) (fun h => ?_)) | (refine rb_gt (fun h => ?_) (fun h => ?_)) | (refine rb_le (fun h => ?_) (fun h => ?_)) | (refine rb_eq (fun h => ?_) (fun h => ?_)) | (refine rb_ne (fun h => ?_) (fun h => ?_)) | (refine rc_lt (fun h => ?_) (fun h => ?_)) | (refine rc_ge (fun h => ?_) (fun h => ?_)) | (refine rc_gt (fun h => ?_) (fun h => ?_)) | (refine rc_le (fun h => ?_) (fun h => ?_)) | (refine rc_eq (fun h => ?_) (fun h => ?_)) | (refine rc_ne (fun h => ?_) (fun h => ?_))) <;> (try (simp (disch := omega) only [nI_toInt, nM_toInt, i_ne, i_eq, l_ne, l_eq, a_ne, a_eq, i_L, i_A, l_I, l_A, a_I, a_L, up_ne, up_eq, ne_eq, Nat.reduceEqDiff, not_false_eq_true, Int.reduceNatCast', e2] at h)) <;> (try (exfalso; omega))) | (refine riaddN ?_) | (refine rimulN ?_) | (apply risubN; omega) | (apply r1; exact rfl) | (apply rgoto; exact rfl) | (apply rfall; exact rfl) | (apply rirI; exact rfl) | (apply rend; exact rfl; exact rfl) | (apply opgo; exact rfl; exact rfl) | (apply rcallC; exact rfl; exact rfl; exact rfl; first | (refine cc_isCell (fun h => ?_) (fun h => ?_)) | (refine cc_isDay (fun h => ?_) (fun h => ?_)) | (refine cc_isYear (fun h => ?_) (fun h => ?_)) | (refine cc_isStep (fun h => ?_) (fun h => ?_)) | (refine cc_isFinder (fun h => ?_) (fun h => ?_)) | (refine cc_isHund (fun h => ?_) (fun h => ?_)) | (refine cc_isAsked (fun h => ?_) (fun h => ?_)) | (apply rcallI; exact rfl; exact rfl)))
    all_goals first | exact ⟨rfl, hI, Nat.le_add_right (mN M) 3, Nat.le_add_right (mS M) 900⟩ | skip
    · have hz : mI M 12 a0.toNatClampNeg = nI 1 := of_toInt (by omega) (by omega)
      refine ⟨rfl, ?_, Nat.le_add_right _ _, Nat.le_add_right _ _⟩
      refine ⟨?_, ?_, ?_, ?_, ?_, ?_, ?_, ?_, ?_, ?_, ?_⟩ <;> first | exact hI.misc | exact hI.land | exact hI.ice | exact hI.tel | exact hI.find | exact hI.doubt | exact hI.row | exact hI.ship | exact hI.tape | exact hI.rule | exact hI.stat | (simp (disch := decide) only [dyn_wI]; exact hI.rule) | skip
      exact ILand_sym (ILand_same (ILand_sym hI.land) hz)
    · have hz : mI M 12 a0.toNatClampNeg = nI 0 := of_toInt (by omega) (by omega)
      refine ⟨rfl, ?_, Nat.le_add_right _ _, Nat.le_add_right _ _⟩
      refine ⟨?_, ?_, ?_, ?_, ?_, ?_, ?_, ?_, ?_, ?_, ?_⟩ <;> first | exact hI.misc | exact hI.land | exact hI.ice | exact hI.tel | exact hI.find | exact hI.doubt | exact hI.row | exact hI.ship | exact hI.tape | exact hI.rule | exact hI.stat | (simp (disch := decide) only [dyn_wI]; exact hI.rule) | skip
      exact ILand_sym (ILand_on (ILand_sym hI.land) (cix256 (by omega) (by omega)) hz)
