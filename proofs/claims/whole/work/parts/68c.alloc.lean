/-! new rows: copies, rules -/
def gr (M M' : am_M) (k n : Nat) : Prop := mN M' = mN M + 1 ∧ mS M' = mS M + n ∧ mK M' = am_up (mK M) (mN M) (k, n) ∧ ∀ j, j ≠ mN M → mI M' j = mI M j ∧ mL M' j = mL M j ∧ mA M' j = mA M j
section
variable {d z n m i r k : Nat} {rest : List Instr} {lv : am_L} {st rs : List Value} {M M' : am_M} {Q : Option Value → am_M → Prop} {x y : Int32} {v : Value}
theorem gr_alloc {f : Nat → Int32} : gr M (am_alloc M k n f) k n := ⟨rfl, rfl, rfl, fun j hj => ⟨up_ne hj, up_ne hj, up_ne hj⟩⟩
theorem rnarr (hm : n ≤ 10000) (hN : 118 ≤ mN M) (kk : am_Run true d z rest lv (.ref (mN M) :: st) (am_alloc M 20 n (fun _ => 0)) Q) : am_Run true d z (.newarray .int :: rest) lv (.int (nI n) :: st) M Q := by
  refine r1 ?_ kk
  have e : (nI n).toNatClampNeg = n := nI_clamp (by omega)
  show (if ¬nI n < 0 ∧ (nI n).toNatClampNeg ≤ 10000 ∧ am_at .int ≠ 98 ∧ (118 ≤ mN M ∨ _) then some (none, lv, Value.ref (mN M) :: st, am_alloc M (am_at .int) (nI n).toNatClampNeg (fun _ => 0)) else none) = _
  have g : ¬nI n < 0 := by
    intro q
    rw [Int32.lt_iff_toInt_lt, nI_toInt (by omega)] at q
    have q : (n : Int) < 0 := q
    omega
  rw [e, if_pos ⟨g, hm, by decide, Or.inl hN⟩]
  rfl
theorem rnew11 (hN : 118 ≤ mN M) (kk : am_Run true d z rest lv (.ref (mN M) :: st) (am_alloc M 11 4 (fun _ => 0)) Q) : am_Run true d z (.new 11 :: rest) lv st M Q := by
  refine r1 ?_ kk
  show (if 11 < 13 ∧ (118 ≤ mN M ∨ _) then some (none, lv, Value.ref (mN M) :: st, am_alloc M 11 (am_nf 11) (fun _ => 0)) else none) = _
  rw [if_pos ⟨by decide, Or.inl hN⟩]
  rfl
theorem rdyn0 {len q : Nat} (hk : am_kd true M i = (20, len)) (hq : am_kd true M r = (20, q)) (h9 : 9 ≤ r) (h1 : m ≤ len) (h2 : m ≤ q) (h3 : m ≤ 10000) (hs : (st.map Value.category).sum ≤ 8) (kk : am_Run true d z rest lv st (wI M r (fun j => if j < m then mI M i j else mI M r j)) Q) : am_Run true d z (.invokedynamic 0 :: rest) lv (.int (nI m) :: .int (nI 0) :: .ref r :: .int (nI 0) :: .ref i :: st) M Q := by
  refine r1 ?_ kk
  have e : (nI m).toNatClampNeg = m := nI_clamp (by omega)
  show (if nI 0 = 0 ∧ nI 0 = 0 ∧ ¬nI m < 0 ∧ 9 ≤ r ∧ (am_kd true M i).1 = 20 ∧ (am_kd true M r).1 = 20 ∧ (nI m).toNatClampNeg ≤ (am_kd true M i).2 ∧ (nI m).toNatClampNeg ≤ (am_kd true M r).2 ∧ (st.map Value.category).sum ≤ 8 then some (none, lv, st, wI M r (fun j => if j < (nI m).toNatClampNeg then mI M i j else mI M r j)) else none) = _
  have g : ¬nI m < 0 := by
    intro q
    rw [Int32.lt_iff_toInt_lt, nI_toInt (by omega)] at q
    have q : (m : Int) < 0 := q
    omega
  rw [e, hk, hq, if_pos ⟨rfl, rfl, g, h9, rfl, rfl, h1, h2, hs⟩]
theorem rdyn1 {len : Nat} (hk : am_kd true M i = (20, len)) (h9 : 9 ≤ i) (hN : 118 ≤ mN M) (hs : (st.map Value.category).sum ≤ 8) (kk : am_Run true d z rest lv (.ref (mN M) :: st) (am_alloc M 20 len (mI M i)) Q) : am_Run true d z (.invokedynamic 1 :: rest) lv (.ref i :: st) M Q := by
  refine r1 ?_ kk
  show (if 9 ≤ i ∧ (am_kd true M i).1 = 20 ∧ 118 ≤ mN M ∧ (st.map Value.category).sum ≤ 8 then some (none, lv, Value.ref (mN M) :: st, am_alloc M 20 (am_kd true M i).2 (mI M i)) else none) = _
  rw [hk, if_pos ⟨h9, rfl, hN, hs⟩]
theorem rckc {q len : Nat} (hk : am_kd true M r = (20, len)) (h9 : 9 ≤ r) (kk : am_Run true d z rest lv (.ref r :: st) M Q) : am_Run true d z (.checkcast q :: rest) lv (.ref r :: st) M Q := by
  refine r1 ?_ kk
  show (if (am_kd true M r).1 = 20 ∧ 9 ≤ r then some (none, lv, Value.ref r :: st, M) else none) = _
  rw [if_pos ⟨by rw [hk], h9⟩]
theorem rputV {fid : Nat} (h : am_put true z fid v i M = some M') (kk : am_Run true d z rest lv st M' Q) : am_Run true d z (.putfield fid :: rest) lv (v :: .ref i :: st) M Q := by
  refine r1 ?_ kk
  show (match am_put true z fid v i M with
      | some M' => some (none, lv, st, M')
      | none => none) = _
  rw [h]
theorem rcallS {z' : Nat} {as : List Value} (h0 : am_step true z (.invokespecial z') lv st M = none) (h1 : am_end z (.invokespecial z') st = none) (hp : am_pop (am_na z') [] st = some (.ref r :: as, rs)) (hf : am_fit z' (.ref r :: as) rs = true) (hk : am_kd true M r = (11, 4)) (ho : am_own z' = 11) (c : am_Call true d z' (.ref r :: as) M (fun x M' => am_Run true (d + 1) z rest lv (x.toList ++ rs) M' Q)) : am_Run true (d + 1) z (.invokespecial z' :: rest) lv st M Q := by
  refine rcallC h0 h1 ?_ c
  show (match am_pop (am_na z') [] st with
    | some (as, rs) => if (am_fit z' as rs && am_rcvB true z' M as) = true then some (z', as, rs) else none
    | none => none) = _
  rw [hp]
  show (if (am_fit z' (.ref r :: as) rs && am_rcvB true z' M (.ref r :: as)) = true then _ else none) = _
  have e : am_rcvB true z' M (.ref r :: as) = true := by
    show (Nat.beq (am_kd true M r).1 (am_own z') && decide (am_own z' < 14)) = true
    rw [hk, ho]; rfl
  rw [hf, e]
  rfl
theorem put_rI {fid k : Nat} (hf : am_fd fid = (11, k, 0, true)) (hk4 : k < 4) (hr : 118 ≤ r) (hk : mK M r = (11, 4)) : am_put true 11 fid (.int x) r M = some (wI M r (am_up (mI M r) k x)) := by
  unfold am_put
  rw [hf, kd_hi hr, hk]
  dsimp only
  rw [if_pos ⟨by omega, rfl, hk4, by decide, by decide⟩]
  rfl
theorem put_rR {fid k q : Nat} (hf : am_fd fid = (11, k, 2, true)) (hk4 : k < 4) (hr : 118 ≤ r) (hk : mK M r = (11, 4)) : am_put true 11 fid (.ref q) r M = some (wA M r (am_up (mA M r) k (q + 1))) := by
  unfold am_put
  rw [hf, kd_hi hr, hk]
  dsimp only
  rw [if_pos ⟨by omega, rfl, hk4, by decide, by decide⟩]
  show (if true = true ∧ r < 118 ∧ am_FA r k ≠ 0 then none else some (wA M r (am_up (mA M r) k (q + 1)))) = _
  rw [if_neg (fun h => by omega)]
set_option maxRecDepth 100000
theorem cc_copyOf {len : Nat} (hi : 9 ≤ i) (hi2 : i < 118) (hk : ∀ M, am_kd true M i = (20, len)) (hm : m ≤ len) (hl : len ≤ 1000) (hN : 118 ≤ mN M) (kk : ∀ M', gr M M' 20 m → (∀ j, j < m → mI M' (mN M) j = mI M i j) → Q (some (.ref (mN M))) M') : am_Call true (d + 1) 155 [.ref i, .int (nI m)] M Q := by
  refine rcallI rfl rfl ?_
  by_cases e : m = len
  · subst e
    have kN : am_kd true (am_alloc M 20 m (mI M i)) (mN M) = (20, m) := (kd_hi hN).trans (by show am_up (mK M) (mN M) (20, m) (mN M) = _; exact up_eq)
    repeat' (first | (refine rckc kN (by omega) ?_) | (refine rb_ne (fun h => absurd rfl h) (fun _ => ?_)) | (apply ralen; exact hk _; decide) | (refine rdyn1 (hk _) hi hN (by decide) ?_) | (apply riald; exact rfl; omega; decide) | (apply rlald; exact rfl; omega; decide) | (apply rzald; exact rfl; omega; decide) | (apply rbald; exact rfl; omega; decide) | (apply rzast; decide; exact rfl; omega; decide; omega) | (apply riast; decide; exact rfl; omega; decide) | (apply rlast; decide; exact rfl; omega; decide) | (refine re1 ?_) | (refine re0 ?_) | (refine rn1 ?_) | (refine rn0 ?_) | (refine rbe (fun h => ?_) (fun h => ?_)) | (refine rbn (fun h => ?_) (fun h => ?_)) | ((first | (refine rb_lt (fun h => ?_) (fun h => ?_)) | (refine rb_ge (fun h => ?_) (fun h => ?_)) | (refine rb_gt (fun h => ?_) (fun h => ?_)) | (refine rb_le (fun h => ?_) (fun h => ?_)) | (refine rb_eq (fun h => ?_) (fun h => ?_)) | (refine rb_ne (fun h => ?_) (fun h => ?_)) | (refine rc_lt (fun h => ?_) (fun h => ?_)) | (refine rc_ge (fun h => ?_) (fun h => ?_)) | (refine rc_gt (fun h => ?_) (fun h => ?_)) | (refine rc_le (fun h => ?_) (fun h => ?_)) | (refine rc_eq (fun h => ?_) (fun h => ?_)) | (refine rc_ne (fun h => ?_) (fun h => ?_))) <;> (try (simp (disch := omega) only [nI_toInt, nM_toInt, i_ne, i_eq, l_ne, l_eq, a_ne, a_eq, i_L, i_A, l_I, l_A, a_I, a_L, up_ne, up_eq, ne_eq, Nat.reduceEqDiff, not_false_eq_true, Int.reduceNatCast', ] at h)) <;> (try (exfalso; omega))) | (refine riaddN ?_) | (refine rimulN ?_) | (refine riconst ?_) | (refine rlconst ?_) | (apply risubN; (first | omega | decide)) | (apply ridivN; (first | omega | decide); (first | omega | decide); (first | omega | decide)) | (apply riremN; (first | omega | decide); (first | omega | decide); (first | omega | decide)) | (apply ri2lN; (first | omega | decide)) | (refine rl2iN ?_) | (refine rlmulN ?_) | (refine rladdN ?_) | (apply rlsubN; (first | omega | decide)) | (apply rldivN; (first | omega | decide); (first | omega | decide); (first | omega | decide)) | (apply riinc1; exact rfl; exact rfl) | (apply r1; exact rfl) | (apply rgoto; exact rfl) | (apply rfall; exact rfl) | (apply rirI; exact rfl) | (apply rend; exact rfl; exact rfl) | (apply rtsw; exact rfl; exact rfl) | (apply rcallC; exact rfl; exact rfl; exact rfl; first |  (apply rcallI; exact rfl; exact rfl)))
    exact kk _ gr_alloc (fun j hj => congrFun up_eq j)
  · have mn : ∀ (Mx : am_M) (Q' : Option Value → am_M → Prop), Q' (some (.int (nI m))) Mx → am_Call true d 112 [.int (nI len), .int (nI m)] Mx Q' := fun Mx Q' hq => by
      refine rcallI rfl rfl ?_
      repeat' (first |  (apply riald; exact rfl; omega; decide) | (apply rlald; exact rfl; omega; decide) | (apply rzald; exact rfl; omega; decide) | (apply rbald; exact rfl; omega; decide) | (apply rzast; decide; exact rfl; omega; decide; omega) | (apply riast; decide; exact rfl; omega; decide) | (apply rlast; decide; exact rfl; omega; decide) | (refine re1 ?_) | (refine re0 ?_) | (refine rn1 ?_) | (refine rn0 ?_) | (refine rbe (fun h => ?_) (fun h => ?_)) | (refine rbn (fun h => ?_) (fun h => ?_)) | ((first | (refine rb_lt (fun h => ?_) (fun h => ?_)) | (refine rb_ge (fun h => ?_) (fun h => ?_)) | (refine rb_gt (fun h => ?_) (fun h => ?_)) | (refine rb_le (fun h => ?_) (fun h => ?_)) | (refine rb_eq (fun h => ?_) (fun h => ?_)) | (refine rb_ne (fun h => ?_) (fun h => ?_)) | (refine rc_lt (fun h => ?_) (fun h => ?_)) | (refine rc_ge (fun h => ?_) (fun h => ?_)) | (refine rc_gt (fun h => ?_) (fun h => ?_)) | (refine rc_le (fun h => ?_) (fun h => ?_)) | (refine rc_eq (fun h => ?_) (fun h => ?_)) | (refine rc_ne (fun h => ?_) (fun h => ?_))) <;> (try (simp (disch := omega) only [nI_toInt, nM_toInt, i_ne, i_eq, l_ne, l_eq, a_ne, a_eq, i_L, i_A, l_I, l_A, a_I, a_L, up_ne, up_eq, ne_eq, Nat.reduceEqDiff, not_false_eq_true, Int.reduceNatCast', ] at h)) <;> (try (exfalso; omega))) | (refine riaddN ?_) | (refine rimulN ?_) | (refine riconst ?_) | (refine rlconst ?_) | (apply risubN; (first | omega | decide)) | (apply ridivN; (first | omega | decide); (first | omega | decide); (first | omega | decide)) | (apply riremN; (first | omega | decide); (first | omega | decide); (first | omega | decide)) | (apply ri2lN; (first | omega | decide)) | (refine rl2iN ?_) | (refine rlmulN ?_) | (refine rladdN ?_) | (apply rlsubN; (first | omega | decide)) | (apply rldivN; (first | omega | decide); (first | omega | decide); (first | omega | decide)) | (apply riinc1; exact rfl; exact rfl) | (apply r1; exact rfl) | (apply rgoto; exact rfl) | (apply rfall; exact rfl) | (apply rirI; exact rfl) | (apply rend; exact rfl; exact rfl) | (apply rtsw; exact rfl; exact rfl) | (apply rcallC; exact rfl; exact rfl; exact rfl; first |  (apply rcallI; exact rfl; exact rfl)))
      all_goals exact hq
    have kN : am_kd true (am_alloc M 20 m (fun _ => 0)) (mN M) = (20, m) := (kd_hi hN).trans (by show am_up (mK M) (mN M) (20, m) (mN M) = _; exact up_eq)
    repeat' (first | (apply ralen; exact hk _; decide) | (refine rnarr (by omega) hN ?_) | (refine rdyn0 (hk _) kN (by omega) hm (Nat.le_refl _) (by omega) (by decide) ?_) | (apply riald; exact rfl; omega; decide) | (apply rlald; exact rfl; omega; decide) | (apply rzald; exact rfl; omega; decide) | (apply rbald; exact rfl; omega; decide) | (apply rzast; decide; exact rfl; omega; decide; omega) | (apply riast; decide; exact rfl; omega; decide) | (apply rlast; decide; exact rfl; omega; decide) | (refine re1 ?_) | (refine re0 ?_) | (refine rn1 ?_) | (refine rn0 ?_) | (refine rbe (fun h => ?_) (fun h => ?_)) | (refine rbn (fun h => ?_) (fun h => ?_)) | ((first | (refine rb_lt (fun h => ?_) (fun h => ?_)) | (refine rb_ge (fun h => ?_) (fun h => ?_)) | (refine rb_gt (fun h => ?_) (fun h => ?_)) | (refine rb_le (fun h => ?_) (fun h => ?_)) | (refine rb_eq (fun h => ?_) (fun h => ?_)) | (refine rb_ne (fun h => ?_) (fun h => ?_)) | (refine rc_lt (fun h => ?_) (fun h => ?_)) | (refine rc_ge (fun h => ?_) (fun h => ?_)) | (refine rc_gt (fun h => ?_) (fun h => ?_)) | (refine rc_le (fun h => ?_) (fun h => ?_)) | (refine rc_eq (fun h => ?_) (fun h => ?_)) | (refine rc_ne (fun h => ?_) (fun h => ?_))) <;> (try (simp (disch := omega) only [nI_toInt, nM_toInt, i_ne, i_eq, l_ne, l_eq, a_ne, a_eq, i_L, i_A, l_I, l_A, a_I, a_L, up_ne, up_eq, ne_eq, Nat.reduceEqDiff, not_false_eq_true, Int.reduceNatCast', ] at h)) <;> (try (exfalso; omega))) | (refine riaddN ?_) | (refine rimulN ?_) | (refine riconst ?_) | (refine rlconst ?_) | (apply risubN; (first | omega | decide)) | (apply ridivN; (first | omega | decide); (first | omega | decide); (first | omega | decide)) | (apply riremN; (first | omega | decide); (first | omega | decide); (first | omega | decide)) | (apply ri2lN; (first | omega | decide)) | (refine rl2iN ?_) | (refine rlmulN ?_) | (refine rladdN ?_) | (apply rlsubN; (first | omega | decide)) | (apply rldivN; (first | omega | decide); (first | omega | decide); (first | omega | decide)) | (apply riinc1; exact rfl; exact rfl) | (apply r1; exact rfl) | (apply rgoto; exact rfl) | (apply rfall; exact rfl) | (apply rirI; exact rfl) | (apply rend; exact rfl; exact rfl) | (apply rtsw; exact rfl; exact rfl) | (apply rcallC; exact rfl; exact rfl; exact rfl; first | (refine mn _ _ ?_) | (apply rcallI; exact rfl; exact rfl)))
    refine kk _ ⟨rfl, rfl, rfl, fun j hj => ⟨?_, up_ne hj, up_ne hj⟩⟩ (fun j hj => ?_)
    · rw [i_ne hj]; exact up_ne hj
    · rw [i_eq, if_pos hj]
      exact congrFun (up_ne (show i ≠ mN M by omega)) j
theorem cc_rinit {ln cd : Nat} (hr : 118 ≤ r) (hk : mK M r = (11, 4)) (kk : ∀ M', mN M' = mN M → mS M' = mS M → mK M' = mK M → mL M' = mL M → (∀ i, i ≠ r → mI M' i = mI M i ∧ mA M' i = mA M i) → mI M' r 0 = x → mI M' r 1 = y → mA M' r 2 = ln + 1 → mA M' r 3 = cd + 1 → Q none M') : am_Call true d 11 [.ref r, .int x, .int y, .ref ln, .ref cd] M Q := by
  refine rcallI rfl rfl ?_
  repeat' (first | (refine rputV (put_rI (k := 0) rfl (by decide) hr hk) ?_) | (refine rputV (put_rI (k := 1) rfl (by decide) hr hk) ?_) | (refine rputV (put_rR (k := 2) rfl (by decide) hr hk) ?_) | (refine rputV (put_rR (k := 3) rfl (by decide) hr hk) ?_) | (apply riald; exact rfl; omega; decide) | (apply rlald; exact rfl; omega; decide) | (apply rzald; exact rfl; omega; decide) | (apply rbald; exact rfl; omega; decide) | (apply rzast; decide; exact rfl; omega; decide; omega) | (apply riast; decide; exact rfl; omega; decide) | (apply rlast; decide; exact rfl; omega; decide) | (refine re1 ?_) | (refine re0 ?_) | (refine rn1 ?_) | (refine rn0 ?_) | (refine rbe (fun h => ?_) (fun h => ?_)) | (refine rbn (fun h => ?_) (fun h => ?_)) | ((first | (refine rb_lt (fun h => ?_) (fun h => ?_)) | (refine rb_ge (fun h => ?_) (fun h => ?_)) | (refine rb_gt (fun h => ?_) (fun h => ?_)) | (refine rb_le (fun h => ?_) (fun h => ?_)) | (refine rb_eq (fun h => ?_) (fun h => ?_)) | (refine rb_ne (fun h => ?_) (fun h => ?_)) | (refine rc_lt (fun h => ?_) (fun h => ?_)) | (refine rc_ge (fun h => ?_) (fun h => ?_)) | (refine rc_gt (fun h => ?_) (fun h => ?_)) | (refine rc_le (fun h => ?_) (fun h => ?_)) | (refine rc_eq (fun h => ?_) (fun h => ?_)) | (refine rc_ne (fun h => ?_) (fun h => ?_))) <;> (try (simp (disch := omega) only [nI_toInt, nM_toInt, i_ne, i_eq, l_ne, l_eq, a_ne, a_eq, i_L, i_A, l_I, l_A, a_I, a_L, up_ne, up_eq, ne_eq, Nat.reduceEqDiff, not_false_eq_true, Int.reduceNatCast', ] at h)) <;> (try (exfalso; omega))) | (refine riaddN ?_) | (refine rimulN ?_) | (refine riconst ?_) | (refine rlconst ?_) | (apply risubN; (first | omega | decide)) | (apply ridivN; (first | omega | decide); (first | omega | decide); (first | omega | decide)) | (apply riremN; (first | omega | decide); (first | omega | decide); (first | omega | decide)) | (apply ri2lN; (first | omega | decide)) | (refine rl2iN ?_) | (refine rlmulN ?_) | (refine rladdN ?_) | (apply rlsubN; (first | omega | decide)) | (apply rldivN; (first | omega | decide); (first | omega | decide); (first | omega | decide)) | (apply riinc1; exact rfl; exact rfl) | (apply r1; exact rfl) | (apply rgoto; exact rfl) | (apply rfall; exact rfl) | (apply rirI; exact rfl) | (apply rend; exact rfl; exact rfl) | (apply rtsw; exact rfl; exact rfl) | (apply rcallC; exact rfl; exact rfl; exact rfl; first |  (apply rcallI; exact rfl; exact rfl)))
  refine kk _ rfl rfl rfl rfl (fun i h => ⟨?_, ?_⟩) ?_ ?_ ?_ ?_
  · simp only [i_A, i_ne h]
  · simp only [a_ne h, a_I]
  · simp only [i_A, i_eq, up_ne (show (0 : Nat) ≠ 1 by decide), up_eq]
  · simp only [i_A, i_eq, up_eq]
  · simp only [a_eq, a_I, up_ne (show (2 : Nat) ≠ 3 by decide), up_eq]
  · simp only [a_eq, up_eq]
end
