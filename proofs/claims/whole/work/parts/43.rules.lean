/-! rules' evaluation: the class -/
theorem kd_hi {M : am_M} {r : Nat} (h : 118 ≤ r) : am_kd true M r = mK M r := by
  unfold am_kd; rw [if_neg (by omega), if_neg (by omega)]
theorem get_hiI {M : am_M} {r k : Nat} {fid : Nat} (hf : am_fd fid = (11, k, 0, true)) (hk : k < 4) (h : 118 ≤ r) (hK : mK M r = (11, 4)) : am_get true fid r M = some (.int (mI M r k)) := by
  unfold am_get
  rw [hf, kd_hi h, hK]
  dsimp only
  rw [if_pos ⟨rfl, hk, by decide⟩]
  rfl
theorem get_hiR {M : am_M} {r k q : Nat} {fid : Nat} (hf : am_fd fid = (11, k, 2, true)) (hk : k < 4) (h : 118 ≤ r) (hK : mK M r = (11, 4)) (hq : mA M r k = q + 1) : am_get true fid r M = some (.ref q) := by
  unfold am_get
  rw [hf, kd_hi h, hK]
  dsimp only
  rw [if_pos ⟨rfl, hk, by decide⟩]
  unfold am_fv
  rw [decide_eq_false (show ¬r < 118 by omega), hq]
  rfl
section
variable {b : Bool} {d z : Nat} {ins : Instr} {rest : List Instr} {lv lv' : am_L} {st : List Value} {M : am_M} {Q : Option Value → am_M → Prop}
theorem rgetR {fid i q : Nat} (h : am_get b fid i M = some (.ref q)) (kk : am_Run b d z rest lv (.ref q :: st) M Q) : am_Run b d z (.getfield fid :: rest) lv (.ref i :: st) M Q := by
  refine r1 ?_ kk
  show (match am_get b fid i M with
      | some (.int x) => some (none, lv, Value.int x :: st, M)
      | some (.ref x) => some (none, lv, Value.ref x :: st, M)
      | some .null => some (none, lv, Value.null :: st, M)
      | some (.long x) => some (none, lv, Value.long x :: st, M)
      | _ => none) = _
  rw [h]
/-- a call on rules that were made later -/
theorem rcallR {z' r : Nat} {as rs : List Value} (h0 : am_step true z (.invokevirtual z') lv st M = none) (h1 : am_end z (.invokevirtual z') st = none) (hp : am_pop (am_na z') [] st = some (.ref r :: as, rs)) (hf : am_fit z' (.ref r :: as) rs = true) (hk : am_kd true M r = (11, 4)) (ho : am_own z' = 11) (c : am_Call true d z' (.ref r :: as) M (fun x M' => am_Run true (d + 1) z rest lv (x.toList ++ rs) M' Q)) : am_Run true (d + 1) z (.invokevirtual z' :: rest) lv st M Q := by
  refine rcallC h0 h1 ?_ c
  show (match am_pop (am_na z') [] st with
    | some (as, rs) => if (am_fit z' as rs && am_rcvB true z' M as) = true then some (z', as, rs) else none
    | none => none) = _
  rw [hp]
  show (if (am_fit z' (.ref r :: as) rs && am_rcvB true z' M (.ref r :: as)) = true then _ else none) = _
  have e : am_rcvB true z' M (.ref r :: as) = true := by
    show (Nat.beq (am_kd true M r).1 (am_own z') && decide (am_own z' < 14)) = true
    rw [hk, ho]; rfl
  rw [hf, e]
  rfl
theorem rlsw3 {k : Nat} {o : Array (Int × Int)} (ho : o = #[(0, 4), (1, 8)]) (hk : k < 3) (k0 : k = 0 → am_Run b d z (am_blk z 4) lv st M Q) (k1 : k = 1 → am_Run b d z (am_blk z 8) lv st M Q) (k2 : k = 2 → am_Run b d z (am_blk z 12) lv st M Q) : am_Run b d z (.lookupswitch 12 o :: rest) lv (.int (nI k) :: st) M Q := by
  subst ho
  rcases (show k = 0 ∨ k = 1 ∨ k = 2 by omega) with rfl | rfl | rfl
  · exact rj (t := 4) rfl (k0 rfl)
  · exact rj (t := 8) rfl (k1 rfl)
  · exact rj (t := 12) rfl (k2 rfl)
end
/-- rules r with their rows -/
def rsM (M : am_M) (r ln cd n cl : Nat) : Prop := am_kd true M r = (11, 4) ∧ am_kd true M ln = (20, 5 * n) ∧ am_kd true M cd = (20, cl) ∧ am_get true 1101 r M = some (.int (nI n)) ∧ am_get true 1102 r M = some (.ref ln) ∧ am_get true 1103 r M = some (.ref cd) ∧ n ≤ 30 ∧ cl ≤ 700
section
variable {d r ln cd n cl i w : Nat} {V M M' : am_M} {Q : Option Value → am_M → Prop} {v : Int32}
set_option maxRecDepth 100000
theorem cc_rpart (hr : rsM M r ln cd n cl) (hi : i < n) (hw : w < 5) (hv : mI M ln (5 * i + w) = v) (kk : Q (some (.int v)) M) : am_Call true d 171 [.ref r, .int (nI i), .int (nI w)] M Q := by
  obtain ⟨g1, g2, g3, g4, g5, g6, g7, g8⟩ := hr
  rw [show 5 * i + w = i * 5 + w by omega] at hv
  refine rcallI rfl rfl ?_
  repeat' (first | (apply rgetX; exact g4; exact rfl) | (apply rgetR; exact g5) | (apply ralen; exact g2; decide) | (apply rialdX; exact g2; omega; omega; exact hv) | (apply riald; exact rfl; omega; decide) | (apply rlald; exact rfl; omega; decide) | (apply rzald; exact rfl; omega; decide) | (apply rbald; exact rfl; omega; decide) | (apply rzast; decide; exact rfl; omega; decide; omega) | (apply riast; decide; exact rfl; omega; decide) | (apply rlast; decide; exact rfl; omega; decide) | (refine re1 ?_) | (refine re0 ?_) | (refine rn1 ?_) | (refine rn0 ?_) | (refine rbe (fun h => ?_) (fun h => ?_)) | (refine rbn (fun h => ?_) (fun h => ?_)) | ((first | (refine rb_lt (fun h => ?_) (fun h => ?_)) | (refine rb_ge (fun h => ?_) (fun h => ?_)) | (refine rb_gt (fun h => ?_) (fun h => ?_)) | (refine rb_le (fun h => ?_) (fun h => ?_)) | (refine rb_eq (fun h => ?_) (fun h => ?_)) | (refine rb_ne (fun h => ?_) (fun h => ?_)) | (refine rc_lt (fun h => ?_) (fun h => ?_)) | (refine rc_ge (fun h => ?_) (fun h => ?_)) | (refine rc_gt (fun h => ?_) (fun h => ?_)) | (refine rc_le (fun h => ?_) (fun h => ?_)) | (refine rc_eq (fun h => ?_) (fun h => ?_)) | (refine rc_ne (fun h => ?_) (fun h => ?_))) <;> (try (simp (disch := omega) only [nI_toInt, nM_toInt, i_ne, i_eq, l_ne, l_eq, a_ne, a_eq, i_L, i_A, l_I, l_A, a_I, a_L, up_ne, up_eq, ne_eq, Nat.reduceEqDiff, not_false_eq_true, Int.reduceNatCast', ] at h)) <;> (try (exfalso; omega))) | (refine riaddN ?_) | (refine rimulN ?_) | (refine riconst ?_) | (refine rlconst ?_) | (apply risubN; (first | omega | decide)) | (apply ridivN; (first | omega | decide); (first | omega | decide); (first | omega | decide)) | (apply riremN; (first | omega | decide); (first | omega | decide); (first | omega | decide)) | (apply ri2lN; (first | omega | decide)) | (refine rl2iN ?_) | (refine rlmulN ?_) | (refine rladdN ?_) | (apply rlsubN; (first | omega | decide)) | (apply rldivN; (first | omega | decide); (first | omega | decide); (first | omega | decide)) | (apply riinc1; exact rfl; exact rfl) | (apply r1; exact rfl) | (apply rgoto; exact rfl) | (apply rfall; exact rfl) | (apply rirI; exact rfl) | (apply rend; exact rfl; exact rfl) | (apply rtsw; exact rfl; exact rfl) | (apply rcallC; exact rfl; exact rfl; exact rfl; first |  (apply rcallI; exact rfl; exact rfl)))
  exact kk
theorem cc_rpartN (hr : rsM M r ln cd n cl) (kk : Q (some (.int (nM 0))) M) : am_Call true d 171 [.ref r, .int (nM 0), .int (nI w)] M Q := by
  refine rcallI rfl rfl ?_
  repeat' (first | (refine rlitT (by decide) ?_) | (refine rlitF (by decide) ?_) | (refine rlit0T (by decide) ?_) | (refine rlit0F (by decide) ?_) | (apply riald; exact rfl; omega; decide) | (apply rlald; exact rfl; omega; decide) | (apply rzald; exact rfl; omega; decide) | (apply rbald; exact rfl; omega; decide) | (apply rzast; decide; exact rfl; omega; decide; omega) | (apply riast; decide; exact rfl; omega; decide) | (apply rlast; decide; exact rfl; omega; decide) | (refine re1 ?_) | (refine re0 ?_) | (refine rn1 ?_) | (refine rn0 ?_) | (refine rbe (fun h => ?_) (fun h => ?_)) | (refine rbn (fun h => ?_) (fun h => ?_)) | ((first | (refine rb_lt (fun h => ?_) (fun h => ?_)) | (refine rb_ge (fun h => ?_) (fun h => ?_)) | (refine rb_gt (fun h => ?_) (fun h => ?_)) | (refine rb_le (fun h => ?_) (fun h => ?_)) | (refine rb_eq (fun h => ?_) (fun h => ?_)) | (refine rb_ne (fun h => ?_) (fun h => ?_)) | (refine rc_lt (fun h => ?_) (fun h => ?_)) | (refine rc_ge (fun h => ?_) (fun h => ?_)) | (refine rc_gt (fun h => ?_) (fun h => ?_)) | (refine rc_le (fun h => ?_) (fun h => ?_)) | (refine rc_eq (fun h => ?_) (fun h => ?_)) | (refine rc_ne (fun h => ?_) (fun h => ?_))) <;> (try (simp (disch := omega) only [nI_toInt, nM_toInt, i_ne, i_eq, l_ne, l_eq, a_ne, a_eq, i_L, i_A, l_I, l_A, a_I, a_L, up_ne, up_eq, ne_eq, Nat.reduceEqDiff, not_false_eq_true, Int.reduceNatCast', ] at h)) <;> (try (exfalso; omega))) | (refine riaddN ?_) | (refine rimulN ?_) | (refine riconst ?_) | (refine rlconst ?_) | (apply risubN; (first | omega | decide)) | (apply ridivN; (first | omega | decide); (first | omega | decide); (first | omega | decide)) | (apply riremN; (first | omega | decide); (first | omega | decide); (first | omega | decide)) | (apply ri2lN; (first | omega | decide)) | (refine rl2iN ?_) | (refine rlmulN ?_) | (refine rladdN ?_) | (apply rlsubN; (first | omega | decide)) | (apply rldivN; (first | omega | decide); (first | omega | decide); (first | omega | decide)) | (apply riinc1; exact rfl; exact rfl) | (apply r1; exact rfl) | (apply rgoto; exact rfl) | (apply rfall; exact rfl) | (apply rirI; exact rfl) | (apply rend; exact rfl; exact rfl) | (apply rtsw; exact rfl; exact rfl) | (apply rcallC; exact rfl; exact rfl; exact rfl; first |  (apply rcallI; exact rfl; exact rfl)))
  exact kk
end
/-! truths as bits -/
theorem lN_bits {w : Int64} {X : Nat} (h : ∀ i, i < 64 → w.toBitVec.getLsbD i = X.testBit i) : w = lN X := by
  apply Int64.toBitVec_inj.mp
  apply BitVec.eq_of_getLsbD_eq
  intro i hi
  rw [h i hi]
  show _ = (BitVec.ofNat 64 X).getLsbD i
  rw [BitVec.getLsbD_ofNat, decide_eq_true hi]
  rfl
theorem lN_bit (X i : Nat) (hi : i < 64) : (lN X).toBitVec.getLsbD i = X.testBit i := by
  show (BitVec.ofNat 64 X).getLsbD i = _
  rw [BitVec.getLsbD_ofNat, decide_eq_true hi]
  rfl
theorem sh1_bv (w : Int64) : ((w.toUInt64 >>> ((nI 1).toInt64.toUInt64 &&& Int64.toUInt64 63)).toInt64).toBitVec = w.toBitVec >>> 1 := rfl
theorem shl1_bv (w : Int64) : (w <<< ((nI 1).toInt64 &&& 63)).toBitVec = w.toBitVec <<< 1 := rfl
theorem m2_bit (i : Nat) (hi : i < 64) : (lM 1).toBitVec.getLsbD i = decide (i ≠ 0) := by
  have : ∀ j : Fin 64, (lM 1).toBitVec.getLsbD j.val = decide (j.val ≠ 0) := by decide +kernel
  exact this ⟨i, hi⟩
theorem one_bit (i : Nat) (hi : i < 64) : (lN 1).toBitVec.getLsbD i = decide (i = 0) := by
  have : ∀ j : Fin 64, (lN 1).toBitVec.getLsbD j.val = decide (j.val = 0) := by decide +kernel
  exact this ⟨i, hi⟩
theorem hi_bit {T : Nat} (hT : T < 2 ^ 40) : T.testBit 64 = false := Nat.testBit_lt_two_pow (Nat.lt_trans hT (by decide))
theorem shr_bit {T i : Nat} (hT : T < 2 ^ 40) (hi : i < 64) : ((lN T).toBitVec >>> 1).getLsbD i = T.testBit (i + 1) := by
  rw [BitVec.getLsbD_ushiftRight, Nat.add_comm]
  by_cases h : i + 1 < 64
  · exact lN_bit T _ h
  · have : i + 1 = 64 := by omega
    rw [this, hi_bit hT]
    exact BitVec.getLsbD_of_ge _ _ (by omega)
theorem b_and {T : Nat} (hT : T < 2 ^ 40) : ((((lN T).toUInt64 >>> ((nI 1).toInt64.toUInt64 &&& Int64.toUInt64 63)).toInt64) &&& (lN T ||| lM 1)) = lN (if T % 2 = 1 then T / 2 else T / 2 - T / 2 % 2) := by
  apply lN_bits
  intro i hi
  rw [Int64.toBitVec_and, Int64.toBitVec_or, sh1_bv, BitVec.getLsbD_and, BitVec.getLsbD_or, shr_bit hT hi, lN_bit T i hi, m2_bit i hi, Nat.testBit_succ]
  cases i with
  | zero =>
    rw [Nat.testBit_zero, Nat.testBit_zero, Nat.testBit_zero]
    by_cases h : T % 2 = 1
    · rw [if_pos h, decide_eq_true h]; simp
    · rw [if_neg h, decide_eq_false h, decide_eq_false (show ¬(T / 2 - T / 2 % 2) % 2 = 1 by omega)]; simp
  | succ j =>
    rw [decide_eq_true (show j + 1 ≠ 0 by omega), Bool.or_true, Bool.and_true, Nat.testBit_succ, Nat.testBit_succ]
    congr 1
    split <;> omega
theorem b_or {T : Nat} (hT : T < 2 ^ 40) : ((((lN T).toUInt64 >>> ((nI 1).toInt64.toUInt64 &&& Int64.toUInt64 63)).toInt64) ||| (lN T &&& lN 1)) = lN (if T % 2 = 1 then T / 2 - T / 2 % 2 + 1 else T / 2) := by
  apply lN_bits
  intro i hi
  rw [Int64.toBitVec_or, Int64.toBitVec_and, sh1_bv, BitVec.getLsbD_or, BitVec.getLsbD_and, shr_bit hT hi, lN_bit T i hi, one_bit i hi, Nat.testBit_succ]
  cases i with
  | zero =>
    rw [Nat.testBit_zero, Nat.testBit_zero, Nat.testBit_zero]
    by_cases h : T % 2 = 1
    · rw [if_pos h, decide_eq_true h, decide_eq_true (show (T / 2 - T / 2 % 2 + 1) % 2 = 1 by omega)]; simp
    · rw [if_neg h, decide_eq_false h]; simp
  | succ j =>
    rw [decide_eq_false (show ¬j + 1 = 0 by omega), Bool.and_false, Bool.or_false, Nat.testBit_succ, Nat.testBit_succ]
    congr 1
    split <;> omega
theorem b_not {T : Nat} : (lN T ^^^ lN 1) = lN (if T % 2 = 1 then T - 1 else T + 1) := by
  apply lN_bits
  intro i hi
  rw [Int64.toBitVec_xor, BitVec.getLsbD_xor, lN_bit T i hi, one_bit i hi]
  cases i with
  | zero =>
    rw [Nat.testBit_zero, Nat.testBit_zero]
    by_cases h : T % 2 = 1
    · rw [if_pos h, decide_eq_true h, decide_eq_false (show ¬(T - 1) % 2 = 1 by omega)]; simp
    · rw [if_neg h, decide_eq_false h, decide_eq_true (show (T + 1) % 2 = 1 by omega)]; simp
  | succ j =>
    rw [decide_eq_false (show ¬j + 1 = 0 by omega), Bool.xor_false, Nat.testBit_succ, Nat.testBit_succ]
    congr 1
    split <;> omega
theorem b_shl {T e : Nat} (he : e ≤ 1) : (lN T <<< ((nI 1).toInt64 &&& 63)) ||| lN e = lN (2 * T + e) := by
  apply lN_bits
  intro i hi
  rw [Int64.toBitVec_or, shl1_bv, BitVec.getLsbD_or, BitVec.getLsbD_shiftLeft, lN_bit e i hi, decide_eq_true hi]
  cases i with
  | zero =>
    rw [Nat.testBit_zero, Nat.testBit_zero, show (2 * T + e) % 2 = e % 2 by omega]
    simp
  | succ j =>
    rw [decide_eq_false (show ¬j + 1 < 1 by omega), show j + 1 - 1 = j from rfl, lN_bit T j (by omega), Nat.testBit_succ, Nat.testBit_succ, show (2 * T + e) / 2 = T by omega, show e / 2 = 0 by omega]
    simp
