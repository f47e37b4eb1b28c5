/-! finds, tellers, doubts: what is read of them -/
section
variable {b : Bool} {d z : Nat} {rest : List Instr} {lv : am_L} {st : List Value} {M : am_M} {Q : Option Value → am_M → Prop} {n k : Nat}
theorem riinc1 {lv' : am_L} (h1 : lv[n]? = some (some (.int (nI k)))) (h2 : am_set1 lv n (.int (nI (k + 1))) = lv') (kk : am_Run b d z rest lv' st M Q) : am_Run b d z (.iinc n 1 :: rest) lv st M Q := riincN (q := 1) h1 h2 kk
theorem nI_dec (k : Nat) : nI k + nM 0 = nI k - nI 1 := by
  rw [Int32.sub_eq_add_neg]; rfl
theorem nI_pd (k : Nat) : nI (k + 1) - nI 1 = nI k := nI_sub (by omega)
end
/-- of the first n the last one for which p holds: its v (none: false) -/
def lastB (p v : Nat → Bool) : Nat → Bool
  | 0 => false
  | n + 1 => if p n = true then v n else lastB p v n
theorem lastB_t {p v : Nat → Bool} {n : Nat} (h : p n = true) : lastB p v (n + 1) = v n := if_pos h
theorem lastB_f {p v : Nat → Bool} {n : Nat} (h : p n = false) : lastB p v (n + 1) = lastB p v n := if_neg (by rw [h]; decide)
theorem bI_of {x : Int32} (h : x = nI 0 ∨ x = nI 1) : x = bI (decide (x = nI 1)) := by
  rcases h with rfl | rfl <;> decide
def dbtP (M : am_M) (f day : Int32) (k : Nat) : Bool := decide ((mI M 24 k).toInt ≤ day.toInt ∧ (mI M 23 k).toInt = f.toInt)
def dbtV (M : am_M) (k : Nat) : Bool := decide (mI M 25 k = nI 1)
/-- whether a find is doubted as known by a day -/
def dbtF (M : am_M) (f day : Int32) : Bool := lastB (dbtP M f day) (dbtV M) (nn (mI M 19 10))
def dbtPm (M : am_M) (f day : Int32) (k : Nat) : Bool := decide ((mI M 86 k).toInt ≤ day.toInt ∧ (mI M 85 k).toInt = f.toInt)
def dbtVm (M : am_M) (k : Nat) : Bool := decide (mI M 87 k = nI 1)
/-- the same by the model's rows -/
def dbtM (M : am_M) (f day : Int32) : Bool := lastB (dbtPm M f day) (dbtVm M) (nn (mI M 67 17))
section
variable {d : Nat} {M : am_M} {Q : Option Value → am_M → Prop} {f day : Int32}
set_option maxRecDepth 100000
theorem cc_xDoubted (hI : Inv M) (kk : Q (some (.int (bI (dbtF M f day)))) M) : am_Call true d 40 [.ref 19, .int f, .int day] M Q := by
  obtain ⟨n, hl, hn, hm⟩ := cnt_doubt hI
  have ok := hI.doubt.ok
  rw [hn, nI_toInt (by omega)] at ok
  unfold dbtF at kk
  rw [hn, nn_I (by omega)] at kk
  have L : ∀ k, k ≤ n → Q (some (.int (bI (lastB (dbtP M f day) (dbtV M) k)))) M → am_Run true d 40 (am_blk 40 1) [some (.ref 19), some (.int f), some (.int day), some (.int (nI k - nI 1))] [] M Q := by
    intro k
    induction k with
    | zero =>
      intro _ hq
      repeat' (first |  (apply riald; exact rfl; omega; decide) | (apply rlald; exact rfl; omega; decide) | (apply rzald; exact rfl; omega; decide) | (apply rbald; exact rfl; omega; decide) | (apply rzast; decide; exact rfl; omega; decide; omega) | (apply riast; decide; exact rfl; omega; decide) | (apply rlast; decide; exact rfl; omega; decide) | (refine re1 ?_) | (refine re0 ?_) | (refine rn1 ?_) | (refine rn0 ?_) | (refine rbe (fun h => ?_) (fun h => ?_)) | (refine rbn (fun h => ?_) (fun h => ?_)) | ((first | (refine rb_lt (fun h => ?_) (fun h => ?_)) | (refine rb_ge (fun h => ?_) (fun h => ?_)) | (refine rb_gt (fun h => ?_) (fun h => ?_)) | (refine rb_le (fun h => ?_) (fun h => ?_)) | (refine rb_eq (fun h => ?_) (fun h => ?_)) | (refine rb_ne (fun h => ?_) (fun h => ?_)) | (refine rc_lt (fun h => ?_) (fun h => ?_)) | (refine rc_ge (fun h => ?_) (fun h => ?_)) | (refine rc_gt (fun h => ?_) (fun h => ?_)) | (refine rc_le (fun h => ?_) (fun h => ?_)) | (refine rc_eq (fun h => ?_) (fun h => ?_)) | (refine rc_ne (fun h => ?_) (fun h => ?_))) <;> (try (simp (disch := omega) only [nI_toInt, nM_toInt, i_ne, i_eq, l_ne, l_eq, a_ne, a_eq, i_L, i_A, l_I, l_A, a_I, a_L, up_ne, up_eq, ne_eq, Nat.reduceEqDiff, not_false_eq_true, Int.reduceNatCast', sub_toInt] at h)) <;> (try (exfalso; omega))) | (refine riaddN ?_) | (refine rimulN ?_) | (refine riconst ?_) | (refine rlconst ?_) | (apply risubN; (first | omega | decide)) | (apply ridivN; (first | omega | decide); (first | omega | decide); (first | omega | decide)) | (apply riremN; (first | omega | decide); (first | omega | decide); (first | omega | decide)) | (apply ri2lN; (first | omega | decide)) | (refine rl2iN ?_) | (refine rlmulN ?_) | (refine rladdN ?_) | (apply rlsubN; (first | omega | decide)) | (apply rldivN; (first | omega | decide); (first | omega | decide); (first | omega | decide)) | (apply riinc1; exact rfl; exact rfl) | (apply r1; exact rfl) | (apply rgoto; exact rfl) | (apply rfall; exact rfl) | (apply rirI; exact rfl) | (apply rend; exact rfl; exact rfl) | (apply rtsw; exact rfl; exact rfl) | (apply rcallC; exact rfl; exact rfl; exact rfl; first |  (apply rcallI; exact rfl; exact rfl)))
      exact hq
    | succ k ih =>
      intro hk hq
      rw [nI_pd]
      repeat' (first |  (apply riald; exact rfl; omega; decide) | (apply rlald; exact rfl; omega; decide) | (apply rzald; exact rfl; omega; decide) | (apply rbald; exact rfl; omega; decide) | (apply rzast; decide; exact rfl; omega; decide; omega) | (apply riast; decide; exact rfl; omega; decide) | (apply rlast; decide; exact rfl; omega; decide) | (refine re1 ?_) | (refine re0 ?_) | (refine rn1 ?_) | (refine rn0 ?_) | (refine rbe (fun h => ?_) (fun h => ?_)) | (refine rbn (fun h => ?_) (fun h => ?_)) | ((first | (refine rb_lt (fun h => ?_) (fun h => ?_)) | (refine rb_ge (fun h => ?_) (fun h => ?_)) | (refine rb_gt (fun h => ?_) (fun h => ?_)) | (refine rb_le (fun h => ?_) (fun h => ?_)) | (refine rb_eq (fun h => ?_) (fun h => ?_)) | (refine rb_ne (fun h => ?_) (fun h => ?_)) | (refine rc_lt (fun h => ?_) (fun h => ?_)) | (refine rc_ge (fun h => ?_) (fun h => ?_)) | (refine rc_gt (fun h => ?_) (fun h => ?_)) | (refine rc_le (fun h => ?_) (fun h => ?_)) | (refine rc_eq (fun h => ?_) (fun h => ?_)) | (refine rc_ne (fun h => ?_) (fun h => ?_))) <;> (try (simp (disch := omega) only [nI_toInt, nM_toInt, i_ne, i_eq, l_ne, l_eq, a_ne, a_eq, i_L, i_A, l_I, l_A, a_I, a_L, up_ne, up_eq, ne_eq, Nat.reduceEqDiff, not_false_eq_true, Int.reduceNatCast', ] at h)) <;> (try (exfalso; omega))) | (refine riaddN ?_) | (refine rimulN ?_) | (refine riconst ?_) | (refine rlconst ?_) | (apply risubN; (first | omega | decide)) | (apply ridivN; (first | omega | decide); (first | omega | decide); (first | omega | decide)) | (apply riremN; (first | omega | decide); (first | omega | decide); (first | omega | decide)) | (apply ri2lN; (first | omega | decide)) | (refine rl2iN ?_) | (refine rlmulN ?_) | (refine rladdN ?_) | (apply rlsubN; (first | omega | decide)) | (apply rldivN; (first | omega | decide); (first | omega | decide); (first | omega | decide)) | (apply riinc1; exact rfl; exact rfl) | (apply r1; exact rfl) | (apply rgoto; exact rfl) | (apply rfall; exact rfl) | (apply rirI; exact rfl) | (apply rend; exact rfl; exact rfl) | (apply rtsw; exact rfl; exact rfl) | (apply rcallC; exact rfl; exact rfl; exact rfl; first |  (apply rcallI; exact rfl; exact rfl)))
      · refine rback ?_
        rw [nI_dec]
        rw [lastB_f (by unfold dbtP; rw [decide_eq_false_iff_not]; omega)] at hq
        exact ih (by omega) hq
      · refine rback ?_
        rw [nI_dec]
        rw [lastB_f (by unfold dbtP; rw [decide_eq_false_iff_not]; omega)] at hq
        exact ih (by omega) hq
      · rw [lastB_t (by unfold dbtP; rw [decide_eq_true_eq]; omega)] at hq
        rw [bI_of (ok k (by omega))]
        exact rirB (narB _) rfl hq
  refine rcallI rfl rfl ?_
  repeat' (first | (apply rgetN; exact rfl; exact hn) | (apply riald; exact rfl; omega; decide) | (apply rlald; exact rfl; omega; decide) | (apply rzald; exact rfl; omega; decide) | (apply rbald; exact rfl; omega; decide) | (apply rzast; decide; exact rfl; omega; decide; omega) | (apply riast; decide; exact rfl; omega; decide) | (apply rlast; decide; exact rfl; omega; decide) | (refine re1 ?_) | (refine re0 ?_) | (refine rn1 ?_) | (refine rn0 ?_) | (refine rbe (fun h => ?_) (fun h => ?_)) | (refine rbn (fun h => ?_) (fun h => ?_)) | ((first | (refine rb_lt (fun h => ?_) (fun h => ?_)) | (refine rb_ge (fun h => ?_) (fun h => ?_)) | (refine rb_gt (fun h => ?_) (fun h => ?_)) | (refine rb_le (fun h => ?_) (fun h => ?_)) | (refine rb_eq (fun h => ?_) (fun h => ?_)) | (refine rb_ne (fun h => ?_) (fun h => ?_)) | (refine rc_lt (fun h => ?_) (fun h => ?_)) | (refine rc_ge (fun h => ?_) (fun h => ?_)) | (refine rc_gt (fun h => ?_) (fun h => ?_)) | (refine rc_le (fun h => ?_) (fun h => ?_)) | (refine rc_eq (fun h => ?_) (fun h => ?_)) | (refine rc_ne (fun h => ?_) (fun h => ?_))) <;> (try (simp (disch := omega) only [nI_toInt, nM_toInt, i_ne, i_eq, l_ne, l_eq, a_ne, a_eq, i_L, i_A, l_I, l_A, a_I, a_L, up_ne, up_eq, ne_eq, Nat.reduceEqDiff, not_false_eq_true, Int.reduceNatCast', ] at h)) <;> (try (exfalso; omega))) | (refine riaddN ?_) | (refine rimulN ?_) | (refine riconst ?_) | (refine rlconst ?_) | (apply risubN; (first | omega | decide)) | (apply ridivN; (first | omega | decide); (first | omega | decide); (first | omega | decide)) | (apply riremN; (first | omega | decide); (first | omega | decide); (first | omega | decide)) | (apply ri2lN; (first | omega | decide)) | (refine rl2iN ?_) | (refine rlmulN ?_) | (refine rladdN ?_) | (apply rlsubN; (first | omega | decide)) | (apply rldivN; (first | omega | decide); (first | omega | decide); (first | omega | decide)) | (apply riinc1; exact rfl; exact rfl) | (apply r1; exact rfl) | (apply rgoto; exact rfl) | (apply rfall; exact rfl) | (apply rirI; exact rfl) | (apply rend; exact rfl; exact rfl) | (apply rtsw; exact rfl; exact rfl) | (apply rcallC; exact rfl; exact rfl; exact rfl; first |  (apply rcallI; exact rfl; exact rfl)))
  refine rhead ?_
  exact L n (Nat.le_refl n) kk
theorem cc_mDoubted0 {n : Nat} (hl : n ≤ 200) (hm : mI M 67 17 = nI n) (ok : ∀ k, k < n → mI M 87 k = nI 0 ∨ mI M 87 k = nI 1) (kk : Q (some (.int (bI (dbtM M f day)))) M) : am_Call true d 204 [.ref 67, .int f, .int day] M Q := by
  unfold dbtM at kk
  rw [hm, nn_I (by omega)] at kk
  refine rcallI rfl rfl ?_
  repeat' (first | (apply rgetN; exact rfl; exact hm) | (apply riald; exact rfl; omega; decide) | (apply rlald; exact rfl; omega; decide) | (apply rzald; exact rfl; omega; decide) | (apply rbald; exact rfl; omega; decide) | (apply rzast; decide; exact rfl; omega; decide; omega) | (apply riast; decide; exact rfl; omega; decide) | (apply rlast; decide; exact rfl; omega; decide) | (refine re1 ?_) | (refine re0 ?_) | (refine rn1 ?_) | (refine rn0 ?_) | (refine rbe (fun h => ?_) (fun h => ?_)) | (refine rbn (fun h => ?_) (fun h => ?_)) | ((first | (refine rb_lt (fun h => ?_) (fun h => ?_)) | (refine rb_ge (fun h => ?_) (fun h => ?_)) | (refine rb_gt (fun h => ?_) (fun h => ?_)) | (refine rb_le (fun h => ?_) (fun h => ?_)) | (refine rb_eq (fun h => ?_) (fun h => ?_)) | (refine rb_ne (fun h => ?_) (fun h => ?_)) | (refine rc_lt (fun h => ?_) (fun h => ?_)) | (refine rc_ge (fun h => ?_) (fun h => ?_)) | (refine rc_gt (fun h => ?_) (fun h => ?_)) | (refine rc_le (fun h => ?_) (fun h => ?_)) | (refine rc_eq (fun h => ?_) (fun h => ?_)) | (refine rc_ne (fun h => ?_) (fun h => ?_))) <;> (try (simp (disch := omega) only [nI_toInt, nM_toInt, i_ne, i_eq, l_ne, l_eq, a_ne, a_eq, i_L, i_A, l_I, l_A, a_I, a_L, up_ne, up_eq, ne_eq, Nat.reduceEqDiff, not_false_eq_true, Int.reduceNatCast', ] at h)) <;> (try (exfalso; omega))) | (refine riaddN ?_) | (refine rimulN ?_) | (refine riconst ?_) | (refine rlconst ?_) | (apply risubN; (first | omega | decide)) | (apply ridivN; (first | omega | decide); (first | omega | decide); (first | omega | decide)) | (apply riremN; (first | omega | decide); (first | omega | decide); (first | omega | decide)) | (apply ri2lN; (first | omega | decide)) | (refine rl2iN ?_) | (refine rlmulN ?_) | (refine rladdN ?_) | (apply rlsubN; (first | omega | decide)) | (apply rldivN; (first | omega | decide); (first | omega | decide); (first | omega | decide)) | (apply riinc1; exact rfl; exact rfl) | (apply r1; exact rfl) | (apply rgoto; exact rfl) | (apply rfall; exact rfl) | (apply rirI; exact rfl) | (apply rend; exact rfl; exact rfl) | (apply rtsw; exact rfl; exact rfl) | (apply rcallC; exact rfl; exact rfl; exact rfl; first |  (apply rcallI; exact rfl; exact rfl)))
  refine rhead ?_
  refine am_it n (fun k lv M' => M' = M ∧ lv = [some (.ref 67), some (.int f), some (.int day), some (.int (bI (lastB (dbtPm M f day) (dbtVm M) k))), some (.int (nI k))]) ?_ ?_ 0 _ _ (by omega) ⟨rfl, rfl⟩
  · rintro k lv M' hk ⟨rfl, rfl⟩ next
    repeat' (first | (apply rgetN; exact rfl; exact hm) | (apply riald; exact rfl; omega; decide) | (apply rlald; exact rfl; omega; decide) | (apply rzald; exact rfl; omega; decide) | (apply rbald; exact rfl; omega; decide) | (apply rzast; decide; exact rfl; omega; decide; omega) | (apply riast; decide; exact rfl; omega; decide) | (apply rlast; decide; exact rfl; omega; decide) | (refine re1 ?_) | (refine re0 ?_) | (refine rn1 ?_) | (refine rn0 ?_) | (refine rbe (fun h => ?_) (fun h => ?_)) | (refine rbn (fun h => ?_) (fun h => ?_)) | ((first | (refine rb_lt (fun h => ?_) (fun h => ?_)) | (refine rb_ge (fun h => ?_) (fun h => ?_)) | (refine rb_gt (fun h => ?_) (fun h => ?_)) | (refine rb_le (fun h => ?_) (fun h => ?_)) | (refine rb_eq (fun h => ?_) (fun h => ?_)) | (refine rb_ne (fun h => ?_) (fun h => ?_)) | (refine rc_lt (fun h => ?_) (fun h => ?_)) | (refine rc_ge (fun h => ?_) (fun h => ?_)) | (refine rc_gt (fun h => ?_) (fun h => ?_)) | (refine rc_le (fun h => ?_) (fun h => ?_)) | (refine rc_eq (fun h => ?_) (fun h => ?_)) | (refine rc_ne (fun h => ?_) (fun h => ?_))) <;> (try (simp (disch := omega) only [nI_toInt, nM_toInt, i_ne, i_eq, l_ne, l_eq, a_ne, a_eq, i_L, i_A, l_I, l_A, a_I, a_L, up_ne, up_eq, ne_eq, Nat.reduceEqDiff, not_false_eq_true, Int.reduceNatCast', ] at h)) <;> (try (exfalso; omega))) | (refine riaddN ?_) | (refine rimulN ?_) | (refine riconst ?_) | (refine rlconst ?_) | (apply risubN; (first | omega | decide)) | (apply ridivN; (first | omega | decide); (first | omega | decide); (first | omega | decide)) | (apply riremN; (first | omega | decide); (first | omega | decide); (first | omega | decide)) | (apply ri2lN; (first | omega | decide)) | (refine rl2iN ?_) | (refine rlmulN ?_) | (refine rladdN ?_) | (apply rlsubN; (first | omega | decide)) | (apply rldivN; (first | omega | decide); (first | omega | decide); (first | omega | decide)) | (apply riinc1; exact rfl; exact rfl) | (apply r1; exact rfl) | (apply rgoto; exact rfl) | (apply rfall; exact rfl) | (apply rirI; exact rfl) | (apply rend; exact rfl; exact rfl) | (apply rtsw; exact rfl; exact rfl) | (apply rcallC; exact rfl; exact rfl; exact rfl; first |  (apply rcallI; exact rfl; exact rfl)))
    · refine rback (next _ _ ⟨rfl, ?_⟩)
      rw [lastB_f (by unfold dbtPm; rw [decide_eq_false_iff_not]; omega)]
      rfl
    · refine rback (next _ _ ⟨rfl, ?_⟩)
      rw [lastB_f (by unfold dbtPm; rw [decide_eq_false_iff_not]; omega)]
      rfl
    · refine rback (next _ _ ⟨rfl, ?_⟩)
      rw [lastB_t (by unfold dbtPm; rw [decide_eq_true_eq]; omega), show dbtVm M' k = decide (mI M' 87 k = nI 1) from rfl, ← bI_of (ok k (by omega))]
      rfl
  · rintro lv M' ⟨rfl, rfl⟩
    repeat' (first | (apply rgetN; exact rfl; exact hm) | (apply riald; exact rfl; omega; decide) | (apply rlald; exact rfl; omega; decide) | (apply rzald; exact rfl; omega; decide) | (apply rbald; exact rfl; omega; decide) | (apply rzast; decide; exact rfl; omega; decide; omega) | (apply riast; decide; exact rfl; omega; decide) | (apply rlast; decide; exact rfl; omega; decide) | (refine re1 ?_) | (refine re0 ?_) | (refine rn1 ?_) | (refine rn0 ?_) | (refine rbe (fun h => ?_) (fun h => ?_)) | (refine rbn (fun h => ?_) (fun h => ?_)) | ((first | (refine rb_lt (fun h => ?_) (fun h => ?_)) | (refine rb_ge (fun h => ?_) (fun h => ?_)) | (refine rb_gt (fun h => ?_) (fun h => ?_)) | (refine rb_le (fun h => ?_) (fun h => ?_)) | (refine rb_eq (fun h => ?_) (fun h => ?_)) | (refine rb_ne (fun h => ?_) (fun h => ?_)) | (refine rc_lt (fun h => ?_) (fun h => ?_)) | (refine rc_ge (fun h => ?_) (fun h => ?_)) | (refine rc_gt (fun h => ?_) (fun h => ?_)) | (refine rc_le (fun h => ?_) (fun h => ?_)) | (refine rc_eq (fun h => ?_) (fun h => ?_)) | (refine rc_ne (fun h => ?_) (fun h => ?_))) <;> (try (simp (disch := omega) only [nI_toInt, nM_toInt, i_ne, i_eq, l_ne, l_eq, a_ne, a_eq, i_L, i_A, l_I, l_A, a_I, a_L, up_ne, up_eq, ne_eq, Nat.reduceEqDiff, not_false_eq_true, Int.reduceNatCast', ] at h)) <;> (try (exfalso; omega))) | (refine riaddN ?_) | (refine rimulN ?_) | (refine riconst ?_) | (refine rlconst ?_) | (apply risubN; (first | omega | decide)) | (apply ridivN; (first | omega | decide); (first | omega | decide); (first | omega | decide)) | (apply riremN; (first | omega | decide); (first | omega | decide); (first | omega | decide)) | (apply ri2lN; (first | omega | decide)) | (refine rl2iN ?_) | (refine rlmulN ?_) | (refine rladdN ?_) | (apply rlsubN; (first | omega | decide)) | (apply rldivN; (first | omega | decide); (first | omega | decide); (first | omega | decide)) | (apply riinc1; exact rfl; exact rfl) | (apply r1; exact rfl) | (apply rgoto; exact rfl) | (apply rfall; exact rfl) | (apply rirI; exact rfl) | (apply rend; exact rfl; exact rfl) | (apply rtsw; exact rfl; exact rfl) | (apply rcallC; exact rfl; exact rfl; exact rfl; first |  (apply rcallI; exact rfl; exact rfl)))
    exact rirB (narB _) rfl kk
theorem dbtM_eq (hI : Inv M) : dbtM M f day = dbtF M f day := by
  unfold dbtM dbtF dbtPm dbtP dbtVm dbtV
  rw [hI.doubt.fi_eq, hI.doubt.da_eq, hI.doubt.is_eq, hI.doubt.n_eq]
theorem dbt_okm (hI : Inv M) {n : Nat} (hl : n ≤ 200) (hn : mI M 19 10 = nI n) : ∀ k, k < n → mI M 87 k = nI 0 ∨ mI M 87 k = nI 1 := by
  intro k hk
  rw [hI.doubt.is_eq]
  exact hI.doubt.ok k (by rw [hn, nI_toInt (by omega)]; omega)
theorem cc_mDoubted (hI : Inv M) (kk : Q (some (.int (bI (dbtF M f day)))) M) : am_Call true d 204 [.ref 67, .int f, .int day] M Q := by
  obtain ⟨n, hl, hn, hm⟩ := cnt_doubt hI
  rw [← dbtM_eq hI] at kk
  exact cc_mDoubted0 hl hm (dbt_okm hI hl hn) kk
end
