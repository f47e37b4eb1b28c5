/-! what every call needs: V, the memory with which it began, and M, which differs from it in what doesn't last alone -/
section
variable {R : Nat → Nat → Bool} {V M M' : am_M}
theorem ch.kd (h : ch R M M') (b : Bool) (i : Nat) : am_kd b M' i = am_kd b M i := by
  unfold am_kd; rw [h.K, h.N]
theorem sc.kd (h : sc V M) (b : Bool) (i : Nat) : am_kd b M i = am_kd b V i := by
  unfold am_kd; rw [h.K, h.N]
theorem rR_hd {r k : Nat} {l : List Nat} {s : List (Nat × Nat)} : rR (r :: l) s r k = true := by
  unfold rR; simp
theorem rR_ne {r i k : Nat} (h : i ≠ r) : rR [r] [] i k = false := rR_false.mpr ⟨by simpa using fun e => h e.symm, by simp⟩
end
section
variable {b : Bool} {d z : Nat} {rest : List Instr} {lv : am_L} {st : List Value} {M : am_M} {Q : Option Value → am_M → Prop} {i n k : Nat} {v : Int32} {B : Bool} {t : Int}
theorem rialdX (h : am_kd b M i = (20, n)) (hk : k < n) (hn : n ≤ 2147483648) (hx : mI M i k = v) (kk : am_Run b d z rest lv (.int v :: st) M Q) : am_Run b d z (.iaload :: rest) lv (.int (nI k) :: .ref i :: st) M Q := riald h hk hn (hx ▸ kk)
theorem rzaldX (h : am_kd b M i = (22, n)) (hk : k < n) (hn : n ≤ 2147483648) (hx : mI M i k = v) (kk : am_Run b d z rest lv (.int v :: st) M Q) : am_Run b d z (.baload :: rest) lv (.int (nI k) :: .ref i :: st) M Q := rzald h hk hn (hx ▸ kk)
theorem rgetX {fid : Nat} {x : Int32} (h : am_get b fid i M = some (.int x)) (hx : x = v) (kk : am_Run b d z rest lv (.int v :: st) M Q) : am_Run b d z (.getfield fid :: rest) lv (.ref i :: st) M Q := by
  subst hx
  exact r1 (by show (match am_get b fid i M with | some v => some (none, lv, v :: st, M) | none => none) = _; rw [h]) kk
theorem rbnX {x : Int32} (hx : x = bI B) (k1 : B = true → am_Run b d z (am_blk z t.toNat) lv st M Q) (k0 : B = false → am_Run b d z rest lv st M Q) : am_Run b d z (.ifCond .ne t :: rest) lv (.int x :: st) M Q := by
  subst hx; exact rbn k1 k0
theorem rbeX {x : Int32} (hx : x = bI B) (k0 : B = false → am_Run b d z (am_blk z t.toNat) lv st M Q) (k1 : B = true → am_Run b d z rest lv st M Q) : am_Run b d z (.ifCond .eq t :: rest) lv (.int x :: st) M Q := by
  subst hx; exact rbe k0 k1
theorem rbastB (h9 : 9 ≤ i) (h : am_kd b M i = (22, n)) (hk : k < n) (hn : n ≤ 2147483648) (kk : am_Run b d z rest lv st (wI M i (am_up (mI M i) k (bI B))) Q) : am_Run b d z (.bastore :: rest) lv (.int (bI B) :: .int (nI k) :: .ref i :: st) M Q :=
  rzast (t := cond B 1 0) h9 h hk hn (by cases B <;> decide) kk
end
/-! rows filled -/
section
variable {d : Nat} {V M : am_M} {Q : Option Value → am_M → Prop}
set_option maxRecDepth 100000
theorem cc_fill {r n : Nat} {v : Int32} (h9 : 9 ≤ r) (hk : am_kd true M r = (20, n)) (hn : n ≤ 1000) (kk : ∀ M', ch (rR [r] []) M M' → (∀ j, j < n → mI M' r j = v) → Q none M') : am_Call true d 52 [.ref r, .int v] M Q := by
  refine rcallI rfl rfl ?_
  repeat' (first | (apply ralen; exact hk; decide) | (apply riald; exact rfl; omega; decide) | (apply rlald; exact rfl; omega; decide) | (apply rzald; exact rfl; omega; decide) | (apply rbald; exact rfl; omega; decide) | (apply rzast; decide; exact rfl; omega; decide; omega) | (apply riast; decide; exact rfl; omega; decide) | (apply rlast; decide; exact rfl; omega; decide) | (refine re1 ?_) | (refine re0 ?_) | (refine rn1 ?_) | (refine rn0 ?_) | (refine rbe (fun h => ?_) (fun h => ?_)) | (refine rbn (fun h => ?_) (fun h => ?_)) | ((first | (refine rb_lt (fun h => ?_) (fun h => ?_)) | (refine rb_ge (fun h => ?_) (fun h => ?_)) | (refine rb_gt (fun h => ?_) (fun h => ?_)) | (refine rb_le (fun h => ?_) (fun h => ?_)) | (refine rb_eq (fun h => ?_) (fun h => ?_)) | (refine rb_ne (fun h => ?_) (fun h => ?_)) | (refine rc_lt (fun h => ?_) (fun h => ?_)) | (refine rc_ge (fun h => ?_) (fun h => ?_)) | (refine rc_gt (fun h => ?_) (fun h => ?_)) | (refine rc_le (fun h => ?_) (fun h => ?_)) | (refine rc_eq (fun h => ?_) (fun h => ?_)) | (refine rc_ne (fun h => ?_) (fun h => ?_))) <;> (try (simp (disch := omega) only [nI_toInt, nM_toInt, i_ne, i_eq, l_ne, l_eq, a_ne, a_eq, i_L, i_A, l_I, l_A, a_I, a_L, up_ne, up_eq, ne_eq, Nat.reduceEqDiff, not_false_eq_true, Int.reduceNatCast', ] at h)) <;> (try (exfalso; omega))) | (refine riaddN ?_) | (refine rimulN ?_) | (refine riconst ?_) | (refine rlconst ?_) | (apply risubN; (first | omega | decide)) | (apply ridivN; (first | omega | decide); (first | omega | decide); (first | omega | decide)) | (apply riremN; (first | omega | decide); (first | omega | decide); (first | omega | decide)) | (apply ri2lN; (first | omega | decide)) | (refine rl2iN ?_) | (refine rlmulN ?_) | (refine rladdN ?_) | (apply rlsubN; (first | omega | decide)) | (apply rldivN; (first | omega | decide); (first | omega | decide); (first | omega | decide)) | (apply riinc1; exact rfl; exact rfl) | (apply r1; exact rfl) | (apply rgoto; exact rfl) | (apply rfall; exact rfl) | (apply rirI; exact rfl) | (apply rend; exact rfl; exact rfl) | (apply rtsw; exact rfl; exact rfl) | (apply rcallC; exact rfl; exact rfl; exact rfl; first |  (apply rcallI; exact rfl; exact rfl)))
  refine rhead ?_
  refine am_it n (fun k lv M' => lv = [some (.ref r), some (.int v), some (.int (nI k)), some (.int (nI n))] ∧ ch (rR [r] []) M M' ∧ ∀ j, j < k → mI M' r j = v) ?_ ?_ 0 _ _ (by omega) ⟨rfl, ch_refl _ _, fun j hj => absurd hj (by omega)⟩
  · rintro k lv M' hk' ⟨rfl, hc, hv⟩ next
    repeat' (first | (apply riast; exact h9; exact (hc.kd _ _).trans hk; omega; omega) | (apply riald; exact rfl; omega; decide) | (apply rlald; exact rfl; omega; decide) | (apply rzald; exact rfl; omega; decide) | (apply rbald; exact rfl; omega; decide) | (apply rzast; decide; exact rfl; omega; decide; omega) | (apply riast; decide; exact rfl; omega; decide) | (apply rlast; decide; exact rfl; omega; decide) | (refine re1 ?_) | (refine re0 ?_) | (refine rn1 ?_) | (refine rn0 ?_) | (refine rbe (fun h => ?_) (fun h => ?_)) | (refine rbn (fun h => ?_) (fun h => ?_)) | ((first | (refine rb_lt (fun h => ?_) (fun h => ?_)) | (refine rb_ge (fun h => ?_) (fun h => ?_)) | (refine rb_gt (fun h => ?_) (fun h => ?_)) | (refine rb_le (fun h => ?_) (fun h => ?_)) | (refine rb_eq (fun h => ?_) (fun h => ?_)) | (refine rb_ne (fun h => ?_) (fun h => ?_)) | (refine rc_lt (fun h => ?_) (fun h => ?_)) | (refine rc_ge (fun h => ?_) (fun h => ?_)) | (refine rc_gt (fun h => ?_) (fun h => ?_)) | (refine rc_le (fun h => ?_) (fun h => ?_)) | (refine rc_eq (fun h => ?_) (fun h => ?_)) | (refine rc_ne (fun h => ?_) (fun h => ?_))) <;> (try (simp (disch := omega) only [nI_toInt, nM_toInt, i_ne, i_eq, l_ne, l_eq, a_ne, a_eq, i_L, i_A, l_I, l_A, a_I, a_L, up_ne, up_eq, ne_eq, Nat.reduceEqDiff, not_false_eq_true, Int.reduceNatCast', ] at h)) <;> (try (exfalso; omega))) | (refine riaddN ?_) | (refine rimulN ?_) | (refine riconst ?_) | (refine rlconst ?_) | (apply risubN; (first | omega | decide)) | (apply ridivN; (first | omega | decide); (first | omega | decide); (first | omega | decide)) | (apply riremN; (first | omega | decide); (first | omega | decide); (first | omega | decide)) | (apply ri2lN; (first | omega | decide)) | (refine rl2iN ?_) | (refine rlmulN ?_) | (refine rladdN ?_) | (apply rlsubN; (first | omega | decide)) | (apply rldivN; (first | omega | decide); (first | omega | decide); (first | omega | decide)) | (apply riinc1; exact rfl; exact rfl) | (apply r1; exact rfl) | (apply rgoto; exact rfl) | (apply rfall; exact rfl) | (apply rirI; exact rfl) | (apply rend; exact rfl; exact rfl) | (apply rtsw; exact rfl; exact rfl) | (apply rcallC; exact rfl; exact rfl; exact rfl; first |  (apply rcallI; exact rfl; exact rfl)))
    refine rback (next _ _ ⟨rfl, ch_wI hc (fun _ => rR_hd), fun j hj => ?_⟩)
    rw [i_eq, am_up_ap]
    split
    · rfl
    · exact hv j (by omega)
  · rintro lv M' ⟨rfl, hc, hv⟩
    repeat' (first |  (apply riald; exact rfl; omega; decide) | (apply rlald; exact rfl; omega; decide) | (apply rzald; exact rfl; omega; decide) | (apply rbald; exact rfl; omega; decide) | (apply rzast; decide; exact rfl; omega; decide; omega) | (apply riast; decide; exact rfl; omega; decide) | (apply rlast; decide; exact rfl; omega; decide) | (refine re1 ?_) | (refine re0 ?_) | (refine rn1 ?_) | (refine rn0 ?_) | (refine rbe (fun h => ?_) (fun h => ?_)) | (refine rbn (fun h => ?_) (fun h => ?_)) | ((first | (refine rb_lt (fun h => ?_) (fun h => ?_)) | (refine rb_ge (fun h => ?_) (fun h => ?_)) | (refine rb_gt (fun h => ?_) (fun h => ?_)) | (refine rb_le (fun h => ?_) (fun h => ?_)) | (refine rb_eq (fun h => ?_) (fun h => ?_)) | (refine rb_ne (fun h => ?_) (fun h => ?_)) | (refine rc_lt (fun h => ?_) (fun h => ?_)) | (refine rc_ge (fun h => ?_) (fun h => ?_)) | (refine rc_gt (fun h => ?_) (fun h => ?_)) | (refine rc_le (fun h => ?_) (fun h => ?_)) | (refine rc_eq (fun h => ?_) (fun h => ?_)) | (refine rc_ne (fun h => ?_) (fun h => ?_))) <;> (try (simp (disch := omega) only [nI_toInt, nM_toInt, i_ne, i_eq, l_ne, l_eq, a_ne, a_eq, i_L, i_A, l_I, l_A, a_I, a_L, up_ne, up_eq, ne_eq, Nat.reduceEqDiff, not_false_eq_true, Int.reduceNatCast', ] at h)) <;> (try (exfalso; omega))) | (refine riaddN ?_) | (refine rimulN ?_) | (refine riconst ?_) | (refine rlconst ?_) | (apply risubN; (first | omega | decide)) | (apply ridivN; (first | omega | decide); (first | omega | decide); (first | omega | decide)) | (apply riremN; (first | omega | decide); (first | omega | decide); (first | omega | decide)) | (apply ri2lN; (first | omega | decide)) | (refine rl2iN ?_) | (refine rlmulN ?_) | (refine rladdN ?_) | (apply rlsubN; (first | omega | decide)) | (apply rldivN; (first | omega | decide); (first | omega | decide); (first | omega | decide)) | (apply riinc1; exact rfl; exact rfl) | (apply r1; exact rfl) | (apply rgoto; exact rfl) | (apply rfall; exact rfl) | (apply rirI; exact rfl) | (apply rend; exact rfl; exact rfl) | (apply rtsw; exact rfl; exact rfl) | (apply rcallC; exact rfl; exact rfl; exact rfl; first |  (apply rcallI; exact rfl; exact rfl)))
    exact kk M' hc hv
theorem cc_fillL {r n : Nat} {v : Int64} (h9 : 9 ≤ r) (hk : am_kd true M r = (21, n)) (hn : n ≤ 1000) (kk : ∀ M', ch (rR [r] []) M M' → (∀ j, j < n → mL M' r j = v) → Q none M') : am_Call true d 54 [.ref r, .long v] M Q := by
  refine rcallI rfl rfl ?_
  repeat' (first | (apply ralen; exact hk; decide) | (apply riald; exact rfl; omega; decide) | (apply rlald; exact rfl; omega; decide) | (apply rzald; exact rfl; omega; decide) | (apply rbald; exact rfl; omega; decide) | (apply rzast; decide; exact rfl; omega; decide; omega) | (apply riast; decide; exact rfl; omega; decide) | (apply rlast; decide; exact rfl; omega; decide) | (refine re1 ?_) | (refine re0 ?_) | (refine rn1 ?_) | (refine rn0 ?_) | (refine rbe (fun h => ?_) (fun h => ?_)) | (refine rbn (fun h => ?_) (fun h => ?_)) | ((first | (refine rb_lt (fun h => ?_) (fun h => ?_)) | (refine rb_ge (fun h => ?_) (fun h => ?_)) | (refine rb_gt (fun h => ?_) (fun h => ?_)) | (refine rb_le (fun h => ?_) (fun h => ?_)) | (refine rb_eq (fun h => ?_) (fun h => ?_)) | (refine rb_ne (fun h => ?_) (fun h => ?_)) | (refine rc_lt (fun h => ?_) (fun h => ?_)) | (refine rc_ge (fun h => ?_) (fun h => ?_)) | (refine rc_gt (fun h => ?_) (fun h => ?_)) | (refine rc_le (fun h => ?_) (fun h => ?_)) | (refine rc_eq (fun h => ?_) (fun h => ?_)) | (refine rc_ne (fun h => ?_) (fun h => ?_))) <;> (try (simp (disch := omega) only [nI_toInt, nM_toInt, i_ne, i_eq, l_ne, l_eq, a_ne, a_eq, i_L, i_A, l_I, l_A, a_I, a_L, up_ne, up_eq, ne_eq, Nat.reduceEqDiff, not_false_eq_true, Int.reduceNatCast', ] at h)) <;> (try (exfalso; omega))) | (refine riaddN ?_) | (refine rimulN ?_) | (refine riconst ?_) | (refine rlconst ?_) | (apply risubN; (first | omega | decide)) | (apply ridivN; (first | omega | decide); (first | omega | decide); (first | omega | decide)) | (apply riremN; (first | omega | decide); (first | omega | decide); (first | omega | decide)) | (apply ri2lN; (first | omega | decide)) | (refine rl2iN ?_) | (refine rlmulN ?_) | (refine rladdN ?_) | (apply rlsubN; (first | omega | decide)) | (apply rldivN; (first | omega | decide); (first | omega | decide); (first | omega | decide)) | (apply riinc1; exact rfl; exact rfl) | (apply r1; exact rfl) | (apply rgoto; exact rfl) | (apply rfall; exact rfl) | (apply rirI; exact rfl) | (apply rend; exact rfl; exact rfl) | (apply rtsw; exact rfl; exact rfl) | (apply rcallC; exact rfl; exact rfl; exact rfl; first |  (apply rcallI; exact rfl; exact rfl)))
  refine rhead ?_
  refine am_it n (fun k lv M' => lv = [some (.ref r), some (.long v), none, some (.int (nI k)), some (.int (nI n))] ∧ ch (rR [r] []) M M' ∧ ∀ j, j < k → mL M' r j = v) ?_ ?_ 0 _ _ (by omega) ⟨rfl, ch_refl _ _, fun j hj => absurd hj (by omega)⟩
  · rintro k lv M' hk' ⟨rfl, hc, hv⟩ next
    repeat' (first | (apply rlast; exact h9; exact (hc.kd _ _).trans hk; omega; omega) | (apply riald; exact rfl; omega; decide) | (apply rlald; exact rfl; omega; decide) | (apply rzald; exact rfl; omega; decide) | (apply rbald; exact rfl; omega; decide) | (apply rzast; decide; exact rfl; omega; decide; omega) | (apply riast; decide; exact rfl; omega; decide) | (apply rlast; decide; exact rfl; omega; decide) | (refine re1 ?_) | (refine re0 ?_) | (refine rn1 ?_) | (refine rn0 ?_) | (refine rbe (fun h => ?_) (fun h => ?_)) | (refine rbn (fun h => ?_) (fun h => ?_)) | ((first | (refine rb_lt (fun h => ?_) (fun h => ?_)) | (refine rb_ge (fun h => ?_) (fun h => ?_)) | (refine rb_gt (fun h => ?_) (fun h => ?_)) | (refine rb_le (fun h => ?_) (fun h => ?_)) | (refine rb_eq (fun h => ?_) (fun h => ?_)) | (refine rb_ne (fun h => ?_) (fun h => ?_)) | (refine rc_lt (fun h => ?_) (fun h => ?_)) | (refine rc_ge (fun h => ?_) (fun h => ?_)) | (refine rc_gt (fun h => ?_) (fun h => ?_)) | (refine rc_le (fun h => ?_) (fun h => ?_)) | (refine rc_eq (fun h => ?_) (fun h => ?_)) | (refine rc_ne (fun h => ?_) (fun h => ?_))) <;> (try (simp (disch := omega) only [nI_toInt, nM_toInt, i_ne, i_eq, l_ne, l_eq, a_ne, a_eq, i_L, i_A, l_I, l_A, a_I, a_L, up_ne, up_eq, ne_eq, Nat.reduceEqDiff, not_false_eq_true, Int.reduceNatCast', ] at h)) <;> (try (exfalso; omega))) | (refine riaddN ?_) | (refine rimulN ?_) | (refine riconst ?_) | (refine rlconst ?_) | (apply risubN; (first | omega | decide)) | (apply ridivN; (first | omega | decide); (first | omega | decide); (first | omega | decide)) | (apply riremN; (first | omega | decide); (first | omega | decide); (first | omega | decide)) | (apply ri2lN; (first | omega | decide)) | (refine rl2iN ?_) | (refine rlmulN ?_) | (refine rladdN ?_) | (apply rlsubN; (first | omega | decide)) | (apply rldivN; (first | omega | decide); (first | omega | decide); (first | omega | decide)) | (apply riinc1; exact rfl; exact rfl) | (apply r1; exact rfl) | (apply rgoto; exact rfl) | (apply rfall; exact rfl) | (apply rirI; exact rfl) | (apply rend; exact rfl; exact rfl) | (apply rtsw; exact rfl; exact rfl) | (apply rcallC; exact rfl; exact rfl; exact rfl; first |  (apply rcallI; exact rfl; exact rfl)))
    refine rback (next _ _ ⟨rfl, ch_wL hc (fun _ => rR_hd), fun j hj => ?_⟩)
    rw [l_eq, am_up_ap]
    split
    · rfl
    · exact hv j (by omega)
  · rintro lv M' ⟨rfl, hc, hv⟩
    repeat' (first |  (apply riald; exact rfl; omega; decide) | (apply rlald; exact rfl; omega; decide) | (apply rzald; exact rfl; omega; decide) | (apply rbald; exact rfl; omega; decide) | (apply rzast; decide; exact rfl; omega; decide; omega) | (apply riast; decide; exact rfl; omega; decide) | (apply rlast; decide; exact rfl; omega; decide) | (refine re1 ?_) | (refine re0 ?_) | (refine rn1 ?_) | (refine rn0 ?_) | (refine rbe (fun h => ?_) (fun h => ?_)) | (refine rbn (fun h => ?_) (fun h => ?_)) | ((first | (refine rb_lt (fun h => ?_) (fun h => ?_)) | (refine rb_ge (fun h => ?_) (fun h => ?_)) | (refine rb_gt (fun h => ?_) (fun h => ?_)) | (refine rb_le (fun h => ?_) (fun h => ?_)) | (refine rb_eq (fun h => ?_) (fun h => ?_)) | (refine rb_ne (fun h => ?_) (fun h => ?_)) | (refine rc_lt (fun h => ?_) (fun h => ?_)) | (refine rc_ge (fun h => ?_) (fun h => ?_)) | (refine rc_gt (fun h => ?_) (fun h => ?_)) | (refine rc_le (fun h => ?_) (fun h => ?_)) | (refine rc_eq (fun h => ?_) (fun h => ?_)) | (refine rc_ne (fun h => ?_) (fun h => ?_))) <;> (try (simp (disch := omega) only [nI_toInt, nM_toInt, i_ne, i_eq, l_ne, l_eq, a_ne, a_eq, i_L, i_A, l_I, l_A, a_I, a_L, up_ne, up_eq, ne_eq, Nat.reduceEqDiff, not_false_eq_true, Int.reduceNatCast', ] at h)) <;> (try (exfalso; omega))) | (refine riaddN ?_) | (refine rimulN ?_) | (refine riconst ?_) | (refine rlconst ?_) | (apply risubN; (first | omega | decide)) | (apply ridivN; (first | omega | decide); (first | omega | decide); (first | omega | decide)) | (apply riremN; (first | omega | decide); (first | omega | decide); (first | omega | decide)) | (apply ri2lN; (first | omega | decide)) | (refine rl2iN ?_) | (refine rlmulN ?_) | (refine rladdN ?_) | (apply rlsubN; (first | omega | decide)) | (apply rldivN; (first | omega | decide); (first | omega | decide); (first | omega | decide)) | (apply riinc1; exact rfl; exact rfl) | (apply r1; exact rfl) | (apply rgoto; exact rfl) | (apply rfall; exact rfl) | (apply rirI; exact rfl) | (apply rend; exact rfl; exact rfl) | (apply rtsw; exact rfl; exact rfl) | (apply rcallC; exact rfl; exact rfl; exact rfl; first |  (apply rcallI; exact rfl; exact rfl)))
    exact kk M' hc hv
end
/-! ice -/
def icP (V : am_M) (dd c y k : Nat) : Bool := decide ((mI V 15 k).toInt ≤ (dd : Int)) && (decide (nn (mI V 13 k) = c) && decide (nn (mI V 14 k) = y))
def icV (V : am_M) (k : Nat) : Bool := decide (mI V 16 k = nI 1)
/-- whether a cell is shut in a year as known by a day -/
def shF (V : am_M) (dd c y : Nat) : Bool := lastB (icP V dd c y) (icV V) (nn (mI V 10 7))
theorem icP_t {V : am_M} {dd c y k : Nat} (h1 : (mI V 15 k).toInt ≤ (dd : Int)) (h2 : nn (mI V 13 k) = c) (h3 : nn (mI V 14 k) = y) : icP V dd c y k = true := by
  unfold icP; rw [decide_eq_true h1, decide_eq_true h2, decide_eq_true h3]; rfl
theorem icP_f {V : am_M} {dd c y k : Nat} (h : ¬((mI V 15 k).toInt ≤ (dd : Int) ∧ nn (mI V 13 k) = c ∧ nn (mI V 14 k) = y)) : icP V dd c y k = false := by
  rw [← Bool.not_eq_true]
  intro q
  unfold icP at q
  rw [Bool.and_eq_true, Bool.and_eq_true, decide_eq_true_eq, decide_eq_true_eq, decide_eq_true_eq] at q
  exact h q
/-- the bits of a number's first twelve places -/
def bitsOK (w : Int32) (f : Nat → Bool) : Prop := ∀ y, y < 12 → w.toBitVec.getLsbD y = f y
theorem sh_two {y : Nat} (hy : y < 12) : (nI 1 <<< (nI y &&& 31)).toBitVec = BitVec.twoPow 32 y := by
  rcases (show y = 0 ∨ y = 1 ∨ y = 2 ∨ y = 3 ∨ y = 4 ∨ y = 5 ∨ y = 6 ∨ y = 7 ∨ y = 8 ∨ y = 9 ∨ y = 10 ∨ y = 11 by omega) with rfl | rfl | rfl | rfl | rfl | rfl | rfl | rfl | rfl | rfl | rfl | rfl <;> decide
theorem bits_or {w : Int32} {f g : Nat → Bool} {y : Nat} (hy : y < 12) (h : bitsOK w f) (h1 : g y = true) (h2 : ∀ j, j ≠ y → g j = f j) : bitsOK (w ||| (nI 1 <<< (nI y &&& 31))) g := by
  intro j hj
  rw [Int32.toBitVec_or, sh_two hy, BitVec.getLsbD_or, BitVec.getLsbD_twoPow, h j hj]
  by_cases e : j = y
  · subst e; rw [h1, decide_eq_true (by omega), decide_eq_true rfl]; simp
  · rw [h2 j e, decide_eq_false (p := y = j) (fun q => e q.symm)]; simp
theorem bits_an {w : Int32} {f g : Nat → Bool} {y : Nat} (hy : y < 12) (h : bitsOK w f) (h1 : g y = false) (h2 : ∀ j, j ≠ y → g j = f j) : bitsOK (w &&& ((nI 1 <<< (nI y &&& 31)) ^^^ nM 0)) g := by
  intro j hj
  have e0 : (nM 0).toBitVec = BitVec.allOnes 32 := by decide
  rw [Int32.toBitVec_and, Int32.toBitVec_xor, sh_two hy, e0, BitVec.getLsbD_and, BitVec.getLsbD_xor, BitVec.getLsbD_twoPow, BitVec.getLsbD_allOnes, h j hj]
  by_cases e : j = y
  · subst e; rw [h1, decide_eq_true (show j < 32 by omega), decide_eq_true rfl]; simp
  · rw [h2 j e, decide_eq_false (p := y = j) (fun q => e q.symm), decide_eq_true (show j < 32 by omega)]; simp
theorem bits_rd {w : Int32} {f : Nat → Bool} {y : Nat} (h : bitsOK w f) (hy : y < 12) : w >>> (nI y &&& 31) &&& nI 1 = bI (f y) := by
  rw [← h y hy]
  apply Int32.toBitVec_inj.mp
  apply BitVec.eq_of_getLsbD_eq
  intro i hi
  have e : (w >>> (nI y &&& 31)).toBitVec = w.toBitVec.sshiftRight y := by
    rcases (show y = 0 ∨ y = 1 ∨ y = 2 ∨ y = 3 ∨ y = 4 ∨ y = 5 ∨ y = 6 ∨ y = 7 ∨ y = 8 ∨ y = 9 ∨ y = 10 ∨ y = 11 by omega) with rfl | rfl | rfl | rfl | rfl | rfl | rfl | rfl | rfl | rfl | rfl | rfl <;> rfl
  have e1 : (nI 1).toBitVec = 1#32 := rfl
  rw [Int32.toBitVec_and, e, e1, BitVec.getLsbD_and, BitVec.getLsbD_sshiftRight, BitVec.getLsbD_one]
  by_cases e : i = 0
  · subst e
    rw [if_pos (by omega), Nat.add_zero]
    cases w.toBitVec.getLsbD y <;> rfl
  · rw [decide_eq_false (p := 0 = i) (fun q => e q.symm), Bool.and_false, Bool.and_false]
    cases w.toBitVec.getLsbD y
    · show (BitVec.ofNat 32 0).getLsbD i = false at *
      simp
    · have : (bI true).toBitVec = 1#32 := rfl
      rw [this, BitVec.getLsbD_one]
      simp
      omega
theorem bits_0 {f : Nat → Bool} (h : ∀ y, f y = false) : bitsOK 0 f := fun y _ => by
  rw [h y]
  show (BitVec.ofNat 32 0).getLsbD y = false
  simp
/-- both sides' pictures of the ice as known by a day -/
def iceX (V : am_M) (dd : Nat) (M : am_M) : Prop := ∀ c, c < 256 → bitsOK (mI M 17 c) (shF V dd c)
def iceM (V : am_M) (dd : Nat) (M : am_M) : Prop := ∀ y c, y < 12 → c < 256 → mI M 74 (256 * y + c) = bI (shF V dd c y)
def landF (V : am_M) (c : Nat) : Bool := decide (mI V 11 c = nI 1)
/-- open sea in a year -/
def opY (V : am_M) (dd c y : Nat) : Bool := !(landF V c) && !(shF V dd c y)
def waF (V : am_M) (s : Nat) : Bool := decide (0 ≤ (mI V 18 3).toInt) && decide ((mI V 18 3).toInt ≤ (s : Int))
/-- whether they may come to a cell on a step -/
def goF (V : am_M) (dd s c : Nat) : Bool := waF V s || opY V dd c (s / 10)
section
variable {d dd n k : Nat} {V M M' : am_M} {Q : Option Value → am_M → Prop} {R : Nat → Nat → Bool}
set_option maxRecDepth 100000
theorem iceX_row (h : iceX V dd M) (e : mI M' 17 = mI M 17) : iceX V dd M' := fun c hc => by rw [e]; exact h c hc
theorem iceM_row (h : iceM V dd M) (e : mI M' 74 = mI M 74) : iceM V dd M' := fun y c hy hc => by rw [e]; exact h y c hy hc
theorem iceX_ch {l : List Nat} {s : List (Nat × Nat)} (h : iceX V dd M) (c : ch (rR l s) M M') (e : rDs l s [17] [] = true) : iceX V dd M' := iceX_row h (c.row 17 (rDs_row e (by decide)))
theorem iceM_ch {l : List Nat} {s : List (Nat × Nat)} (h : iceM V dd M) (c : ch (rR l s) M M') (e : rDs l s [74] [] = true) : iceM V dd M' := iceM_row h (c.row 74 (rDs_row e (by decide)))
theorem ice_ok (hI : Inv V) (hs : sc V M) (hn : mI V 10 7 = nI n) (hl : n ≤ 200) (hk : k < n) : (mI M 13 k = nI (nn (mI V 13 k)) ∧ nn (mI V 13 k) < 256 ∧ mI M 14 k = nI (nn (mI V 14 k)) ∧ nn (mI V 14 k) < 12 ∧ mI M 15 k = mI V 15 k ∧ mI M 16 k = bI (icV V k)) ∧ (mI M 70 k = nI (nn (mI V 13 k)) ∧ mI M 71 k = nI (nn (mI V 14 k)) ∧ mI M 72 k = mI V 15 k ∧ mI M 73 k = bI (icV V k)) := by
  have h := hI.ice
  obtain ⟨o1, o2, o3, o4, o5⟩ := h.ok k (by rw [hn, nI_toInt (by omega)]; omega)
  have b1 := nn_eq o1
  have b2 := nn_eq o3
  have c1 := nn_to o1
  have c2 := nn_to o3
  have b3 : mI V 16 k = bI (icV V k) := bI_of o5
  have e1 := h.ce_eq
  have e2 := h.ye_eq
  have e3 := h.da_eq
  have e4 := h.is_eq
  rw [sc_row hs 13 (fun _ => rfl), sc_row hs 14 (fun _ => rfl), sc_row hs 15 (fun _ => rfl), sc_row hs 16 (fun _ => rfl), sc_row hs 70 (fun _ => rfl), sc_row hs 71 (fun _ => rfl), sc_row hs 72 (fun _ => rfl), sc_row hs 73 (fun _ => rfl), e1, e2, e3, e4]
  exact ⟨⟨b1, by omega, b2, by omega, rfl, b3⟩, b1, b2, rfl, b3⟩
theorem cc_xShut (hI : Inv V) (hs : sc V M) {c y : Nat} (hc : c < 256) (hy : y < 12) (hd : dd < 1000) (kk : Q (some (.int (bI (shF V dd c y)))) M) : am_Call true d 26 [.ref 10, .int (nI c), .int (nI y), .int (nI dd)] M Q := by
  obtain ⟨n, hl, hn, hm⟩ := cnt_ice hI
  have hx : mI M 10 7 = nI n := (hs.I 10 7 rfl).trans hn
  unfold shF at kk
  rw [hn, nn_I (by omega)] at kk
  have L : ∀ k, k ≤ n → Q (some (.int (bI (lastB (icP V dd c y) (icV V) k)))) M → am_Run true d 26 (am_blk 26 1) [some (.ref 10), some (.int (nI c)), some (.int (nI y)), some (.int (nI dd)), some (.int (nI k - nI 1))] [] M Q := by
    intro k
    induction k with
    | zero =>
      intro _ hq
      repeat' (first |  (apply riald; exact rfl; omega; decide) | (apply rlald; exact rfl; omega; decide) | (apply rzald; exact rfl; omega; decide) | (apply rbald; exact rfl; omega; decide) | (apply rzast; decide; exact rfl; omega; decide; omega) | (apply riast; decide; exact rfl; omega; decide) | (apply rlast; decide; exact rfl; omega; decide) | (refine re1 ?_) | (refine re0 ?_) | (refine rn1 ?_) | (refine rn0 ?_) | (refine rbe (fun h => ?_) (fun h => ?_)) | (refine rbn (fun h => ?_) (fun h => ?_)) | ((first | (refine rb_lt (fun h => ?_) (fun h => ?_)) | (refine rb_ge (fun h => ?_) (fun h => ?_)) | (refine rb_gt (fun h => ?_) (fun h => ?_)) | (refine rb_le (fun h => ?_) (fun h => ?_)) | (refine rb_eq (fun h => ?_) (fun h => ?_)) | (refine rb_ne (fun h => ?_) (fun h => ?_)) | (refine rc_lt (fun h => ?_) (fun h => ?_)) | (refine rc_ge (fun h => ?_) (fun h => ?_)) | (refine rc_gt (fun h => ?_) (fun h => ?_)) | (refine rc_le (fun h => ?_) (fun h => ?_)) | (refine rc_eq (fun h => ?_) (fun h => ?_)) | (refine rc_ne (fun h => ?_) (fun h => ?_))) <;> (try (simp (disch := omega) only [nI_toInt, nM_toInt, i_ne, i_eq, l_ne, l_eq, a_ne, a_eq, i_L, i_A, l_I, l_A, a_I, a_L, up_ne, up_eq, ne_eq, Nat.reduceEqDiff, not_false_eq_true, Int.reduceNatCast', sub_toInt] at h)) <;> (try (exfalso; omega))) | (refine riaddN ?_) | (refine rimulN ?_) | (refine riconst ?_) | (refine rlconst ?_) | (apply risubN; (first | omega | decide)) | (apply ridivN; (first | omega | decide); (first | omega | decide); (first | omega | decide)) | (apply riremN; (first | omega | decide); (first | omega | decide); (first | omega | decide)) | (apply ri2lN; (first | omega | decide)) | (refine rl2iN ?_) | (refine rlmulN ?_) | (refine rladdN ?_) | (apply rlsubN; (first | omega | decide)) | (apply rldivN; (first | omega | decide); (first | omega | decide); (first | omega | decide)) | (apply riinc1; exact rfl; exact rfl) | (apply r1; exact rfl) | (apply rgoto; exact rfl) | (apply rfall; exact rfl) | (apply rirI; exact rfl) | (apply rend; exact rfl; exact rfl) | (apply rtsw; exact rfl; exact rfl) | (apply rcallC; exact rfl; exact rfl; exact rfl; first |  (apply rcallI; exact rfl; exact rfl)))
      exact hq
    | succ k ih =>
      intro hk hq
      rw [nI_pd]
      obtain ⟨⟨o1, o2, o3, o4, o5, o6⟩, -⟩ := ice_ok hI hs hn hl hk
      repeat' (first | (apply rialdX; exact rfl; (first | omega | decide); decide; exact o1) | (apply rialdX; exact rfl; (first | omega | decide); decide; exact o3) | (apply rialdX; exact rfl; (first | omega | decide); decide; exact o5) | (apply rzaldX; exact rfl; (first | omega | decide); decide; exact o6) | (apply riald; exact rfl; omega; decide) | (apply rlald; exact rfl; omega; decide) | (apply rzald; exact rfl; omega; decide) | (apply rbald; exact rfl; omega; decide) | (apply rzast; decide; exact rfl; omega; decide; omega) | (apply riast; decide; exact rfl; omega; decide) | (apply rlast; decide; exact rfl; omega; decide) | (refine re1 ?_) | (refine re0 ?_) | (refine rn1 ?_) | (refine rn0 ?_) | (refine rbe (fun h => ?_) (fun h => ?_)) | (refine rbn (fun h => ?_) (fun h => ?_)) | ((first | (refine rb_lt (fun h => ?_) (fun h => ?_)) | (refine rb_ge (fun h => ?_) (fun h => ?_)) | (refine rb_gt (fun h => ?_) (fun h => ?_)) | (refine rb_le (fun h => ?_) (fun h => ?_)) | (refine rb_eq (fun h => ?_) (fun h => ?_)) | (refine rb_ne (fun h => ?_) (fun h => ?_)) | (refine rc_lt (fun h => ?_) (fun h => ?_)) | (refine rc_ge (fun h => ?_) (fun h => ?_)) | (refine rc_gt (fun h => ?_) (fun h => ?_)) | (refine rc_le (fun h => ?_) (fun h => ?_)) | (refine rc_eq (fun h => ?_) (fun h => ?_)) | (refine rc_ne (fun h => ?_) (fun h => ?_))) <;> (try (simp (disch := omega) only [nI_toInt, nM_toInt, i_ne, i_eq, l_ne, l_eq, a_ne, a_eq, i_L, i_A, l_I, l_A, a_I, a_L, up_ne, up_eq, ne_eq, Nat.reduceEqDiff, not_false_eq_true, Int.reduceNatCast', ] at h)) <;> (try (exfalso; omega))) | (refine riaddN ?_) | (refine rimulN ?_) | (refine riconst ?_) | (refine rlconst ?_) | (apply risubN; (first | omega | decide)) | (apply ridivN; (first | omega | decide); (first | omega | decide); (first | omega | decide)) | (apply riremN; (first | omega | decide); (first | omega | decide); (first | omega | decide)) | (apply ri2lN; (first | omega | decide)) | (refine rl2iN ?_) | (refine rlmulN ?_) | (refine rladdN ?_) | (apply rlsubN; (first | omega | decide)) | (apply rldivN; (first | omega | decide); (first | omega | decide); (first | omega | decide)) | (apply riinc1; exact rfl; exact rfl) | (apply r1; exact rfl) | (apply rgoto; exact rfl) | (apply rfall; exact rfl) | (apply rirI; exact rfl) | (apply rend; exact rfl; exact rfl) | (apply rtsw; exact rfl; exact rfl) | (apply rcallC; exact rfl; exact rfl; exact rfl; first |  (apply rcallI; exact rfl; exact rfl)))
      · refine rback ?_
        rw [nI_dec]
        rw [lastB_f (icP_f (by omega))] at hq
        exact ih (by omega) hq
      · refine rback ?_
        rw [nI_dec]
        rw [lastB_f (icP_f (by omega))] at hq
        exact ih (by omega) hq
      · refine rback ?_
        rw [nI_dec]
        rw [lastB_f (icP_f (by omega))] at hq
        exact ih (by omega) hq
      · rw [lastB_t (icP_t (by omega) (by omega) (by omega))] at hq
        exact rirB (narB _) rfl hq
  refine rcallI rfl rfl ?_
  repeat' (first | (apply rgetN; exact rfl; exact hx) | (apply riald; exact rfl; omega; decide) | (apply rlald; exact rfl; omega; decide) | (apply rzald; exact rfl; omega; decide) | (apply rbald; exact rfl; omega; decide) | (apply rzast; decide; exact rfl; omega; decide; omega) | (apply riast; decide; exact rfl; omega; decide) | (apply rlast; decide; exact rfl; omega; decide) | (refine re1 ?_) | (refine re0 ?_) | (refine rn1 ?_) | (refine rn0 ?_) | (refine rbe (fun h => ?_) (fun h => ?_)) | (refine rbn (fun h => ?_) (fun h => ?_)) | ((first | (refine rb_lt (fun h => ?_) (fun h => ?_)) | (refine rb_ge (fun h => ?_) (fun h => ?_)) | (refine rb_gt (fun h => ?_) (fun h => ?_)) | (refine rb_le (fun h => ?_) (fun h => ?_)) | (refine rb_eq (fun h => ?_) (fun h => ?_)) | (refine rb_ne (fun h => ?_) (fun h => ?_)) | (refine rc_lt (fun h => ?_) (fun h => ?_)) | (refine rc_ge (fun h => ?_) (fun h => ?_)) | (refine rc_gt (fun h => ?_) (fun h => ?_)) | (refine rc_le (fun h => ?_) (fun h => ?_)) | (refine rc_eq (fun h => ?_) (fun h => ?_)) | (refine rc_ne (fun h => ?_) (fun h => ?_))) <;> (try (simp (disch := omega) only [nI_toInt, nM_toInt, i_ne, i_eq, l_ne, l_eq, a_ne, a_eq, i_L, i_A, l_I, l_A, a_I, a_L, up_ne, up_eq, ne_eq, Nat.reduceEqDiff, not_false_eq_true, Int.reduceNatCast', ] at h)) <;> (try (exfalso; omega))) | (refine riaddN ?_) | (refine rimulN ?_) | (refine riconst ?_) | (refine rlconst ?_) | (apply risubN; (first | omega | decide)) | (apply ridivN; (first | omega | decide); (first | omega | decide); (first | omega | decide)) | (apply riremN; (first | omega | decide); (first | omega | decide); (first | omega | decide)) | (apply ri2lN; (first | omega | decide)) | (refine rl2iN ?_) | (refine rlmulN ?_) | (refine rladdN ?_) | (apply rlsubN; (first | omega | decide)) | (apply rldivN; (first | omega | decide); (first | omega | decide); (first | omega | decide)) | (apply riinc1; exact rfl; exact rfl) | (apply r1; exact rfl) | (apply rgoto; exact rfl) | (apply rfall; exact rfl) | (apply rirI; exact rfl) | (apply rend; exact rfl; exact rfl) | (apply rtsw; exact rfl; exact rfl) | (apply rcallC; exact rfl; exact rfl; exact rfl; first |  (apply rcallI; exact rfl; exact rfl)))
  refine rhead ?_
  exact L n (Nat.le_refl n) kk
theorem cc_readIce (hI : Inv V) (hs : sc V M) (hd : dd < 1000) (kk : ∀ M', sc V M' → ch (rR [17] []) M M' → iceX V dd M' → Q none M') : am_Call true (d + 1) 51 [.ref 10, .int (nI dd)] M Q := by
  obtain ⟨n, hl, hn, hm⟩ := cnt_ice hI
  refine rcallI rfl rfl ?_
  repeat' (first |  (apply riald; exact rfl; omega; decide) | (apply rlald; exact rfl; omega; decide) | (apply rzald; exact rfl; omega; decide) | (apply rbald; exact rfl; omega; decide) | (apply rzast; decide; exact rfl; omega; decide; omega) | (apply riast; decide; exact rfl; omega; decide) | (apply rlast; decide; exact rfl; omega; decide) | (refine re1 ?_) | (refine re0 ?_) | (refine rn1 ?_) | (refine rn0 ?_) | (refine rbe (fun h => ?_) (fun h => ?_)) | (refine rbn (fun h => ?_) (fun h => ?_)) | ((first | (refine rb_lt (fun h => ?_) (fun h => ?_)) | (refine rb_ge (fun h => ?_) (fun h => ?_)) | (refine rb_gt (fun h => ?_) (fun h => ?_)) | (refine rb_le (fun h => ?_) (fun h => ?_)) | (refine rb_eq (fun h => ?_) (fun h => ?_)) | (refine rb_ne (fun h => ?_) (fun h => ?_)) | (refine rc_lt (fun h => ?_) (fun h => ?_)) | (refine rc_ge (fun h => ?_) (fun h => ?_)) | (refine rc_gt (fun h => ?_) (fun h => ?_)) | (refine rc_le (fun h => ?_) (fun h => ?_)) | (refine rc_eq (fun h => ?_) (fun h => ?_)) | (refine rc_ne (fun h => ?_) (fun h => ?_))) <;> (try (simp (disch := omega) only [nI_toInt, nM_toInt, i_ne, i_eq, l_ne, l_eq, a_ne, a_eq, i_L, i_A, l_I, l_A, a_I, a_L, up_ne, up_eq, ne_eq, Nat.reduceEqDiff, not_false_eq_true, Int.reduceNatCast', ] at h)) <;> (try (exfalso; omega))) | (refine riaddN ?_) | (refine rimulN ?_) | (refine riconst ?_) | (refine rlconst ?_) | (apply risubN; (first | omega | decide)) | (apply ridivN; (first | omega | decide); (first | omega | decide); (first | omega | decide)) | (apply riremN; (first | omega | decide); (first | omega | decide); (first | omega | decide)) | (apply ri2lN; (first | omega | decide)) | (refine rl2iN ?_) | (refine rlmulN ?_) | (refine rladdN ?_) | (apply rlsubN; (first | omega | decide)) | (apply rldivN; (first | omega | decide); (first | omega | decide); (first | omega | decide)) | (apply riinc1; exact rfl; exact rfl) | (apply r1; exact rfl) | (apply rgoto; exact rfl) | (apply rfall; exact rfl) | (apply rirI; exact rfl) | (apply rend; exact rfl; exact rfl) | (apply rtsw; exact rfl; exact rfl) | (apply rcallC; exact rfl; exact rfl; exact rfl; first | (refine cc_fill (by decide) rfl (by decide) (fun M1 c1 z1 => ?_)) | (apply rcallI; exact rfl; exact rfl)))
  refine rhead ?_
  refine am_it n (fun k lv M' => lv = [some (.ref 10), some (.int (nI dd)), some (.int (nI k)), none, none] ∧ ch (rR [17] []) M M' ∧ ∀ c, c < 256 → bitsOK (mI M' 17 c) (fun y => lastB (icP V dd c y) (icV V) k)) ?_ ?_ 0 _ _ (by omega) ⟨rfl, c1, fun c hc => by rw [z1 c hc]; exact bits_0 (fun _ => rfl)⟩
  · rintro k lv M' hk ⟨rfl, hc, hb⟩ next
    have hs' : sc V M' := hs.ch hc rfl
    have hx : mI M' 10 7 = nI n := (hs'.I 10 7 rfl).trans hn
    obtain ⟨⟨o1, o2, o3, o4, o5, o6⟩, -⟩ := ice_ok hI hs' hn hl hk
    repeat' (first | (apply rgetN; exact rfl; exact hx) | (apply rialdX; exact rfl; (first | omega | decide); decide; exact o1) | (apply rialdX; exact rfl; (first | omega | decide); decide; exact o3) | (apply rialdX; exact rfl; (first | omega | decide); decide; exact o5) | (apply rzaldX; exact rfl; (first | omega | decide); decide; exact o6) | (apply riald; exact rfl; omega; decide) | (apply rlald; exact rfl; omega; decide) | (apply rzald; exact rfl; omega; decide) | (apply rbald; exact rfl; omega; decide) | (apply rzast; decide; exact rfl; omega; decide; omega) | (apply riast; decide; exact rfl; omega; decide) | (apply rlast; decide; exact rfl; omega; decide) | (refine re1 ?_) | (refine re0 ?_) | (refine rn1 ?_) | (refine rn0 ?_) | (refine rbe (fun h => ?_) (fun h => ?_)) | (refine rbn (fun h => ?_) (fun h => ?_)) | ((first | (refine rb_lt (fun h => ?_) (fun h => ?_)) | (refine rb_ge (fun h => ?_) (fun h => ?_)) | (refine rb_gt (fun h => ?_) (fun h => ?_)) | (refine rb_le (fun h => ?_) (fun h => ?_)) | (refine rb_eq (fun h => ?_) (fun h => ?_)) | (refine rb_ne (fun h => ?_) (fun h => ?_)) | (refine rc_lt (fun h => ?_) (fun h => ?_)) | (refine rc_ge (fun h => ?_) (fun h => ?_)) | (refine rc_gt (fun h => ?_) (fun h => ?_)) | (refine rc_le (fun h => ?_) (fun h => ?_)) | (refine rc_eq (fun h => ?_) (fun h => ?_)) | (refine rc_ne (fun h => ?_) (fun h => ?_))) <;> (try (simp (disch := omega) only [nI_toInt, nM_toInt, i_ne, i_eq, l_ne, l_eq, a_ne, a_eq, i_L, i_A, l_I, l_A, a_I, a_L, up_ne, up_eq, ne_eq, Nat.reduceEqDiff, not_false_eq_true, Int.reduceNatCast', ] at h)) <;> (try (exfalso; omega))) | (refine riaddN ?_) | (refine rimulN ?_) | (refine riconst ?_) | (refine rlconst ?_) | (apply risubN; (first | omega | decide)) | (apply ridivN; (first | omega | decide); (first | omega | decide); (first | omega | decide)) | (apply riremN; (first | omega | decide); (first | omega | decide); (first | omega | decide)) | (apply ri2lN; (first | omega | decide)) | (refine rl2iN ?_) | (refine rlmulN ?_) | (refine rladdN ?_) | (apply rlsubN; (first | omega | decide)) | (apply rldivN; (first | omega | decide); (first | omega | decide); (first | omega | decide)) | (apply riinc1; exact rfl; exact rfl) | (apply r1; exact rfl) | (apply rgoto; exact rfl) | (apply rfall; exact rfl) | (apply rirI; exact rfl) | (apply rend; exact rfl; exact rfl) | (apply rtsw; exact rfl; exact rfl) | (apply rcallC; exact rfl; exact rfl; exact rfl; first | (refine cc_isCell (fun h => ?_) (fun h => ?_)) | (apply rcallI; exact rfl; exact rfl)))
    all_goals skip
  · rintro lv M' ⟨rfl, hc, hb⟩
    have hs' : sc V M' := hs.ch hc rfl
    have hx : mI M' 10 7 = nI n := (hs'.I 10 7 rfl).trans hn
    repeat' (first | (apply rgetN; exact rfl; exact hx) | (apply riald; exact rfl; omega; decide) | (apply rlald; exact rfl; omega; decide) | (apply rzald; exact rfl; omega; decide) | (apply rbald; exact rfl; omega; decide) | (apply rzast; decide; exact rfl; omega; decide; omega) | (apply riast; decide; exact rfl; omega; decide) | (apply rlast; decide; exact rfl; omega; decide) | (refine re1 ?_) | (refine re0 ?_) | (refine rn1 ?_) | (refine rn0 ?_) | (refine rbe (fun h => ?_) (fun h => ?_)) | (refine rbn (fun h => ?_) (fun h => ?_)) | ((first | (refine rb_lt (fun h => ?_) (fun h => ?_)) | (refine rb_ge (fun h => ?_) (fun h => ?_)) | (refine rb_gt (fun h => ?_) (fun h => ?_)) | (refine rb_le (fun h => ?_) (fun h => ?_)) | (refine rb_eq (fun h => ?_) (fun h => ?_)) | (refine rb_ne (fun h => ?_) (fun h => ?_)) | (refine rc_lt (fun h => ?_) (fun h => ?_)) | (refine rc_ge (fun h => ?_) (fun h => ?_)) | (refine rc_gt (fun h => ?_) (fun h => ?_)) | (refine rc_le (fun h => ?_) (fun h => ?_)) | (refine rc_eq (fun h => ?_) (fun h => ?_)) | (refine rc_ne (fun h => ?_) (fun h => ?_))) <;> (try (simp (disch := omega) only [nI_toInt, nM_toInt, i_ne, i_eq, l_ne, l_eq, a_ne, a_eq, i_L, i_A, l_I, l_A, a_I, a_L, up_ne, up_eq, ne_eq, Nat.reduceEqDiff, not_false_eq_true, Int.reduceNatCast', ] at h)) <;> (try (exfalso; omega))) | (refine riaddN ?_) | (refine rimulN ?_) | (refine riconst ?_) | (refine rlconst ?_) | (apply risubN; (first | omega | decide)) | (apply ridivN; (first | omega | decide); (first | omega | decide); (first | omega | decide)) | (apply riremN; (first | omega | decide); (first | omega | decide); (first | omega | decide)) | (apply ri2lN; (first | omega | decide)) | (refine rl2iN ?_) | (refine rlmulN ?_) | (refine rladdN ?_) | (apply rlsubN; (first | omega | decide)) | (apply rldivN; (first | omega | decide); (first | omega | decide); (first | omega | decide)) | (apply riinc1; exact rfl; exact rfl) | (apply r1; exact rfl) | (apply rgoto; exact rfl) | (apply rfall; exact rfl) | (apply rirI; exact rfl) | (apply rend; exact rfl; exact rfl) | (apply rtsw; exact rfl; exact rfl) | (apply rcallC; exact rfl; exact rfl; exact rfl; first |  (apply rcallI; exact rfl; exact rfl)))
    refine kk M' hs' hc (fun c hcc => ?_)
    unfold shF
    rw [hn, nn_I (by omega)]
    exact hb c hcc
end
