/-! trip: the class's whole search, and the model's -/
/-- how the search stands, where R is the range -/
def slT (op la : Nat → Bool) (h R head tail : Nat) (mv : Nat → Option Nat) (qu : Nat → Nat) : Prop := (∃ l mid, l < R ∧ bfT op la h l head mid tail mv qu) ∨ ((∀ c, c < 256 → tT op la h R c = mv c) ∧ head ≤ tail ∧ tail ≤ 256 ∧ ∀ i, head ≤ i → i < tail → qu i < 256 ∧ mv (qu i) = some R)
section
variable {d dd n k s i h R l head mid tail : Nat} {V M M' : am_M} {Q : Option Value → am_M → Prop} {mv : Nat → Option Nat} {qu : Nat → Nat} {op la : Nat → Bool}
set_option maxRecDepth 100000
theorem sl_le (b : slT op la h R head tail mv qu) : head ≤ tail ∧ tail ≤ 256 := by
  rcases b with ⟨l, mid, -, b⟩ | ⟨-, b1, b2, -⟩
  · have := b.hm; have := b.mt; have := b.cn; have := vcN_le (mv := mv) 256
    omega
  · exact ⟨b1, b2⟩
theorem sl_end (b : slT op la h R head tail mv qu) (e : head = tail) : ∀ c, c < 256 → tT op la h R c = mv c := by
  rcases b with ⟨l, mid, hl, b⟩ | ⟨b, -⟩
  · intro c hc
    have := bf_end b e (R - (l + 1)) c hc
    rwa [show l + 1 + (R - (l + 1)) = R by omega] at this
  · exact b
theorem sl_norm (b : slT op la h R head tail mv qu) (ht : head < tail) : (∃ l mid, l < R ∧ head < mid ∧ bfT op la h l head mid tail mv qu) ∨ ((∀ c, c < 256 → tT op la h R c = mv c) ∧ head ≤ tail ∧ tail ≤ 256 ∧ ∀ i, head ≤ i → i < tail → qu i < 256 ∧ mv (qu i) = some R) := by
  have tl := sl_le b
  rcases b with ⟨l, mid, hl, b⟩ | b
  · by_cases z : head < mid
    · exact .inl ⟨l, mid, hl, z, b⟩
    · have hm := b.hm
      have e : head = mid := by omega
      have b2 := bf_shift b e
      by_cases y : l + 1 < R
      · exact .inl ⟨l + 1, tail, y, ht, b2⟩
      · have : R = l + 1 := by omega
        subst this
        exact .inr ⟨fun c hc => bf_all b e hc, tl.1, tl.2, fun i h1 h2 => ⟨(b2.q1 i h1 h2).1, (b2.q1 i h1 h2).2.1⟩⟩
  · exact .inr b
theorem vcN_no : ∀ n, vcN (fun _ => none) n = 0
  | 0 => rfl
  | n + 1 => by
    show vcN _ n + (if (none : Option Nat) = none then 0 else 1) = 0
    rw [vcN_no n, if_pos rfl]
theorem bf_init (hh : h < 256) : slT op la h R 0 1 (upT (fun _ => none) h 0) (fun _ => h) := by
  have T : ∀ c, tT op la h 0 c = upT (fun _ => none) h 0 c := fun c => rfl
  have S : ∀ c, upT (fun _ => none) h 0 c = some 0 → c = h := by
    intro c e
    unfold upT at e
    split at e
    · assumption
    · cases e
  by_cases z : R = 0
  · subst z
    exact .inr ⟨fun c _ => T c, by omega, by omega, fun i _ _ => ⟨hh, if_pos rfl⟩⟩
  · refine .inl ⟨0, 1, by omega, by omega, by omega, fun c _ => .inl (T c), fun i _ _ => ⟨hh, if_pos rfl, ?_⟩, fun i h1 h2 => absurd h2 (by omega), fun c _ e _ => ?_, fun c _ e _ => .inl ⟨0, by omega, by omega, (S c e).symm⟩, ?_⟩
    · unfold srT; rw [decide_eq_true rfl, Bool.true_or]
    · unfold upT at e
      split at e
      · cases e
      · cases e
    · rw [vcN_up rfl, vcN_no, if_pos hh]; exact Nat.le_refl _
theorem sl_loop (hI : Inv V) (hst : s < 120) (hn : mI V 41 12 = nI n) (hnl : n ≤ 4) (hi : i < n) {M0 : am_M} (kk : ∀ M', sc V M' → ch (rR [45, 46] []) M0 M' → (∀ c, c < 256 → mI M' 45 c = oI (tT (fun c => opY V dd c (s / 10)) (landF V) h (nn (mI V 43 i)) c)) → Q none M') : ∀ k head tail mv qu M o, head + k = 256 → sc V M → ch (rR [45, 46] []) M0 M → iceX V dd M → slT (fun c => opY V dd c (s / 10)) (landF V) h (nn (mI V 43 i)) head tail mv qu → (∀ c, c < 256 → mI M 45 c = oI (mv c)) → (∀ i, i < tail → mI M 46 i = nI (qu i)) → am_Run true (d + 3) 106 (am_blk 106 4) [some (.ref 41), some (.int (nI i)), some (.int (nI s)), some (.int (nI tail)), some (.int (nI head)), o] [] M Q := by
  intro k
  induction k with
  | zero =>
    intro head tail mv qu M o hk hs h0 hx b hm hq
    have tl := sl_le b
    have := sl_end b (by omega)
    repeat' (first |  (apply riald; exact rfl; omega; decide) | (apply rlald; exact rfl; omega; decide) | (apply rzald; exact rfl; omega; decide) | (apply rbald; exact rfl; omega; decide) | (apply rzast; decide; exact rfl; omega; decide; omega) | (apply riast; decide; exact rfl; omega; decide) | (apply rlast; decide; exact rfl; omega; decide) | (refine re1 ?_) | (refine re0 ?_) | (refine rn1 ?_) | (refine rn0 ?_) | (refine rbe (fun h => ?_) (fun h => ?_)) | (refine rbn (fun h => ?_) (fun h => ?_)) | ((first | (refine rb_lt (fun h => ?_) (fun h => ?_)) | (refine rb_ge (fun h => ?_) (fun h => ?_)) | (refine rb_gt (fun h => ?_) (fun h => ?_)) | (refine rb_le (fun h => ?_) (fun h => ?_)) | (refine rb_eq (fun h => ?_) (fun h => ?_)) | (refine rb_ne (fun h => ?_) (fun h => ?_)) | (refine rc_lt (fun h => ?_) (fun h => ?_)) | (refine rc_ge (fun h => ?_) (fun h => ?_)) | (refine rc_gt (fun h => ?_) (fun h => ?_)) | (refine rc_le (fun h => ?_) (fun h => ?_)) | (refine rc_eq (fun h => ?_) (fun h => ?_)) | (refine rc_ne (fun h => ?_) (fun h => ?_))) <;> (try (simp (disch := omega) only [nI_toInt, nM_toInt, i_ne, i_eq, l_ne, l_eq, a_ne, a_eq, i_L, i_A, l_I, l_A, a_I, a_L, up_ne, up_eq, ne_eq, Nat.reduceEqDiff, not_false_eq_true, Int.reduceNatCast', ] at h)) <;> (try (exfalso; omega))) | (refine riaddN ?_) | (refine rimulN ?_) | (refine riconst ?_) | (refine rlconst ?_) | (apply risubN; (first | omega | decide)) | (apply ridivN; (first | omega | decide); (first | omega | decide); (first | omega | decide)) | (apply riremN; (first | omega | decide); (first | omega | decide); (first | omega | decide)) | (apply ri2lN; (first | omega | decide)) | (refine rl2iN ?_) | (refine rlmulN ?_) | (refine rladdN ?_) | (apply rlsubN; (first | omega | decide)) | (apply rldivN; (first | omega | decide); (first | omega | decide); (first | omega | decide)) | (apply riinc1; exact rfl; exact rfl) | (apply r1; exact rfl) | (apply rgoto; exact rfl) | (apply rfall; exact rfl) | (apply rirI; exact rfl) | (apply rend; exact rfl; exact rfl) | (apply rtsw; exact rfl; exact rfl) | (apply rcallC; exact rfl; exact rfl; exact rfl; first |  (apply rcallI; exact rfl; exact rfl)))
    all_goals exact kk M hs h0 (fun c hc => by rw [this c hc]; exact hm c hc)
  | succ k ih =>
    intro head tail mv qu M o hk hs h0 hx b hm hq
    obtain ⟨⟨-, -, ra, rl, -⟩, -⟩ := sh_ok hI hs hn hnl hi
    have tl := sl_le b
    by_cases ht : head < tail
    · have qh := hq head ht
      rcases sl_norm b ht with ⟨l, mid, hl, hd, b⟩ | ⟨b1, b2, b3, b4⟩
      · obtain ⟨f1, f2, f3⟩ := b.q1 head (Nat.le_refl _) hd
        have hf : mI M 45 (qu head) = nI l := (hm _ f1).trans (by rw [f2]; rfl)
        repeat' (first | (apply rialdX; exact rfl; (first | omega | decide); decide; exact qh) | (apply rialdX; exact rfl; (first | omega | decide); decide; exact hf) | (apply rialdX; exact rfl; (first | omega | decide); decide; exact ra) | (apply riald; exact rfl; omega; decide) | (apply rlald; exact rfl; omega; decide) | (apply rzald; exact rfl; omega; decide) | (apply rbald; exact rfl; omega; decide) | (apply rzast; decide; exact rfl; omega; decide; omega) | (apply riast; decide; exact rfl; omega; decide) | (apply rlast; decide; exact rfl; omega; decide) | (refine re1 ?_) | (refine re0 ?_) | (refine rn1 ?_) | (refine rn0 ?_) | (refine rbe (fun h => ?_) (fun h => ?_)) | (refine rbn (fun h => ?_) (fun h => ?_)) | ((first | (refine rb_lt (fun h => ?_) (fun h => ?_)) | (refine rb_ge (fun h => ?_) (fun h => ?_)) | (refine rb_gt (fun h => ?_) (fun h => ?_)) | (refine rb_le (fun h => ?_) (fun h => ?_)) | (refine rb_eq (fun h => ?_) (fun h => ?_)) | (refine rb_ne (fun h => ?_) (fun h => ?_)) | (refine rc_lt (fun h => ?_) (fun h => ?_)) | (refine rc_ge (fun h => ?_) (fun h => ?_)) | (refine rc_gt (fun h => ?_) (fun h => ?_)) | (refine rc_le (fun h => ?_) (fun h => ?_)) | (refine rc_eq (fun h => ?_) (fun h => ?_)) | (refine rc_ne (fun h => ?_) (fun h => ?_))) <;> (try (simp (disch := omega) only [nI_toInt, nM_toInt, i_ne, i_eq, l_ne, l_eq, a_ne, a_eq, i_L, i_A, l_I, l_A, a_I, a_L, up_ne, up_eq, ne_eq, Nat.reduceEqDiff, not_false_eq_true, Int.reduceNatCast', ] at h)) <;> (try (exfalso; omega))) | (refine riaddN ?_) | (refine rimulN ?_) | (refine riconst ?_) | (refine rlconst ?_) | (apply risubN; (first | omega | decide)) | (apply ridivN; (first | omega | decide); (first | omega | decide); (first | omega | decide)) | (apply riremN; (first | omega | decide); (first | omega | decide); (first | omega | decide)) | (apply ri2lN; (first | omega | decide)) | (refine rl2iN ?_) | (refine rlmulN ?_) | (refine rladdN ?_) | (apply rlsubN; (first | omega | decide)) | (apply rldivN; (first | omega | decide); (first | omega | decide); (first | omega | decide)) | (apply riinc1; exact rfl; exact rfl) | (apply r1; exact rfl) | (apply rgoto; exact rfl) | (apply rfall; exact rfl) | (apply rirI; exact rfl) | (apply rend; exact rfl; exact rfl) | (apply rtsw; exact rfl; exact rfl) | (apply rcallC; exact rfl; exact rfl; exact rfl; first | (refine cc_isCellN (by omega) ?_) | (refine cc_isDayN (by omega) ?_) | (refine cc_isYearN (by omega) ?_) | (refine cc_isStepN (by omega) ?_) | (refine cc_mCellN (by omega) ?_) | (refine cc_mDayN (by omega) ?_) | (refine cc_isInN (by omega) (by omega) (by omega) ?_) | (refine cc_sailOn hI hs hx hst (by omega) b hd hm hq (fun M2 mv' qu' tail' s2q c2q b2q e2q d2q m2q q2q => ?_)) | (apply rcallI; exact rfl; exact rfl)))
        refine rback (ih (head + 1) tail' mv' qu' M2 _ (by omega) s2q (ch_trans h0 c2q) (iceX_ch hx c2q rfl) (.inl ⟨l, mid, hl, bf_next b2q hd (by rw [e2q]; exact d2q)⟩) m2q q2q)
      · obtain ⟨f1, f2⟩ := b4 head (Nat.le_refl _) ht
        have hf : mI M 45 (qu head) = nI (nn (mI V 43 i)) := (hm _ f1).trans (by rw [f2]; rfl)
        repeat' (first | (apply rialdX; exact rfl; (first | omega | decide); decide; exact qh) | (apply rialdX; exact rfl; (first | omega | decide); decide; exact hf) | (apply rialdX; exact rfl; (first | omega | decide); decide; exact ra) | (apply riald; exact rfl; omega; decide) | (apply rlald; exact rfl; omega; decide) | (apply rzald; exact rfl; omega; decide) | (apply rbald; exact rfl; omega; decide) | (apply rzast; decide; exact rfl; omega; decide; omega) | (apply riast; decide; exact rfl; omega; decide) | (apply rlast; decide; exact rfl; omega; decide) | (refine re1 ?_) | (refine re0 ?_) | (refine rn1 ?_) | (refine rn0 ?_) | (refine rbe (fun h => ?_) (fun h => ?_)) | (refine rbn (fun h => ?_) (fun h => ?_)) | ((first | (refine rb_lt (fun h => ?_) (fun h => ?_)) | (refine rb_ge (fun h => ?_) (fun h => ?_)) | (refine rb_gt (fun h => ?_) (fun h => ?_)) | (refine rb_le (fun h => ?_) (fun h => ?_)) | (refine rb_eq (fun h => ?_) (fun h => ?_)) | (refine rb_ne (fun h => ?_) (fun h => ?_)) | (refine rc_lt (fun h => ?_) (fun h => ?_)) | (refine rc_ge (fun h => ?_) (fun h => ?_)) | (refine rc_gt (fun h => ?_) (fun h => ?_)) | (refine rc_le (fun h => ?_) (fun h => ?_)) | (refine rc_eq (fun h => ?_) (fun h => ?_)) | (refine rc_ne (fun h => ?_) (fun h => ?_))) <;> (try (simp (disch := omega) only [nI_toInt, nM_toInt, i_ne, i_eq, l_ne, l_eq, a_ne, a_eq, i_L, i_A, l_I, l_A, a_I, a_L, up_ne, up_eq, ne_eq, Nat.reduceEqDiff, not_false_eq_true, Int.reduceNatCast', ] at h)) <;> (try (exfalso; omega))) | (refine riaddN ?_) | (refine rimulN ?_) | (refine riconst ?_) | (refine rlconst ?_) | (apply risubN; (first | omega | decide)) | (apply ridivN; (first | omega | decide); (first | omega | decide); (first | omega | decide)) | (apply riremN; (first | omega | decide); (first | omega | decide); (first | omega | decide)) | (apply ri2lN; (first | omega | decide)) | (refine rl2iN ?_) | (refine rlmulN ?_) | (refine rladdN ?_) | (apply rlsubN; (first | omega | decide)) | (apply rldivN; (first | omega | decide); (first | omega | decide); (first | omega | decide)) | (apply riinc1; exact rfl; exact rfl) | (apply r1; exact rfl) | (apply rgoto; exact rfl) | (apply rfall; exact rfl) | (apply rirI; exact rfl) | (apply rend; exact rfl; exact rfl) | (apply rtsw; exact rfl; exact rfl) | (apply rcallC; exact rfl; exact rfl; exact rfl; first | (refine cc_isCellN (by omega) ?_) | (refine cc_isDayN (by omega) ?_) | (refine cc_isYearN (by omega) ?_) | (refine cc_isStepN (by omega) ?_) | (refine cc_mCellN (by omega) ?_) | (refine cc_mDayN (by omega) ?_) | (refine cc_isInN (by omega) (by omega) (by omega) ?_) | (apply rcallI; exact rfl; exact rfl)))
        exact rback (ih (head + 1) tail mv qu M _ (by omega) hs h0 hx (.inr ⟨b1, by omega, b3, fun i h1 h2 => b4 i (by omega) h2⟩) hm hq)
    · have := sl_end b (by omega)
      repeat' (first |  (apply riald; exact rfl; omega; decide) | (apply rlald; exact rfl; omega; decide) | (apply rzald; exact rfl; omega; decide) | (apply rbald; exact rfl; omega; decide) | (apply rzast; decide; exact rfl; omega; decide; omega) | (apply riast; decide; exact rfl; omega; decide) | (apply rlast; decide; exact rfl; omega; decide) | (refine re1 ?_) | (refine re0 ?_) | (refine rn1 ?_) | (refine rn0 ?_) | (refine rbe (fun h => ?_) (fun h => ?_)) | (refine rbn (fun h => ?_) (fun h => ?_)) | ((first | (refine rb_lt (fun h => ?_) (fun h => ?_)) | (refine rb_ge (fun h => ?_) (fun h => ?_)) | (refine rb_gt (fun h => ?_) (fun h => ?_)) | (refine rb_le (fun h => ?_) (fun h => ?_)) | (refine rb_eq (fun h => ?_) (fun h => ?_)) | (refine rb_ne (fun h => ?_) (fun h => ?_)) | (refine rc_lt (fun h => ?_) (fun h => ?_)) | (refine rc_ge (fun h => ?_) (fun h => ?_)) | (refine rc_gt (fun h => ?_) (fun h => ?_)) | (refine rc_le (fun h => ?_) (fun h => ?_)) | (refine rc_eq (fun h => ?_) (fun h => ?_)) | (refine rc_ne (fun h => ?_) (fun h => ?_))) <;> (try (simp (disch := omega) only [nI_toInt, nM_toInt, i_ne, i_eq, l_ne, l_eq, a_ne, a_eq, i_L, i_A, l_I, l_A, a_I, a_L, up_ne, up_eq, ne_eq, Nat.reduceEqDiff, not_false_eq_true, Int.reduceNatCast', ] at h)) <;> (try (exfalso; omega))) | (refine riaddN ?_) | (refine rimulN ?_) | (refine riconst ?_) | (refine rlconst ?_) | (apply risubN; (first | omega | decide)) | (apply ridivN; (first | omega | decide); (first | omega | decide); (first | omega | decide)) | (apply riremN; (first | omega | decide); (first | omega | decide); (first | omega | decide)) | (apply ri2lN; (first | omega | decide)) | (refine rl2iN ?_) | (refine rlmulN ?_) | (refine rladdN ?_) | (apply rlsubN; (first | omega | decide)) | (apply rldivN; (first | omega | decide); (first | omega | decide); (first | omega | decide)) | (apply riinc1; exact rfl; exact rfl) | (apply r1; exact rfl) | (apply rgoto; exact rfl) | (apply rfall; exact rfl) | (apply rirI; exact rfl) | (apply rend; exact rfl; exact rfl) | (apply rtsw; exact rfl; exact rfl) | (apply rcallC; exact rfl; exact rfl; exact rfl; first |  (apply rcallI; exact rfl; exact rfl)))
      all_goals exact kk M hs h0 (fun c hc => by rw [this c hc]; exact hm c hc)
theorem cc_fsail (hI : Inv V) (hs : sc V M) (hx : iceX V dd M) (hst : s < 120) (hn : mI V 41 12 = nI n) (hnl : n ≤ 4) (hi : i < n) (kk : ∀ M', sc V M' → ch (rR [45, 46] []) M M' → (∀ c, c < 256 → mI M' 45 c = oI (tT (fun c => opY V dd c (s / 10)) (landF V) (nn (mI V 42 i)) (nn (mI V 43 i)) c)) → Q none M') : am_Call true (d + 3) 106 [.ref 41, .int (nI i), .int (nI s)] M Q := by
  obtain ⟨⟨ha, hl, -⟩, -⟩ := sh_ok hI hs hn hnl hi
  have hn0 := (hs.I 41 12 rfl).trans hn
  refine rcallI rfl rfl ?_
  repeat' (first | (apply rialdX; exact rfl; (first | omega | decide); decide; first | exact (c1q.I 42 _ rfl).trans ha | exact (c2q.I 42 _ rfl).trans ((c1q.I 42 _ rfl).trans ha)) | (refine riastC (i := 45) (by decide) rfl hl (by decide) (fun M2 c2q e2q => ?_)) | (refine riastC (i := 46) (k := 0) (by decide) rfl (by decide) (by decide) (fun M3 c3q e3q => ?_)) | (apply riald; exact rfl; omega; decide) | (apply rlald; exact rfl; omega; decide) | (apply rzald; exact rfl; omega; decide) | (apply rbald; exact rfl; omega; decide) | (apply rzast; decide; exact rfl; omega; decide; omega) | (apply riast; decide; exact rfl; omega; decide) | (apply rlast; decide; exact rfl; omega; decide) | (refine re1 ?_) | (refine re0 ?_) | (refine rn1 ?_) | (refine rn0 ?_) | (refine rbe (fun h => ?_) (fun h => ?_)) | (refine rbn (fun h => ?_) (fun h => ?_)) | ((first | (refine rb_lt (fun h => ?_) (fun h => ?_)) | (refine rb_ge (fun h => ?_) (fun h => ?_)) | (refine rb_gt (fun h => ?_) (fun h => ?_)) | (refine rb_le (fun h => ?_) (fun h => ?_)) | (refine rb_eq (fun h => ?_) (fun h => ?_)) | (refine rb_ne (fun h => ?_) (fun h => ?_)) | (refine rc_lt (fun h => ?_) (fun h => ?_)) | (refine rc_ge (fun h => ?_) (fun h => ?_)) | (refine rc_gt (fun h => ?_) (fun h => ?_)) | (refine rc_le (fun h => ?_) (fun h => ?_)) | (refine rc_eq (fun h => ?_) (fun h => ?_)) | (refine rc_ne (fun h => ?_) (fun h => ?_))) <;> (try (simp (disch := omega) only [nI_toInt, nM_toInt, i_ne, i_eq, l_ne, l_eq, a_ne, a_eq, i_L, i_A, l_I, l_A, a_I, a_L, up_ne, up_eq, ne_eq, Nat.reduceEqDiff, not_false_eq_true, Int.reduceNatCast', ] at h)) <;> (try (exfalso; omega))) | (refine riaddN ?_) | (refine rimulN ?_) | (refine riconst ?_) | (refine rlconst ?_) | (apply risubN; (first | omega | decide)) | (apply ridivN; (first | omega | decide); (first | omega | decide); (first | omega | decide)) | (apply riremN; (first | omega | decide); (first | omega | decide); (first | omega | decide)) | (apply ri2lN; (first | omega | decide)) | (refine rl2iN ?_) | (refine rlmulN ?_) | (refine rladdN ?_) | (apply rlsubN; (first | omega | decide)) | (apply rldivN; (first | omega | decide); (first | omega | decide); (first | omega | decide)) | (apply riinc1; exact rfl; exact rfl) | (apply r1; exact rfl) | (apply rgoto; exact rfl) | (apply rfall; exact rfl) | (apply rirI; exact rfl) | (apply rend; exact rfl; exact rfl) | (apply rtsw; exact rfl; exact rfl) | (apply rcallC; exact rfl; exact rfl; exact rfl; first | (refine cc_fill (by decide) rfl (by decide) (fun M1 c1q z1q => ?_)) | (refine cc_isShipN ((c1q.I 41 12 rfl).trans hn0) hnl hi ?_) | (refine cc_isCellN (by omega) ?_) | (refine cc_isDayN (by omega) ?_) | (refine cc_isYearN (by omega) ?_) | (refine cc_isStepN (by omega) ?_) | (refine cc_mCellN (by omega) ?_) | (refine cc_mDayN (by omega) ?_) | (refine cc_isInN (by omega) (by omega) (by omega) ?_) | (apply rcallI; exact rfl; exact rfl)))
  refine rhead ?_
  refine sl_loop hI hst hn hnl hi kk 256 0 1 _ _ M3 _ rfl (((hs.ch c1q rfl).ch c2q rfl).ch c3q rfl) (ch_trans (ch_in c1q rfl) (ch_trans (ch_in c2q rfl) (ch_in c3q rfl))) (iceX_ch (iceX_ch (iceX_ch hx c1q rfl) c2q rfl) c3q rfl) (bf_init hl) (fun c hc => ?_) (fun i hi => ?_)
  · rw [c3q.row 45 (fun _ => rfl), e2q, am_up_ap]
    unfold upT
    split
    · rfl
    · exact z1q c hc
  · rw [e3q, show i = 0 by omega, up_eq]
/-- how far a ship comes -/
def trF' (V : am_M) (dd y i : Nat) : Nat → Option Nat := tT (fun c => opY V dd c y) (landF V) (nn (mI V 42 i)) (nn (mI V 43 i))
end
