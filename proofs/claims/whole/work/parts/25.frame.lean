/-! what is never written: the script, the static rows, the texts -/
def fr (M M' : am_M) : Prop := mN M ≤ mN M' ∧ ∀ j, j < 9 → mI M' j = mI M j ∧ mL M' j = mL M j ∧ mA M' j = mA M j ∧ mK M' j = mK M j
theorem fr_refl (M : am_M) : fr M M := ⟨Nat.le_refl _, fun j _ => ⟨rfl, rfl, rfl, rfl⟩⟩
theorem fr_trans {M1 M2 M3 : am_M} (h1 : fr M1 M2) (h2 : fr M2 M3) : fr M1 M3 := ⟨Nat.le_trans h1.1 h2.1, fun j hj => by
  obtain ⟨a1, a2, a3, a4⟩ := h1.2 j hj
  obtain ⟨b1, b2, b3, b4⟩ := h2.2 j hj
  exact ⟨b1.trans a1, b2.trans a2, b3.trans a3, b4.trans a4⟩⟩
theorem fr_wI {M : am_M} (i : Nat) (f : Nat → Int32) (h : 9 ≤ i) : fr M (wI M i f) := ⟨Nat.le_refl _, fun j hj => ⟨bm_up_ne _ _ (by omega), rfl, rfl, rfl⟩⟩
theorem fr_wL {M : am_M} (i : Nat) (f : Nat → Int64) (h : 9 ≤ i) : fr M (wL M i f) := ⟨Nat.le_refl _, fun j hj => ⟨rfl, bm_up_ne _ _ (by omega), rfl, rfl⟩⟩
theorem fr_wA {M : am_M} (i : Nat) (f : Nat → Nat) (h : 9 ≤ i) : fr M (wA M i f) := ⟨Nat.le_refl _, fun j hj => ⟨rfl, rfl, bm_up_ne _ _ (by omega), rfl⟩⟩
theorem fr_alloc {M : am_M} (hg : 118 ≤ mN M) (k n : Nat) (fi : Nat → Int32) : fr M (am_alloc M k n fi) := ⟨Nat.le_succ _, fun j hj => ⟨bm_up_ne _ _ (by omega), bm_up_ne _ _ (by omega), bm_up_ne _ _ (by omega), bm_up_ne _ _ (by omega)⟩⟩
theorem fr_put {z fid i : Nat} {v : Value} {M M' : am_M} (h : am_put true z fid v i M = some M') : fr M M' := by
  unfold am_put at h
  rcases hfd : am_fd fid with ⟨a, k, ty, fin⟩
  rw [hfd] at h
  dsimp only at h
  split at h
  · next hc =>
    split at h
    · cases h; exact fr_wI _ _ hc.1
    · split at h
      · cases h; exact fr_wI _ _ hc.1
      · cases h
    · cases h; exact fr_wL _ _ hc.1
    · obtain ⟨hn, h⟩ := bm_iten h
      cases h
      exact fr_wA _ _ hc.1
    · obtain ⟨hn, h⟩ := bm_iten h
      cases h
      exact fr_wA _ _ hc.1
    · cases h
  · cases h
theorem fr_step {z : Nat} {ins : Instr} {lv lv' : am_L} {st st' : List Value} {M M' : am_M} {jt : Option Nat} (hg : 118 ≤ mN M) (h : am_step true z ins lv st M = some (jt, lv', st', M')) : fr M M' := by
  cases ins with
  | jsr_w t =>
    delta am_step at h
    dsimp only at h
    cases h
    exact fr_refl M
  | goto t =>
    delta am_step at h
    dsimp only at h
    cases h
    exact fr_refl M
  | goto_w t =>
    delta am_step at h
    dsimp only at h
    cases h
    exact fr_refl M
  | ret t =>
    delta am_step at h
    dsimp only at h
    cases h
    exact fr_refl M
  | aconst_null =>
    delta am_step at h
    dsimp only at h
    cases h
    exact fr_refl M
  | iconst v =>
    delta am_step at h
    dsimp only at h
    split at h
    all_goals (cases h; exact fr_refl M)
  | jsr v =>
    delta am_step at h
    dsimp only at h
    split at h
    all_goals (cases h; exact fr_refl M)
  | iload n =>
    delta am_step at h
    dsimp only at h
    split at h
    all_goals first | (cases h; done) | (cases h; exact fr_refl M)
  | lload n =>
    delta am_step at h
    dsimp only at h
    split at h
    all_goals first | (cases h; done) | (cases h; exact fr_refl M)
  | aload n =>
    delta am_step at h
    dsimp only at h
    split at h
    all_goals first | (cases h; done) | (cases h; exact fr_refl M)
  | iadd =>
    delta am_step at h
    dsimp only at h
    split at h
    all_goals first | (cases h; done) | (cases h; exact fr_refl M)
  | isub =>
    delta am_step at h
    dsimp only at h
    split at h
    all_goals first | (cases h; done) | (cases h; exact fr_refl M)
  | imul =>
    delta am_step at h
    dsimp only at h
    split at h
    all_goals first | (cases h; done) | (cases h; exact fr_refl M)
  | iand =>
    delta am_step at h
    dsimp only at h
    split at h
    all_goals first | (cases h; done) | (cases h; exact fr_refl M)
  | ior =>
    delta am_step at h
    dsimp only at h
    split at h
    all_goals first | (cases h; done) | (cases h; exact fr_refl M)
  | ixor =>
    delta am_step at h
    dsimp only at h
    split at h
    all_goals first | (cases h; done) | (cases h; exact fr_refl M)
  | ineg =>
    delta am_step at h
    dsimp only at h
    split at h
    all_goals first | (cases h; done) | (cases h; exact fr_refl M)
  | ishl =>
    delta am_step at h
    dsimp only at h
    split at h
    all_goals first | (cases h; done) | (cases h; exact fr_refl M)
  | ishr =>
    delta am_step at h
    dsimp only at h
    split at h
    all_goals first | (cases h; done) | (cases h; exact fr_refl M)
  | iushr =>
    delta am_step at h
    dsimp only at h
    split at h
    all_goals first | (cases h; done) | (cases h; exact fr_refl M)
  | i2l =>
    delta am_step at h
    dsimp only at h
    split at h
    all_goals first | (cases h; done) | (cases h; exact fr_refl M)
  | l2i =>
    delta am_step at h
    dsimp only at h
    split at h
    all_goals first | (cases h; done) | (cases h; exact fr_refl M)
  | i2b =>
    delta am_step at h
    dsimp only at h
    split at h
    all_goals first | (cases h; done) | (cases h; exact fr_refl M)
  | i2c =>
    delta am_step at h
    dsimp only at h
    split at h
    all_goals first | (cases h; done) | (cases h; exact fr_refl M)
  | ladd =>
    delta am_step at h
    dsimp only at h
    split at h
    all_goals first | (cases h; done) | (cases h; exact fr_refl M)
  | lsub =>
    delta am_step at h
    dsimp only at h
    split at h
    all_goals first | (cases h; done) | (cases h; exact fr_refl M)
  | lmul =>
    delta am_step at h
    dsimp only at h
    split at h
    all_goals first | (cases h; done) | (cases h; exact fr_refl M)
  | land =>
    delta am_step at h
    dsimp only at h
    split at h
    all_goals first | (cases h; done) | (cases h; exact fr_refl M)
  | lor =>
    delta am_step at h
    dsimp only at h
    split at h
    all_goals first | (cases h; done) | (cases h; exact fr_refl M)
  | lxor =>
    delta am_step at h
    dsimp only at h
    split at h
    all_goals first | (cases h; done) | (cases h; exact fr_refl M)
  | lshl =>
    delta am_step at h
    dsimp only at h
    split at h
    all_goals first | (cases h; done) | (cases h; exact fr_refl M)
  | lushr =>
    delta am_step at h
    dsimp only at h
    split at h
    all_goals first | (cases h; done) | (cases h; exact fr_refl M)
  | lcmp =>
    delta am_step at h
    dsimp only at h
    split at h
    all_goals first | (cases h; done) | (cases h; exact fr_refl M)
  | dup =>
    delta am_step at h
    dsimp only at h
    split at h
    all_goals first | (cases h; done) | (cases h; exact fr_refl M)
  | dup2 =>
    delta am_step at h
    dsimp only at h
    split at h
    all_goals first | (cases h; done) | (cases h; exact fr_refl M)
  | pop =>
    delta am_step at h
    dsimp only at h
    split at h
    all_goals first | (cases h; done) | (cases h; exact fr_refl M)
  | getstatic k =>
    delta am_step at h
    dsimp only at h
    split at h
    all_goals first | (cases h; done) | (cases h; exact fr_refl M)
  | ifCond c t =>
    delta am_step at h
    dsimp only at h
    split at h
    all_goals first | (cases h; done) | (cases h; exact fr_refl M)
  | if_icmp c t =>
    delta am_step at h
    dsimp only at h
    split at h
    all_goals first | (cases h; done) | (cases h; exact fr_refl M)
  | ifnull t =>
    delta am_step at h
    dsimp only at h
    split at h
    all_goals first | (cases h; done) | (cases h; exact fr_refl M)
  | ifnonnull t =>
    delta am_step at h
    dsimp only at h
    split at h
    all_goals first | (cases h; done) | (cases h; exact fr_refl M)
  | tableswitch d lo hi o =>
    delta am_step at h
    dsimp only at h
    split at h
    all_goals first | (cases h; done) | (cases h; exact fr_refl M)
  | lookupswitch d ps =>
    delta am_step at h
    dsimp only at h
    split at h
    all_goals first | (cases h; done) | (cases h; exact fr_refl M)
  | istore n =>
    delta am_step at h
    dsimp only at h
    split at h
    all_goals first | (cases h; done) | (obtain ⟨_, h⟩ := bm_ite h; cases h; exact fr_refl M)
  | lstore n =>
    delta am_step at h
    dsimp only at h
    split at h
    all_goals first | (cases h; done) | (obtain ⟨_, h⟩ := bm_ite h; cases h; exact fr_refl M)
  | astore n =>
    delta am_step at h
    dsimp only at h
    split at h
    all_goals first | (cases h; done) | (obtain ⟨_, h⟩ := bm_ite h; cases h; exact fr_refl M)
  | monitorenter =>
    delta am_step at h
    dsimp only at h
    split at h
    all_goals first | (cases h; done) | (obtain ⟨_, h⟩ := bm_ite h; cases h; exact fr_refl M)
  | checkcast k =>
    delta am_step at h
    dsimp only at h
    split at h
    all_goals first | (cases h; done) | (obtain ⟨_, h⟩ := bm_ite h; cases h; exact fr_refl M)
  | iaload =>
    delta am_step at h
    dsimp only at h
    split at h
    all_goals first | (cases h; done) | (obtain ⟨_, h⟩ := bm_ite h; cases h; exact fr_refl M)
  | laload =>
    delta am_step at h
    dsimp only at h
    split at h
    all_goals first | (cases h; done) | (obtain ⟨_, h⟩ := bm_ite h; cases h; exact fr_refl M)
  | baload =>
    delta am_step at h
    dsimp only at h
    split at h
    all_goals first | (cases h; done) | (obtain ⟨_, h⟩ := bm_ite h; cases h; exact fr_refl M)
  | aaload =>
    delta am_step at h
    dsimp only at h
    split at h
    all_goals first | (cases h; done) | (obtain ⟨_, h⟩ := bm_ite h; cases h; exact fr_refl M)
  | iastore =>
    delta am_step at h
    dsimp only at h
    split at h
    · obtain ⟨hc, h⟩ := bm_ite h
      cases h
      exact fr_wI _ _ hc.1
    · cases h
  | lastore =>
    delta am_step at h
    dsimp only at h
    split at h
    · obtain ⟨hc, h⟩ := bm_ite h
      cases h
      exact fr_wL _ _ hc.1
    · cases h
  | aastore =>
    delta am_step at h
    dsimp only at h
    split at h
    · obtain ⟨hc, h⟩ := bm_ite h
      cases h
      exact fr_wA _ _ hc.1
    · cases h
  | idiv =>
    delta am_step at h
    dsimp only at h
    split at h
    all_goals first | (cases h; done) | (obtain ⟨_, h⟩ := bm_iten h; cases h; exact fr_refl M)
  | irem =>
    delta am_step at h
    dsimp only at h
    split at h
    all_goals first | (cases h; done) | (obtain ⟨_, h⟩ := bm_iten h; cases h; exact fr_refl M)
  | ldiv =>
    delta am_step at h
    dsimp only at h
    split at h
    all_goals first | (cases h; done) | (obtain ⟨_, h⟩ := bm_iten h; cases h; exact fr_refl M)
  | ldc k =>
    delta am_step at h
    dsimp only at h
    obtain ⟨_, h⟩ := bm_ite h
    cases h
    exact fr_refl M
  | getfield f =>
    delta am_step at h
    dsimp only at h
    split at h
    · split at h
      all_goals first | (cases h; done) | (cases h; exact fr_refl M)
    · cases h
  | putfield f =>
    delta am_step at h
    dsimp only at h
    split at h
    · split at h
      · next M2 hv =>
        cases h
        exact fr_put hv
      · cases h
    · cases h
  | bastore =>
    delta am_step at h
    dsimp only at h
    split at h
    · rcases bm_iter h with ⟨hc, h⟩ | ⟨_, h⟩
      · cases h; exact fr_wI _ _ hc.1
      · obtain ⟨hc, h⟩ := bm_ite h
        cases h
        exact fr_wI _ _ hc.1
    · cases h
  | new k =>
    delta am_step at h
    dsimp only at h
    obtain ⟨_, h⟩ := bm_ite h
    cases h
    exact fr_alloc hg _ _ _
  | newarray t =>
    delta am_step at h
    dsimp only at h
    split at h
    · obtain ⟨_, h⟩ := bm_ite h
      cases h
      exact fr_alloc hg _ _ _
    · cases h
  | anewarray k =>
    delta am_step at h
    dsimp only at h
    split at h
    · obtain ⟨_, h⟩ := bm_ite h
      cases h
      exact fr_alloc hg _ _ _
    · cases h
  | iinc n c =>
    delta am_step at h
    dsimp only at h
    split at h
    · by_cases hn : n < lv.length
      · rw [if_pos hn] at h
        split at h
        all_goals (cases h; exact fr_refl M)
      · rw [if_neg hn] at h
        cases h
    · cases h
  | arraylength =>
    delta am_step at h
    dsimp only at h
    split at h
    · next i r =>
      rcases hkd : am_kd true M i with ⟨k, n⟩
      rw [hkd] at h
      obtain ⟨_, h⟩ := bm_ite h
      cases h
      exact fr_refl M
    · cases h
  | invokedynamic k =>
    delta am_step at h
    dsimp only at h
    by_cases hk : k = 0
    · rw [if_pos hk] at h
      split at h
      · obtain ⟨hc, h⟩ := bm_ite h
        cases h
        exact fr_wI _ _ hc.2.2.2.1
      · cases h
    · rw [if_neg hk] at h
      by_cases hk1 : k = 1
      · rw [if_pos hk1] at h
        split at h
        · obtain ⟨_, h⟩ := bm_ite h
          cases h
          exact fr_alloc hg _ _ _
        · cases h
      · rw [if_neg hk1] at h
        cases h
  | _ => exact absurd (show (none : am_R) = some _ from h) (by intro h; cases h)
theorem fr_exec : ∀ (f d z : Nat) (code : List Instr) (lv : am_L) (st : List Value) (M : am_M) (r : Option Value) (M' : am_M), 118 ≤ mN M → am_exec true f d z code lv st M = some (r, M') → fr M M' := by
  intro f
  induction f with
  | zero => intro d z code lv st M r M' hg h; simp [am_exec] at h
  | succ f ih =>
    intro d z code lv st M r M' hg h
    cases code with
    | nil => simp [am_exec] at h
    | cons ins rest =>
      rw [am_exec_cons] at h
      unfold am_one at h
      rcases hs : am_step true z ins lv st M with _ | ⟨jt, lv', st', M1⟩
      · rw [hs] at h
        dsimp only at h
        rcases he : am_end z ins st with _ | r1
        · rw [he] at h
          dsimp only at h
          cases d with
          | zero => simp at h
          | succ d' =>
            dsimp only at h
            rcases hc : am_call true ins st M with _ | ⟨z', as, rs⟩
            · rw [hc] at h; simp at h
            · rw [hc] at h
              dsimp only at h
              rcases hx : am_exec true f d' z' (am_blk z' 0) (am_ent z' as) [] M with _ | ⟨r1, M1⟩
              · rw [hx] at h; simp at h
              · rw [hx] at h
                dsimp only at h
                have h1 := ih _ _ _ _ _ _ _ _ hg hx
                exact fr_trans h1 (ih _ _ _ _ _ _ _ _ (Nat.le_trans hg h1.1) h)
        · rw [he] at h
          cases h
          exact fr_refl _
      · rw [hs] at h
        have h1 := fr_step hg hs
        cases jt with
        | none => exact fr_trans h1 (ih _ _ _ _ _ _ _ _ (Nat.le_trans hg h1.1) h)
        | some t => exact fr_trans h1 (ih _ _ _ _ _ _ _ _ (Nat.le_trans hg h1.1) h)
theorem fr_run {d z : Nat} {code : List Instr} {lv : am_L} {st : List Value} {M : am_M} {Q : Option Value → am_M → Prop} (hg : 118 ≤ mN M) (h : am_Run true d z code lv st M Q) : am_Run true d z code lv st M (fun r M' => Q r M' ∧ fr M M') := by
  obtain ⟨f, r, M', h1, h2⟩ := h
  exact ⟨f, r, M', h1, h2, fr_exec _ _ _ _ _ _ _ _ _ hg h1⟩
