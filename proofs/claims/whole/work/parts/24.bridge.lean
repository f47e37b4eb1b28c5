/-! from the constructors' way of reading to the way behind them -/
theorem bm_ite {P : Prop} [Decidable P] {α : Type} {a x : α} (h : (if P then some a else none) = some x) : P ∧ a = x := by
  by_cases hp : P
  · rw [if_pos hp] at h; exact ⟨hp, Option.some.inj h⟩
  · rw [if_neg hp] at h; cases h
theorem bm_iten {P : Prop} [Decidable P] {α : Type} {a x : α} (h : (if P then none else some a) = some x) : ¬ P ∧ a = x := by
  by_cases hp : P
  · rw [if_pos hp] at h; cases h
  · rw [if_neg hp] at h; exact ⟨hp, Option.some.inj h⟩
theorem bm_iter {P : Prop} [Decidable P] {α : Type} {a x : α} {o : Option α} (h : (if P then some a else o) = some x) : (P ∧ a = x) ∨ (¬ P ∧ o = some x) := by
  by_cases hp : P
  · rw [if_pos hp] at h; exact Or.inl ⟨hp, Option.some.inj h⟩
  · rw [if_neg hp] at h; exact Or.inr ⟨hp, h⟩
def bm_good (M : am_M) : Prop := 118 ≤ mN M ∧ ∀ i k, i < 118 → am_FA i k ≠ 0 → mA M i k = am_FA i k
theorem bm_up_self {α : Type} (f : Nat → α) (k : Nat) (v : α) : am_up f k v k = v := by simp [am_up]
theorem bm_up_ne {α : Type} (f : Nat → α) {k j : Nat} (v : α) (h : j ≠ k) : am_up f k v j = f j := by simp [am_up, h]
theorem bm_alloc {M : am_M} (hg : bm_good M) (k n : Nat) (fi : Nat → Int32) : bm_good (am_alloc M k n fi) := by
  refine ⟨Nat.le_succ_of_le hg.1, fun i q hi hf => ?_⟩
  show am_up (mA M) (mN M) _ i q = _
  rw [bm_up_ne _ _ (by have := hg.1; omega)]
  exact hg.2 i q hi hf
theorem bm_put {z fid i : Nat} {v : Value} {M M' : am_M} (hg : bm_good M) (h : am_put true z fid v i M = some M') : bm_good M' := by
  unfold am_put at h
  rcases hfd : am_fd fid with ⟨a, k, ty, fin⟩
  rw [hfd] at h
  dsimp only at h
  have hw : ∀ x, ¬ (true = true ∧ i < 118 ∧ am_FA i k ≠ 0) → bm_good (wA M i (am_up (mA M i) k x)) := by
    intro x hn
    refine ⟨hg.1, fun j q hj hf => ?_⟩
    show am_up (mA M) i _ j q = _
    by_cases e : j = i
    · subst e
      rw [bm_up_self]
      by_cases e2 : q = k
      · subst e2; exact absurd ⟨rfl, hj, hf⟩ hn
      · rw [bm_up_ne _ _ e2]; exact hg.2 j q hj hf
    · rw [bm_up_ne _ _ e]; exact hg.2 j q hj hf
  split at h
  · split at h
    · cases h; exact hg
    · split at h
      · cases h; exact hg
      · cases h
    · cases h; exact hg
    · obtain ⟨hn, h⟩ := bm_iten h
      cases h
      exact hw 0 hn
    · obtain ⟨hn, h⟩ := bm_iten h
      cases h
      exact hw _ hn
    · cases h
  · cases h
theorem bm_FA_arr : ∀ i, i < 118 → 14 ≤ (am_KD i).1 → ∀ k, am_FA i k = 0 := by
  have h : ∀ i, i < 118 → 14 ≤ (am_KD i).1 → am_FAT.getD i [] = [] := by decide +kernel
  intro i hi hk k
  unfold am_FA
  rw [h i hi hk]
  rfl
theorem bm_FA0 : ∀ k, am_FA 0 k = 0 := by
  intro k
  rfl
theorem bm_aast {M : am_M} {i : Nat} {f : Nat → Nat} (hg : bm_good M) (h : (am_kd true M i).1 = 24) : bm_good (wA M i f) := by
  refine ⟨hg.1, fun j q hj hf => ?_⟩
  show am_up (mA M) i _ j q = _
  by_cases e : j = i
  · subst e
    exfalso
    by_cases h0 : j = 0
    · subst h0; exact hf (bm_FA0 q)
    · unfold am_kd at h
      rw [if_neg h0, if_pos hj] at h
      have h' : (am_KD j).1 = 24 := h
      exact hf (bm_FA_arr j hj (by omega) q)
  · rw [bm_up_ne _ _ e]; exact hg.2 j q hj hf
theorem bm_kd {M : am_M} (hg : bm_good M) : am_kd false M = am_kd true M := by
  funext i
  unfold am_kd
  by_cases h0 : i = 0
  · rw [if_pos h0, if_pos h0]
  · rw [if_neg h0, if_neg h0]
    by_cases h1 : i < 118
    · have h2 : i < mN M := by have := hg.1; omega
      rw [if_pos h1, if_pos h1]
      simp [h2]
    · rw [if_neg h1, if_neg h1]
theorem bm_fv {M : am_M} (hg : bm_good M) (i k ty : Nat) : am_fv false M i k ty = am_fv true M i k ty := by
  unfold am_fv
  split
  · rfl
  · by_cases h1 : i < 118
    · simp only [Bool.false_and, Bool.false_eq_true, if_false, Bool.true_and, h1, decide_true, if_true]
      cases hf : am_FA i k with
      | zero => rfl
      | succ n =>
        have := hg.2 i k h1 (by omega)
        rw [this, hf]
        rfl
    · simp [h1]
  · rfl
theorem bm_get {M : am_M} (hg : bm_good M) (f i : Nat) : am_get false f i M = am_get true f i M := by
  unfold am_get
  rw [bm_kd hg]
  rcases am_fd f with ⟨a, k, ty, fin⟩
  dsimp only
  rw [bm_fv hg]
theorem bm_putF {z fid i : Nat} {v : Value} {M M' : am_M} (hg : bm_good M) (h : am_put true z fid v i M = some M') : am_put false z fid v i M = some M' := by
  unfold am_put at h ⊢
  rw [bm_kd hg]
  rcases hfd : am_fd fid with ⟨a, k, ty, fin⟩
  rw [hfd] at h
  dsimp only at h ⊢
  split at h
  · next hc =>
    rw [if_pos hc]
    split at h
    · exact h
    · exact h
    · exact h
    · obtain ⟨hn, h⟩ := bm_iten h
      rw [if_neg (by rintro ⟨q, -⟩; cases q)]
      exact congrArg some h
    · obtain ⟨hn, h⟩ := bm_iten h
      rw [if_neg (by rintro ⟨q, -⟩; cases q)]
      exact congrArg some h
    · cases h
  · cases h
theorem bm_step_good {z : Nat} {ins : Instr} {lv lv' : am_L} {st st' : List Value} {M M' : am_M} {jt : Option Nat} (hg : bm_good M) (h : am_step true z ins lv st M = some (jt, lv', st', M')) : bm_good M' := by
  cases ins with
  | iconst v =>
    delta am_step at h
    dsimp only at h
    split at h
    all_goals (cases h; exact hg)
  | jsr v =>
    delta am_step at h
    dsimp only at h
    split at h
    all_goals (cases h; exact hg)
  | aconst_null =>
    delta am_step at h
    dsimp only at h
    cases h
    exact hg
  | goto t =>
    delta am_step at h
    dsimp only at h
    cases h
    exact hg
  | jsr_w t =>
    delta am_step at h
    dsimp only at h
    cases h
    exact hg
  | goto_w t =>
    delta am_step at h
    dsimp only at h
    cases h
    exact hg
  | ret t =>
    delta am_step at h
    dsimp only at h
    cases h
    exact hg
  | iload n =>
    delta am_step at h
    dsimp only at h
    split at h
    all_goals first | (cases h; done) | (cases h; exact hg)
  | lload n =>
    delta am_step at h
    dsimp only at h
    split at h
    all_goals first | (cases h; done) | (cases h; exact hg)
  | aload n =>
    delta am_step at h
    dsimp only at h
    split at h
    all_goals first | (cases h; done) | (cases h; exact hg)
  | iadd =>
    delta am_step at h
    dsimp only at h
    split at h
    all_goals first | (cases h; done) | (cases h; exact hg)
  | isub =>
    delta am_step at h
    dsimp only at h
    split at h
    all_goals first | (cases h; done) | (cases h; exact hg)
  | imul =>
    delta am_step at h
    dsimp only at h
    split at h
    all_goals first | (cases h; done) | (cases h; exact hg)
  | iand =>
    delta am_step at h
    dsimp only at h
    split at h
    all_goals first | (cases h; done) | (cases h; exact hg)
  | ior =>
    delta am_step at h
    dsimp only at h
    split at h
    all_goals first | (cases h; done) | (cases h; exact hg)
  | ixor =>
    delta am_step at h
    dsimp only at h
    split at h
    all_goals first | (cases h; done) | (cases h; exact hg)
  | ineg =>
    delta am_step at h
    dsimp only at h
    split at h
    all_goals first | (cases h; done) | (cases h; exact hg)
  | ishl =>
    delta am_step at h
    dsimp only at h
    split at h
    all_goals first | (cases h; done) | (cases h; exact hg)
  | ishr =>
    delta am_step at h
    dsimp only at h
    split at h
    all_goals first | (cases h; done) | (cases h; exact hg)
  | iushr =>
    delta am_step at h
    dsimp only at h
    split at h
    all_goals first | (cases h; done) | (cases h; exact hg)
  | i2l =>
    delta am_step at h
    dsimp only at h
    split at h
    all_goals first | (cases h; done) | (cases h; exact hg)
  | l2i =>
    delta am_step at h
    dsimp only at h
    split at h
    all_goals first | (cases h; done) | (cases h; exact hg)
  | i2b =>
    delta am_step at h
    dsimp only at h
    split at h
    all_goals first | (cases h; done) | (cases h; exact hg)
  | i2c =>
    delta am_step at h
    dsimp only at h
    split at h
    all_goals first | (cases h; done) | (cases h; exact hg)
  | ladd =>
    delta am_step at h
    dsimp only at h
    split at h
    all_goals first | (cases h; done) | (cases h; exact hg)
  | lsub =>
    delta am_step at h
    dsimp only at h
    split at h
    all_goals first | (cases h; done) | (cases h; exact hg)
  | lmul =>
    delta am_step at h
    dsimp only at h
    split at h
    all_goals first | (cases h; done) | (cases h; exact hg)
  | land =>
    delta am_step at h
    dsimp only at h
    split at h
    all_goals first | (cases h; done) | (cases h; exact hg)
  | lor =>
    delta am_step at h
    dsimp only at h
    split at h
    all_goals first | (cases h; done) | (cases h; exact hg)
  | lxor =>
    delta am_step at h
    dsimp only at h
    split at h
    all_goals first | (cases h; done) | (cases h; exact hg)
  | lshl =>
    delta am_step at h
    dsimp only at h
    split at h
    all_goals first | (cases h; done) | (cases h; exact hg)
  | lushr =>
    delta am_step at h
    dsimp only at h
    split at h
    all_goals first | (cases h; done) | (cases h; exact hg)
  | lcmp =>
    delta am_step at h
    dsimp only at h
    split at h
    all_goals first | (cases h; done) | (cases h; exact hg)
  | dup =>
    delta am_step at h
    dsimp only at h
    split at h
    all_goals first | (cases h; done) | (cases h; exact hg)
  | dup2 =>
    delta am_step at h
    dsimp only at h
    split at h
    all_goals first | (cases h; done) | (cases h; exact hg)
  | pop =>
    delta am_step at h
    dsimp only at h
    split at h
    all_goals first | (cases h; done) | (cases h; exact hg)
  | getstatic k =>
    delta am_step at h
    dsimp only at h
    split at h
    all_goals first | (cases h; done) | (cases h; exact hg)
  | ifCond c t =>
    delta am_step at h
    dsimp only at h
    split at h
    all_goals first | (cases h; done) | (cases h; exact hg)
  | if_icmp c t =>
    delta am_step at h
    dsimp only at h
    split at h
    all_goals first | (cases h; done) | (cases h; exact hg)
  | ifnull t =>
    delta am_step at h
    dsimp only at h
    split at h
    all_goals first | (cases h; done) | (cases h; exact hg)
  | ifnonnull t =>
    delta am_step at h
    dsimp only at h
    split at h
    all_goals first | (cases h; done) | (cases h; exact hg)
  | tableswitch d lo hi o =>
    delta am_step at h
    dsimp only at h
    split at h
    all_goals first | (cases h; done) | (cases h; exact hg)
  | lookupswitch d ps =>
    delta am_step at h
    dsimp only at h
    split at h
    all_goals first | (cases h; done) | (cases h; exact hg)
  | istore n =>
    delta am_step at h
    dsimp only at h
    split at h
    all_goals first | (cases h; done) | (obtain ⟨_, h⟩ := bm_ite h; cases h; exact hg)
  | lstore n =>
    delta am_step at h
    dsimp only at h
    split at h
    all_goals first | (cases h; done) | (obtain ⟨_, h⟩ := bm_ite h; cases h; exact hg)
  | astore n =>
    delta am_step at h
    dsimp only at h
    split at h
    all_goals first | (cases h; done) | (obtain ⟨_, h⟩ := bm_ite h; cases h; exact hg)
  | monitorenter =>
    delta am_step at h
    dsimp only at h
    split at h
    all_goals first | (cases h; done) | (obtain ⟨_, h⟩ := bm_ite h; cases h; exact hg)
  | checkcast k =>
    delta am_step at h
    dsimp only at h
    split at h
    all_goals first | (cases h; done) | (obtain ⟨_, h⟩ := bm_ite h; cases h; exact hg)
  | iaload =>
    delta am_step at h
    dsimp only at h
    split at h
    all_goals first | (cases h; done) | (obtain ⟨_, h⟩ := bm_ite h; cases h; exact hg)
  | laload =>
    delta am_step at h
    dsimp only at h
    split at h
    all_goals first | (cases h; done) | (obtain ⟨_, h⟩ := bm_ite h; cases h; exact hg)
  | baload =>
    delta am_step at h
    dsimp only at h
    split at h
    all_goals first | (cases h; done) | (obtain ⟨_, h⟩ := bm_ite h; cases h; exact hg)
  | aaload =>
    delta am_step at h
    dsimp only at h
    split at h
    all_goals first | (cases h; done) | (obtain ⟨_, h⟩ := bm_ite h; cases h; exact hg)
  | iastore =>
    delta am_step at h
    dsimp only at h
    split at h
    all_goals first | (cases h; done) | (obtain ⟨_, h⟩ := bm_ite h; cases h; exact hg)
  | lastore =>
    delta am_step at h
    dsimp only at h
    split at h
    all_goals first | (cases h; done) | (obtain ⟨_, h⟩ := bm_ite h; cases h; exact hg)
  | idiv =>
    delta am_step at h
    dsimp only at h
    split at h
    all_goals first | (cases h; done) | (obtain ⟨_, h⟩ := bm_iten h; cases h; exact hg)
  | irem =>
    delta am_step at h
    dsimp only at h
    split at h
    all_goals first | (cases h; done) | (obtain ⟨_, h⟩ := bm_iten h; cases h; exact hg)
  | ldiv =>
    delta am_step at h
    dsimp only at h
    split at h
    all_goals first | (cases h; done) | (obtain ⟨_, h⟩ := bm_iten h; cases h; exact hg)
  | ldc k =>
    delta am_step at h
    dsimp only at h
    obtain ⟨_, h⟩ := bm_ite h
    cases h
    exact hg
  | getfield f =>
    delta am_step at h
    dsimp only at h
    split at h
    · split at h
      all_goals first | (cases h; done) | (cases h; exact hg)
    · cases h
  | putfield f =>
    delta am_step at h
    dsimp only at h
    split at h
    · split at h
      · next M2 hv =>
        cases h
        exact bm_put hg hv
      · cases h
    · cases h
  | bastore =>
    delta am_step at h
    dsimp only at h
    split at h
    · rcases bm_iter h with ⟨_, h⟩ | ⟨_, h⟩
      · cases h; exact hg
      · obtain ⟨_, h⟩ := bm_ite h
        cases h
        exact hg
    · cases h
  | aastore =>
    delta am_step at h
    dsimp only at h
    split at h
    · obtain ⟨hc, h⟩ := bm_ite h
      cases h
      exact bm_aast hg hc.2.1
    · cases h
  | new k =>
    delta am_step at h
    dsimp only at h
    obtain ⟨_, h⟩ := bm_ite h
    cases h
    exact bm_alloc hg _ _ _
  | newarray t =>
    delta am_step at h
    dsimp only at h
    split at h
    · obtain ⟨_, h⟩ := bm_ite h
      cases h
      exact bm_alloc hg _ _ _
    · cases h
  | anewarray k =>
    delta am_step at h
    dsimp only at h
    split at h
    · obtain ⟨_, h⟩ := bm_ite h
      cases h
      exact bm_alloc hg _ _ _
    · cases h
  | iinc n c =>
    delta am_step at h
    dsimp only at h
    split at h
    · by_cases hn : n < lv.length
      · rw [if_pos hn] at h
        split at h
        all_goals (cases h; exact hg)
      · rw [if_neg hn] at h
        cases h
    · cases h
  | arraylength =>
    delta am_step at h
    dsimp only at h
    split at h
    · next i r =>
      rcases hkd : am_kd true M i with ⟨k, n⟩
      rw [hkd] at h
      obtain ⟨_, h⟩ := bm_ite h
      cases h
      exact hg
    · cases h
  | invokedynamic k =>
    delta am_step at h
    dsimp only at h
    by_cases hk : k = 0
    · rw [if_pos hk] at h
      split at h
      · obtain ⟨_, h⟩ := bm_ite h
        cases h
        exact hg
      · cases h
    · rw [if_neg hk] at h
      by_cases hk1 : k = 1
      · rw [if_pos hk1] at h
        split at h
        · obtain ⟨_, h⟩ := bm_ite h
          cases h
          exact bm_alloc hg _ _ _
        · cases h
      · rw [if_neg hk1] at h
        cases h
  | _ => exact absurd (show (none : am_R) = some _ from h) (by intro h; cases h)
theorem bm_or {M : am_M} {k n : Nat} (hg : bm_good M) (b : Bool) : (118 ≤ mN M ∨ (b = false ∧ am_KD (mN M) = (k, n))) ↔ True := ⟨fun _ => trivial, fun _ => Or.inl hg.1⟩
theorem bm_step {z : Nat} {ins : Instr} {lv : am_L} {st : List Value} {M : am_M} {y : Option Nat × am_L × List Value × am_M} (hg : bm_good M) (h : am_step true z ins lv st M = some y) : am_step false z ins lv st M = some y := by
  cases ins with
  | checkcast k =>
    delta am_step at h ⊢
    dsimp only at h ⊢
    rw [bm_kd hg]
    exact h
  | arraylength =>
    delta am_step at h ⊢
    dsimp only at h ⊢
    rw [bm_kd hg]
    exact h
  | iaload =>
    delta am_step at h ⊢
    dsimp only at h ⊢
    rw [bm_kd hg]
    exact h
  | laload =>
    delta am_step at h ⊢
    dsimp only at h ⊢
    rw [bm_kd hg]
    exact h
  | baload =>
    delta am_step at h ⊢
    dsimp only at h ⊢
    rw [bm_kd hg]
    exact h
  | aaload =>
    delta am_step at h ⊢
    dsimp only at h ⊢
    rw [bm_kd hg]
    exact h
  | iastore =>
    delta am_step at h ⊢
    dsimp only at h ⊢
    rw [bm_kd hg]
    exact h
  | bastore =>
    delta am_step at h ⊢
    dsimp only at h ⊢
    rw [bm_kd hg]
    exact h
  | lastore =>
    delta am_step at h ⊢
    dsimp only at h ⊢
    rw [bm_kd hg]
    exact h
  | aastore =>
    delta am_step at h ⊢
    dsimp only at h ⊢
    rw [bm_kd hg]
    exact h
  | invokedynamic k =>
    delta am_step at h ⊢
    dsimp only at h ⊢
    rw [bm_kd hg]
    exact h
  | getfield f =>
    delta am_step at h ⊢
    dsimp only at h ⊢
    split at h
    · next i r => rw [bm_get hg]; exact h
    · cases h
  | putfield f =>
    delta am_step at h ⊢
    dsimp only at h ⊢
    split at h
    · next v i r =>
      split at h
      · next M2 hv => rw [bm_putF hg hv]; exact h
      · cases h
    · cases h
  | new k =>
    delta am_step at h ⊢
    dsimp only at h ⊢
    obtain ⟨hc, h⟩ := bm_ite h
    rw [if_pos ⟨hc.1, Or.inl hg.1⟩]
    exact congrArg some h
  | newarray t =>
    delta am_step at h ⊢
    dsimp only at h ⊢
    split at h
    · obtain ⟨hc, h⟩ := bm_ite h
      rw [if_pos ⟨hc.1, hc.2.1, hc.2.2.1, Or.inl hg.1⟩]
      exact congrArg some h
    · cases h
  | anewarray k =>
    delta am_step at h ⊢
    dsimp only at h ⊢
    split at h
    · obtain ⟨hc, h⟩ := bm_ite h
      rw [if_pos ⟨hc.1, hc.2.1, hc.2.2.1, Or.inl hg.1⟩]
      exact congrArg some h
    · cases h
  | _ => exact h
theorem bm_call {ins : Instr} {st : List Value} {M : am_M} (hg : bm_good M) : am_call false ins st M = am_call true ins st M := by
  have hr : ∀ z as, am_rcvB false z M as = am_rcvB true z M as := by
    intro z as
    unfold am_rcvB
    rw [bm_kd hg]
  unfold am_call
  simp only [hr]
theorem bm_none_end {z : Nat} {ins : Instr} {lv : am_L} {st : List Value} {M : am_M} {r : Option Value} (h : am_end z ins st = some r) : am_step false z ins lv st M = none := by
  unfold am_end at h
  split at h
  · rfl
  · rfl
  · rfl
  · rfl
  · cases h
theorem bm_none_call {b : Bool} {z : Nat} {ins : Instr} {lv : am_L} {st : List Value} {M : am_M} {q : Nat × List Value × List Value} (h : am_call b ins st M = some q) : am_step false z ins lv st M = none := by
  unfold am_call at h
  split at h
  · rfl
  · rfl
  · rfl
  · cases h
theorem bm_exec : ∀ (f d z : Nat) (code : List Instr) (lv : am_L) (st : List Value) (M : am_M) (r : Option Value) (M' : am_M), bm_good M → am_exec true f d z code lv st M = some (r, M') → am_exec false f d z code lv st M = some (r, M') ∧ bm_good M' := by
  intro f
  induction f with
  | zero => intro d z code lv st M r M' hg h; simp [am_exec] at h
  | succ f ih =>
    intro d z code lv st M r M' hg h
    cases code with
    | nil => simp [am_exec] at h
    | cons ins rest =>
      rw [am_exec_cons] at h ⊢
      unfold am_one at h ⊢
      rcases hs : am_step true z ins lv st M with _ | ⟨jt, lv', st', M1⟩
      · rw [hs] at h
        dsimp only at h
        rcases he : am_end z ins st with _ | r1
        · rw [he] at h
          dsimp only at h
          cases d with
          | zero => simp at h
          | succ d' =>
            dsimp only at h
            rcases hc : am_call true ins st M with _ | ⟨z', as, rs⟩
            · rw [hc] at h; simp at h
            · rw [hc] at h
              dsimp only at h
              rcases hx : am_exec true f d' z' (am_blk z' 0) (am_ent z' as) [] M with _ | ⟨r1, M1⟩
              · rw [hx] at h; simp at h
              · rw [hx] at h
                dsimp only at h
                obtain ⟨h1, g1⟩ := ih _ _ _ _ _ _ _ _ hg hx
                obtain ⟨h2, g2⟩ := ih _ _ _ _ _ _ _ _ g1 h
                rw [bm_none_call hc]
                dsimp only
                rw [bm_call hg, hc]
                dsimp only
                rw [h1]
                exact ⟨h2, g2⟩
        · rw [he] at h
          cases h
          rw [bm_none_end he]
          exact ⟨rfl, hg⟩
      · rw [hs] at h
        have g1 := bm_step_good hg hs
        rw [bm_step hg hs]
        cases jt with
        | none => exact ih _ _ _ _ _ _ _ _ g1 h
        | some t => exact ih _ _ _ _ _ _ _ _ g1 h
theorem bm_run {d z : Nat} {code : List Instr} {lv : am_L} {st : List Value} {M : am_M} {Q : Option Value → am_M → Prop} (hg : bm_good M) (h : am_Run true d z code lv st M Q) : am_Run false d z code lv st M Q := by
  obtain ⟨f, r, M', h1, h2⟩ := h
  exact ⟨f, r, M', (bm_exec _ _ _ _ _ _ _ _ _ hg h1).1, h2⟩
