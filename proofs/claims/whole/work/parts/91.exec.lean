/-! runs of the abstract machine are runs of the machine -/
theorem am_step_le {b : Bool} {z : Nat} {ins : Instr} {lv lv' : am_L} {st st' : List Value} {M M' : am_M} {jt : Option Nat} (h : am_step b z ins lv st M = some (jt, lv', st', M')) : mN M ≤ mN M' ∧ mS M ≤ mS M' := by
  cases ins with
  | iconst v =>
    delta am_step at h
    dsimp only at h
    split at h
    all_goals (cases h; exact ⟨Nat.le_refl _, Nat.le_refl _⟩)
  | jsr v =>
    delta am_step at h
    dsimp only at h
    split at h
    all_goals (cases h; exact ⟨Nat.le_refl _, Nat.le_refl _⟩)
  | aconst_null =>
    delta am_step at h
    dsimp only at h
    cases h
    exact ⟨Nat.le_refl _, Nat.le_refl _⟩
  | goto t =>
    delta am_step at h
    dsimp only at h
    cases h
    exact ⟨Nat.le_refl _, Nat.le_refl _⟩
  | jsr_w t =>
    delta am_step at h
    dsimp only at h
    cases h
    exact ⟨Nat.le_refl _, Nat.le_refl _⟩
  | goto_w t =>
    delta am_step at h
    dsimp only at h
    cases h
    exact ⟨Nat.le_refl _, Nat.le_refl _⟩
  | ret t =>
    delta am_step at h
    dsimp only at h
    cases h
    exact ⟨Nat.le_refl _, Nat.le_refl _⟩
  | iload n =>
    delta am_step at h
    dsimp only at h
    split at h
    all_goals first | (cases h; done) | (cases h; exact ⟨Nat.le_refl _, Nat.le_refl _⟩)
  | lload n =>
    delta am_step at h
    dsimp only at h
    split at h
    all_goals first | (cases h; done) | (cases h; exact ⟨Nat.le_refl _, Nat.le_refl _⟩)
  | aload n =>
    delta am_step at h
    dsimp only at h
    split at h
    all_goals first | (cases h; done) | (cases h; exact ⟨Nat.le_refl _, Nat.le_refl _⟩)
  | iadd =>
    delta am_step at h
    dsimp only at h
    split at h
    all_goals first | (cases h; done) | (cases h; exact ⟨Nat.le_refl _, Nat.le_refl _⟩)
  | isub =>
    delta am_step at h
    dsimp only at h
    split at h
    all_goals first | (cases h; done) | (cases h; exact ⟨Nat.le_refl _, Nat.le_refl _⟩)
  | imul =>
    delta am_step at h
    dsimp only at h
    split at h
    all_goals first | (cases h; done) | (cases h; exact ⟨Nat.le_refl _, Nat.le_refl _⟩)
  | iand =>
    delta am_step at h
    dsimp only at h
    split at h
    all_goals first | (cases h; done) | (cases h; exact ⟨Nat.le_refl _, Nat.le_refl _⟩)
  | ior =>
    delta am_step at h
    dsimp only at h
    split at h
    all_goals first | (cases h; done) | (cases h; exact ⟨Nat.le_refl _, Nat.le_refl _⟩)
  | ixor =>
    delta am_step at h
    dsimp only at h
    split at h
    all_goals first | (cases h; done) | (cases h; exact ⟨Nat.le_refl _, Nat.le_refl _⟩)
  | ineg =>
    delta am_step at h
    dsimp only at h
    split at h
    all_goals first | (cases h; done) | (cases h; exact ⟨Nat.le_refl _, Nat.le_refl _⟩)
  | ishl =>
    delta am_step at h
    dsimp only at h
    split at h
    all_goals first | (cases h; done) | (cases h; exact ⟨Nat.le_refl _, Nat.le_refl _⟩)
  | ishr =>
    delta am_step at h
    dsimp only at h
    split at h
    all_goals first | (cases h; done) | (cases h; exact ⟨Nat.le_refl _, Nat.le_refl _⟩)
  | iushr =>
    delta am_step at h
    dsimp only at h
    split at h
    all_goals first | (cases h; done) | (cases h; exact ⟨Nat.le_refl _, Nat.le_refl _⟩)
  | i2l =>
    delta am_step at h
    dsimp only at h
    split at h
    all_goals first | (cases h; done) | (cases h; exact ⟨Nat.le_refl _, Nat.le_refl _⟩)
  | l2i =>
    delta am_step at h
    dsimp only at h
    split at h
    all_goals first | (cases h; done) | (cases h; exact ⟨Nat.le_refl _, Nat.le_refl _⟩)
  | i2b =>
    delta am_step at h
    dsimp only at h
    split at h
    all_goals first | (cases h; done) | (cases h; exact ⟨Nat.le_refl _, Nat.le_refl _⟩)
  | i2c =>
    delta am_step at h
    dsimp only at h
    split at h
    all_goals first | (cases h; done) | (cases h; exact ⟨Nat.le_refl _, Nat.le_refl _⟩)
  | ladd =>
    delta am_step at h
    dsimp only at h
    split at h
    all_goals first | (cases h; done) | (cases h; exact ⟨Nat.le_refl _, Nat.le_refl _⟩)
  | lsub =>
    delta am_step at h
    dsimp only at h
    split at h
    all_goals first | (cases h; done) | (cases h; exact ⟨Nat.le_refl _, Nat.le_refl _⟩)
  | lmul =>
    delta am_step at h
    dsimp only at h
    split at h
    all_goals first | (cases h; done) | (cases h; exact ⟨Nat.le_refl _, Nat.le_refl _⟩)
  | land =>
    delta am_step at h
    dsimp only at h
    split at h
    all_goals first | (cases h; done) | (cases h; exact ⟨Nat.le_refl _, Nat.le_refl _⟩)
  | lor =>
    delta am_step at h
    dsimp only at h
    split at h
    all_goals first | (cases h; done) | (cases h; exact ⟨Nat.le_refl _, Nat.le_refl _⟩)
  | lxor =>
    delta am_step at h
    dsimp only at h
    split at h
    all_goals first | (cases h; done) | (cases h; exact ⟨Nat.le_refl _, Nat.le_refl _⟩)
  | lshl =>
    delta am_step at h
    dsimp only at h
    split at h
    all_goals first | (cases h; done) | (cases h; exact ⟨Nat.le_refl _, Nat.le_refl _⟩)
  | lushr =>
    delta am_step at h
    dsimp only at h
    split at h
    all_goals first | (cases h; done) | (cases h; exact ⟨Nat.le_refl _, Nat.le_refl _⟩)
  | lcmp =>
    delta am_step at h
    dsimp only at h
    split at h
    all_goals first | (cases h; done) | (cases h; exact ⟨Nat.le_refl _, Nat.le_refl _⟩)
  | dup =>
    delta am_step at h
    dsimp only at h
    split at h
    all_goals first | (cases h; done) | (cases h; exact ⟨Nat.le_refl _, Nat.le_refl _⟩)
  | dup2 =>
    delta am_step at h
    dsimp only at h
    split at h
    all_goals first | (cases h; done) | (cases h; exact ⟨Nat.le_refl _, Nat.le_refl _⟩)
  | pop =>
    delta am_step at h
    dsimp only at h
    split at h
    all_goals first | (cases h; done) | (cases h; exact ⟨Nat.le_refl _, Nat.le_refl _⟩)
  | getstatic k =>
    delta am_step at h
    dsimp only at h
    split at h
    all_goals first | (cases h; done) | (cases h; exact ⟨Nat.le_refl _, Nat.le_refl _⟩)
  | ifCond c t =>
    delta am_step at h
    dsimp only at h
    split at h
    all_goals first | (cases h; done) | (cases h; exact ⟨Nat.le_refl _, Nat.le_refl _⟩)
  | if_icmp c t =>
    delta am_step at h
    dsimp only at h
    split at h
    all_goals first | (cases h; done) | (cases h; exact ⟨Nat.le_refl _, Nat.le_refl _⟩)
  | ifnull t =>
    delta am_step at h
    dsimp only at h
    split at h
    all_goals first | (cases h; done) | (cases h; exact ⟨Nat.le_refl _, Nat.le_refl _⟩)
  | ifnonnull t =>
    delta am_step at h
    dsimp only at h
    split at h
    all_goals first | (cases h; done) | (cases h; exact ⟨Nat.le_refl _, Nat.le_refl _⟩)
  | tableswitch d lo hi o =>
    delta am_step at h
    dsimp only at h
    split at h
    all_goals first | (cases h; done) | (cases h; exact ⟨Nat.le_refl _, Nat.le_refl _⟩)
  | lookupswitch d ps =>
    delta am_step at h
    dsimp only at h
    split at h
    all_goals first | (cases h; done) | (cases h; exact ⟨Nat.le_refl _, Nat.le_refl _⟩)
  | istore n =>
    delta am_step at h
    dsimp only at h
    split at h
    all_goals first | (cases h; done) | (obtain ⟨_, h⟩ := am_ite h; cases h; exact ⟨Nat.le_refl _, Nat.le_refl _⟩)
  | lstore n =>
    delta am_step at h
    dsimp only at h
    split at h
    all_goals first | (cases h; done) | (obtain ⟨_, h⟩ := am_ite h; cases h; exact ⟨Nat.le_refl _, Nat.le_refl _⟩)
  | astore n =>
    delta am_step at h
    dsimp only at h
    split at h
    all_goals first | (cases h; done) | (obtain ⟨_, h⟩ := am_ite h; cases h; exact ⟨Nat.le_refl _, Nat.le_refl _⟩)
  | iinc n c =>
    delta am_step at h
    dsimp only at h
    split at h
    · by_cases hn : n < lv.length
      · rw [if_pos hn] at h
        split at h
        all_goals (cases h; exact ⟨Nat.le_refl _, Nat.le_refl _⟩)
      · rw [if_neg hn] at h
        cases h
    · cases h
  | monitorenter =>
    delta am_step at h
    dsimp only at h
    split at h
    all_goals first | (cases h; done) | (obtain ⟨_, h⟩ := am_ite h; cases h; exact ⟨Nat.le_refl _, Nat.le_refl _⟩)
  | checkcast k =>
    delta am_step at h
    dsimp only at h
    split at h
    all_goals first | (cases h; done) | (obtain ⟨_, h⟩ := am_ite h; cases h; exact ⟨Nat.le_refl _, Nat.le_refl _⟩)
  | arraylength =>
    delta am_step at h
    dsimp only at h
    split at h
    · next i r =>
      rcases hkd : am_kd b M i with ⟨k, n⟩
      rw [hkd] at h
      obtain ⟨_, h⟩ := am_ite h
      cases h
      exact ⟨Nat.le_refl _, Nat.le_refl _⟩
    · cases h
  | iaload =>
    delta am_step at h
    dsimp only at h
    split at h
    all_goals first | (cases h; done) | (obtain ⟨_, h⟩ := am_ite h; cases h; exact ⟨Nat.le_refl _, Nat.le_refl _⟩)
  | laload =>
    delta am_step at h
    dsimp only at h
    split at h
    all_goals first | (cases h; done) | (obtain ⟨_, h⟩ := am_ite h; cases h; exact ⟨Nat.le_refl _, Nat.le_refl _⟩)
  | baload =>
    delta am_step at h
    dsimp only at h
    split at h
    all_goals first | (cases h; done) | (obtain ⟨_, h⟩ := am_ite h; cases h; exact ⟨Nat.le_refl _, Nat.le_refl _⟩)
  | aaload =>
    delta am_step at h
    dsimp only at h
    split at h
    all_goals first | (cases h; done) | (obtain ⟨_, h⟩ := am_ite h; cases h; exact ⟨Nat.le_refl _, Nat.le_refl _⟩)
  | iastore =>
    delta am_step at h
    dsimp only at h
    split at h
    all_goals first | (cases h; done) | (obtain ⟨_, h⟩ := am_ite h; cases h; exact ⟨Nat.le_refl _, Nat.le_refl _⟩)
  | lastore =>
    delta am_step at h
    dsimp only at h
    split at h
    all_goals first | (cases h; done) | (obtain ⟨_, h⟩ := am_ite h; cases h; exact ⟨Nat.le_refl _, Nat.le_refl _⟩)
  | aastore =>
    delta am_step at h
    dsimp only at h
    split at h
    all_goals first | (cases h; done) | (obtain ⟨_, h⟩ := am_ite h; cases h; exact ⟨Nat.le_refl _, Nat.le_refl _⟩)
  | idiv =>
    delta am_step at h
    dsimp only at h
    split at h
    all_goals first | (cases h; done) | (obtain ⟨_, h⟩ := am_iten h; cases h; exact ⟨Nat.le_refl _, Nat.le_refl _⟩)
  | irem =>
    delta am_step at h
    dsimp only at h
    split at h
    all_goals first | (cases h; done) | (obtain ⟨_, h⟩ := am_iten h; cases h; exact ⟨Nat.le_refl _, Nat.le_refl _⟩)
  | ldiv =>
    delta am_step at h
    dsimp only at h
    split at h
    all_goals first | (cases h; done) | (obtain ⟨_, h⟩ := am_iten h; cases h; exact ⟨Nat.le_refl _, Nat.le_refl _⟩)
  | ldc k =>
    delta am_step at h
    dsimp only at h
    obtain ⟨_, h⟩ := am_ite h
    cases h
    exact ⟨Nat.le_refl _, Nat.le_refl _⟩
  | getfield f =>
    delta am_step at h
    dsimp only at h
    split at h
    · split at h
      all_goals first | (cases h; done) | (cases h; exact ⟨Nat.le_refl _, Nat.le_refl _⟩)
    · cases h
  | putfield f =>
    delta am_step at h
    dsimp only at h
    split at h
    · split at h
      · next M2 hv =>
        cases h
        have q := am_put_N hv
        exact ⟨Nat.le_of_eq q.1.symm, Nat.le_of_eq q.2.symm⟩
      · cases h
    · cases h
  | bastore =>
    delta am_step at h
    dsimp only at h
    split at h
    · rcases am_iter h with ⟨_, h⟩ | ⟨_, h⟩
      · cases h; exact ⟨Nat.le_refl _, Nat.le_refl _⟩
      · obtain ⟨_, h⟩ := am_ite h
        cases h
        exact ⟨Nat.le_refl _, Nat.le_refl _⟩
    · cases h
  | new k =>
    delta am_step at h
    dsimp only at h
    obtain ⟨_, h⟩ := am_ite h
    cases h
    exact ⟨Nat.le_succ _, Nat.le_add_right _ _⟩
  | newarray t =>
    delta am_step at h
    dsimp only at h
    split at h
    · obtain ⟨_, h⟩ := am_ite h
      cases h
      exact ⟨Nat.le_succ _, Nat.le_add_right _ _⟩
    · cases h
  | anewarray k =>
    delta am_step at h
    dsimp only at h
    split at h
    · obtain ⟨_, h⟩ := am_ite h
      cases h
      exact ⟨Nat.le_succ _, Nat.le_add_right _ _⟩
    · cases h
  | invokedynamic k =>
    delta am_step at h
    dsimp only at h
    by_cases hk : k = 0
    · rw [if_pos hk] at h
      split at h
      · obtain ⟨_, h⟩ := am_ite h
        cases h
        exact ⟨Nat.le_refl _, Nat.le_refl _⟩
      · cases h
    · rw [if_neg hk] at h
      by_cases hk1 : k = 1
      · rw [if_pos hk1] at h
        split at h
        · obtain ⟨_, h⟩ := am_ite h
          cases h
          exact ⟨Nat.le_succ _, Nat.le_add_right _ _⟩
        · cases h
      · rw [if_neg hk1] at h
        cases h
  | _ => exact absurd (show (none : am_R) = some _ from h) (by intro h; cases h)
theorem am_exec_le {b : Bool} : ∀ (f d z : Nat) (code : List Instr) (lv : am_L) (st : List Value) (M : am_M) (r : Option Value) (M' : am_M), am_exec b f d z code lv st M = some (r, M') → mN M ≤ mN M' ∧ mS M ≤ mS M' := by
  intro f
  induction f with
  | zero => intro d z code lv st M r M' h; simp [am_exec] at h
  | succ f ih =>
    intro d z code lv st M r M' h
    cases code with
    | nil => simp [am_exec] at h
    | cons ins rest =>
      rw [am_exec_cons] at h
      unfold am_one at h
      rcases hs : am_step b z ins lv st M with _ | ⟨_ | t, lv', st', M1⟩
      · rw [hs] at h
        dsimp only at h
        rcases he : am_end z ins st with _ | r1
        · rw [he] at h
          dsimp only at h
          cases d with
          | zero => simp at h
          | succ d' =>
            dsimp only at h
            rcases hc : am_call b ins st M with _ | ⟨z', as, rs⟩
            · rw [hc] at h; simp at h
            · rw [hc] at h
              dsimp only at h
              rcases hx : am_exec b f d' z' (am_blk z' 0) (am_ent z' as) [] M with _ | ⟨r1, M1⟩
              · rw [hx] at h; simp at h
              · rw [hx] at h
                have h1 := ih _ _ _ _ _ _ _ _ hx
                have h2 := ih _ _ _ _ _ _ _ _ h
                omega
        · rw [he] at h
          cases h
          exact ⟨Nat.le_refl _, Nat.le_refl _⟩
      · rw [hs] at h
        have h1 := am_step_le hs
        have h2 := ih _ _ _ _ _ _ _ _ h
        omega
      · rw [hs] at h
        have h1 := am_step_le hs
        have h2 := ih _ _ _ _ _ _ _ _ h
        omega
theorem am_arr.moved {G : am_G} {s U : State} {M : am_M} {H : Heap} {i c n : Nat} (hal : s.vm.Alike U.vm) (h : am_arr G s M H i c n) : am_arr G U M H i c n := by
  obtain ⟨cell, q1, q2, q3, q4, q5, q6, q7, q8, q9⟩ := h
  refine ⟨cell, q1, State.isArrayOf_alike hal q2, q3, q4, q5, q6, fun h9 => ?_, fun h24 => ?_, q9⟩
  · obtain ⟨a, b, c⟩ := q7 h9
    exact ⟨a, b, by rw [hal.findClass]; exact c⟩
  · obtain ⟨kA, a, b⟩ := q8 h24
    obtain ⟨k', hk', he⟩ := hal.2.2 _ _ a
    exact ⟨k', hk', by rw [he]; exact b⟩
theorem am_rel.moved {G : am_G} {b : Bool} {s U : State} {M : am_M} {H : Heap} (hal : s.vm.Alike U.vm) (h : am_rel G b s M H) : am_rel G b U M H := by
  obtain ⟨h1, h2, h3, h4, h5, h6, h7⟩ := h
  exact ⟨h1, h2, h3, h4, h5, fun k v hv => (h6 k v hv).moved hal, fun i hi => ⟨(h7 i hi).1, fun a c => ((h7 i hi).2 a c).moved hal⟩⟩
theorem am_pop_spec : ∀ (n : Nat) (acc st as rs : List Value), am_pop n acc st = some (as, rs) → as.length = n + acc.length ∧ acc.reverse ++ st = as.reverse ++ rs := by
  intro n
  induction n with
  | zero => intro acc st as rs h; simp [am_pop] at h; obtain ⟨rfl, rfl⟩ := h; simp
  | succ n ih =>
    intro acc st as rs h
    cases st with
    | nil => simp [am_pop] at h
    | cons v st =>
      have h' : am_pop n (v :: acc) st = some (as, rs) := h
      obtain ⟨h1, h2⟩ := ih _ _ _ _ h'
      simp only [List.length_cons, List.reverse_cons, List.append_assoc, List.singleton_append] at h1 h2
      exact ⟨by omega, h2⟩
theorem am_blk_ok {z : Nat} (hz : z < 280) (t : Nat) : am_ok z (am_bpc z t) (am_blk z t) = true := by
  have h := am_ok_all z hz
  unfold am_okz at h
  unfold am_bpc am_blk
  rw [List.getD_eq_getElem?_getD]
  cases hq : (am_bt z)[t]? with
  | none => rfl
  | some q => exact List.all_eq_true.mp h q (List.mem_of_getElem? hq)
def am_rm (d mc ms : Nat) : Room := { frames := d + 1, cells := mc, slots := ms, locals := 45 * (d + 1) }
def am_ws (z : Nat) : List Cond := .code (am_yn z) (am_by z) (am_ml z) (am_rt z) :: am_good
def am_Pc (G : am_G) (b : Bool) (as : List Value) (M : am_M) : Array Value → State → Prop := fun v U => v = (as.map (am_ra G)).toArray ∧ am_rel G b U M U.heap ∧ am_K G U
def am_Qc (G : am_G) (b : Bool) (r : Option Value) (M' : am_M) : Array Value → State → Outcome → State → Prop := fun _ _ oc t => oc = .returned (r.map (am_ra G)) ∧ am_rel G b t M' t.heap
def am_fr (G : am_G) : Addr → Prop := fun q => gH G ≤ q
theorem am_K.same {G : am_G} {s U : State} (h : U.vm = s.vm) (hK : am_K G s) : am_K G U := by
  obtain ⟨h1, h2, h3, h4, h5, h6, h7⟩ := hK
  refine ⟨fun w hw hn => ?_, ?_, ?_, h4.same h, h5.same h, h6.same rfl h.symm, h7.moved (by rw [h]; exact Vm.Alike.refl _)⟩
  · have hz := h1 w hw hn
    cases w with
    | fieldLinkNest a i b n d h0 => exact hz.same rfl h.symm
    | methodLinkNest a i x h0 => exact hz.same rfl h.symm
    | _ => simp [am_nst] at hn
  · intro c hc
    obtain ⟨q1, q2⟩ := h2 c hc
    refine ⟨by rw [h]; exact q1, fun k hk => ?_⟩
    obtain ⟨cf, kf, fi, fd, hi, e⟩ := q2 k hk
    exact ⟨cf, kf, fi, fd, by simpa only [State.fieldFound?, h] using hi, e⟩
  · intro c hc
    obtain ⟨kC, q1, q2⟩ := h3 c hc
    exact ⟨kC, by rw [h]; exact q1, q2⟩
theorem am_Pc_blind (G : am_G) (b : Bool) (as : List Value) (M : am_M) : FrameBlind (am_Pc G b as M) := by
  intro a U g mk ⟨h1, h2, h3⟩
  refine ⟨h1, ?_, am_K.same (s := U) rfl h3⟩
  exact am_rel.moved (s := U) (U := U.calling g mk a) (Vm.Alike.refl U.vm) h2
/-- what is known of a method's row in the tables -/
theorem am_mp {z : Nat} (hz : z < 279) : ∃ e ∈ am_MP, e.1 = z ∧ am_mpw e = true ∧ am_mpx e = true ∧ (Cond.code (am_yn z) (am_by z) (am_ml z) (am_rt z)) ∈ lw_tbl := by
  obtain ⟨e, he, h⟩ := List.any_eq_true.mp (am_MP_all z hz)
  have h1 : e.1 = z := by simpa using h
  refine ⟨e, he, h1, List.all_eq_true.mp am_MP_ok e he, List.all_eq_true.mp am_MPx_ok e he, ?_⟩
  have key : ∀ k, ((am_MP.drop k).take 20).map (fun e => lw_tbl[e.2.1]?) = ((am_MP.drop k).take 20).map (fun e => some (Cond.code (am_yn e.1) (am_by e.1) (am_ml e.1) (am_rt e.1))) → e ∈ (am_MP.drop k).take 20 → (Cond.code (am_yn z) (am_by z) (am_ml z) (am_rt z)) ∈ lw_tbl := by
    intro k hk hm
    have := List.map_inj_left.mp hk e hm
    rw [h1] at this
    exact List.mem_of_getElem? this
  have hsplit : ∀ (L : List (Nat × Nat × Nat × Nat × Nat)) (e : Nat × Nat × Nat × Nat × Nat), e ∈ L → e ∈ L.take 20 ∨ e ∈ L.drop 20 := by
    intro L e h
    rw [← List.take_append_drop 20 L] at h
    exact List.mem_append.mp h
  have hd : ∀ k, e ∈ (am_MP.drop k).drop 20 → e ∈ am_MP.drop (k + 20) := by
    intro k h
    rw [List.drop_drop] at h
    exact h
  have h0 : e ∈ am_MP.drop 0 := he
  rcases hsplit _ e h0 with hh | h0
  · exact key 0 am_MPc0 hh
  have h20 := hd 0 h0
  rcases hsplit _ e h20 with hh | h20
  · exact key 20 am_MPc1 hh
  have h40 := hd 20 h20
  rcases hsplit _ e h40 with hh | h40
  · exact key 40 am_MPc2 hh
  have h60 := hd 40 h40
  rcases hsplit _ e h60 with hh | h60
  · exact key 60 am_MPc3 hh
  have h80 := hd 60 h60
  rcases hsplit _ e h80 with hh | h80
  · exact key 80 am_MPc4 hh
  have h100 := hd 80 h80
  rcases hsplit _ e h100 with hh | h100
  · exact key 100 am_MPc5 hh
  have h120 := hd 100 h100
  rcases hsplit _ e h120 with hh | h120
  · exact key 120 am_MPc6 hh
  have h140 := hd 120 h120
  rcases hsplit _ e h140 with hh | h140
  · exact key 140 am_MPc7 hh
  have h160 := hd 140 h140
  rcases hsplit _ e h160 with hh | h160
  · exact key 160 am_MPc8 hh
  have h180 := hd 160 h160
  rcases hsplit _ e h180 with hh | h180
  · exact key 180 am_MPc9 hh
  have h200 := hd 180 h180
  rcases hsplit _ e h200 with hh | h200
  · exact key 200 am_MPc10 hh
  have h220 := hd 200 h200
  rcases hsplit _ e h220 with hh | h220
  · exact key 220 am_MPc11 hh
  have h240 := hd 220 h220
  rcases hsplit _ e h240 with hh | h240
  · exact key 240 am_MPc12 hh
  have h260 := hd 240 h240
  rcases hsplit _ e h260 with hh | h260
  · exact key 260 am_MPc13 hh
  have h280 := hd 260 h260
  have hz : am_MP.drop 280 = [] := by decide +kernel
  have h281 : e ∈ am_MP.drop 280 := h280
  rw [hz] at h281
  cases h281
section MET
variable {l : Launch} {y : MethodName} {ws ws' : List Cond} {rm : Room} {Pc : Array Value → State → Prop} {Qc : Array Value → State → Outcome → State → Prop} {mc ms : Nat} {free : Addr → Prop} {cc : ByteArray} {maxL : Nat} {ret : Option FieldType}
theorem am_Met (hy : plainFor y = true) (hw : ws = Cond.code y cc maxL ret :: ws')
    (body : ∀ p e s m args below meth c s₁, BodyLoose p l y (headSpec ws rm) cc maxL ret e s m args below meth c s₁ → c.maxLocals = maxL → Pc args s →
      W p l e (headSpec ws rm).room s m args below meth c s.heap [] 0 0 (MQ below Qc args s mc ms free) (entryFrame m args maxL)) : Met l y ws rm Pc Qc mc ms free := by
  refine MetFree.of_bodySF (code := cc) (maxLocals := maxL) (ret := ret) hy ?_ ?_
  · intro args s m h hn
    obtain ⟨meth, c, h1, h2, h3, h4, h5, h6, -, -⟩ := Cond.code_spec hn (atoms_spec (ws := ws) h _ (by rw [hw]; exact List.mem_cons_self))
    exact ⟨meth, c, h1, h2, h3, h4, h5, h6⟩
  · intro p e s m args below meth c s₁ B hml hP _
    have hh0 : s₁.heap = s.heap := by rw [B.state]; rfl
    obtain ⟨t, a1, o, b1, b2, b3⟩ := body p e s m args below meth c s₁ B hml hP s₁ hh0 (Stand.of_body B)
    exact ⟨t, o, a1, b1, b2, ⟨b3.1, b3.2⟩⟩
end MET
section CALLS
variable {p : Program} {l : Launch} {e : Env} {R : Room} {s : State} {m : MethodId} {args : Array Value} {below : List Frame} {meth : Method} {c : Code} {H : Heap} {locs : List Loc} {cells slots : Nat} {Q : State → Prop}
variable {G : am_G} {z : Nat} {b : Bool} {M : am_M} {pc : Nat} {ls : Array Slot}
/-- behind a call -/
theorem am_back (C : am_ctx G z p s m args meth c) (hL : ∀ q ∈ locs, gH G ≤ q.base) {mc ms : Nat} {st0 rs : List Value} {a : Array Value} {r : Option Value} {M1 : am_M}
    (hr : va_Run p l e R s m args below meth c H locs cells slots mc ms (F0 m pc ls st0) (rs.map (am_ra G)) (am_Qc G b r M1 a) (am_fr G))
    (kk : ∀ (H1 : Heap) (locs1 : List Loc), am_rel G b s M1 H1 → (∀ q ∈ locs1, gH G ≤ q.base) → W p l e R s m args below meth c H1 locs1 (cells + mc) (slots + ms) Q (F0 m (pc + 3) ls ((r.toList ++ rs).map (am_ra G)))) : W p l e R s m args below meth c H locs cells slots Q (F0 m pc ls st0) := by
  intro T hT X
  obtain ⟨v, st₀, t, T', L, h0, X', hL2, e1, e2, ⟨hv, hb⟩, st⟩ := hr T hT X
  cases hv
  have hal : t.vm.Alike s.vm := by rw [← e2]; exact X'.warmed.alike.symm
  have hb2 := am_rel.moved (U := s) hal hb
  obtain ⟨t2, a1, b1⟩ := kk T'.heap (locs ++ L) (by rw [e1]; exact hb2) (fun q hq => by
      rcases List.mem_append.mp hq with h | h
      · exact hL q h
      · exact hL2 q h) T' rfl X'
  refine ⟨t2, st t2 ?_, b1⟩
  rw [List.map_append] at a1
  cases r with
  | none => exact a1
  | some v => exact a1
theorem am_mlink (C : am_ctx G z p s m args meth c) {y idx : Nat} (h : idx ∈ am_mls z y) : (Cond.methodLink (am_CN (am_own z)) idx (am_yn y)).before args s = true ∨ (Cond.methodLinkNest (am_CN (am_own z)) idx (am_yn y) "IceSearch").before args s = true := by
  obtain ⟨ee, he, ⟨e1, e2⟩, e3⟩ := am_any_fm h
  have hw := am_wat_mem (List.all_eq_true.mp am_ML_ok ee he)
  unfold am_mlw at hw
  rw [e1, e2, e3] at hw
  by_cases hn : ee.2.2.2.1 = true
  · rw [if_pos hn] at hw
    exact Or.inr (va_Nw.use rfl (C.2.2.2.2.2.1.1 _ hw rfl))
  · rw [if_neg hn] at hw
    exact Or.inl (am_word C hw rfl)
end CALLS
