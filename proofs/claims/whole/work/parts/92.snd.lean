/-! SOUNDNESS: what the abstract machine comes to, the machine comes to -/
theorem am_ok_cons {z pc : Nat} {ins : Instr} {rest : List Instr} (h1 : ∀ t, ins ≠ .goto_w t) (h2 : ∀ t, ins ≠ .ret t) (h : am_ok z pc (ins :: rest) = true) : ∃ raw len, decode (am_by z) pc = .ok (raw, len) ∧ (raw, len) ∈ am_raws z pc len ins ∧ am_ok z (pc + len) rest = true := by
  have h' : (match decode (am_by z) pc with | .ok (raw, len) => (am_raws z pc len ins).any (fun q => decide (q = (raw, len))) && am_ok z (pc + len) rest | .error _ => false) = true := by
    cases ins <;> first | exact h | exact absurd rfl (h1 _) | exact absurd rfl (h2 _)
  cases hd : decode (am_by z) pc with
  | error x => rw [hd] at h'; simp at h'
  | ok q =>
    obtain ⟨raw, len⟩ := q
    rw [hd] at h'
    simp only [Bool.and_eq_true, List.any_eq_true, decide_eq_true_eq] at h'
    obtain ⟨⟨x, hx, rfl⟩, hr⟩ := h'
    exact ⟨raw, len, rfl, hx, hr⟩
theorem am_end_raw {z : Nat} {ins : Instr} {st : List Value} {r : Option Value} (h : am_end z ins st = some r) (pc len : Nat) : am_raws z pc len ins = [(ins, 1)] ∧ (∀ t, ins ≠ .goto_w t) ∧ ∀ t, ins ≠ .ret t := by
  unfold am_end at h
  split at h
  · exact ⟨rfl, fun t => nofun, fun t => nofun⟩
  · exact ⟨rfl, fun t => nofun, fun t => nofun⟩
  · exact ⟨rfl, fun t => nofun, fun t => nofun⟩
  · exact ⟨rfl, fun t => nofun, fun t => nofun⟩
  · cases h
def am_HR (p : Program) (l : Launch) (e : Env) (R : Room) (s : State) (m : MethodId) (args : Array Value) (below : List Frame) (meth : Method) (c : Code) (Q : State → Prop) (G : am_G) (b : Bool) (z : Nat) (r : Option Value) (M' : am_M) (cells slots : Nat) : Prop :=
  ∀ (H' : Heap) (ls' : Array Slot) (locs' : List Loc) (pc' : Nat) (ins' : Instr) (st' : List Value), am_rel G b s M' H' → (∀ q ∈ locs', gH G ≤ q.base) → decode (am_by z) pc' = .ok (ins', 1) → am_end z ins' st' = some r → W p l e R s m args below meth c H' locs' cells slots Q (F0 m pc' ls' (st'.map (am_ra G)))
def am_AA (l : Launch) (G : am_G) (b : Bool) (f : Nat) : Prop := ∀ (d z : Nat) (code : List Instr) (lv : am_L) (st : List Value) (M : am_M) (r : Option Value) (M' : am_M), am_exec b f d z code lv st M = some (r, M') → z < 280 →
  ∀ (p : Program) (e : Env) (R : Room) (s : State) (m : MethodId) (args : Array Value) (below : List Frame) (meth : Method) (c : Code) (H : Heap) (locs : List Loc) (cells slots : Nat) (Q : State → Prop) (pc : Nat) (ls : Array Slot), am_ctx G z p s m args meth c → am_rel G b s M H → (∀ q ∈ locs, gH G ≤ q.base) → am_lvh G ls (am_ml z) lv → am_ok z pc code = true → d + 1 ≤ R.frames → 45 * (d + 1) ≤ R.locals →
  cells + (mN M' - mN M) ≤ R.cells → slots + (mS M' - mS M) ≤ R.slots → am_HR p l e R s m args below meth c Q G b z r M' (cells + (mN M' - mN M)) (slots + (mS M' - mS M)) → W p l e R s m args below meth c H locs cells slots Q (F0 m pc ls (st.map (am_ra G)))
theorem am_met {l : Launch} {G : am_G} {b : Bool} {f : Nat} (hO : am_okO G) (hA : am_AA l G b f) {d z : Nat} {as : List Value} {M M' : am_M} {r : Option Value} (hz : z < 279) (hfit : (am_lva as).length ≤ am_ml z) (h : am_exec b f d z (am_blk z 0) (am_ent z as) [] M = some (r, M')) :
    Met l (am_yn z) (am_ws z) (am_rm d (mN M' - mN M) (mS M' - mS M)) (am_Pc G b as M) (am_Qc G b r M') (mN M' - mN M) (mS M' - mS M) (am_fr G) := by
  obtain ⟨em, -, hez, -, hpx, hcode⟩ := am_mp hz
  unfold am_mpx at hpx
  rw [hez] at hpx
  simp only [Bool.and_eq_true, decide_eq_true_eq] at hpx
  obtain ⟨⟨⟨⟨⟨x1, x2⟩, x3⟩, x4⟩, x5⟩, x6⟩ := hpx
  refine am_Met (cc := am_by z) (maxL := am_ml z) (ret := am_rt z) (ws' := am_good) x5 rfl ?_
  intro p e s m args below meth c s₁ B hml hv
  obtain ⟨rfl, hR, hK⟩ := hv
  have hts := atoms_spec (ws := am_ws z) B.pre
  have hown : s.vm.findClass (am_yn z).cls = some m.cls := findClass_of_methodNamed B.named
  have hret := B.returns
  have hlocks := B.notSynchronized
  have C : am_ctx G z p s m (as.map (am_ra G)).toArray meth c := ⟨B.exec, B.bytes, hml, by rw [← x1]; exact hown, fun w hw => hts w (List.mem_cons_of_mem _ hw), hK, fun hn => by rw [(name_of_methodNamed B.named B.method).1]; exact hn, hO⟩
  have hent := lv_entry (as.map (am_ra G)) (n := am_ml z) (by rw [am_lva_sl hO]; exact hfit)
  rw [lg_entry_eq]
  have hpc0 : am_bpc z 0 = 0 := by
    have : ∀ z, z < 280 → am_bpc z 0 = 0 := by decide +kernel
    exact this z (by omega)
  have hok := am_blk_ok (z := z) (by omega) 0
  rw [hpc0] at hok
  refine hA d z (am_blk z 0) (am_ent z as) [] M r M' h (by omega) p e _ s m _ below meth c s.heap [] 0 0 _ 0 _ C hR (fun q hq => by cases hq) ?_ hok (Nat.le_refl _) (Nat.le_refl _) (by rw [Nat.zero_add]; exact Nat.le_refl _) (by rw [Nat.zero_add]; exact Nat.le_refl _) ?_
  · refine ⟨?_, hent.1, hent.2.1, fun q hq => hent.2.2 q (am_lva_args hO as _ 0 q hq)⟩
    unfold am_ent
    rw [List.length_append, List.length_replicate]
    omega
  · intro H' ls' locs' pc' ins' st' h1 h2 h3 h4
    rw [Nat.zero_add, Nat.zero_add]
    have hq : ∀ t : State, t.heap = H' → s.WarmedH t.vm → am_Qc G b r M' (as.map (am_ra G)).toArray s (.returned (r.map (am_ra G))) t := fun t ht hW => ⟨rfl, by rw [ht]; exact am_rel.moved hW.alike h1⟩
    have hf : ∀ q ∈ locs', am_fr G q.base := h2
    unfold am_end at h4
    split at h4
    · split at h4
      · next hr0 => cases h4; exact W.vret B.exec B.bytes (by rw [hret]; exact hr0) hq hf h3
      · cases h4
    · split at h4
      · next ty v hr0 =>
        obtain ⟨⟨hn, -⟩, rfl⟩ := am_ite h4
        exact W.zret B.exec B.bytes (by rw [hret]; exact hr0) hn hq hf h3
      · cases h4
    · split at h4
      · next v hr0 => cases h4; exact W.lret B.exec B.bytes (by rw [hret]; exact hr0) hq hf h3
      · cases h4
    · split at h4
      · next n v hr0 => cases h4; exact W.aret B.exec B.bytes (by rw [hret]; exact hr0) (Or.inl ⟨_, rfl⟩) (Or.inr ⟨_, rfl⟩) hq hf h3
      · next n hr0 => cases h4; exact W.aret B.exec B.bytes (by rw [hret]; exact hr0) (Or.inl ⟨_, rfl⟩) (Or.inl rfl) hq hf h3
      · next n v hr0 => cases h4; exact W.aret B.exec B.bytes (by rw [hret]; exact hr0) (Or.inr ⟨_, rfl⟩) (Or.inr ⟨_, rfl⟩) hq hf h3
      · cases h4
    · cases h4
theorem am_ML_lt : am_ML.all (fun e => decide (e.2.2.1 < 279)) = true := by decide +kernel
theorem am_mls_lt {z y idx : Nat} (h : idx ∈ am_mls z y) : y < 279 := by
  obtain ⟨ee, he, ⟨e1, e2⟩, e3⟩ := am_any_fm h
  have := List.all_eq_true.mp am_ML_lt ee he
  rw [e2] at this
  exact of_decide_eq_true this
theorem am_call_snd {l : Launch} {G : am_G} {b : Bool} {f : Nat} (hA : am_AA l G b f) {p : Program} {e : Env} {R : Room} {s : State} {m : MethodId} {args : Array Value} {below : List Frame} {meth : Method} {c : Code} {H : Heap} {locs : List Loc} {cells slots : Nat} {Q : State → Prop} {z d' : Nat} {M M1 : am_M} {pc len : Nat} {ls : Array Slot} {st as rs : List Value} {ins raw : Instr} {z' : Nat} {r1 : Option Value}
    (C : am_ctx G z p s m args meth c) (hR : am_rel G b s M H) (hL : ∀ q ∈ locs, gH G ≤ q.base) (hls : ls.size = am_ml z) (hc : am_call b ins st M = some (z', as, rs)) (hx : am_exec b f d' z' (am_blk z' 0) (am_ent z' as) [] M = some (r1, M1)) (hdec : decode (am_by z) pc = .ok (raw, len)) (hraw : (raw, len) ∈ am_raws z pc len ins)
    (hfr : d' + 1 + 1 ≤ R.frames) (hlo : 45 * (d' + 1 + 1) ≤ R.locals) (hcells : cells + (mN M1 - mN M) ≤ R.cells) (hslots : slots + (mS M1 - mS M) ≤ R.slots)
    (kk : ∀ (H1 : Heap) (locs1 : List Loc), am_rel G b s M1 H1 → (∀ q ∈ locs1, gH G ≤ q.base) → W p l e R s m args below meth c H1 locs1 (cells + (mN M1 - mN M)) (slots + (mS M1 - mS M)) Q (F0 m (pc + 3) ls ((r1.toList ++ rs).map (am_ra G)))) :
    len = 3 ∧ W p l e R s m args below meth c H locs cells slots Q (F0 m pc ls (st.map (am_ra G))) := by
  have hO := C.2.2.2.2.2.2.2
  have hcat : ((rs.map (am_ra G)).map fun v => v.category).sum = (rs.map Value.category).sum := by
    rw [List.map_map]
    congr 1
    exact List.map_congr_left fun v _ => am_ra_cat hO v
  have S : CallFix p m c (am_by z) (am_ml z) s args am_good (am_CN (am_own z)) := ⟨C.1, C.2.1, C.2.2.1, C.2.2.2.1, C.2.2.2.2.1⟩
  -- what is the same for the three
  have common : ∀ (idx : Nat), idx ∈ am_mls z z' → am_pop (am_na z') [] st = some (as, rs) → am_fit z' as rs = true →
      Met l (am_yn z') (am_ws z') (am_rm d' (mN M1 - mN M) (mS M1 - mS M)) (am_Pc G b as M) (am_Qc G b r1 M1) (mN M1 - mN M) (mS M1 - mS M) (am_fr G) ∧ (rs.map Value.category).sum ≤ 8 ∧ as.length = am_na z' ∧ st.map (am_ra G) = (as.map (am_ra G)).reverse ++ rs.map (am_ra G) ∧
      (d' + 1 + 1 ≤ R.frames ∧ 8 + (am_ml z' + 11) + 45 * (d' + 1) ≤ R.locals) ∧ (∀ w ∈ am_ws z', ∀ (a' : Array Value) (U : State), s.WarmedH U.vm → w.before a' U = true) ∧ (Cond.code (am_yn z') (am_by z') (am_ml z') (am_rt z')).before args s = true ∧ (Cond.initialized (am_yn z').cls).before args s = true ∧
      ((am_yn z').cls ≠ "java/lang/invoke/MethodHandle" ∧ (am_yn z').cls ≠ "java/lang/invoke/VarHandle") ∧ (∀ sig, parseMethodDescriptor (am_yn z').desc = some sig → (if am_stc z' then am_na z' else am_na z' - 1) = sig.parameters.length) ∧ (am_yn z').cls = am_CN (am_own z') ∧ (am_stc z' = true ∨ 1 ≤ am_na z') ∧
      (if am_stc z' then (Cond.static (am_yn z')).before args s = true else (Cond.instanceMethod (am_yn z')).before args s = true) ∧ (am_stc z' = true ∨ ((am_yn z').name == "<init>") = true ∨ (Cond.selects (am_yn z').cls (am_yn z') (am_yn z')).before args s = true) := by
    intro idx hidx hpop hfit
    have hz' := am_mls_lt hidx
    unfold am_fit at hfit
    simp only [Bool.and_eq_true, decide_eq_true_eq] at hfit
    obtain ⟨em, -, hez, hpw, hpx, hcode⟩ := am_mp hz'
    unfold am_mpx at hpx
    rw [hez] at hpx
    simp only [Bool.and_eq_true, decide_eq_true_eq, Bool.or_eq_true] at hpx
    obtain ⟨⟨⟨⟨⟨x1, x2⟩, x3⟩, x4⟩, x5⟩, x6⟩ := hpx
    unfold am_mpw at hpw
    rw [hez] at hpw
    simp only [Bool.and_eq_true, Bool.or_eq_true] at hpw
    obtain ⟨⟨y1, y2⟩, y3⟩ := hpw
    have hcw := am_word C hcode rfl
    obtain ⟨q1, q2⟩ := am_pop_spec _ _ _ _ _ hpop
    refine ⟨am_met hO hA hz' hfit.1 hx, hfit.2, by simpa using q1, ?_, ⟨hfr, by omega⟩, ?_, hcw, am_word C (am_wat_mem y2) rfl, x2, ?_, x1, x4, ?_, ?_⟩
    · rw [List.map_reverse.symm, ← List.map_append]
      congr 1
    · intro w hw a' U hW
      rcases List.mem_cons.mp hw with h | h
      · rw [h]; exact word_at hW (Or.inl rfl) hcw
      · exact word_at hW (good_of_word (List.mem_filter.mp h).2) (C.2.2.2.2.1 w h)
    · intro sig hsig
      rw [hsig] at x3
      exact (Option.some.inj x3).symm
    · have := am_wat_mem y1
      split
      · next hst => rw [if_pos hst] at this; exact am_word C this rfl
      · next hst => rw [if_neg hst] at this; exact am_word C this rfl
    · rcases y3 with (y3 | y3) | y3
      · exact Or.inl y3
      · exact Or.inr (Or.inl y3)
      · exact Or.inr (Or.inr (am_word C (am_wat_mem y3) rfl))
  have hPcU : ∀ U : State, U.heap = H → s.WarmedH U.vm → am_Pc G b as M (as.map (am_ra G)).toArray U := fun U hU hW => ⟨rfl, by rw [hU]; exact am_rel.moved hW.alike hR, am_K.warm hW C.2.2.2.2.2.1⟩
  unfold am_call at hc
  split at hc
  · next y =>
    split at hc
    · next as' rs' hpop =>
      obtain ⟨hfit, heq⟩ := am_ite hc
      cases heq
      unfold am_raws at hraw
      dsimp only at hraw
      split at hraw
      · next hstc =>
        simp only [List.mem_map, Prod.mk.injEq] at hraw
        obtain ⟨idx, hidx, rfl, rfl⟩ := hraw
        obtain ⟨hM, c1, c2, c3, c4, c5, c6, c7, c8, c9, c10, c11, c12, c13⟩ := common idx hidx hpop hfit
        rw [if_pos hstc] at c9 c12
        refine ⟨rfl, ?_⟩
        rcases am_mlink C hidx with hlk | hlk
        · exact am_back C hL (va_runS (As := as.map (am_ra G)) (n := as.length) (rest := rs.map (am_ra G)) S hM ⟨⟨rfl, rfl, c4.1, c4.2, c5, List.mem_cons_self, c6, c7, c8, fun sig h => by rw [c2]; exact c9 sig h, hlk⟩, c12⟩ ⟨am_Pc_blind G b as M, hPcU⟩ rfl (by simp) hls c3 (by show 2 * 0 + _ ≤ 8; rw [hcat]; omega) hdec ⟨hcells, hslots⟩) kk
        · exact am_back C hL (va_runSN (As := as.map (am_ra G)) (n := as.length) (rest := rs.map (am_ra G)) S hM ⟨⟨⟨rfl, rfl, c4.1, c4.2, c5, List.mem_cons_self⟩, c6, c7, c8, fun sig h => by rw [c2]; exact c9 sig h, hlk⟩, c12, trivial⟩ ⟨am_Pc_blind G b as M, hPcU⟩ rfl (by simp) hls c3 (by show 2 * 0 + _ ≤ 8; rw [hcat]; omega) hdec ⟨hcells, hslots⟩) kk
      · cases hraw
    · cases hc
  · next y =>
    split at hc
    · next as' rs' hpop =>
      obtain ⟨hfr2, heq⟩ := am_ite hc
      cases heq
      simp only [Bool.and_eq_true] at hfr2
      obtain ⟨hfit, hrcv⟩ := hfr2
      unfold am_raws at hraw
      dsimp only at hraw
      split at hraw
      · next hstc =>
        obtain ⟨hstc, hni⟩ := hstc
        simp only [List.mem_map, Prod.mk.injEq] at hraw
        obtain ⟨idx, hidx, rfl, rfl⟩ := hraw
        obtain ⟨hM, c1, c2, c3, c4, c5, c6, c7, c8, c9, c10, c11, c12, c13⟩ := common idx hidx hpop hfit
        rw [hstc] at c9 c12 c13 c11
        have hsel := (c13.resolve_left (by decide)).resolve_left (by rw [hni]; decide)
        refine ⟨rfl, ?_⟩
        unfold am_rcvB at hrcv
        split at hrcv
        · next i as2 =>
          simp only [Bool.and_eq_true, decide_eq_true_eq] at hrcv
          have hk := Nat.eq_of_beq_eq_true hrcv.1
          obtain ⟨cell, q1, q2, q3, -⟩ := (hR.2.2.2.2.2.2 i (am_kd_lt hR (by omega))).1 (by omega)
          rw [hk] at q2
          have hfc := (C.2.2.2.2.2.1.2.1 _ hrcv.2).1
          have hPV : PreV s H (am_yn z').cls (am_ad G i) (am_Pc G b (.ref i :: as2) M) (as2.map (am_ra G)) := ⟨am_Pc_blind G b _ M, ⟨cell, q1, q3, by rw [c10, q2]; exact hfc⟩, hPcU⟩
          have hst : st.map (am_ra G) = (as2.map (am_ra G)).reverse ++ .ref (am_ad G i) :: rs.map (am_ra G) := by
            rw [c3]; simp [am_ra]
          rcases am_mlink C hidx with hlk | hlk
          · exact am_back C hL (va_runV (As := as2.map (am_ra G)) (n := am_na z' - 1) (rest := rs.map (am_ra G)) S hM ⟨⟨rfl, rfl, c4.1, c4.2, c5, List.mem_cons_self, c6, c7, c8, c9, hlk⟩, c12, hsel⟩ hPV rfl (by simp only [List.length_map]; simp only [List.length_cons] at c2; omega) hls hst (by show 2 * 0 + _ ≤ 8; rw [hcat]; omega) hdec ⟨hcells, hslots⟩) kk
          · exact am_back C hL (va_runVN (As := as2.map (am_ra G)) (n := am_na z' - 1) (rest := rs.map (am_ra G)) S hM ⟨⟨⟨rfl, rfl, c4.1, c4.2, c5, List.mem_cons_self⟩, c6, c7, c8, c9, hlk⟩, c12, hsel⟩ hPV rfl (by simp only [List.length_map]; simp only [List.length_cons] at c2; omega) hls hst (by show 2 * 0 + _ ≤ 8; rw [hcat]; omega) hdec ⟨hcells, hslots⟩) kk
        · simp at hrcv
      · cases hraw
    · cases hc
  · next y =>
    split at hc
    · next as' rs' hpop =>
      obtain ⟨hfr2, heq⟩ := am_ite hc
      cases heq
      simp only [Bool.and_eq_true] at hfr2
      obtain ⟨hfit, hrcv⟩ := hfr2
      unfold am_raws at hraw
      dsimp only at hraw
      split at hraw
      · next hstc =>
        obtain ⟨hstc, hni, hrt⟩ := hstc
        simp only [List.mem_map, Prod.mk.injEq] at hraw
        obtain ⟨idx, hidx, rfl, rfl⟩ := hraw
        obtain ⟨hM, c1, c2, c3, c4, c5, c6, c7, c8, c9, c10, c11, c12, c13⟩ := common idx hidx hpop hfit
        rw [hstc] at c9 c12 c13 c11
        rw [hrt] at c6
        have hcm : Cond.code (am_yn z') (am_by z') (am_ml z') none ∈ am_ws z' := by rw [← hrt]; exact List.mem_cons_self
        have hni2 : (am_yn z').name = "<init>" := by simpa using hni
        refine ⟨rfl, ?_⟩
        unfold am_rcvB at hrcv
        split at hrcv
        · next i as2 =>
          have hst : st.map (am_ra G) = (as2.map (am_ra G)).reverse ++ .ref (am_ad G i) :: rs.map (am_ra G) := by
            rw [c3]; simp [am_ra]
          have hPS : PreS s H (am_Pc G b (.ref i :: as2) M) (.ref (am_ad G i) :: as2.map (am_ra G)) := ⟨am_Pc_blind G b _ M, hPcU⟩
          rcases am_mlink C hidx with hlk | hlk
          · exact am_back C hL (va_runI (As := as2.map (am_ra G)) (n := am_na z' - 1) (rest := rs.map (am_ra G)) S hM ⟨⟨rfl, rfl, c4.1, c4.2, c5, hcm, c6, c7, c8, c9, hlk⟩, hni2, c12⟩ hPS rfl (by simp only [List.length_map]; simp only [List.length_cons] at c2; omega) hls hst (by show 2 * 0 + _ ≤ 8; rw [hcat]; omega) hdec ⟨hcells, hslots⟩) kk
          · exact am_back C hL (va_runIN (As := as2.map (am_ra G)) (n := am_na z' - 1) (rest := rs.map (am_ra G)) S hM ⟨⟨⟨rfl, rfl, c4.1, c4.2, c5, hcm⟩, c6, c7, c8, c9, hlk⟩, hni2, c12⟩ hPS rfl (by simp only [List.length_map]; simp only [List.length_cons] at c2; omega) hls hst (by show 2 * 0 + _ ≤ 8; rw [hcat]; omega) hdec ⟨hcells, hslots⟩) kk
        · simp at hrcv
      · cases hraw
    · cases hc
  · cases hc
theorem am_snd (l : Launch) (G : am_G) (b : Bool) : ∀ f, am_AA l G b f := by
  intro f
  induction f with
  | zero => intro d z code lv st M r M' h; simp [am_exec] at h
  | succ f ih =>
    intro d z code lv st M r M' h hz p e R s m args below meth c H locs cells slots Q pc ls C hR hL hl hok hfr hlo hcells hslots HR
    cases code with
    | nil => simp [am_exec] at h
    | cons ins rest =>
      rw [am_exec_cons] at h
      unfold am_one at h
      rcases hs : am_step b z ins lv st M with _ | ⟨jt, lv', st', M1⟩
      · rw [hs] at h
        dsimp only at h
        rcases he : am_end z ins st with _ | r1
        · rw [he] at h
          dsimp only at h
          cases d with
          | zero => simp at h
          | succ d' =>
            dsimp only at h
            rcases hc : am_call b ins st M with _ | ⟨z', as, rs⟩
            · rw [hc] at h; simp at h
            · rw [hc] at h
              dsimp only at h
              rcases hx : am_exec b f d' z' (am_blk z' 0) (am_ent z' as) [] M with _ | ⟨r1, M1⟩
              · rw [hx] at h; simp at h
              · rw [hx] at h
                dsimp only at h
                have hp1 : ∀ t, ins ≠ .goto_w t := fun t hh => by subst hh; cases hc
                have hp2 : ∀ t, ins ≠ .ret t := fun t hh => by subst hh; cases hc
                obtain ⟨raw, len, hdec, hraw, hok2⟩ := am_ok_cons hp1 hp2 hok
                have l1 := am_exec_le _ _ _ _ _ _ _ _ _ hx
                have l2 := am_exec_le _ _ _ _ _ _ _ _ _ h
                have hlen : len = 3 := by
                  unfold am_call at hc
                  unfold am_raws at hraw
                  split at hc
                  · dsimp only at hraw
                    split at hraw
                    · simp only [List.mem_map, Prod.mk.injEq] at hraw
                      obtain ⟨idx, hidx, -, rfl⟩ := hraw
                      rfl
                    · cases hraw
                  · dsimp only at hraw
                    split at hraw
                    · simp only [List.mem_map, Prod.mk.injEq] at hraw
                      obtain ⟨idx, hidx, -, rfl⟩ := hraw
                      rfl
                    · cases hraw
                  · dsimp only at hraw
                    split at hraw
                    · simp only [List.mem_map, Prod.mk.injEq] at hraw
                      obtain ⟨idx, hidx, -, rfl⟩ := hraw
                      rfl
                    · cases hraw
                  · cases hc
                subst hlen
                refine (am_call_snd ih C hR hL hl.2.1 hc hx hdec hraw hfr hlo (by omega) (by omega) fun H1 locs1 g1 g2 => ?_).2
                refine ih _ _ _ _ _ _ _ _ h hz p e R s m args below meth c H1 locs1 _ _ Q _ ls C g1 g2 hl hok2 hfr hlo (by omega) (by omega) ?_
                rw [show cells + (mN M1 - mN M) + (mN M' - mN M1) = cells + (mN M' - mN M) by omega, show slots + (mS M1 - mS M) + (mS M' - mS M1) = slots + (mS M' - mS M) by omega]
                exact HR
        · rw [he] at h
          cases h
          have hq := am_end_raw he pc 1
          obtain ⟨raw, len, hdec, hraw, -⟩ := am_ok_cons hq.2.1 hq.2.2 hok
          rw [(am_end_raw he pc len).1] at hraw
          simp only [List.mem_singleton, Prod.mk.injEq] at hraw
          obtain ⟨rfl, rfl⟩ := hraw
          have := HR H ls locs pc _ st hR hL hdec he
          rw [Nat.sub_self, Nat.sub_self] at this
          exact this
      · rw [hs] at h
        have l1 := am_step_le hs
        have hrec : am_exec b f d z (match jt with | none => rest | some t => am_blk z t) lv' st' M1 = some (r, M') := by
          cases jt with
          | none => exact h
          | some t => exact h
        have l2 := am_exec_le _ _ _ _ _ _ _ _ _ hrec
        have HR2 : am_HR p l e R s m args below meth c Q G b z r M' (cells + (mN M1 - mN M) + (mN M' - mN M1)) (slots + (mS M1 - mS M) + (mS M' - mS M1)) := by
          rw [show cells + (mN M1 - mN M) + (mN M' - mN M1) = cells + (mN M' - mN M) by omega, show slots + (mS M1 - mS M) + (mS M' - mS M1) = slots + (mS M' - mS M) by omega]
          exact HR
        by_cases hps : (∀ t, ins ≠ .goto_w t) ∧ ∀ t, ins ≠ .ret t
        · obtain ⟨raw, len, hdec, hraw, hok2⟩ := am_ok_cons hps.1 hps.2 hok
          refine am_snd_step C hR hL hl hs hdec hraw hps (by omega) (by omega) (by omega) (by omega) fun H' ls' locs' g1 g2 g3 => ?_
          refine ih _ _ _ _ _ _ _ _ hrec hz p e R s m args below meth c H' locs' _ _ Q _ ls' C g1 g2 g3 ?_ hfr hlo (by omega) (by omega) HR2
          cases jt with
          | none => exact hok2
          | some t => exact am_blk_ok hz t
        · have hj : ∃ t, jt = some t ∧ lv' = lv ∧ st' = st ∧ M1 = M ∧ am_bpc z t = pc := by
            rcases Classical.not_and_iff_not_or_not.mp hps with hh | hh
            · obtain ⟨t, ht⟩ := Classical.not_forall.mp hh
              have ht := Classical.not_not.mp ht
              subst ht
              have hs2 : (some (some t.toNat, lv, st, M) : am_R) = some (jt, lv', st', M1) := hs
              cases hs2
              exact ⟨_, rfl, rfl, rfl, rfl, by simpa [am_ok] using hok⟩
            · obtain ⟨t, ht⟩ := Classical.not_forall.mp hh
              have ht := Classical.not_not.mp ht
              subst ht
              have hs2 : (some (some t, lv, st, M) : am_R) = some (jt, lv', st', M1) := hs
              cases hs2
              exact ⟨_, rfl, rfl, rfl, rfl, by simpa [am_ok] using hok⟩
          obtain ⟨t, rfl, rfl, rfl, rfl, hpc⟩ := hj
          have hokb := am_blk_ok hz t
          rw [hpc] at hokb
          exact ih _ _ _ _ _ _ _ _ hrec hz p e R s m args below meth c H locs cells slots Q pc ls C hR hL hl hokb hfr hlo hcells hslots HR
