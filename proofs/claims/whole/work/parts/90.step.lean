def am_tgt (z n : Nat) (jt : Option Nat) : Nat := match jt with
  | none => n
  | some t => am_bpc z t
theorem am_ite {P : Prop} [Decidable P] {α : Type} {a x : α} (h : (if P then some a else none) = some x) : P ∧ a = x := by
  by_cases hp : P
  · rw [if_pos hp] at h; exact ⟨hp, Option.some.inj h⟩
  · rw [if_neg hp] at h; cases h
theorem am_iten {P : Prop} [Decidable P] {α : Type} {a x : α} (h : (if P then none else some a) = some x) : ¬ P ∧ a = x := by
  by_cases hp : P
  · rw [if_pos hp] at h; cases h
  · rw [if_neg hp] at h; exact ⟨hp, Option.some.inj h⟩
theorem am_iter {P : Prop} [Decidable P] {α : Type} {a x : α} {o : Option α} (h : (if P then some a else o) = some x) : (P ∧ a = x) ∨ (¬ P ∧ o = some x) := by
  by_cases hp : P
  · rw [if_pos hp] at h; exact Or.inl ⟨hp, Option.some.inj h⟩
  · rw [if_neg hp] at h; exact Or.inr ⟨hp, h⟩
/-! what the step needs beside -/
theorem am_put_N {b : Bool} {z fid i : Nat} {v : Value} {M M' : am_M} (h : am_put b z fid v i M = some M') : mN M' = mN M ∧ mS M' = mS M := by
  unfold am_put at h
  rcases hfd : am_fd fid with ⟨a, k, ty, fin⟩
  rw [hfd] at h
  dsimp only at h
  split at h
  · split at h
    · cases h; exact ⟨rfl, rfl⟩
    · split at h
      · cases h; exact ⟨rfl, rfl⟩
      · cases h
    · cases h; exact ⟨rfl, rfl⟩
    · split at h
      · cases h
      · cases h; exact ⟨rfl, rfl⟩
    · split at h
      · cases h
      · cases h; exact ⟨rfl, rfl⟩
    · cases h
  · cases h
theorem am_s_cast {p : Program} {l : Launch} {e : Env} {R : Room} {s : State} {m : MethodId} {args : Array Value} {below : List Frame} {meth : Method} {c : Code} {H : Heap} {locs : List Loc} {cells slots : Nat} {Q : State → Prop} {G : am_G} {z : Nat} {b : Bool} {M : am_M} {pc : Nat} {ls : Array Slot} {rest : List Value}
    (C : am_ctx G z p s m args meth c) (hR : am_rel G b s M H) {x : Nat} (ho : am_own z = 15) (h1 : (am_kd b M x).1 = 20) (h9 : 9 ≤ x) (hdg : decode (am_by z) pc = .ok (.checkcast 317, 3))
    (kk : W p l e R s m args below meth c H locs cells slots Q (F0 m (pc + 3) ls (.ref (am_ad G x) :: rest))) : W p l e R s m args below meth c H locs cells slots Q (F0 m pc ls (.ref (am_ad G x) :: rest)) := by
  have hw := am_word C (w := .classLink (am_CN 15) 317 "[I") (by decide +kernel) rfl
  have hown := C.2.2.2.1
  rw [ho] at hown
  obtain ⟨cs, s1, s2, s3, s4, s5, s6, s7, s8, s9⟩ := am_arr_of hR (i := x) (by omega) (by omega)
  obtain ⟨g1, g2, g3⟩ := s7 h9
  rw [h1] at g3
  exact va_castE C.1 C.2.1 hown hw ⟨cs, s1, by rw [g2]; rfl, g3⟩ hdg kk
theorem am_lsw_sorted {f : Int → Int} {ps : Array (Int × Int)} (h : (ps.toList.zip (ps.toList.drop 1)).all (fun (a, next) => a.1 < next.1) = true) : ((ps.map (fun q => (q.1, f q.2))).toList.zip ((ps.map (fun q => (q.1, f q.2))).toList.drop 1)).all (fun (a, next) => a.1 < next.1) = true := by
  simp only [Array.toList_map, ← List.map_drop, List.zip_map, List.all_map] at h ⊢
  exact h
theorem am_lsw_off1 {z pc : Nat} (hoff : ∀ t : Nat, (pc : Int) + am_off z pc t = (am_bpc z t : Int)) (d : Int) (x : Int32) : ∀ L : List (Int × Int), (pc : Int) + Op.lookupswitch.offset (L.map (fun q => (q.1, am_off z pc q.2.toNat))) (am_off z pc d.toNat) x.toInt = ((am_bpc z (am_lsw d L x) : Nat) : Int) := by
  intro L
  induction L with
  | nil => exact hoff _
  | cons q t ih =>
    obtain ⟨k, o⟩ := q
    simp only [List.map_cons, am_lsw]
    show (pc : Int) + (if k = x.toInt then am_off z pc o.toNat else Op.lookupswitch.offset (t.map _) _ x.toInt) = _
    by_cases h : k = x.toInt
    · rw [if_pos h, if_pos h.symm]
      exact hoff _
    · rw [if_neg h, if_neg (fun q => h q.symm)]
      exact ih
theorem am_lsw_off {z pc : Nat} (hoff : ∀ t : Nat, (pc : Int) + am_off z pc t = (am_bpc z t : Int)) (d : Int) (x : Int32) (ps : Array (Int × Int)) : (pc : Int) + Op.lookupswitch.offset (ps.map (fun q => (q.1, am_off z pc q.2.toNat))).toList (am_off z pc d.toNat) x.toInt = ((am_bpc z (am_lsw d ps.toList x) : Nat) : Int) := by
  rw [Array.toList_map]
  exact am_lsw_off1 hoff d x ps.toList
/-! one step of the abstract machine is steps of the machine -/
set_option maxHeartbeats 4000000 in
theorem am_snd_step {p : Program} {l : Launch} {e : Env} {R : Room} {s : State} {m : MethodId} {args : Array Value} {below : List Frame} {meth : Method} {c : Code} {H : Heap} {locs : List Loc} {cells slots : Nat} {Q : State → Prop}
    {G : am_G} {z : Nat} {b : Bool} {M M' : am_M} {pc len : Nat} {ls : Array Slot} {lv lv' : am_L} {st st' : List Value} {ins raw : Instr} {jt : Option Nat}
    (C : am_ctx G z p s m args meth c) (hR : am_rel G b s M H) (hL : ∀ q ∈ locs, gH G ≤ q.base) (hl : am_lvh G ls (am_ml z) lv)
    (hs : am_step b z ins lv st M = some (jt, lv', st', M')) (hdec : decode (am_by z) pc = .ok (raw, len)) (hraw : (raw, len) ∈ am_raws z pc len ins) (hnp : (∀ t, ins ≠ .goto_w t) ∧ ∀ t, ins ≠ .ret t)
    (hfr : 1 ≤ R.frames) (hlo : 45 ≤ R.locals) (hcells : cells + (mN M' - mN M) ≤ R.cells) (hslots : slots + (mS M' - mS M) ≤ R.slots)
    (kk : ∀ (H' : Heap) (ls' : Array Slot) (locs' : List Loc), am_rel G b s M' H' → (∀ q ∈ locs', gH G ≤ q.base) → am_lvh G ls' (am_ml z) lv' → W p l e R s m args below meth c H' locs' (cells + (mN M' - mN M)) (slots + (mS M' - mS M)) Q (F0 m (am_tgt z (pc + len) jt) ls' (st'.map (am_ra G)))) :
    W p l e R s m args below meth c H locs cells slots Q (F0 m pc ls (st.map (am_ra G))) := by
  have hO := C.2.2.2.2.2.2.2
  have hx := C.1
  have hb := C.2.1
  have hcat : ∀ r : List Value, ((r.map (am_ra G)).map fun v => v.category).sum = (r.map Value.category).sum := by
    intro r
    rw [List.map_map]
    congr 1
    exact List.map_congr_left fun v _ => am_ra_cat hO v
  have k0 : mN M' = mN M → mS M' = mS M → ∀ (H' : Heap) (ls' : Array Slot) (locs' : List Loc), am_rel G b s M' H' → (∀ q ∈ locs', gH G ≤ q.base) → am_lvh G ls' (am_ml z) lv' → W p l e R s m args below meth c H' locs' cells slots Q (F0 m (am_tgt z (pc + len) jt) ls' (st'.map (am_ra G))) := by
    intro hN hS H' ls' locs' h1 h2 h3
    have := kk H' ls' locs' h1 h2 h3
    rw [hN, hS, Nat.sub_self, Nat.sub_self] at this
    exact this
  have hoff : ∀ t : Nat, (pc : Int) + am_off z pc t = (am_bpc z t : Int) := by
    intro t
    unfold am_off
    omega
  have hls : ls.size = am_ml z := hl.2.1
  cases ins with
  | iconst v =>
    delta am_step at hs
    dsimp only at hs
    split at hs
    · next n =>
      cases hs
      simp only [am_raws, List.mem_cons, List.mem_append, List.mem_map, Prod.mk.injEq] at hraw
      rcases hraw with ⟨rfl, rfl⟩ | h | h | ⟨i, hi, rfl, rfl⟩ | ⟨i, hi, rfl, rfl⟩
      · exact lv_iconst hx hb hdec (am_ofI n) (k0 rfl rfl _ _ _ hR hL hl)
      · split at h
        · next hv2 =>
          simp only [List.mem_singleton, Prod.mk.injEq] at h
          obtain ⟨rfl, rfl⟩ := h
          exact lv_bipush hx hb hdec (by rw [hv2]; exact am_ofI n) (k0 rfl rfl _ _ _ hR hL hl)
        · cases h
      · split at h
        · next hv2 =>
          simp only [List.mem_singleton, Prod.mk.injEq] at h
          obtain ⟨rfl, rfl⟩ := h
          exact lv_sipush hx hb hdec (by rw [hv2]; exact am_ofI n) (k0 rfl rfl _ _ _ hR hL hl)
        · cases h
      · exact am_s_ldcI C hi hdec (by rw [am_ofI]; exact (k0 rfl rfl _ _ _ hR hL hl))
      · exact am_s_ldcW C hi hdec (by rw [am_ofI]; exact (k0 rfl rfl _ _ _ hR hL hl))
    · next n =>
      cases hs
      simp only [am_raws, List.mem_cons, List.mem_append, List.mem_map, Prod.mk.injEq] at hraw
      rcases hraw with ⟨rfl, rfl⟩ | h | h | ⟨i, hi, rfl, rfl⟩ | ⟨i, hi, rfl, rfl⟩
      · exact lv_iconst hx hb hdec rfl (k0 rfl rfl _ _ _ hR hL hl)
      · split at h
        · next hv2 =>
          simp only [List.mem_singleton, Prod.mk.injEq] at h
          obtain ⟨rfl, rfl⟩ := h
          exact lv_bipush hx hb hdec (by rw [hv2]; rfl) (k0 rfl rfl _ _ _ hR hL hl)
        · cases h
      · split at h
        · next hv2 =>
          simp only [List.mem_singleton, Prod.mk.injEq] at h
          obtain ⟨rfl, rfl⟩ := h
          exact lv_sipush hx hb hdec (by rw [hv2]; rfl) (k0 rfl rfl _ _ _ hR hL hl)
        · cases h
      · exact am_s_ldcI C hi hdec (k0 rfl rfl _ _ _ hR hL hl)
      · exact am_s_ldcW C hi hdec (k0 rfl rfl _ _ _ hR hL hl)
  | jsr v =>
    delta am_step at hs
    dsimp only at hs
    split at hs
    · next n =>
      cases hs
      simp only [am_raws, List.mem_append, List.mem_map, Prod.mk.injEq] at hraw
      rcases hraw with h | ⟨i, hi, rfl, rfl⟩
      · split at h
        · next hv =>
          simp only [List.mem_singleton, Prod.mk.injEq] at h
          obtain ⟨rfl, rfl⟩ := h
          exact lv_lconst hx hb hdec (by injection hv with hv; subst hv; decide) (k0 rfl rfl _ _ _ hR hL hl)
        · split at h
          · next hv =>
            simp only [List.mem_singleton, Prod.mk.injEq] at h
            obtain ⟨rfl, rfl⟩ := h
            exact lv_lconst hx hb hdec (by injection hv with hv; subst hv; decide) (k0 rfl rfl _ _ _ hR hL hl)
          · cases h
      · exact am_s_ldc2 C hi hdec (by rw [am_ofL]; exact (k0 rfl rfl _ _ _ hR hL hl))
    · next n =>
      cases hs
      simp only [am_raws, List.mem_append, List.mem_map, Prod.mk.injEq] at hraw
      rcases hraw with h | ⟨i, hi, rfl, rfl⟩
      · split at h
        · next hv =>
          simp only [List.mem_singleton, Prod.mk.injEq] at h
          obtain ⟨rfl, rfl⟩ := h
          exact lv_lconst hx hb hdec (by cases hv) (k0 rfl rfl _ _ _ hR hL hl)
        · split at h
          · next hv =>
            simp only [List.mem_singleton, Prod.mk.injEq] at h
            obtain ⟨rfl, rfl⟩ := h
            exact lv_lconst hx hb hdec (by cases hv) (k0 rfl rfl _ _ _ hR hL hl)
          · cases h
      · exact am_s_ldc2 C hi hdec (k0 rfl rfl _ _ _ hR hL hl)
  | ldc k =>
    delta am_step at hs
    dsimp only at hs
    · obtain ⟨hk56, hs⟩ := am_ite hs
      cases hs
      unfold am_raws at hraw
      dsimp only at hraw
      split at hraw
      · next h =>
        simp only [List.mem_singleton, Prod.mk.injEq] at hraw
        obtain ⟨rfl, rfl⟩ := hraw
        exact am_s_ldcS C h.1 (Or.inl ⟨h.2, rfl⟩) hdec (k0 rfl rfl _ _ _ hR hL hl)
      · split at hraw
        · next h =>
          simp only [List.mem_singleton, Prod.mk.injEq] at hraw
          obtain ⟨rfl, rfl⟩ := hraw
          exact am_s_ldcS C h.1 (Or.inr ⟨h.2, rfl⟩) hdec (k0 rfl rfl _ _ _ hR hL hl)
        · cases hraw
  | aconst_null =>
    delta am_step at hs
    dsimp only at hs
    cases hs
    have hq : raw = .aconst_null ∧ len = 1 := by simpa [am_raws] using hraw
    obtain ⟨rfl, rfl⟩ := hq
    exact lv_null hx hb hdec (k0 rfl rfl _ _ _ hR hL hl)
  | getstatic k =>
    delta am_step at hs
    dsimp only at hs
    split at hs
    · next v hv =>
      cases hs
      simp only [am_raws, List.mem_map, Prod.mk.injEq] at hraw
      obtain ⟨i, hi, rfl, rfl⟩ := hraw
      exact am_s_gets C hR hi hv hdec (k0 rfl rfl _ _ _ hR hL hl)
    · cases hs
  | iload n =>
    delta am_step at hs
    dsimp only at hs
    split at hs
    · next x hx1 =>
      cases hs
      have ha := hl.at hx1
      simp only [am_raws, List.mem_cons, List.mem_map, Prod.mk.injEq] at hraw
      rcases hraw with ⟨rfl, rfl⟩ | ⟨i, hi, rfl, rfl⟩
      · exact lv_iload hx hb hdec ha (k0 rfl rfl _ _ _ hR hL hl)
      · unfold am_fin4 at hi
        split at hi
        · simp only [List.mem_singleton] at hi
          subst hi
          exact lv_iload_n hx hb hdec rfl ha (k0 rfl rfl _ _ _ hR hL hl)
        · cases hi
    · cases hs
  | lload n =>
    delta am_step at hs
    dsimp only at hs
    split at hs
    · next x hx1 =>
      cases hs
      have ha := hl.at hx1
      simp only [am_raws, List.mem_cons, List.mem_map, Prod.mk.injEq] at hraw
      rcases hraw with ⟨rfl, rfl⟩ | ⟨i, hi, rfl, rfl⟩
      · exact lv_lload hx hb hdec ha (k0 rfl rfl _ _ _ hR hL hl)
      · unfold am_fin4 at hi
        split at hi
        · simp only [List.mem_singleton] at hi
          subst hi
          exact lv_lload_n hx hb hdec rfl ha (k0 rfl rfl _ _ _ hR hL hl)
        · cases hi
    · cases hs
  | aload n =>
    delta am_step at hs
    dsimp only at hs
    split at hs
    · next x hx1 =>
      cases hs
      have ha := hl.at hx1
      simp only [am_raws, List.mem_cons, List.mem_map, Prod.mk.injEq] at hraw
      rcases hraw with ⟨rfl, rfl⟩ | ⟨i, hi, rfl, rfl⟩
      · exact lv_aload hx hb hdec ha (k0 rfl rfl _ _ _ hR hL hl)
      · unfold am_fin4 at hi
        split at hi
        · simp only [List.mem_singleton] at hi
          subst hi
          exact lv_aload_n hx hb hdec rfl ha (k0 rfl rfl _ _ _ hR hL hl)
        · cases hi
    · next hx1 =>
      cases hs
      have ha := hl.at hx1
      simp only [am_raws, List.mem_cons, List.mem_map, Prod.mk.injEq] at hraw
      rcases hraw with ⟨rfl, rfl⟩ | ⟨i, hi, rfl, rfl⟩
      · exact lv_aloadN hx hb hdec ha (k0 rfl rfl _ _ _ hR hL hl)
      · unfold am_fin4 at hi
        split at hi
        · simp only [List.mem_singleton] at hi
          subst hi
          exact lv_aload_nN hx hb hdec rfl ha (k0 rfl rfl _ _ _ hR hL hl)
        · cases hi
    · next x hx1 =>
      cases hs
      have ha := hl.at hx1
      simp only [am_raws, List.mem_cons, List.mem_map, Prod.mk.injEq] at hraw
      have hk := k0 rfl rfl H ls locs hR hL hl
      have e1 : am_ra G (.retAddr x) = gO G := rfl
      simp only [List.map_cons, e1] at hk
      rw [e1] at ha
      rcases hO with ho | ⟨a, ho⟩
      · rw [ho] at ha hk
        rcases hraw with ⟨rfl, rfl⟩ | ⟨i, hi, rfl, rfl⟩
        · exact lv_aloadN hx hb hdec ha hk
        · unfold am_fin4 at hi
          split at hi
          · simp only [List.mem_singleton] at hi
            subst hi
            exact lv_aload_nN hx hb hdec rfl ha hk
          · cases hi
      · rw [ho] at ha hk
        rcases hraw with ⟨rfl, rfl⟩ | ⟨i, hi, rfl, rfl⟩
        · exact lv_aload hx hb hdec ha hk
        · unfold am_fin4 at hi
          split at hi
          · simp only [List.mem_singleton] at hi
            subst hi
            exact lv_aload_n hx hb hdec rfl ha hk
          · cases hi
    · cases hs
  | istore n =>
    delta am_step at hs
    dsimp only at hs
    split at hs
    · next x r =>
      · obtain ⟨hn, hs⟩ := am_ite hs
        cases hs
        simp only [am_raws, List.mem_cons, List.mem_map, Prod.mk.injEq] at hraw
        have hn2 : n + 0 < am_ml z := by rw [← hl.1]; exact hn
        rcases hraw with ⟨rfl, rfl⟩ | ⟨i, hi, rfl, rfl⟩
        · exact lv_istore hx hb hdec hl.2 hn2 rfl (fun ls1 h1 => k0 rfl rfl _ _ _ hR hL (am_lvh.set1 hO hl.1 h1))
        · unfold am_fin4 at hi
          split at hi
          · simp only [List.mem_singleton] at hi
            subst hi
            exact lv_istore_n hx hb hdec rfl hl.2 hn2 rfl (fun ls1 h1 => k0 rfl rfl _ _ _ hR hL (am_lvh.set1 hO hl.1 h1))
          · cases hi
    · cases hs
  | lstore n =>
    delta am_step at hs
    dsimp only at hs
    split at hs
    · next x r =>
      · obtain ⟨hn, hs⟩ := am_ite hs
        cases hs
        simp only [am_raws, List.mem_cons, List.mem_map, Prod.mk.injEq] at hraw
        have hn2 : n + 1 < am_ml z := by rw [← hl.1]; exact hn
        rcases hraw with ⟨rfl, rfl⟩ | ⟨i, hi, rfl, rfl⟩
        · exact lv_lstore hx hb hdec hl.2 hn2 rfl (fun ls1 h1 => k0 rfl rfl _ _ _ hR hL (am_lvh.set2 hO hl.1 hn2 h1))
        · unfold am_fin4 at hi
          split at hi
          · simp only [List.mem_singleton] at hi
            subst hi
            exact lv_lstore_n hx hb hdec rfl hl.2 hn2 rfl (fun ls1 h1 => k0 rfl rfl _ _ _ hR hL (am_lvh.set2 hO hl.1 hn2 h1))
          · cases hi
    · cases hs
  | astore n =>
    delta am_step at hs
    dsimp only at hs
    split at hs
    · next x r =>
      · obtain ⟨hn, hs⟩ := am_ite hs
        cases hs
        simp only [am_raws, List.mem_cons, List.mem_map, Prod.mk.injEq] at hraw
        have hn2 : n + 0 < am_ml z := by rw [← hl.1]; exact hn
        rcases hraw with ⟨rfl, rfl⟩ | ⟨i, hi, rfl, rfl⟩
        · exact lv_astore hx hb hdec hl.2 hn2 rfl (fun ls1 h1 => k0 rfl rfl _ _ _ hR hL (am_lvh.set1 hO hl.1 h1))
        · unfold am_fin4 at hi
          split at hi
          · simp only [List.mem_singleton] at hi
            subst hi
            exact lv_astore_n hx hb hdec rfl hl.2 hn2 rfl (fun ls1 h1 => k0 rfl rfl _ _ _ hR hL (am_lvh.set1 hO hl.1 h1))
          · cases hi
    · next r =>
      · obtain ⟨hn, hs⟩ := am_ite hs
        cases hs
        simp only [am_raws, List.mem_cons, List.mem_map, Prod.mk.injEq] at hraw
        have hn2 : n + 0 < am_ml z := by rw [← hl.1]; exact hn
        rcases hraw with ⟨rfl, rfl⟩ | ⟨i, hi, rfl, rfl⟩
        · exact lv_astoreN hx hb hdec hl.2 hn2 rfl (fun ls1 h1 => k0 rfl rfl _ _ _ hR hL (am_lvh.set1 hO hl.1 h1))
        · unfold am_fin4 at hi
          split at hi
          · simp only [List.mem_singleton] at hi
            subst hi
            exact lv_astore_nN hx hb hdec rfl hl.2 hn2 rfl (fun ls1 h1 => k0 rfl rfl _ _ _ hR hL (am_lvh.set1 hO hl.1 h1))
          · cases hi
    · cases hs
  | iinc n c =>
    delta am_step at hs
    dsimp only at hs
    split at hs
    · next x hx1 =>
      by_cases hn : n < lv.length
      · rw [if_pos hn] at hs
        split at hs
        · next q =>
          cases hs
          have hq : raw = .iinc n (Int.ofNat q) ∧ len = 3 := by simpa [am_raws] using hraw
          obtain ⟨rfl, rfl⟩ := hq
          have hmem := am_list_get (G := G) lv 0 n _ hx1
          rw [Nat.zero_add] at hmem
          obtain ⟨k, hk⟩ := List.getElem?_of_mem hmem
          exact lv_iinc hx hb hdec hl.2 hk (by rw [am_ofI]) (by rw [← hl.1]; exact hn) rfl (fun ls1 h1 => k0 rfl rfl _ _ _ hR hL (am_lvh.set1 (v := .int _) hO hl.1 h1))
        · next q =>
          cases hs
          have hq : raw = .iinc n (Int.negSucc q) ∧ len = 3 := by simpa [am_raws] using hraw
          obtain ⟨rfl, rfl⟩ := hq
          have hmem := am_list_get (G := G) lv 0 n _ hx1
          rw [Nat.zero_add] at hmem
          obtain ⟨k, hk⟩ := List.getElem?_of_mem hmem
          exact lv_iinc hx hb hdec hl.2 hk rfl (by rw [← hl.1]; exact hn) rfl (fun ls1 h1 => k0 rfl rfl _ _ _ hR hL (am_lvh.set1 (v := .int _) hO hl.1 h1))
      · rw [if_neg hn] at hs
        cases hs
    · cases hs
  | iadd =>
    delta am_step at hs
    dsimp only at hs
    split at hs
    · next y x r =>
      cases hs
      have hq : raw = .iadd ∧ len = 1 := by simpa [am_raws] using hraw
      obtain ⟨rfl, rfl⟩ := hq
      exact lv_iadd hx hb hdec (k0 rfl rfl _ _ _ hR hL hl)
    · cases hs
  | isub =>
    delta am_step at hs
    dsimp only at hs
    split at hs
    · next y x r =>
      cases hs
      have hq : raw = .isub ∧ len = 1 := by simpa [am_raws] using hraw
      obtain ⟨rfl, rfl⟩ := hq
      exact lv_isub hx hb hdec (k0 rfl rfl _ _ _ hR hL hl)
    · cases hs
  | imul =>
    delta am_step at hs
    dsimp only at hs
    split at hs
    · next y x r =>
      cases hs
      have hq : raw = .imul ∧ len = 1 := by simpa [am_raws] using hraw
      obtain ⟨rfl, rfl⟩ := hq
      exact lv_imul hx hb hdec (k0 rfl rfl _ _ _ hR hL hl)
    · cases hs
  | iand =>
    delta am_step at hs
    dsimp only at hs
    split at hs
    · next y x r =>
      cases hs
      have hq : raw = .iand ∧ len = 1 := by simpa [am_raws] using hraw
      obtain ⟨rfl, rfl⟩ := hq
      exact lv_iand hx hb hdec (k0 rfl rfl _ _ _ hR hL hl)
    · cases hs
  | ior =>
    delta am_step at hs
    dsimp only at hs
    split at hs
    · next y x r =>
      cases hs
      have hq : raw = .ior ∧ len = 1 := by simpa [am_raws] using hraw
      obtain ⟨rfl, rfl⟩ := hq
      exact lv_ior hx hb hdec (k0 rfl rfl _ _ _ hR hL hl)
    · cases hs
  | ixor =>
    delta am_step at hs
    dsimp only at hs
    split at hs
    · next y x r =>
      cases hs
      have hq : raw = .ixor ∧ len = 1 := by simpa [am_raws] using hraw
      obtain ⟨rfl, rfl⟩ := hq
      exact lv_ixor hx hb hdec (k0 rfl rfl _ _ _ hR hL hl)
    · cases hs
  | ishl =>
    delta am_step at hs
    dsimp only at hs
    split at hs
    · next y x r =>
      cases hs
      have hq : raw = .ishl ∧ len = 1 := by simpa [am_raws] using hraw
      obtain ⟨rfl, rfl⟩ := hq
      exact lv_ishl hx hb hdec (k0 rfl rfl _ _ _ hR hL hl)
    · cases hs
  | ishr =>
    delta am_step at hs
    dsimp only at hs
    split at hs
    · next y x r =>
      cases hs
      have hq : raw = .ishr ∧ len = 1 := by simpa [am_raws] using hraw
      obtain ⟨rfl, rfl⟩ := hq
      exact lv_ishr hx hb hdec (k0 rfl rfl _ _ _ hR hL hl)
    · cases hs
  | idiv =>
    delta am_step at hs
    dsimp only at hs
    split at hs
    · next y x r =>
      · obtain ⟨hne, hs⟩ := am_iten hs
        cases hs
        have hq : raw = .idiv ∧ len = 1 := by simpa [am_raws] using hraw
        obtain ⟨rfl, rfl⟩ := hq
        exact lv_idiv hx hb hdec hne (k0 rfl rfl _ _ _ hR hL hl)
    · cases hs
  | irem =>
    delta am_step at hs
    dsimp only at hs
    split at hs
    · next y x r =>
      · obtain ⟨hne, hs⟩ := am_iten hs
        cases hs
        have hq : raw = .irem ∧ len = 1 := by simpa [am_raws] using hraw
        obtain ⟨rfl, rfl⟩ := hq
        exact lv_irem hx hb hdec hne (k0 rfl rfl _ _ _ hR hL hl)
    · cases hs
  | ldiv =>
    delta am_step at hs
    dsimp only at hs
    split at hs
    · next y x r =>
      · obtain ⟨hne, hs⟩ := am_iten hs
        cases hs
        have hq : raw = .ldiv ∧ len = 1 := by simpa [am_raws] using hraw
        obtain ⟨rfl, rfl⟩ := hq
        exact lv_ldiv hx hb hdec hne (k0 rfl rfl _ _ _ hR hL hl)
    · cases hs
  | ineg =>
    delta am_step at hs
    dsimp only at hs
    split at hs
    · next x r =>
      cases hs
      have hq : raw = .ineg ∧ len = 1 := by simpa [am_raws] using hraw
      obtain ⟨rfl, rfl⟩ := hq
      exact lv_ineg hx hb hdec (k0 rfl rfl _ _ _ hR hL hl)
    · cases hs
  | iushr =>
    delta am_step at hs
    dsimp only at hs
    split at hs
    · next y x r =>
      cases hs
      have hq : raw = .iushr ∧ len = 1 := by simpa [am_raws] using hraw
      obtain ⟨rfl, rfl⟩ := hq
      exact lv_iushr hx hb hdec rfl (k0 rfl rfl _ _ _ hR hL hl)
    · cases hs
  | lushr =>
    delta am_step at hs
    dsimp only at hs
    split at hs
    · next y x r =>
      cases hs
      have hq : raw = .lushr ∧ len = 1 := by simpa [am_raws] using hraw
      obtain ⟨rfl, rfl⟩ := hq
      exact lv_lushr hx hb hdec rfl (k0 rfl rfl _ _ _ hR hL hl)
    · cases hs
  | lshl =>
    delta am_step at hs
    dsimp only at hs
    split at hs
    · next y x r =>
      cases hs
      have hq : raw = .lshl ∧ len = 1 := by simpa [am_raws] using hraw
      obtain ⟨rfl, rfl⟩ := hq
      exact lv_lshl hx hb hdec rfl (k0 rfl rfl _ _ _ hR hL hl)
    · cases hs
  | ladd =>
    delta am_step at hs
    dsimp only at hs
    split at hs
    · next y x r =>
      cases hs
      have hq : raw = .ladd ∧ len = 1 := by simpa [am_raws] using hraw
      obtain ⟨rfl, rfl⟩ := hq
      exact lv_ladd hx hb hdec (k0 rfl rfl _ _ _ hR hL hl)
    · cases hs
  | lsub =>
    delta am_step at hs
    dsimp only at hs
    split at hs
    · next y x r =>
      cases hs
      have hq : raw = .lsub ∧ len = 1 := by simpa [am_raws] using hraw
      obtain ⟨rfl, rfl⟩ := hq
      exact lv_lsub hx hb hdec (k0 rfl rfl _ _ _ hR hL hl)
    · cases hs
  | lmul =>
    delta am_step at hs
    dsimp only at hs
    split at hs
    · next y x r =>
      cases hs
      have hq : raw = .lmul ∧ len = 1 := by simpa [am_raws] using hraw
      obtain ⟨rfl, rfl⟩ := hq
      exact lv_lmul hx hb hdec (k0 rfl rfl _ _ _ hR hL hl)
    · cases hs
  | land =>
    delta am_step at hs
    dsimp only at hs
    split at hs
    · next y x r =>
      cases hs
      have hq : raw = .land ∧ len = 1 := by simpa [am_raws] using hraw
      obtain ⟨rfl, rfl⟩ := hq
      exact lv_land hx hb hdec (k0 rfl rfl _ _ _ hR hL hl)
    · cases hs
  | lor =>
    delta am_step at hs
    dsimp only at hs
    split at hs
    · next y x r =>
      cases hs
      have hq : raw = .lor ∧ len = 1 := by simpa [am_raws] using hraw
      obtain ⟨rfl, rfl⟩ := hq
      exact lv_lor hx hb hdec (k0 rfl rfl _ _ _ hR hL hl)
    · cases hs
  | lxor =>
    delta am_step at hs
    dsimp only at hs
    split at hs
    · next y x r =>
      cases hs
      have hq : raw = .lxor ∧ len = 1 := by simpa [am_raws] using hraw
      obtain ⟨rfl, rfl⟩ := hq
      exact lv_lxor hx hb hdec (k0 rfl rfl _ _ _ hR hL hl)
    · cases hs
  | i2l =>
    delta am_step at hs
    dsimp only at hs
    split at hs
    · next x r =>
      cases hs
      have hq : raw = .i2l ∧ len = 1 := by simpa [am_raws] using hraw
      obtain ⟨rfl, rfl⟩ := hq
      exact lv_i2l hx hb hdec rfl (k0 rfl rfl _ _ _ hR hL hl)
    · cases hs
  | l2i =>
    delta am_step at hs
    dsimp only at hs
    split at hs
    · next x r =>
      cases hs
      have hq : raw = .l2i ∧ len = 1 := by simpa [am_raws] using hraw
      obtain ⟨rfl, rfl⟩ := hq
      exact lv_l2i hx hb hdec rfl (k0 rfl rfl _ _ _ hR hL hl)
    · cases hs
  | i2b =>
    delta am_step at hs
    dsimp only at hs
    split at hs
    · next x r =>
      cases hs
      have hq : raw = .i2b ∧ len = 1 := by simpa [am_raws] using hraw
      obtain ⟨rfl, rfl⟩ := hq
      exact lv_i2b hx hb hdec rfl (k0 rfl rfl _ _ _ hR hL hl)
    · cases hs
  | i2c =>
    delta am_step at hs
    dsimp only at hs
    split at hs
    · next x r =>
      cases hs
      have hq : raw = .i2c ∧ len = 1 := by simpa [am_raws] using hraw
      obtain ⟨rfl, rfl⟩ := hq
      exact lv_i2c hx hb hdec rfl (k0 rfl rfl _ _ _ hR hL hl)
    · cases hs
  | lcmp =>
    delta am_step at hs
    dsimp only at hs
    split at hs
    · next y x r =>
      cases hs
      have hq : raw = .lcmp ∧ len = 1 := by simpa [am_raws] using hraw
      obtain ⟨rfl, rfl⟩ := hq
      exact W.lcmp hx hb hdec (k0 rfl rfl _ _ _ hR hL hl)
    · cases hs
  | dup =>
    delta am_step at hs
    dsimp only at hs
    split at hs
    · next x r =>
      cases hs
      have hq : raw = .dup ∧ len = 1 := by simpa [am_raws] using hraw
      obtain ⟨rfl, rfl⟩ := hq
      exact lv_dup hx hb hdec rfl (k0 rfl rfl _ _ _ hR hL hl)
    · next x r =>
      cases hs
      have hq : raw = .dup ∧ len = 1 := by simpa [am_raws] using hraw
      obtain ⟨rfl, rfl⟩ := hq
      exact lv_dup hx hb hdec rfl (k0 rfl rfl _ _ _ hR hL hl)
    · cases hs
  | dup2 =>
    delta am_step at hs
    dsimp only at hs
    split at hs
    · next y x r =>
      cases hs
      have hq : raw = .dup2 ∧ len = 1 := by simpa [am_raws] using hraw
      obtain ⟨rfl, rfl⟩ := hq
      exact lv_dup2_11 hx hb hdec rfl rfl (k0 rfl rfl _ _ _ hR hL hl)
    · cases hs
  | pop =>
    delta am_step at hs
    dsimp only at hs
    split at hs
    · next y r =>
      cases hs
      have hq : raw = .pop ∧ len = 1 := by simpa [am_raws] using hraw
      obtain ⟨rfl, rfl⟩ := hq
      exact lv_pop hx hb hdec rfl (k0 rfl rfl _ _ _ hR hL hl)
    · cases hs
  | monitorenter =>
    delta am_step at hs
    dsimp only at hs
    split at hs
    · next x r =>
      · obtain ⟨hsum, hs⟩ := am_ite hs
        cases hs
        simp only [am_raws, List.mem_map, Prod.mk.injEq] at hraw
        obtain ⟨i, hi, rfl, rfl⟩ := hraw
        exact am_s_oinit C hls hi (by rw [hcat]; exact hsum) hfr hlo hdec (k0 rfl rfl _ _ _ hR hL hl)
    · cases hs
  | getfield f =>
    delta am_step at hs
    dsimp only at hs
    split at hs
    · next i r =>
      simp only [am_raws, List.mem_map, Prod.mk.injEq] at hraw
      obtain ⟨ix, hi, rfl, rfl⟩ := hraw
      split at hs
      · next x hv =>
        cases hs
        exact am_s_get C hR hi hv hdec (k0 rfl rfl _ _ _ hR hL hl)
      · next x hv =>
        cases hs
        exact am_s_get C hR hi hv hdec (k0 rfl rfl _ _ _ hR hL hl)
      · next hv =>
        cases hs
        exact am_s_get C hR hi hv hdec (k0 rfl rfl _ _ _ hR hL hl)
      · next x hv =>
        cases hs
        exact am_s_get C hR hi hv hdec (k0 rfl rfl _ _ _ hR hL hl)
      · cases hs
    · cases hs
  | putfield f =>
    delta am_step at hs
    dsimp only at hs
    split at hs
    · next v i r =>
      simp only [am_raws, List.mem_map, Prod.mk.injEq] at hraw
      obtain ⟨ix, hi, rfl, rfl⟩ := hraw
      split at hs
      · next M2 hv =>
        cases hs
        obtain ⟨hN, hS⟩ := am_put_N hv
        exact am_s_put C hR hL hi hv hdec (fun H' locs' h1 h2 => k0 hN hS _ _ _ h1 h2 hl)
      · cases hs
    · cases hs
  | arraylength =>
    delta am_step at hs
    dsimp only at hs
    split at hs
    · next i r =>
      rcases hkd : am_kd b M i with ⟨k, n⟩
      rw [hkd] at hs
      obtain ⟨h, hs⟩ := am_ite hs
      cases hs
      have hq : raw = .arraylength ∧ len = 1 := by simpa [am_raws] using hraw
      obtain ⟨rfl, rfl⟩ := hq
      have := am_s_alen (rest := r.map (am_ra G)) (ls := ls) (pc := pc) (Q := Q) (cells := cells) (slots := slots) (locs := locs) (l := l) (e := e) (R := R) (below := below) C hR (i := i) (by rw [hkd]; exact h.1) (by rw [hkd]; exact h.2) hdec
      rw [hkd] at this
      exact this (k0 rfl rfl _ _ _ hR hL hl)
    · cases hs
  | iaload =>
    delta am_step at hs
    dsimp only at hs
    split at hs
    · next j i r =>
      · obtain ⟨h, hs⟩ := am_ite hs
        cases hs
        have hq : raw = .iaload ∧ len = 1 := by simpa [am_raws] using hraw
        obtain ⟨rfl, rfl⟩ := hq
        exact am_s_iald C hR h.1 h.2 hdec (k0 rfl rfl _ _ _ hR hL hl)
    · cases hs
  | laload =>
    delta am_step at hs
    dsimp only at hs
    split at hs
    · next j i r =>
      · obtain ⟨h, hs⟩ := am_ite hs
        cases hs
        have hq : raw = .laload ∧ len = 1 := by simpa [am_raws] using hraw
        obtain ⟨rfl, rfl⟩ := hq
        exact am_s_lald C hR h.1 h.2 hdec (k0 rfl rfl _ _ _ hR hL hl)
    · cases hs
  | baload =>
    delta am_step at hs
    dsimp only at hs
    split at hs
    · next j i r =>
      · obtain ⟨h, hs⟩ := am_ite hs
        cases hs
        have hq : raw = .baload ∧ len = 1 := by simpa [am_raws] using hraw
        obtain ⟨rfl, rfl⟩ := hq
        exact am_s_bald C hR h.1 h.2 hdec (k0 rfl rfl _ _ _ hR hL hl)
    · cases hs
  | aaload =>
    delta am_step at hs
    dsimp only at hs
    split at hs
    · next j i r =>
      · obtain ⟨h, hs⟩ := am_ite hs
        cases hs
        have hq : raw = .aaload ∧ len = 1 := by simpa [am_raws] using hraw
        obtain ⟨rfl, rfl⟩ := hq
        exact am_s_aald C hR h.1 h.2 hdec (k0 rfl rfl _ _ _ hR hL hl)
    · cases hs
  | iastore =>
    delta am_step at hs
    dsimp only at hs
    split at hs
    · next x j i r =>
      · obtain ⟨h, hs⟩ := am_ite hs
        cases hs
        have hq : raw = .iastore ∧ len = 1 := by simpa [am_raws] using hraw
        obtain ⟨rfl, rfl⟩ := hq
        exact am_s_iast C hR hL h.1 h.2.1 h.2.2 hdec (fun H' locs' h1 h2 => k0 rfl rfl _ _ _ h1 h2 hl)
    · cases hs
  | lastore =>
    delta am_step at hs
    dsimp only at hs
    split at hs
    · next x j i r =>
      · obtain ⟨h, hs⟩ := am_ite hs
        cases hs
        have hq : raw = .lastore ∧ len = 1 := by simpa [am_raws] using hraw
        obtain ⟨rfl, rfl⟩ := hq
        exact am_s_last C hR hL h.1 h.2.1 h.2.2 hdec (fun H' locs' h1 h2 => k0 rfl rfl _ _ _ h1 h2 hl)
    · cases hs
  | aastore =>
    delta am_step at hs
    dsimp only at hs
    split at hs
    · next x j i r =>
      · obtain ⟨h, hs⟩ := am_ite hs
        cases hs
        have hq : raw = .aastore ∧ len = 1 := by simpa [am_raws] using hraw
        obtain ⟨rfl, rfl⟩ := hq
        exact am_s_aast C hR hL h.1 h.2.1 h.2.2.1 h.2.2.2 hdec (fun H' locs' h1 h2 => k0 rfl rfl _ _ _ h1 h2 hl)
    · cases hs
  | bastore =>
    delta am_step at hs
    dsimp only at hs
    split at hs
    · next x j i r =>
      rcases am_iter hs with ⟨h, hs⟩ | ⟨-, hs⟩
      · cases hs
        have hq : raw = .bastore ∧ len = 1 := by simpa [am_raws] using hraw
        obtain ⟨rfl, rfl⟩ := hq
        exact am_s_bastZ C hR hL h.1 h.2.1 h.2.2 hdec (fun H' locs' h1 h2 => k0 rfl rfl _ _ _ h1 h2 hl)
      · · obtain ⟨h, hs⟩ := am_ite hs
          cases hs
          have hq : raw = .bastore ∧ len = 1 := by simpa [am_raws] using hraw
          obtain ⟨rfl, rfl⟩ := hq
          exact am_s_bastB C hR hL h.1 h.2.1 h.2.2 hdec (fun H' locs' h1 h2 => k0 rfl rfl _ _ _ h1 h2 hl)
    · cases hs
  | new k =>
    delta am_step at hs
    dsimp only at hs
    · obtain ⟨h, hs⟩ := am_ite hs
      cases hs
      simp only [am_raws, List.mem_map, Prod.mk.injEq] at hraw
      obtain ⟨ix, hi, rfl, rfl⟩ := hraw
      have e1 : mN (am_alloc M k (am_nf k) (fun _ => 0)) - mN M = 1 := by show mN M + 1 - mN M = 1; omega
      have e2 : mS (am_alloc M k (am_nf k) (fun _ => 0)) - mS M = am_nf k := by show mS M + _ - mS M = _; omega
      rw [e1] at hcells kk
      rw [e2] at hslots kk
      exact am_s_new C hR h.1 hi h.2 hdec hcells hslots (fun H' h1 => kk _ _ _ h1 hL hl)
  | newarray t =>
    delta am_step at hs
    dsimp only at hs
    split at hs
    · next j r =>
      · obtain ⟨h, hs⟩ := am_ite hs
        cases hs
        have hq : raw = .newarray t ∧ len = 2 := by simpa [am_raws] using hraw
        obtain ⟨rfl, rfl⟩ := hq
        have e1 : mN (am_alloc M (am_at t) j.toNatClampNeg (fun _ => 0)) - mN M = 1 := by show mN M + 1 - mN M = 1; omega
        have e2 : mS (am_alloc M (am_at t) j.toNatClampNeg (fun _ => 0)) - mS M = j.toNatClampNeg := by show mS M + _ - mS M = _; omega
        rw [e1] at hcells kk
        rw [e2] at hslots kk
        exact am_s_newa C hR h.1 h.2.1 h.2.2.1 h.2.2.2 hdec hcells hslots (fun H' h1 => kk _ _ _ h1 hL hl)
    · cases hs
  | anewarray k =>
    delta am_step at hs
    dsimp only at hs
    split at hs
    · next j r =>
      · obtain ⟨h, hs⟩ := am_ite hs
        cases hs
        simp only [am_raws, List.mem_map, Prod.mk.injEq] at hraw
        obtain ⟨ix, hi, rfl, rfl⟩ := hraw
        rw [h.1] at hi
        have e1 : mN (am_alloc M 24 j.toNatClampNeg (fun _ => 0)) - mN M = 1 := by show mN M + 1 - mN M = 1; omega
        have e2 : mS (am_alloc M 24 j.toNatClampNeg (fun _ => 0)) - mS M = j.toNatClampNeg := by show mS M + _ - mS M = _; omega
        rw [e1] at hcells kk
        rw [e2] at hslots kk
        exact am_s_anew C hR hi h.2.1 h.2.2.1 h.2.2.2 hdec hcells hslots (fun H' h1 => kk _ _ _ h1 hL hl)
    · cases hs
  | checkcast k =>
    delta am_step at hs
    dsimp only at hs
    split at hs
    · next x r =>
      · obtain ⟨h, hs⟩ := am_ite hs
        cases hs
        unfold am_raws at hraw
        dsimp only at hraw
        split at hraw
        · next ho =>
          simp only [List.mem_singleton, Prod.mk.injEq] at hraw
          obtain ⟨rfl, rfl⟩ := hraw
          exact am_s_cast C hR ho h.1 h.2 hdec (k0 rfl rfl _ _ _ hR hL hl)
        · cases hraw
    · cases hs
  | invokedynamic k =>
    delta am_step at hs
    dsimp only at hs
    unfold am_raws at hraw
    dsimp only at hraw
    by_cases hk : k = 0
    · rw [if_pos hk] at hraw hs
      split at hs
      · next n dp di sp si r =>
        · obtain ⟨h, hs⟩ := am_ite hs
          cases hs
          obtain ⟨rfl, rfl, c1, c2, c3, c4, c5, c6, c7⟩ := h
          split at hraw
          · next ho =>
            simp only [List.mem_singleton, Prod.mk.injEq] at hraw
            obtain ⟨rfl, rfl⟩ := hraw
            have hw := am_word C (w := .methodLink (am_CN 7) 99 arraycopyName) (by decide +kernel) rfl
            have hown := C.2.2.2.1
            rw [ho] at hown
            exact am_s_copy C hR hL hls hown hw c1 c2 c3 c4 c5 c6 (by rw [hcat]; exact c7) hfr hlo hdec (fun H' locs' h1 h2 => k0 rfl rfl _ _ _ h1 h2 hl)
          · split at hraw
            · next ho =>
              simp only [List.mem_singleton, Prod.mk.injEq] at hraw
              obtain ⟨rfl, rfl⟩ := hraw
              have hw := am_word C (w := .methodLink (am_CN 15) 150 arraycopyName) (by decide +kernel) rfl
              have hown := C.2.2.2.1
              rw [ho] at hown
              exact am_s_copy C hR hL hls hown hw c1 c2 c3 c4 c5 c6 (by rw [hcat]; exact c7) hfr hlo hdec (fun H' locs' h1 h2 => k0 rfl rfl _ _ _ h1 h2 hl)
            · cases hraw
      · cases hs
    · rw [if_neg hk] at hraw hs
      by_cases hk1 : k = 1
      · rw [if_pos hk1] at hs
        split at hs
        · next i r =>
          · obtain ⟨h, hs⟩ := am_ite hs
            cases hs
            split at hraw
            · next ho =>
              simp only [List.mem_singleton, Prod.mk.injEq] at hraw
              obtain ⟨rfl, rfl⟩ := hraw
              have hw := am_word C (w := .methodLink (am_CN 15) 316 ⟨"[I", "clone", "()Ljava/lang/Object;"⟩) (by decide +kernel) rfl
              have hown := C.2.2.2.1
              rw [ho] at hown
              have e1 : mN (am_alloc M 20 (am_kd b M i).2 (mI M i)) - mN M = 1 := by show mN M + 1 - mN M = 1; omega
              have e2 : mS (am_alloc M 20 (am_kd b M i).2 (mI M i)) - mS M = (am_kd b M i).2 := by show mS M + _ - mS M = _; omega
              rw [e1] at hcells kk
              rw [e2] at hslots kk
              exact am_s_clone C hR hls hown hw h.1 h.2.1 h.2.2.1 (by rw [hcat]; exact h.2.2.2) hfr hlo hcells hslots hdec (fun H' h1 => kk _ _ _ h1 hL hl)
            · cases hraw
        · cases hs
      · rw [if_neg hk1] at hs
        cases hs
  | goto t =>
    delta am_step at hs
    dsimp only at hs
    cases hs
    have hq : raw = .goto (am_off z pc t.toNat) ∧ len = 3 := by simpa [am_raws] using hraw
    obtain ⟨rfl, rfl⟩ := hq
    exact lv_goto hx hb hdec (hoff _) (k0 rfl rfl _ _ _ hR hL hl)
  | jsr_w t =>
    delta am_step at hs
    dsimp only at hs
    cases hs
    have hq : raw = .goto (am_off z pc t.toNat) ∧ len = 3 := by simpa [am_raws] using hraw
    obtain ⟨rfl, rfl⟩ := hq
    exact lv_goto hx hb hdec (hoff _) (k0 rfl rfl _ _ _ hR hL hl)
  | goto_w t =>
    exact absurd rfl (hnp.1 t)
  | ret t =>
    exact absurd rfl (hnp.2 t)
  | ifCond cc t =>
    delta am_step at hs
    dsimp only at hs
    split at hs
    · next x r =>
      have hq : raw = .ifCond cc (am_off z pc t.toNat) ∧ len = 3 := by simpa [am_raws] using hraw
      obtain ⟨rfl, rfl⟩ := hq
      cases hs
      cases cc with
      | eq =>
        have kk1 : am_cmp .eq x 0 = true → W p l e R s m args below meth c H locs cells slots Q (F0 m (am_bpc z t.toNat) ls (st'.map (am_ra G))) := fun h => by
          have := k0 rfl rfl H ls locs hR hL hl
          rw [h] at this
          exact this
        have kk2 : am_cmp .eq x 0 = false → W p l e R s m args below meth c H locs cells slots Q (F0 m (pc + 3) ls (st'.map (am_ra G))) := fun h => by
          have := k0 rfl rfl H ls locs hR hL hl
          rw [h] at this
          exact this
        exact lv_if_eq hx hb hdec (hoff _) (fun h => kk1 (by simpa [am_cmp] using h)) (fun h => kk2 (by simpa [am_cmp] using h))
      | ne =>
        have kk1 : am_cmp .ne x 0 = true → W p l e R s m args below meth c H locs cells slots Q (F0 m (am_bpc z t.toNat) ls (st'.map (am_ra G))) := fun h => by
          have := k0 rfl rfl H ls locs hR hL hl
          rw [h] at this
          exact this
        have kk2 : am_cmp .ne x 0 = false → W p l e R s m args below meth c H locs cells slots Q (F0 m (pc + 3) ls (st'.map (am_ra G))) := fun h => by
          have := k0 rfl rfl H ls locs hR hL hl
          rw [h] at this
          exact this
        exact lv_if_ne hx hb hdec (hoff _) (fun h => kk1 (by simpa [am_cmp] using h)) (fun h => kk2 (by simpa [am_cmp] using h))
      | lt =>
        have kk1 : am_cmp .lt x 0 = true → W p l e R s m args below meth c H locs cells slots Q (F0 m (am_bpc z t.toNat) ls (st'.map (am_ra G))) := fun h => by
          have := k0 rfl rfl H ls locs hR hL hl
          rw [h] at this
          exact this
        have kk2 : am_cmp .lt x 0 = false → W p l e R s m args below meth c H locs cells slots Q (F0 m (pc + 3) ls (st'.map (am_ra G))) := fun h => by
          have := k0 rfl rfl H ls locs hR hL hl
          rw [h] at this
          exact this
        exact lv_if_lt hx hb hdec (hoff _) (fun h => kk1 (by simpa [am_cmp] using h)) (fun h => kk2 (by simpa [am_cmp] using h))
      | ge =>
        have kk1 : am_cmp .ge x 0 = true → W p l e R s m args below meth c H locs cells slots Q (F0 m (am_bpc z t.toNat) ls (st'.map (am_ra G))) := fun h => by
          have := k0 rfl rfl H ls locs hR hL hl
          rw [h] at this
          exact this
        have kk2 : am_cmp .ge x 0 = false → W p l e R s m args below meth c H locs cells slots Q (F0 m (pc + 3) ls (st'.map (am_ra G))) := fun h => by
          have := k0 rfl rfl H ls locs hR hL hl
          rw [h] at this
          exact this
        exact lv_if_ge hx hb hdec (hoff _) (fun h => kk1 (by simpa [am_cmp] using h)) (fun h => kk2 (by simpa [am_cmp] using h))
      | gt =>
        have kk1 : am_cmp .gt x 0 = true → W p l e R s m args below meth c H locs cells slots Q (F0 m (am_bpc z t.toNat) ls (st'.map (am_ra G))) := fun h => by
          have := k0 rfl rfl H ls locs hR hL hl
          rw [h] at this
          exact this
        have kk2 : am_cmp .gt x 0 = false → W p l e R s m args below meth c H locs cells slots Q (F0 m (pc + 3) ls (st'.map (am_ra G))) := fun h => by
          have := k0 rfl rfl H ls locs hR hL hl
          rw [h] at this
          exact this
        exact lv_if_gt hx hb hdec (hoff _) (fun h => kk1 (by simpa [am_cmp] using h)) (fun h => kk2 (by simpa [am_cmp] using h))
      | le =>
        have kk1 : am_cmp .le x 0 = true → W p l e R s m args below meth c H locs cells slots Q (F0 m (am_bpc z t.toNat) ls (st'.map (am_ra G))) := fun h => by
          have := k0 rfl rfl H ls locs hR hL hl
          rw [h] at this
          exact this
        have kk2 : am_cmp .le x 0 = false → W p l e R s m args below meth c H locs cells slots Q (F0 m (pc + 3) ls (st'.map (am_ra G))) := fun h => by
          have := k0 rfl rfl H ls locs hR hL hl
          rw [h] at this
          exact this
        exact lv_if_le hx hb hdec (hoff _) (fun h => kk1 (by simpa [am_cmp] using h)) (fun h => kk2 (by simpa [am_cmp] using h))
    · cases hs
  | if_icmp cc t =>
    delta am_step at hs
    dsimp only at hs
    split at hs
    · next y x r =>
      have hq : raw = .if_icmp cc (am_off z pc t.toNat) ∧ len = 3 := by simpa [am_raws] using hraw
      obtain ⟨rfl, rfl⟩ := hq
      cases hs
      cases cc with
      | eq =>
        have kk1 : am_cmp .eq x y = true → W p l e R s m args below meth c H locs cells slots Q (F0 m (am_bpc z t.toNat) ls (st'.map (am_ra G))) := fun h => by
          have := k0 rfl rfl H ls locs hR hL hl
          rw [h] at this
          exact this
        have kk2 : am_cmp .eq x y = false → W p l e R s m args below meth c H locs cells slots Q (F0 m (pc + 3) ls (st'.map (am_ra G))) := fun h => by
          have := k0 rfl rfl H ls locs hR hL hl
          rw [h] at this
          exact this
        exact lv_icmp_eq hx hb hdec (hoff _) (fun h => kk1 (by simpa [am_cmp] using h)) (fun h => kk2 (by simpa [am_cmp] using h))
      | ne =>
        have kk1 : am_cmp .ne x y = true → W p l e R s m args below meth c H locs cells slots Q (F0 m (am_bpc z t.toNat) ls (st'.map (am_ra G))) := fun h => by
          have := k0 rfl rfl H ls locs hR hL hl
          rw [h] at this
          exact this
        have kk2 : am_cmp .ne x y = false → W p l e R s m args below meth c H locs cells slots Q (F0 m (pc + 3) ls (st'.map (am_ra G))) := fun h => by
          have := k0 rfl rfl H ls locs hR hL hl
          rw [h] at this
          exact this
        exact lv_icmp_ne hx hb hdec (hoff _) (fun h => kk1 (by simpa [am_cmp] using h)) (fun h => kk2 (by simpa [am_cmp] using h))
      | lt =>
        have kk1 : am_cmp .lt x y = true → W p l e R s m args below meth c H locs cells slots Q (F0 m (am_bpc z t.toNat) ls (st'.map (am_ra G))) := fun h => by
          have := k0 rfl rfl H ls locs hR hL hl
          rw [h] at this
          exact this
        have kk2 : am_cmp .lt x y = false → W p l e R s m args below meth c H locs cells slots Q (F0 m (pc + 3) ls (st'.map (am_ra G))) := fun h => by
          have := k0 rfl rfl H ls locs hR hL hl
          rw [h] at this
          exact this
        exact lv_icmp_lt hx hb hdec (hoff _) (fun h => kk1 (by simpa [am_cmp] using h)) (fun h => kk2 (by simpa [am_cmp] using h))
      | ge =>
        have kk1 : am_cmp .ge x y = true → W p l e R s m args below meth c H locs cells slots Q (F0 m (am_bpc z t.toNat) ls (st'.map (am_ra G))) := fun h => by
          have := k0 rfl rfl H ls locs hR hL hl
          rw [h] at this
          exact this
        have kk2 : am_cmp .ge x y = false → W p l e R s m args below meth c H locs cells slots Q (F0 m (pc + 3) ls (st'.map (am_ra G))) := fun h => by
          have := k0 rfl rfl H ls locs hR hL hl
          rw [h] at this
          exact this
        exact lv_icmp_ge hx hb hdec (hoff _) (fun h => kk1 (by simpa [am_cmp] using h)) (fun h => kk2 (by simpa [am_cmp] using h))
      | gt =>
        have kk1 : am_cmp .gt x y = true → W p l e R s m args below meth c H locs cells slots Q (F0 m (am_bpc z t.toNat) ls (st'.map (am_ra G))) := fun h => by
          have := k0 rfl rfl H ls locs hR hL hl
          rw [h] at this
          exact this
        have kk2 : am_cmp .gt x y = false → W p l e R s m args below meth c H locs cells slots Q (F0 m (pc + 3) ls (st'.map (am_ra G))) := fun h => by
          have := k0 rfl rfl H ls locs hR hL hl
          rw [h] at this
          exact this
        exact lv_icmp_gt hx hb hdec (hoff _) (fun h => kk1 (by simpa [am_cmp] using h)) (fun h => kk2 (by simpa [am_cmp] using h))
      | le =>
        have kk1 : am_cmp .le x y = true → W p l e R s m args below meth c H locs cells slots Q (F0 m (am_bpc z t.toNat) ls (st'.map (am_ra G))) := fun h => by
          have := k0 rfl rfl H ls locs hR hL hl
          rw [h] at this
          exact this
        have kk2 : am_cmp .le x y = false → W p l e R s m args below meth c H locs cells slots Q (F0 m (pc + 3) ls (st'.map (am_ra G))) := fun h => by
          have := k0 rfl rfl H ls locs hR hL hl
          rw [h] at this
          exact this
        exact lv_icmp_le hx hb hdec (hoff _) (fun h => kk1 (by simpa [am_cmp] using h)) (fun h => kk2 (by simpa [am_cmp] using h))
    · cases hs
  | ifnull t =>
    delta am_step at hs
    dsimp only at hs
    have hq : raw = .ifnull (am_off z pc t.toNat) ∧ len = 3 := by simpa [am_raws] using hraw
    obtain ⟨rfl, rfl⟩ := hq
    split at hs
    · next r =>
      cases hs
      exact lv_ifnullN hx hb hdec (hoff _) (k0 rfl rfl _ _ _ hR hL hl)
    · next x r =>
      cases hs
      exact lv_ifnull hx hb hdec (k0 rfl rfl _ _ _ hR hL hl)
    · cases hs
  | ifnonnull t =>
    delta am_step at hs
    dsimp only at hs
    have hq : raw = .ifnonnull (am_off z pc t.toNat) ∧ len = 3 := by simpa [am_raws] using hraw
    obtain ⟨rfl, rfl⟩ := hq
    split at hs
    · next r =>
      cases hs
      exact lv_ifnonnullN hx hb hdec (k0 rfl rfl _ _ _ hR hL hl)
    · next x r =>
      cases hs
      exact lv_ifnonnull hx hb hdec (hoff _) (k0 rfl rfl _ _ _ hR hL hl)
    · cases hs
  | tableswitch d lo hi offs =>
    delta am_step at hs
    dsimp only at hs
    unfold am_raws at hraw
    dsimp only at hraw
    split at hraw
    · next hsz =>
      simp only [List.mem_singleton, Prod.mk.injEq] at hraw
      obtain ⟨rfl, -⟩ := hraw
      split at hs
      · next x r =>
        cases hs
        have k1 := k0 rfl rfl H ls locs hR hL hl
        unfold am_tsw am_tgt at k1
        by_cases h : x.toInt < lo ∨ hi < x.toInt
        · rw [if_pos h] at k1
          exact lv_tableOut hx hb hdec h (hoff _) k1
        · rw [if_neg h] at k1
          have hr : (x.toInt - lo).toNat < offs.size := by omega
          refine lv_tableIn hx hb hdec (fun q => h (Or.inl q)) (fun q => h (Or.inr q)) (off := am_off z pc (offs.getD (x.toInt - lo).toNat 0).toNat) ?_ (hoff _) k1
          simp [Array.getElem?_map, hr]
      · cases hs
    · cases hraw
  | lookupswitch d ps =>
    delta am_step at hs
    dsimp only at hs
    unfold am_raws at hraw
    dsimp only at hraw
    split at hraw
    · next hso =>
      simp only [List.mem_singleton, Prod.mk.injEq] at hraw
      obtain ⟨rfl, -⟩ := hraw
      split at hs
      · next x r =>
        cases hs
        have k1 := k0 rfl rfl H ls locs hR hL hl
        exact lv_lookup hx hb hdec (am_lsw_sorted (f := fun q => am_off z pc q.toNat) hso) rfl (am_lsw_off hoff d x ps) k1
      · cases hs
    · cases hraw
  | _ =>
    exact absurd (show (none : am_R) = some _ from hs) (by intro h; cases h)
