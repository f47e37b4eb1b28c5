/-! copies, clones, statics, texts -/
theorem am_pairs : ∀ (xs : List Value) (i at_ : Nat) (cd : Cell) (j : Nat), at_ + i + xs.length ≤ cd.slots.size → (cd.storePairs at_ (xs.zipIdx i)).slots[j]? = if at_ + i ≤ j ∧ j < at_ + i + xs.length then xs[j - (at_ + i)]? else cd.slots[j]? := by
  intro xs
  induction xs with
  | nil =>
    intro i at_ cd j h
    rw [if_neg (by simp only [List.length_nil]; omega)]
    rfl
  | cons x xs ih =>
    intro i at_ cd j h
    rw [List.zipIdx_cons]
    show ((cd.setSlot (at_ + i) x).storePairs at_ (xs.zipIdx (i + 1))).slots[j]? = _
    simp only [List.length_cons] at h
    rw [ih (i + 1) at_ (cd.setSlot (at_ + i) x) j (by rw [k2_slotsz]; omega)]
    by_cases hj : j = at_ + i
    · subst hj
      rw [if_neg (by omega), if_pos (by simp only [List.length_cons]; omega), Cell.slots_setSlot_self _ (by omega)]
      simp
    · by_cases h2 : at_ + (i + 1) ≤ j ∧ j < at_ + (i + 1) + xs.length
      · rw [if_pos h2, if_pos (by simp only [List.length_cons]; omega)]
        have e : j - (at_ + i) = (j - (at_ + (i + 1))) + 1 := by omega
        rw [e, List.getElem?_cons_succ]
      · rw [if_neg h2, if_neg (by simp only [List.length_cons]; omega), slot_ne _ _ (Ne.symm hj)]
section NAT
variable {p : Program} {l : Launch} {e : Env} {R : Room} {s : State} {m : MethodId} {args : Array Value} {below : List Frame} {meth : Method} {c : Code} {H : Heap} {locs : List Loc} {cells slots : Nat} {Q : State → Prop}
variable {G : am_G} {z : Nat} {b : Bool} {M : am_M} {pc : Nat} {ls : Array Slot} {rest : List Value}
theorem am_s_copy (C : am_ctx G z p s m args meth c) (hR : am_rel G b s M H) (hL : ∀ q ∈ locs, gH G ≤ q.base) (hls : ls.size = am_ml z) {own : String} {idx si di : Nat} {n : Int32} (hown : s.vm.findClass own = some m.cls) (hlk : (Cond.methodLink own idx arraycopyName).before args s = true) (hn : ¬ n < 0) (hdi : 9 ≤ di) (h1 : (am_kd b M si).1 = 20) (h2 : (am_kd b M di).1 = 20) (hn1 : n.toNatClampNeg ≤ (am_kd b M si).2) (hn2 : n.toNatClampNeg ≤ (am_kd b M di).2)
    (hcat : (rest.map fun v => v.category).sum ≤ 8) (hfr : 1 ≤ R.frames) (hlo : 45 ≤ R.locals) (hdg : decode (am_by z) pc = .ok (.invokestatic idx, 3))
    (kk : ∀ (H' : Heap) (locs' : List Loc), am_rel G b s (wI M di (fun j => if j < n.toNatClampNeg then mI M si j else mI M di j)) H' → (∀ q ∈ locs', gH G ≤ q.base) → W p l e R s m args below meth c H' locs' cells slots Q (F0 m (pc + 3) ls rest)) : W p l e R s m args below meth c H locs cells slots Q (F0 m pc ls (.int n :: .int 0 :: .ref (am_ad G di) :: .int 0 :: .ref (am_ad G si) :: rest)) := by
  have hnat := am_word C (w := .native arraycopyName) (by decide +kernel) rfl
  have hstat := am_word C (w := .static arraycopyName) (by decide +kernel) rfl
  have hini := am_word C (w := .initialized "java/lang/System") (by decide +kernel) rfl
  obtain ⟨cs, s1, s2, s3, s4, s5, s6, s7, s8, s9⟩ := am_arr_of hR (i := si) (by omega) (by omega)
  obtain ⟨cd, d1, d2, d3, d4, d5, d6, d7, d8, d9⟩ := am_arr_of hR (i := di) (by omega) (by omega)
  rw [h1] at s2 s9
  rw [h2] at d2 d9
  obtain ⟨v1, k0, hk0, cm0, hkk0⟩ := id s2
  obtain ⟨v2, k1, hk1, cm1, hkk1⟩ := id d2
  have nn : n.toInt = (n.toNatClampNeg : Int) := by
    have hz0 : (0 : Int) ≤ n.toInt := by
      have := Int32.not_lt.mp hn
      simpa using Int32.le_iff_toInt_le.mp this
    show n.toInt = ((n.toInt.toNat : Nat) : Int)
    omega
  have hs0 : ∀ i, i < n.toNatClampNeg → cs.slots.getD (0 + i) .null = .int (mI M si i) := by
    intro i hi
    rw [Nat.zero_add, Array.getD_eq_getD_getElem?, s9 i (by omega)]
    rfl
  intro T hT X
  obtain ⟨vm', X', step⟩ := X.arraycopy C.1 hown hlk hnat hstat hini (src := am_ad G si) (dst := am_ad G di) (cs := cs) (cd := cd) (srcPos := 0) (destPos := 0) (n := n) (by rw [hT]; exact s1) (by rw [hT]; exact d1)
    v1 v2 s3 d3 hk0 hk1 hkk0 hkk1 (by decide) (by decide) (by decide) hn
    (by rw [nn]; show ¬ (0 : Int) + _ > _; omega) (by rw [nn]; show ¬ (0 : Int) + _ > _; omega)
    (fun vm₁ _ i hi => by
      have e := hs0 i hi
      refine ⟨?_, ?_⟩
      · show fits .int (cs.slots.getD (0 + i) .null) = true
        rw [e]; rfl
      · show State.takes _ _ (cs.slots.getD (0 + i) .null)
        rw [e]; exact trivial)
    (g := F0 m pc ls (.int n :: .int 0 :: .ref (am_ad G di) :: .int 0 :: .ref (am_ad G si) :: rest)) rfl (by rw [C.2.2.1]; exact hls) (rest := rest) rfl (by rw [C.2.1]; exact hdg) hfr (by
      have : nativeFrameWords "java/lang/System" "arraycopy" 5 ≤ 26 := by decide
      show 2 * 0 + _ + _ ≤ _
      omega)
  obtain ⟨f1, f2, f3, -⟩ := Cell.storePairs_facts cd 0 (cs.stretch 0 n.toNatClampNeg).zipIdx
  have hst : cs.stretch 0 n.toNatClampNeg = (List.range n.toNatClampNeg).map (fun i => .int (mI M si i)) := by
    unfold Cell.stretch
    exact List.map_congr_left fun i hi => hs0 i (List.mem_range.mp hi)
  have hlen : (cs.stretch 0 n.toNatClampNeg).length = n.toNatClampNeg := by rw [hst]; simp
  have hread := fun j => am_pairs (cs.stretch 0 n.toNatClampNeg) 0 0 cd j (by rw [hlen]; omega)
  have hlt : am_ad G di < H.size := (Array.getElem?_eq_some_iff.mp d1).1
  have hcp : copied cs cd 0 0 n = cd.storePairs 0 ((cs.stretch 0 n.toNatClampNeg).zipIdx 0) := rfl
  rw [hcp] at X' step
  generalize cd.storePairs 0 ((cs.stretch 0 n.toNatClampNeg).zipIdx 0) = cx at *
  have oq : ∀ q : Nat, q ≠ am_ad G di → (H.setIfInBounds (am_ad G di) cx)[q]? = H[q]? := fun q hq => by simp [Array.getElem?_setIfInBounds, Ne.symm hq]
  obtain ⟨t, a1, b1⟩ := kk (H.setIfInBounds (am_ad G di) cx) _ (am_rel_wr hR hdi rfl rfl (fun j hj => am_up_ne _ _ hj) (fun j hj => rfl) (fun j hj => rfl) (fun hb => (hR.2.2.1 hb).2 di) (by simp) oq (by
      have hk : am_kd b (wI M di (fun j => if j < n.toNatClampNeg then mI M si j else mI M di j)) di = am_kd b M di := rfl
      unfold am_cell
      rw [hk]
      refine ⟨fun h => by omega, fun _ _ => ⟨cx, by simp [Array.getElem?_setIfInBounds, hlt], ?_, by rw [f2]; exact d3, by rw [f3]; exact d4, by rw [f3]; exact d5, d6, ?_, ?_, fun j hj => ?_⟩⟩
      · rw [h2]
        exact ⟨by rw [f2]; exact v2, k1, by rw [f1]; exact hk1, cm1, hkk1⟩
      · intro h9
        rw [f3, f2, f1]
        exact d7 h9
      · intro h24; omega
      · rw [hread j, h2]
        show _ = some (am_ra G (.int (am_up (mI M) di _ di j)))
        rw [am_up_self]
        by_cases hjn : j < n.toNatClampNeg
        · rw [if_pos (by omega), hst]
          simp [hjn, am_ra]
        · rw [if_neg (by omega), d9 j hj]
          simp [hjn, am_ra, am_ev])) (fun q hq => by
      rcases List.mem_append.mp hq with h | h
      · exact hL q h
      · obtain ⟨y, -, hy⟩ := List.mem_map.mp h
        rw [← hy]
        exact am_ad_ge G hdi) _ (by rw [← hT]; rfl) X'
  exact ⟨t, step t a1, b1⟩
theorem am_s_clone (C : am_ctx G z p s m args meth c) (hR : am_rel G b s M H) (hls : ls.size = am_ml z) {own : String} {idx i : Nat} (hown : s.vm.findClass own = some m.cls) (hlk : (Cond.methodLink own idx ⟨"[I", "clone", "()Ljava/lang/Object;"⟩).before args s = true) (hi : 9 ≤ i) (h1 : (am_kd b M i).1 = 20) (hb : 118 ≤ mN M)
    (hcat : (rest.map fun v => v.category).sum ≤ 8) (hfr : 1 ≤ R.frames) (hlo : 45 ≤ R.locals) (hcells : cells + 1 ≤ R.cells) (hslots : slots + (am_kd b M i).2 ≤ R.slots) (hdg : decode (am_by z) pc = .ok (.invokevirtual idx, 3))
    (kk : ∀ (H' : Heap), am_rel G b s (am_alloc M 20 (am_kd b M i).2 (mI M i)) H' → W p l e R s m args below meth c H' locs (cells + 1) (slots + (am_kd b M i).2) Q (F0 m (pc + 3) ls (.ref (am_ad G (mN M)) :: rest))) : W p l e R s m args below meth c H locs cells slots Q (F0 m pc ls (.ref (am_ad G i) :: rest)) := by
  have hsize := am_size hR
  have hsame := am_word C (w := .sameMethod "[I" "java/lang/Object" "clone" "()Ljava/lang/Object;") (by decide +kernel) rfl
  have hnat := am_word C (w := .native ⟨"java/lang/Object", "clone", "()Ljava/lang/Object;"⟩) (by decide +kernel) rfl
  have hinst := am_word C (w := .instanceMethod ⟨"java/lang/Object", "clone", "()Ljava/lang/Object;"⟩) (by decide +kernel) rfl
  have hsel := am_word C (w := .selects "[I" ⟨"[I", "clone", "()Ljava/lang/Object;"⟩ ⟨"java/lang/Object", "clone", "()Ljava/lang/Object;"⟩) (by decide +kernel) rfl
  have hcl := C.2.2.2.2.2.1.2.2.2.2.2.1
  obtain ⟨cs, s1, s2, s3, s4, s5, s6, s7, s8, s9⟩ := am_arr_of hR (i := i) (by omega) (by omega)
  obtain ⟨g1, g2, g3⟩ := s7 hi
  rw [h1] at s2 s9 g3
  obtain ⟨v1, kA, hkA, comp, hkind⟩ := id s2
  obtain ⟨c0, t0', f1, f2, f3⟩ := Cond.castable_spec (va_Nw.use (A := args) rfl hcl)
  cases g3.symm.trans f1
  intro T hT X
  obtain ⟨-, kT, hkT, compT, hkindT⟩ := State.isArrayOf_alike X.warmed.alike s2
  obtain ⟨vm', X', st⟩ := X.cloneArray C.1 hown hlk hsame hnat hinst hsel (a := am_ad G i) (cell := cs) (by rw [hT]; exact s1) v1 s3 g3 f2 f3
    (fun j v hv => by
      have hj : j < cs.slots.size := (Array.getElem?_eq_some_iff.mp hv).1
      have hv2 := s9 j (by omega)
      rw [hv] at hv2
      cases hv2
      simp [State.fitsSlot, State.slotType?, hkT, hkindT, am_ra, am_ev, am_ty, fits])
    (g := F0 m pc ls (.ref (am_ad G i) :: rest)) rfl (by rw [C.2.2.1]; exact hls) (rest := rest) rfl (by rw [C.2.1]; exact hdg) hfr (by show 2 * 0 + _ + 14 ≤ _; omega) hcells (by rw [g1]; exact hslots) (hloader := Vm.clonesLoader_of_array hkA hkind)
  rw [g1] at X'
  have hb' : 118 ≤ mN M ∨ (b = false ∧ am_KD (mN M) = (20, (am_kd b M i).2)) := Or.inl hb
  obtain ⟨t, b1, b2⟩ := kk (H.push { cls := cs.cls, slots := cs.slots }) (am_rel_new hR hb' (by simp) (fun q hq => by rw [Array.getElem?_push_lt hq, Array.getElem?_eq_getElem hq]) (by
      have fz : (H.push { cls := cs.cls, slots := cs.slots })[am_ad G (mN M)]? = some { cls := cs.cls, slots := cs.slots } := by rw [← hsize]; simp
      unfold am_cell
      rw [am_kd_new hR hb']
      refine ⟨fun h => by omega, fun _ _ => ⟨_, fz, ⟨fun k h => (by cases h), kA, hkA, comp, hkind⟩, fun h => (by cases h), Nat.le_of_eq g1.symm, s5, s6, fun _ => ⟨g1, rfl, g3⟩, fun h => by omega, fun j hj => ?_⟩⟩
      show cs.slots[j]? = some (am_ra G (.int (am_up (mI M) (mN M) _ (mN M) j)))
      rw [am_up_self]
      exact s9 j hj)) ((T.setVm vm').pushCell { cls := cs.cls, slots := cs.slots }) (by rw [← hT]; rfl) X'
  refine ⟨t, st t ?_, b2⟩
  rw [hT, hsize]
  exact b1
theorem am_s_gets (C : am_ctx G z p s m args meth c) (hR : am_rel G b s M H) {k idx : Nat} {v : Value} (hidx : idx ∈ am_sl z k) (hv : am_SV k = some v) (hdg : decode (am_by z) pc = .ok (.getstatic idx, 3))
    (kk : W p l e R s m args below meth c H locs cells slots Q (F0 m (pc + 3) ls (am_ra G v :: rest))) : W p l e R s m args below meth c H locs cells slots Q (F0 m pc ls rest) := by
  obtain ⟨ee, he, ⟨e1, e2⟩, e3⟩ := am_any_fm hidx
  have hw := am_wat_mem (List.all_eq_true.mp am_SL_ok ee he)
  unfold am_slw at hw
  rw [e1, e2, e3] at hw
  have hlink := am_word C hw rfl
  obtain ⟨cf, kf, fi, f, a, cell, h1, h2, h3, h4, h5, h6, h7, h8⟩ := hR.2.2.2.2.2.1 k v hv
  exact W.gets C.1 C.2.1 C.2.2.2.1 hlink h1 h2 h3 h4 h5 (fun e => by rw [e] at h6; cases h6) h7 rfl hdg kk
theorem am_s_ldcS (C : am_ctx G z p s m args meth c) {k idx : Nat} (ho : am_own z = 9) (h : (k = 5 ∧ idx = 72) ∨ (k = 6 ∧ idx = 64)) (hdg : decode (am_by z) pc = .ok (.ldc idx, 2))
    (kk : W p l e R s m args below meth c H locs cells slots Q (F0 m (pc + 2) ls (.ref (am_ad G k) :: rest))) : W p l e R s m args below meth c H locs cells slots Q (F0 m pc ls rest) := by
  obtain ⟨-, -, -, r5, r6, -⟩ := C.2.2.2.2.2.1
  have hown := C.2.2.2.1
  rw [ho] at hown
  rcases h with ⟨rfl, rfl⟩ | ⟨rfl, rfl⟩
  · exact va_ldcS C.1 C.2.1 hown r5 hdg kk
  · exact va_ldcS C.1 C.2.1 hown r6 hdg kk
theorem am_s_ldcI (C : am_ctx G z p s m args meth c) {idx : Nat} {v : Int} (hidx : idx ∈ am_kl1 z v) (hdg : decode (am_by z) pc = .ok (.ldc idx, 2))
    (kk : W p l e R s m args below meth c H locs cells slots Q (F0 m (pc + 2) ls (.int (Int32.ofInt v) :: rest))) : W p l e R s m args below meth c H locs cells slots Q (F0 m pc ls rest) := by
  obtain ⟨ee, he, ⟨e1, e2⟩, e3⟩ := am_any_fm hidx
  have hw := am_wat_mem (List.all_eq_true.mp am_KL_ok ee he)
  unfold am_klw at hw
  rw [e1, e2, e3] at hw
  exact lv_ldc C.1 C.2.1 C.2.2.2.1 (am_word C hw rfl) hdg kk
theorem am_s_ldcW (C : am_ctx G z p s m args meth c) {idx : Nat} {v : Int} (hidx : idx ∈ am_kl1 z v) (hdg : decode (am_by z) pc = .ok (.ldc_w idx, 3))
    (kk : W p l e R s m args below meth c H locs cells slots Q (F0 m (pc + 3) ls (.int (Int32.ofInt v) :: rest))) : W p l e R s m args below meth c H locs cells slots Q (F0 m pc ls rest) := by
  obtain ⟨ee, he, ⟨e1, e2⟩, e3⟩ := am_any_fm hidx
  have hw := am_wat_mem (List.all_eq_true.mp am_KL_ok ee he)
  unfold am_klw at hw
  rw [e1, e2, e3] at hw
  exact lv_ldcw C.1 C.2.1 C.2.2.2.1 (am_word C hw rfl) hdg kk
theorem am_s_ldc2 (C : am_ctx G z p s m args meth c) {idx : Nat} {v : Int} (hidx : idx ∈ am_kl2 z v) (hdg : decode (am_by z) pc = .ok (.ldc2_w idx, 3))
    (kk : W p l e R s m args below meth c H locs cells slots Q (F0 m (pc + 3) ls (.long (Int64.ofInt v) :: rest))) : W p l e R s m args below meth c H locs cells slots Q (F0 m pc ls rest) := by
  obtain ⟨ee, he, ⟨e1, e2⟩, e3⟩ := am_any_fm hidx
  have hw := am_wat_mem (List.all_eq_true.mp am_KLL_ok ee he)
  unfold am_kllw at hw
  rw [e1, e2, e3] at hw
  exact lv_ldc2 C.1 C.2.1 C.2.2.2.1 (am_word C hw rfl) hdg kk
theorem am_s_oinit (C : am_ctx G z p s m args meth c) {idx x : Nat} (hls : ls.size = am_ml z) (hidx : idx ∈ am_oi z) (hcat : (rest.map fun v => v.category).sum ≤ 8) (hfr : 1 ≤ R.frames) (hlo : 45 ≤ R.locals) (hdg : decode (am_by z) pc = .ok (.invokespecial idx, 3))
    (kk : W p l e R s m args below meth c H locs cells slots Q (F0 m (pc + 3) ls rest)) : W p l e R s m args below meth c H locs cells slots Q (F0 m pc ls (.ref x :: rest)) := by
  obtain ⟨ee, he, e1, e3⟩ := am_any_fm hidx
  have hw := am_wat_mem (List.all_eq_true.mp am_OI_ok ee he)
  unfold am_oiw at hw
  rw [e1, e3] at hw
  have h2 := am_word C (w := .instanceMethod Lib.objectInit) (by decide +kernel) rfl
  have h3 : Cond.code Lib.objectInit ⟨#[0xb1]⟩ 1 none ∈ lw_tbl := by decide +kernel
  refine W.objInit C.1 C.2.1 C.2.2.2.1 (am_word C hw rfl) h2 (am_word C h3 rfl) rfl (by rw [C.2.2.1]; exact hls) rfl hdg hfr (by show 2 * 0 + _ + 12 ≤ _; omega) ?_
  exact W.eq (g2 := F0 m (pc + 3) ls rest) rfl kk
end NAT
