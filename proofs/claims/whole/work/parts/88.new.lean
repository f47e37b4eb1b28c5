/-! new things -/
section NEW
variable {p : Program} {l : Launch} {e : Env} {R : Room} {s : State} {m : MethodId} {args : Array Value} {below : List Frame} {meth : Method} {c : Code} {H : Heap} {locs : List Loc} {cells slots : Nat} {Q : State → Prop}
variable {G : am_G} {z : Nat} {b : Bool} {M : am_M} {pc : Nat} {ls : Array Slot} {rest : List Value}
theorem am_size (hR : am_rel G b s M H) : H.size = am_ad G (mN M) := by
  obtain ⟨h1, h2, -⟩ := hR
  unfold am_ad
  rw [if_neg (by omega)]
  exact h2
/-- the kind of what has just been made -/
theorem am_kd_new (hR : am_rel G b s M H) {k n : Nat} {fi : Nat → Int32} (hb : 118 ≤ mN M ∨ (b = false ∧ am_KD (mN M) = (k, n))) : am_kd b (am_alloc M k n fi) (mN M) = (k, n) := by
  have h9 := hR.1
  unfold am_kd
  rw [if_neg (by omega)]
  by_cases h : mN M < 118
  · rw [if_pos h]
    rcases hb with hb | ⟨-, hb⟩
    · omega
    · have : mN M < mN (am_alloc M k n fi) := Nat.lt_succ_self _
      rw [if_pos (by simp [this])]
      exact hb
  · rw [if_neg h]
    exact am_up_self _ _ _
theorem am_fv_new (hR : am_rel G b s M H) {k n : Nat} {fi : Nat → Int32} (hb : 118 ≤ mN M ∨ (b = false ∧ am_KD (mN M) = (k, n))) (q ty : Nat) : am_fv b (am_alloc M k n fi) (mN M) q ty = match ty with
    | 1 => .long 0
    | 2 => .null
    | _ => .int (fi q) := by
  have e1 : mI (am_alloc M k n fi) (mN M) = fi := am_up_self _ _ _
  have e2 : mL (am_alloc M k n fi) (mN M) = fun _ => 0 := am_up_self _ _ _
  have e3 : mA (am_alloc M k n fi) (mN M) = fun _ => 0 := am_up_self _ _ _
  have h0 : (if (b && decide (mN M < 118)) = true then am_FA (mN M) q else 0) = 0 := by
    split
    · next h =>
      simp only [Bool.and_eq_true, decide_eq_true_eq] at h
      rcases hb with hb | ⟨hb, -⟩
      · omega
      · rw [hb] at h; simp at h
    · rfl
  unfold am_fv
  rw [e1, e2, e3, h0]
  match ty with
  | 0 => rfl
  | 1 => rfl
  | 2 => rfl
  | n + 3 => rfl
theorem am_s_new (C : am_ctx G z p s m args meth c) (hR : am_rel G b s M H) {k idx : Nat} (hk : k < 13) (hidx : idx ∈ am_cl z k) (hb : 118 ≤ mN M ∨ (b = false ∧ am_KD (mN M) = (k, am_nf k))) (hdg : decode (am_by z) pc = .ok (.new idx, 3)) (hcells : cells + 1 ≤ R.cells) (hslots : slots + am_nf k ≤ R.slots)
    (kk : ∀ (H' : Heap), am_rel G b s (am_alloc M k (am_nf k) (fun _ => 0)) H' → W p l e R s m args below meth c H' locs (cells + 1) (slots + am_nf k) Q (F0 m (pc + 3) ls (.ref (am_ad G (mN M)) :: rest))) : W p l e R s m args below meth c H locs cells slots Q (F0 m pc ls rest) := by
  have hlayB := fun q hq => am_layB (a := k) (k := q) C hk hq
  have hsize := am_size hR
  have C' := C
  obtain ⟨hx, hb2, -, hown, -, hK, -⟩ := C
  obtain ⟨ee, he, ⟨e1, e2⟩, e3⟩ := am_any_fm hidx
  have hw := am_wat_mem (List.all_eq_true.mp am_CL_ok ee he)
  unfold am_clw at hw
  rw [e1, e2, e3] at hw
  have hlink := am_word C' hw rfl
  obtain ⟨ec, hec, hec2⟩ := List.any_eq_true.mp (am_CP_all k hk)
  have hcp := List.all_eq_true.mp am_CP_ok ec hec
  rw [show ec.1 = k by simpa using hec2] at hcp
  simp only [Bool.and_eq_true] at hcp
  have hins := am_word C' (am_wat_mem hcp.1) rfl
  have hini := am_word C' (am_wat_mem hcp.2) rfl
  obtain ⟨hfc, hf⟩ := hK.2.1 k (by omega)
  refine W.newcK hx hb2 hown hlink hins hini rfl hdg hcells hslots hfc hsize fun H' kC hkC f1 f2 f3 => kk H' ?_
  rw [← hsize] at f2 f3
  refine am_rel_new hR hb f2 f3 ?_
  unfold am_cell
  rw [am_kd_new hR hb]
  refine ⟨fun _ => ⟨_, f1, rfl, rfl, fun h => (by cases h), fun _ => rfl, fun q hq => ?_⟩, fun h => by omega⟩
  obtain ⟨cf, kf, fi, fd, hi, hst, hsl⟩ := hf q hq
  have h3 := (u_facts hfc hkC (hlayB q hq) hi).2.2
  rw [hsl] at h3
  rw [k2_blank h3, am_fv_new hR hb]
  have ht := am_tyok_all k hk q hq
  unfold am_tyok at ht
  split at ht
  · next t hp =>
    rw [(State.fieldFound?_type hi hp).2]
    split at ht
    · next h0 => rw [h0]; have : t = .int := by simpa using ht
                 subst this; rfl
    · next h0 => rw [h0]; have : t = .long := by simpa using ht
                 subst this; rfl
    · next h0 => rw [h0]; have : t = .boolean := by simpa using ht
                 subst this; rfl
    · next n0 n1 n3 =>
      have hty2 : am_fty k q = 2 := by
        have : ∀ c, c < 13 → ∀ k, k < am_nf c → am_fty c k = 0 ∨ am_fty c k = 1 ∨ am_fty c k = 3 ∨ am_fty c k = 2 := by decide +kernel
        rcases this k hk q hq with h | h | h | h
        · exact absurd h n0
        · exact absurd h n1
        · exact absurd h n3
        · exact h
      rw [hty2]
      cases t with
      | object n => rfl
      | array n => rfl
      | _ => exact absurd ht (by simp)
  · simp at ht
theorem am_atOk {t : ArrayType} (h : am_at t ≠ 98) : 20 ≤ am_at t ∧ am_at t ≤ 24 ∧ am_ty (am_at t) = newarray.typeOf t ∧ am_at t ≠ 24 ∧ (Cond.arrayClass (newarray.typeOf t)) ∈ lw_tbl := by
  have hB : Cond.arrayClass .boolean ∈ lw_tbl := by decide +kernel
  have hI : Cond.arrayClass .int ∈ lw_tbl := by decide +kernel
  have hL : Cond.arrayClass .long ∈ lw_tbl := by decide +kernel
  have hY : Cond.arrayClass .byte ∈ lw_tbl := by decide +kernel
  cases t <;> first | exact absurd rfl h | exact ⟨by decide, by decide, rfl, by decide, by assumption⟩
theorem am_s_newa (C : am_ctx G z p s m args meth c) (hR : am_rel G b s M H) {t : ArrayType} {j : Int32} (h0 : ¬ j < 0) (h1 : j.toNatClampNeg ≤ 10000) (ht : am_at t ≠ 98) (hb : 118 ≤ mN M ∨ (b = false ∧ am_KD (mN M) = (am_at t, j.toNatClampNeg))) (hdg : decode (am_by z) pc = .ok (.newarray t, 2)) (hcells : cells + 1 ≤ R.cells) (hslots : slots + j.toNatClampNeg ≤ R.slots)
    (kk : ∀ (H' : Heap), am_rel G b s (am_alloc M (am_at t) j.toNatClampNeg (fun _ => 0)) H' → W p l e R s m args below meth c H' locs (cells + 1) (slots + j.toNatClampNeg) Q (F0 m (pc + 2) ls (.ref (am_ad G (mN M)) :: rest))) : W p l e R s m args below meth c H locs cells slots Q (F0 m pc ls (.int j :: rest)) := by
  obtain ⟨a1, a2, a3, a4, a5⟩ := am_atOk ht
  have hsize := am_size hR
  have hbytes : j.toNatClampNeg * componentBytes (newarray.typeOf t) ≤ 536870912 := by
    have : componentBytes (newarray.typeOf t) ≤ 8 := by cases t <;> decide
    calc j.toNatClampNeg * componentBytes (newarray.typeOf t) ≤ 10000 * 8 := Nat.mul_le_mul h1 this
      _ ≤ 536870912 := by decide
  refine W.newa C.1 C.2.1 (am_word C a5 rfl) rfl hdg rfl h0 hbytes hcells hslots fun cA kA comp q1 q2 q3 => ?_
  rw [hsize]
  refine kk _ (am_rel_new hR hb (by simp) (fun q hq => by rw [Array.getElem?_push_lt hq, Array.getElem?_eq_getElem hq]) ?_)
  unfold am_cell
  rw [am_kd_new hR hb]
  have f1 : (H.push { cls := cA, slots := Array.replicate j.toNatClampNeg (defaultValue (newarray.typeOf t)), vm := .none })[am_ad G (mN M)]? = some { cls := cA, slots := Array.replicate j.toNatClampNeg (defaultValue (newarray.typeOf t)), vm := .none } := by
    rw [← hsize]; simp
  refine ⟨fun h => by omega, fun _ _ => ⟨_, f1, ⟨fun k h => (by cases h), kA, q2, comp, ?_⟩, fun h => (by cases h), by simp, by simp, by omega, fun _ => ⟨by simp, rfl, ?_⟩, fun h => absurd h a4, fun q hq => ?_⟩⟩
  · rw [q3, a3]
  · rw [a3]; exact q1
  · simp only [Array.getElem?_replicate, hq, if_true]
    have e1 : mI (am_alloc M (am_at t) j.toNatClampNeg (fun _ => 0)) (mN M) = fun _ => 0 := am_up_self _ _ _
    have e2 : mL (am_alloc M (am_at t) j.toNatClampNeg (fun _ => 0)) (mN M) = fun _ => 0 := am_up_self _ _ _
    unfold am_ev
    rw [e1, e2]
    cases t <;> first | exact absurd rfl ht | rfl
theorem am_s_anew (C : am_ctx G z p s m args meth c) (hR : am_rel G b s M H) {j : Int32} {idx : Nat} (hidx : idx ∈ am_cl z 11) (h0 : ¬ j < 0) (h1 : j.toNatClampNeg ≤ 10000) (hb : 118 ≤ mN M ∨ (b = false ∧ am_KD (mN M) = (24, j.toNatClampNeg))) (hdg : decode (am_by z) pc = .ok (.anewarray idx, 3)) (hcells : cells + 1 ≤ R.cells) (hslots : slots + j.toNatClampNeg ≤ R.slots)
    (kk : ∀ (H' : Heap), am_rel G b s (am_alloc M 24 j.toNatClampNeg (fun _ => 0)) H' → W p l e R s m args below meth c H' locs (cells + 1) (slots + j.toNatClampNeg) Q (F0 m (pc + 3) ls (.ref (am_ad G (mN M)) :: rest))) : W p l e R s m args below meth c H locs cells slots Q (F0 m pc ls (.int j :: rest)) := by
  have hsize := am_size hR
  have hbytes : j.toNatClampNeg * 4 ≤ 536870912 := by omega
  obtain ⟨ee, he, ⟨e1, e2⟩, e3⟩ := am_any_fm hidx
  have hw := am_wat_mem (List.all_eq_true.mp am_CL_ok ee he)
  unfold am_clw at hw
  rw [e1, e2, e3] at hw
  have hlink := am_word C hw rfl
  have ho := C.2.2.2.2.2.1.2.2.2.2.2.2
  have hfc := (C.2.2.2.2.2.1.2.1 11 (by omega)).1
  refine W.anew C.1 C.2.1 C.2.2.2.1 hlink (va_AO.use ho) rfl hdg rfl h0 hbytes hcells hslots fun cA kA comp q1 q2 q3 q4 => ?_
  cases hfc.symm.trans q4
  rw [hsize]
  refine kk _ (am_rel_new hR hb (by simp) (fun q hq => by rw [Array.getElem?_push_lt hq, Array.getElem?_eq_getElem hq]) ?_)
  unfold am_cell
  rw [am_kd_new hR hb]
  have f1 : (H.push { cls := cA, slots := Array.replicate j.toNatClampNeg .null, vm := .none })[am_ad G (mN M)]? = some { cls := cA, slots := Array.replicate j.toNatClampNeg .null, vm := .none } := by
    rw [← hsize]; simp
  refine ⟨fun h => by omega, fun _ _ => ⟨_, f1, ⟨fun k h => (by cases h), kA, q2, _, q3⟩, fun h => (by cases h), by simp, by simp, by omega, fun _ => ⟨by simp, rfl, q1⟩, fun h => ⟨kA, q2, q3⟩, fun q hq => ?_⟩⟩
  simp only [Array.getElem?_replicate, hq, if_true]
  have e1 : mA (am_alloc M 24 j.toNatClampNeg (fun _ => 0)) (mN M) = fun _ => 0 := am_up_self _ _ _
  unfold am_ev
  rw [e1]
  rfl
end NEW
