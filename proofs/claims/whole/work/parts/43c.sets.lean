/-! a set of rules on both sides -/
theorem per_hi2 {i : Nat} (h : 118 ≤ i) (k : Nat) : per i k = true := by
  unfold per
  rw [Bool.and_eq_true, Bool.and_eq_true, Bool.not_eq_true', Bool.not_eq_true', List.any_eq_false, List.any_eq_false, List.all_eq_true]
  have h1 : ∀ q ∈ scrT, q < 118 := by decide
  have h2 : ∀ q ∈ scsT, q.1 < 118 := by decide
  have h3 : ∀ q ∈ limT, q.1 < 118 := by decide
  refine ⟨⟨fun q hq e => ?_, fun q hq e => ?_⟩, fun q hq => ?_⟩
  · have := Nat.eq_of_beq_eq_true e
    have := h1 q hq
    omega
  · rw [Bool.and_eq_true] at e
    have := Nat.eq_of_beq_eq_true e.1
    have := h2 q hq
    omega
  · have := h3 q hq
    have e : Nat.beq q.1 i = false := by
      rw [← Bool.not_eq_true]
      intro z
      have := Nat.eq_of_beq_eq_true z
      omega
    rw [e]; rfl
theorem dyn_hi {M : am_M} {i : Nat} (h : 118 ≤ i) : dynI M i = mI M i := by
  unfold dynI
  rw [if_neg (by omega)]
theorem msk_in {n : Nat} {f : Nat → Int32} {k : Nat} (h : k < n) : msk n f k = f k := if_pos h
/-- the tree's truth, by the model's rows -/
def asF (V : am_M) (k : Nat) (env : Nat → Int32) (w : Int32) : Option Bool := mAsk (msk 6480 (mI V 108)) (msk 6480 (mI V 109)) (msk 6480 (mI V 110)) (msk 6480 (mI V 111)) (msk 6480 (mI V 112)) (msk 6480 (mI V 113)) (msk 12 env) (720 * k) 40 w
/-- whether the i-th statement of the set k holds -/
def coF (V : am_M) (k : Nat) (env : Nat → Int32) (i : Nat) : Bool := if mI V 107 (30 * k + i) = nM 0 then true else (asF V k env (mI V 107 (30 * k + i))).getD false
def stOK (V M : am_M) (k r ln cd n cl : Nat) : Prop := rsM M r ln cd n cl ∧ (k < 9 → mI M 102 k = nI n) ∧ (∀ i, i < n → (ruleOK (fun j => mI M ln (5 * i + j)) (mI V 104 (30 * k + i)) (mI V 105 (30 * k + i)) (mI V 106 (30 * k + i))) ∧ ∃ f t : Nat, mI M ln (5 * i + 3) = nI f ∧ mI M ln (5 * i + 4) = nI t ∧ f ≤ t ∧ t ≤ cl ∧ ((f = t ∧ mI V 107 (30 * k + i) = nM 0) ∨ (f < t ∧ mI V 107 (30 * k + i) ≠ nM 0 ∧ ∀ env, ∃ b T, asF V k env (mI V 107 (30 * k + i)) = some b ∧ pxT (mI M cd) (msk 12 env) f (t - f) 0 = some T ∧ decide (T % 2 = 1) = b)))
theorem set_st {V M : am_M} (hs : sc V M) {r k : Nat} (hk : k < 9) (hr : 118 ≤ r) (h : setOK (mA V) (dynI V) (mK V) (mN V) (msk 9 (mI V 102)) (msk 9 (mI V 103)) (msk 270 (mI V 104)) (msk 270 (mI V 105)) (msk 270 (mI V 106)) (msk 270 (mI V 107)) (msk 6480 (mI V 108)) (msk 6480 (mI V 109)) (msk 6480 (mI V 110)) (msk 6480 (mI V 111)) (msk 6480 (mI V 112)) (msk 6480 (mI V 113)) r k) : ∃ ln cd n cl, stOK V M k r ln cd n cl ∧ mI M r 0 = mI V 103 k := by
  obtain ⟨ln, cd, n, cl, a1, a2, a3, a4, a5, a6, a7, a8, a9, a10, a11, a12, a13, a14, a15, a16⟩ := h
  rw [dyn_hi hr] at a13 a14
  rw [msk_in hk] at a13 a15
  have er : mI M r = mI V r := sc_row hs r (per_hi2 hr)
  have el : mI M ln = mI V ln := sc_row hs ln (per_hi2 a3)
  have ec : mI M cd = mI V cd := sc_row hs cd (per_hi2 a4)
  have eK : mK M = mK V := hs.K
  have eA : mA M = mA V := hs.A
  refine ⟨ln, cd, n, cl, ⟨⟨?_, ?_, ?_, ?_, ?_, ?_, a11, a12⟩, ?_, fun i hi => ?_⟩, ?_⟩
  · rw [kd_hi hr, eK]; exact a8
  · rw [kd_hi a3, eK]; exact a9
  · rw [kd_hi a4, eK]; exact a10
  · rw [get_hiI (k := 1) rfl (by decide) hr (by rw [eK]; exact a8), er, a14]
  · exact get_hiR (k := 2) rfl (by decide) hr (by rw [eK]; exact a8) (by rw [eA]; exact a1)
  · exact get_hiR (k := 3) rfl (by decide) hr (by rw [eK]; exact a8) (by rw [eA]; exact a2)
  · intro _
    rw [hs.I 102 k (by have : ∀ j : Fin 9, per 102 j.val = true := by decide
                       exact this ⟨k, hk⟩)]
    exact a15
  · obtain ⟨b1, b2⟩ := a16 i hi
    have hx : 30 * k + i < 270 := by omega
    rw [msk_in hx, msk_in hx, msk_in hx, dyn_hi a3] at b1
    rw [msk_in hx, dyn_hi a3, dyn_hi a4] at b2
    rw [el, ec]
    exact ⟨b1, b2⟩
  · rw [er, a13]
