/-! the invariant after a text was read -/
def stL : List Nat := [57, 58, 60, 61, 102, 103, 104, 105, 106, 107, 108, 109, 110, 111, 112, 113, 116]
def stS : List (Nat × Nat) := [(9, 14), (55, 3), (55, 4), (59, 3), (59, 4), (59, 5), (59, 6), (59, 7), (67, 52), (67, 59), (67, 56), (67, 75), (67, 76), (67, 57), (67, 53), (67, 55), (67, 54), (67, 58)]
def stc (V F : am_M) : Prop := (∀ i, i < 118 → ∀ k, rR stL stS i k = false → mI F i k = mI V i k) ∧ ∀ i, i < 118 → ∀ k, rR stL stS i k = false → mL F i k = mL V i k
def mixM (V F : am_M) : am_M := (mN V, mS V, mK V, fun i => if i < 118 then mI F i else mI V i, fun i => if i < 118 then mL F i else mL V i, mA V)
section
variable {V F M2 : am_M} {i s k r K c n N' : Nat} {B : Nat → Int32} {day : Int32}
theorem mix_I (h : i < 118) : mI (mixM V F) i = mI F i := if_pos h
theorem mix_L (h : i < 118) : mL (mixM V F) i = mL F i := if_pos h
theorem mix_ch (h : stc V F) : ch (rR stL stS) V (mixM V F) := ⟨rfl, rfl, rfl, rfl, fun i k q => by
  by_cases z : i < 118
  · rw [mix_I z]; exact h.1 i z k q
  · show (if i < 118 then mI F i else mI V i) k = _
    rw [if_neg z], fun i k q => by
  by_cases z : i < 118
  · rw [mix_L z]; exact h.2 i z k q
  · show (if i < 118 then mL F i else mL V i) k = _
    rw [if_neg z]⟩
theorem stc_row (h : stc V F) (hi : i < 118) (hr : ∀ k, rR stL stS i k = false) : mI F i = mI V i := funext fun k => h.1 i hi k (hr k)
theorem stc_rowL (h : stc V F) (hi : i < 118) (hr : ∀ k, rR stL stS i k = false) : mL F i = mL V i := funext fun k => h.2 i hi k (hr k)
theorem inv_mk (hI : Inv V) (h : stc V F) (ht : ITape (mI F 55 4) (mI F 67 54) (mI F 59 7) (mI F 67 58) (mI F 56) (mI F 115)) (hr : IRule (mI F 9 14) (mI F 67 52) (mI F 67 59) (mI F 9 15) (mA F) (dynI F) (mK F) (mN F) (msk 9 (mI F 102)) (msk 9 (mI F 103)) (msk 270 (mI F 104)) (msk 270 (mI F 105)) (msk 270 (mI F 106)) (msk 270 (mI F 107)) (msk 6480 (mI F 108)) (msk 6480 (mI F 109)) (msk 6480 (mI F 110)) (msk 6480 (mI F 111)) (msk 6480 (mI F 112)) (msk 6480 (mI F 113))) (hN : mN V ≤ mN F) (hA : ∀ i, i < 9 → mA F i = mA V i) : Inv F := by
  have hc := mix_ch h
  have h0 := tr_misc hI.misc hc rfl
  have h1 := tr_land hI.land hc rfl
  have h2 := tr_ice hI.ice hc rfl
  have h3 := tr_tel hI.tel hc rfl
  have h4 := tr_find hI.find hc rfl
  have h5 := tr_doubt hI.doubt hc rfl
  have h6 := tr_row hI.row hc rfl
  have h7 := tr_ship hI.ship hc rfl
  simp (disch := decide) only [mix_I] at h0 h1 h2 h3 h4 h5 h6 h7
  refine ⟨h0, h1, h2, h3, h4, h5, h6, h7, ht, hr, ?_⟩
  have hs := hI.stat
  rw [stc_row h (i := 1) (by decide) (fun _ => rfl), stc_row h (i := 2) (by decide) (fun _ => rfl), stc_row h (i := 7) (by decide) (fun _ => rfl), stc_row h (i := 8) (by decide) (fun _ => rfl), stc_row h (i := 5) (by decide) (fun _ => rfl), stc_row h (i := 6) (by decide) (fun _ => rfl), stc_rowL h (i := 3) (by decide) (fun _ => rfl), stc_rowL h (i := 4) (by decide) (fun _ => rfl)]
  obtain ⟨s0, s1, s2, s3, s4, s5, s6, s7, s8, s9, s10⟩ := hs
  exact ⟨Nat.le_trans s0 hN, s1, s2, s3, s4, s5, s6, by rw [hA 5 (by decide)]; exact s7, by rw [hA 6 (by decide)]; exact s8, s9, s10⟩
/-- what else than the set s stays -/
def keV (s : Nat) (V F : am_M) : Prop := mN V ≤ mN F ∧ (∀ i, i < mN V → mK F i = mK V i) ∧ (∀ i, i < mN V → 118 ≤ i → mA F i = mA V i) ∧ (∀ i, i < mN V → 118 ≤ i → mI F i = mI V i) ∧ ∀ i k, 102 ≤ i → i ≤ 113 → (i ≤ 103 → k < 9) → (104 ≤ i → i ≤ 107 → k < 270) → (108 ≤ i → k < 6480) → beS s i k = false → mI F i k = mI V i k
theorem set_keF (h : keV s V F) (hk : k < 9) (hs : k ≠ s) (hr : 118 ≤ r) (hp : setOK (mA V) (dynI V) (mK V) (mN V) (msk 9 (mI V 102)) (msk 9 (mI V 103)) (msk 270 (mI V 104)) (msk 270 (mI V 105)) (msk 270 (mI V 106)) (msk 270 (mI V 107)) (msk 6480 (mI V 108)) (msk 6480 (mI V 109)) (msk 6480 (mI V 110)) (msk 6480 (mI V 111)) (msk 6480 (mI V 112)) (msk 6480 (mI V 113)) r k) : setOK (mA F) (dynI F) (mK F) (mN F) (msk 9 (mI F 102)) (msk 9 (mI F 103)) (msk 270 (mI F 104)) (msk 270 (mI F 105)) (msk 270 (mI F 106)) (msk 270 (mI F 107)) (msk 6480 (mI F 108)) (msk 6480 (mI F 109)) (msk 6480 (mI F 110)) (msk 6480 (mI F 111)) (msk 6480 (mI F 112)) (msk 6480 (mI F 113)) r k := by
  obtain ⟨hN, hK, hA, hD, hR⟩ := h
  have R1 : ∀ i, 102 ≤ i → i ≤ 103 → msk 9 (mI F i) k = msk 9 (mI V i) k := fun i i1 i2 => by
    rw [msk_in hk, msk_in hk]
    exact hR i k i1 (by omega) (fun _ => hk) (fun q => absurd q (by omega)) (fun q => absurd q (by omega)) (be_f (by omega) (by omega) (by omega))
  have R2 : ∀ i j, 104 ≤ i → i ≤ 107 → j < 30 → msk 270 (mI F i) (30 * k + j) = msk 270 (mI V i) (30 * k + j) := fun i j i1 i2 hj => by
    rw [msk_in (by omega), msk_in (by omega)]
    exact hR i _ (by omega) (by omega) (fun q => absurd q (by omega)) (fun _ _ => by omega) (fun q => absurd q (by omega)) (be_f (by omega) (by omega) (by omega))
  have R3 : ∀ i j, 108 ≤ i → i ≤ 113 → 720 * k ≤ j → j < 720 * k + 720 → msk 6480 (mI F i) j = msk 6480 (mI V i) j := fun i j i1 i2 j1 j2 => by
    rw [msk_in (by omega), msk_in (by omega)]
    exact hR i _ (by omega) (by omega) (fun q => absurd q (by omega)) (fun _ q => absurd q (by omega)) (fun _ => by omega) (be_f (by omega) (by omega) (by omega))
  refine set_keep hp (fun i h1 j h2 => by rw [hA i h1 h2]) hr (fun i h1 h2 => by rw [dyn_hi h2, dyn_hi h2, hD i h1 h2]) hK hN (R1 102 (by decide) (by decide)) (R1 103 (by decide) (by decide)) (fun i hi => ⟨R2 104 i (by decide) (by decide) hi, R2 105 i (by decide) (by decide) hi, R2 106 i (by decide) (by decide) hi, R2 107 i (by decide) (by decide) hi⟩) (fun j j1 j2 => ⟨R3 108 j (by decide) (by decide) j1 j2, R3 109 j (by decide) (by decide) j1 j2, R3 110 j (by decide) (by decide) j1 j2, R3 111 j (by decide) (by decide) j1 j2, R3 112 j (by decide) (by decide) j1 j2, R3 113 j (by decide) (by decide) j1 j2⟩)
/-- the lines of new rules -/
def lnY (B : Nat → Int32) (n : Nat) (L C : Nat → Int32) (c j : Nat) : Prop := ∃ f t, L (j * 5 + 0) = nI (tkT B n (stI (tkT B n) j)) ∧ L (j * 5 + 1) = rAim (tkT B n) (stI (tkT B n) j) ∧ L (j * 5 + 2) = nI (rSum (tkT B n) (stI (tkT B n) j)) ∧ L (j * 5 + 3) = nI f ∧ L (j * 5 + 4) = nI t ∧ f ≤ t ∧ t ≤ c ∧ (tkT B n (pRu (tkT B n) (stI (tkT B n) j)).2 = 23 → cdOK C f t 0 (pLi (tkT B n) (stI (tkT B n) j)).2.2) ∧ (¬tkT B n (pRu (tkT B n) (stI (tkT B n) j)).2 = 23 → f = t)
theorem lnY_of {M : am_M} {L C : Nat → Int32} {j : Nat} (h : lnX B n M c j) (hj : j < K) (h1 : ∀ i, i < K * 5 → L i = mI M 60 i) (h2 : ∀ i, i < c → C i = mI M 61 i) : lnY B n L C c j := by
  obtain ⟨f, t, a0, a1, a2, a3, a4, a5, a6, a7, a8⟩ := h
  refine ⟨f, t, ?_, ?_, ?_, ?_, ?_, a5, a6, fun q => cd_ext (a7 q) (fun j j1 j2 => h2 j (by omega)), a8⟩
  · rw [h1 _ (by omega)]; exact a0
  · rw [h1 _ (by omega)]; exact a1
  · rw [h1 _ (by omega)]; exact a2
  · rw [h1 _ (by omega)]; exact a3
  · rw [h1 _ (by omega)]; exact a4
/-- new rules as they lie in F: the class's, made beyond the old -/
def nwX (V F : am_M) (B : Nat → Int32) (n K c : Nat) (day : Int32) : Prop := mN F = mN V + 3 ∧ mK F (mN V) = (20, K * 5) ∧ mK F (mN V + 1) = (11, 4) ∧ mK F (mN V + 2) = (20, c) ∧ mI F (mN V + 1) 0 = day ∧ mI F (mN V + 1) 1 = nI K ∧ mA F (mN V + 1) 2 = mN V + 1 ∧ mA F (mN V + 1) 3 = mN V + 3 ∧ ∀ i, i < K → lnY B n (mI F (mN V)) (mI F (mN V + 2)) c i ∧ (pLi (tkT B n) (stI (tkT B n) i)).1 = true
/-- the model's -/
def nwM (F : am_M) (B : Nat → Int32) (n K s : Nat) (day : Int32) : Prop := mI F 102 s = nI K ∧ mI F 103 s = day ∧ ∃ M2 N', N' ≤ 700 ∧ agX (720 * s) 0 N' N' (rowG M2) (rowG F) ∧ ∀ i, i < K → lnM B n M2 N' i ∧ mI F 104 (30 * s + i) = mI M2 104 (270 + i) ∧ mI F 105 (30 * s + i) = mI M2 105 (270 + i) ∧ mI F 106 (30 * s + i) = mI M2 106 (270 + i) ∧ mI F 107 (30 * s + i) = shI (720 * s) (mI M2 107 (270 + i))
theorem set_neF (hs : s < 9) (hV : 118 ≤ mN V) (hK : K ≤ 30) (hc : c ≤ 700) (hx : nwX V F B n K c day) (hm : nwM F B n K s day) : setOK (mA F) (dynI F) (mK F) (mN F) (msk 9 (mI F 102)) (msk 9 (mI F 103)) (msk 270 (mI F 104)) (msk 270 (mI F 105)) (msk 270 (mI F 106)) (msk 270 (mI F 107)) (msk 6480 (mI F 108)) (msk 6480 (mI F 109)) (msk 6480 (mI F 110)) (msk 6480 (mI F 111)) (msk 6480 (mI F 112)) (msk 6480 (mI F 113)) (mN V + 1) s := by
  obtain ⟨x0, x1, x2, x3, x4, x5, x6, x7, x8⟩ := hx
  obtain ⟨m0, m1, M2, N', hN', hag, hm⟩ := hm
  refine ⟨mN V, mN V + 2, K, c, x6, x7, hV, by omega, by omega, by omega, by omega, x2, ?_, x3, hK, hc, ?_, ?_, ?_, fun i hi => ?_⟩
  · rw [x1, Nat.mul_comm]
  · rw [dyn_hi (by omega), msk_in hs, x4, m1]
  · rw [dyn_hi (by omega)]; exact x5
  · rw [msk_in hs]; exact m0
  · obtain ⟨⟨f, t, l0, l1, l2, l3, l4, ft, tc, hc1, hc0⟩, hp⟩ := x8 i hi
    obtain ⟨⟨ru, n1, n0⟩, r4, r5, r6, r7⟩ := hm i hi
    have hx : 30 * s + i < 270 := by omega
    rw [msk_in hx, msk_in hx, msk_in hx, msk_in hx, dyn_hi hV, dyn_hi (show 118 ≤ mN V + 2 by omega), Nat.mul_comm 5 i]
    refine ⟨rule_new (pLi_pRu hp) ru r4 r5 r6 l0 l1 l2, f, t, l3, l4, ft, tc, ?_⟩
    rw [r7]
    by_cases x : tkT B n (pRu (tkT B n) (stI (tkT B n) i)).2 = 23
    · obtain ⟨a, hi', le, w7, nd⟩ := n1 x
      have n01 := nd.1
      have n02 := nd.2.1
      rw [w7, shI_at (by omega)]
      refine Or.inr ⟨(hc1 x).1, nI_nM (by omega), fun env => ⟨(pLi (tkT B n) (stI (tkT B n) i)).2.2 (msk 12 env), _, ?_, (hc1 x).2 (msk 12 env) 0 (by decide), ?_⟩⟩
      · refine nd.2.2 (720 * s) (fun t => msk 6480 (mI F (108 + t))) (msk 12 env) 40 (by omega) (by decide) (fun j j1 j2 => ?_)
        obtain ⟨g0, g1, g2, g3, g4, g5⟩ := hag j (by omega) (by omega)
        have hl : 720 * s + j < 6480 := by omega
        refine ⟨?_, ?_, fun q => ?_, ?_, ?_, ?_⟩
        · show msk 6480 (mI F (108 + 0)) (720 * s + j) = _
          rw [msk_in hl]; exact g0
        · show msk 6480 (mI F (108 + 1)) (720 * s + j) = _
          rw [msk_in hl]; exact g1
        · show msk 6480 (mI F (108 + 2)) (720 * s + j) = _
          rw [msk_in hl]; exact g2 (by omega)
        · show msk 6480 (mI F (108 + 3)) (720 * s + j) = _
          rw [msk_in hl]; exact g3
        · show msk 6480 (mI F (108 + 4)) (720 * s + j) = _
          rw [msk_in hl]; exact g4
        · show msk 6480 (mI F (108 + 5)) (720 * s + j) = _
          rw [msk_in hl]; exact g5
      · generalize (pLi (tkT B n) (stI (tkT B n) i)).2.2 (msk 12 env) = b
        cases b <;> rfl
    · rw [n0 x, shI_no]
      exact Or.inl ⟨hc0 x, rfl⟩
end
