/-! the law's loop -/
section LOOP
variable {Inv : am_M → Prop} {L : Nat}
def lawQ (r : Option Value) (M' : am_M) : Prop := r = some (.int 1) ∧ mN M' ≤ 600009 ∧ mS M' ≤ 7302250
def lawB (k : Nat) : Nat := ([3, 5, 13, 15, 17, 25, 27, 29, 31, 39, 41, 43, 45, 47, 49, 51, 53, 55, 57, 59, 61, 63, 65, 67, 69, 71, 73, 75, 77, 79, 81, 89, 91, 93, 95, 97] : List Nat).getD k 99
theorem lawB_eq {k : Nat} (hk : k < 64) : (if (35 : Int) < (k : Int) then (99 : Int).toNat else ((#[3, 5, 13, 15, 17, 25, 27, 29, 31, 39, 41, 43, 45, 47, 49, 51, 53, 55, 57, 59, 61, 63, 65, 67, 69, 71, 73, 75, 77, 79, 81, 89, 91, 93, 95, 97] : Array Int).getD k 0).toNat) = lawB k := by
  revert hk
  revert k
  decide
theorem law_skip {i : Nat} {M : am_M} {Q : Option Value → am_M → Prop} (hi : i + 8 < 2147483648) (ih : ∀ M2, lawAt L (i + 8) Inv M2 → lawHd (i + 8) M2 Q) (hM : lawAt L i Inv M) : am_Run true 60 279 (am_blk 279 99) [some (.ref 0), some (.ref 9), some (.ref 67), some (.int (nI i))] [] M Q := by
  show am_Run true 60 279 (Instr.iinc 3 (Int.ofNat 8) :: [.jsr_w 1]) [some (.ref 0), some (.ref 9), some (.ref 67), some (.int (nI i))] [] M Q
  refine riincN (k := i) (q := 8) rfl rfl ?_
  refine rback ?_
  refine ih M ?_
  obtain ⟨a1, a2, a3, a4, a5⟩ := hM
  exact ⟨a1, a2, a3, by omega, by omega⟩
set_option maxRecDepth 100000 in
theorem law_exit {i : Nat} {M : am_M} (hL2 : L ≤ 4096) (h : L < i + 8) (h2 : i ≤ L + 8) (hM : lawAt L i Inv M) : lawHd i M lawQ := by
  obtain ⟨a1, a2, a3, a4, a5⟩ := hM
  have hkd : am_kd true M 0 = (20, L) := a2
  unfold lawHd
  refine r1 rfl ?_
  refine r1 rfl ?_
  refine ralen hkd (by omega) ?_
  refine r1 rfl ?_
  refine r1 rfl ?_
  refine rb_gt (fun h => ?_) (fun h => ?_)
  · refine r1 rfl ?_
    refine rend rfl rfl ?_
    exact ⟨rfl, by omega, by omega⟩
  · rw [show (nI L - nI 8).toInt = (L : Int) - 8 from sub_toInt (by omega) (by omega), nI_toInt (by omega)] at h
    exact absurd h (by omega)
set_option maxRecDepth 100000 in
theorem law_loop (ho : okOps Inv) (hL2 : L ≤ 4096) : ∀ (n i : Nat) (M : am_M), L + 8 ≤ i + n → i ≤ L + 8 → lawAt L i Inv M → lawHd i M lawQ := by
  intro n
  induction n with
  | zero =>
    intro i M h1 h2 hM
    have hi : i = L + 8 := by omega
    subst hi
    exact law_exit hL2 (by omega) (by omega) hM
  | succ n ih =>
    intro i M h1 h2 hM
    by_cases hi : i + 8 ≤ L
    · have ih' : ∀ M2, lawAt L (i + 8) Inv M2 → lawHd (i + 8) M2 lawQ := fun M2 h => ih (i + 8) M2 (by omega) (by omega) h
      obtain ⟨k, hk, hx⟩ := and63 (mI M 0 i)
      obtain ⟨h0, h1, h2, h3, h4, h5, h6, h7, h8, h9, h10, h11, h12, h13, h14, h15, h16, h17, h18, h19, h20, h21, h22, h23, h24, h25, h26, h27, h28, h29, h30, h31, h32, h33, h34, h35⟩ := ho
      have hkd : am_kd true M 0 = (20, L) := hM.2.1
      unfold lawHd
      refine r1 rfl ?_
      refine r1 rfl ?_
      refine ralen hkd (by omega) ?_
      refine r1 rfl ?_
      refine r1 rfl ?_
      refine rb_gt (fun h => ?_) (fun h => ?_)
      · rw [show (nI L - nI 8).toInt = (L : Int) - 8 from sub_toInt (by omega) (by omega), nI_toInt (by omega)] at h
        exact absurd h (by omega)
      · refine rfall rfl ?_
        refine r1 rfl ?_
        refine r1 rfl ?_
        refine riald hkd (by omega) (by omega) ?_
        refine r1 rfl ?_
        refine r1 rfl ?_
        rw [show mI M 0 i &&& nI 63 = nI k from hx]
        refine rtswN (code := am_blk 279 (lawB k)) (by omega) (congrArg (am_blk 279) (lawB_eq hk)) ?_
        match k, hk with
        | 0, _ => exact law_day h0 hM hi hL2 ih'
        | 1, _ => exact law_land h1 hM hi hL2 ih'
        | 2, _ => exact law_lost h2 hM hi hL2 ih'
        | 3, _ => exact law_set h3 hM hi hL2 ih'
        | 4, _ => exact law_ice h4 hM hi hL2 ih'
        | 5, _ => exact law_shut h5 hM hi hL2 ih'
        | 6, _ => exact law_teller h6 hM hi hL2 ih'
        | 7, _ => exact law_find h7 hM hi hL2 ih'
        | 8, _ => exact law_doubt h8 hM hi hL2 ih'
        | 9, _ => exact law_found h9 hM hi hL2 ih'
        | 10, _ => exact law_kept h10 hM hi hL2 ih'
        | 11, _ => exact law_fits h11 hM hi hL2 ih'
        | 12, _ => exact law_most h12 hM hi hL2 ih'
        | 13, _ => exact law_at h13 hM hi hL2 ih'
        | 14, _ => exact law_sure h14 hM hi hL2 ih'
        | 15, _ => exact law_ends h15 hM hi hL2 ih'
        | 16, _ => exact law_move h16 hM hi hL2 ih'
        | 17, _ => exact law_clear h17 hM hi hL2 ih'
        | 18, _ => exact law_judge h18 hM hi hL2 ih'
        | 19, _ => exact law_alive h19 hM hi hL2 ih'
        | 20, _ => exact law_chance h20 hM hi hL2 ih'
        | 21, _ => exact law_left h21 hM hi hL2 ih'
        | 22, _ => exact law_lead h22 hM hi hL2 ih'
        | 23, _ => exact law_ship h23 hM hi hL2 ih'
        | 24, _ => exact law_trip h24 hM hi hL2 ih'
        | 25, _ => exact law_best h25 hM hi hL2 ih'
        | 26, _ => exact law_feed h26 hM hi hL2 ih'
        | 27, _ => exact law_rules h27 hM hi hL2 ih'
        | 28, _ => exact law_beside h28 hM hi hL2 ih'
        | 29, _ => exact law_fault h29 hM hi hL2 ih'
        | 30, _ => exact law_home h30 hM hi hL2 ih'
        | 31, _ => exact law_would h31 hM hi hL2 ih'
        | 32, _ => exact law_tried h32 hM hi hL2 ih'
        | 33, _ => exact law_quarrel h33 hM hi hL2 ih'
        | 34, _ => exact law_paid h34 hM hi hL2 ih'
        | 35, _ => exact law_count h35 hM hi hL2 ih'
        | (k + 36), hk => exact law_skip (by omega) ih' hM
    · exact law_exit hL2 (by omega) (by omega) hM
end LOOP
