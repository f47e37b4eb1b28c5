/-! the invariant's parts along a change elsewhere (printed by wip/whole/gen_tr.py) -/
def rDs (l : List Nat) (s : List (Nat × Nat)) (R : List Nat) (S : List (Nat × Nat)) : Bool := R.all (fun i => l.all (fun x => !(Nat.beq x i)) && s.all (fun q => !(Nat.beq q.1 i))) && S.all (fun q => !(rR l s q.1 q.2))
theorem rDs_row {l R : List Nat} {s S : List (Nat × Nat)} (h : rDs l s R S = true) {i : Nat} (hi : i ∈ R) (k : Nat) : rR l s i k = false := by
  unfold rDs at h
  rw [Bool.and_eq_true, List.all_eq_true] at h
  have := h.1 i hi
  rw [Bool.and_eq_true, List.all_eq_true, List.all_eq_true] at this
  rw [rR_false]
  refine ⟨fun x hx e => ?_, fun q hq e => ?_⟩
  · have := this.1 x hx
    rw [e, Nat.beq_refl] at this
    cases this
  · have := this.2 q hq
    rw [e, Nat.beq_refl] at this
    cases this
theorem rDs_slot {l R : List Nat} {s S : List (Nat × Nat)} (h : rDs l s R S = true) {i k : Nat} (hi : (i, k) ∈ S) : rR l s i k = false := by
  unfold rDs at h
  rw [Bool.and_eq_true, List.all_eq_true, List.all_eq_true] at h
  have := h.2 (i, k) hi
  rw [Bool.not_eq_true'] at this
  exact this
def rLo (l : List Nat) (s : List (Nat × Nat)) : Bool := l.all (fun x => Nat.blt x 118) && s.all (fun q => Nat.blt q.1 118)
theorem rLo_hi {l : List Nat} {s : List (Nat × Nat)} (h : rLo l s = true) {i : Nat} (hi : 118 ≤ i) (k : Nat) : rR l s i k = false := by
  unfold rLo at h
  rw [Bool.and_eq_true, List.all_eq_true, List.all_eq_true] at h
  rw [rR_false]
  refine ⟨fun x hx e => ?_, fun q hq e => ?_⟩
  · have h1 : Nat.blt x 118 = true := h.1 x hx
    have := Nat.le_of_ble_eq_true h1
    omega
  · have h1 : Nat.blt q.1 118 = true := h.2 q hq
    have := Nat.le_of_ble_eq_true h1
    rw [e] at this
    have : i + 1 ≤ 118 := this
    omega
theorem ch_dyn {l : List Nat} {s : List (Nat × Nat)} {M M' : am_M} (c : ch (rR l s) M M') (h : rLo l s = true) (h62 : ∀ k, rR l s 62 k = false) : dynI M' = dynI M := by
  funext i
  unfold dynI
  split
  · rfl
  · next hi =>
    by_cases e : i = 62
    · subst e; exact c.row 62 h62
    · exact c.row i (rLo_hi h (by omega))
theorem ch_msk {R : Nat → Nat → Bool} {M M' : am_M} (c : ch R M M') (n i : Nat) (h : ∀ k, R i k = false) : msk n (mI M' i) = msk n (mI M i) := by rw [c.row i h]
section TR
variable {l : List Nat} {s : List (Nat × Nat)} {M M' : am_M}
theorem tr_misc (h : IMisc (mI M 9 15) (mI M 67 0) (mI M 9 16) (mI M 67 5) (mI M 9 17) (mI M 67 6) (mI M 18 0) (mI M 67 1) (mI M 18 1) (mI M 67 2) (mI M 18 2) (mI M 67 3) (mI M 18 3) (mI M 67 4)) (c : ch (rR l s) M M') (hd : rDs l s [] [(9, 15), (67, 0), (9, 16), (67, 5), (9, 17), (67, 6), (18, 0), (67, 1), (18, 1), (67, 2), (18, 2), (67, 3), (18, 3), (67, 4)] = true) : IMisc (mI M' 9 15) (mI M' 67 0) (mI M' 9 16) (mI M' 67 5) (mI M' 9 17) (mI M' 67 6) (mI M' 18 0) (mI M' 67 1) (mI M' 18 1) (mI M' 67 2) (mI M' 18 2) (mI M' 67 3) (mI M' 18 3) (mI M' 67 4) := by
  rw [c.I 9 15 (rDs_slot hd (by decide)), c.I 67 0 (rDs_slot hd (by decide)), c.I 9 16 (rDs_slot hd (by decide)), c.I 67 5 (rDs_slot hd (by decide)), c.I 9 17 (rDs_slot hd (by decide)), c.I 67 6 (rDs_slot hd (by decide)), c.I 18 0 (rDs_slot hd (by decide)), c.I 67 1 (rDs_slot hd (by decide)), c.I 18 1 (rDs_slot hd (by decide)), c.I 67 2 (rDs_slot hd (by decide)), c.I 18 2 (rDs_slot hd (by decide)), c.I 67 3 (rDs_slot hd (by decide)), c.I 18 3 (rDs_slot hd (by decide)), c.I 67 4 (rDs_slot hd (by decide))]
  exact h
theorem tr_land (h : ILand (mI M 11) (mI M 68) (mI M 12) (mI M 69) (mI M 10 8) (mI M 10 9)) (c : ch (rR l s) M M') (hd : rDs l s [11, 68, 12, 69] [(10, 8), (10, 9)] = true) : ILand (mI M' 11) (mI M' 68) (mI M' 12) (mI M' 69) (mI M' 10 8) (mI M' 10 9) := by
  rw [c.row 11 (rDs_row hd (by decide)), c.row 68 (rDs_row hd (by decide)), c.row 12 (rDs_row hd (by decide)), c.row 69 (rDs_row hd (by decide)), c.I 10 8 (rDs_slot hd (by decide)), c.I 10 9 (rDs_slot hd (by decide))]
  exact h
theorem tr_ice (h : IIce (mI M 10 7) (mI M 67 9) (mI M 13) (mI M 14) (mI M 15) (mI M 16) (mI M 70) (mI M 71) (mI M 72) (mI M 73)) (c : ch (rR l s) M M') (hd : rDs l s [13, 14, 15, 16, 70, 71, 72, 73] [(10, 7), (67, 9)] = true) : IIce (mI M' 10 7) (mI M' 67 9) (mI M' 13) (mI M' 14) (mI M' 15) (mI M' 16) (mI M' 70) (mI M' 71) (mI M' 72) (mI M' 73) := by
  rw [c.I 10 7 (rDs_slot hd (by decide)), c.I 67 9 (rDs_slot hd (by decide)), c.row 13 (rDs_row hd (by decide)), c.row 14 (rDs_row hd (by decide)), c.row 15 (rDs_row hd (by decide)), c.row 16 (rDs_row hd (by decide)), c.row 70 (rDs_row hd (by decide)), c.row 71 (rDs_row hd (by decide)), c.row 72 (rDs_row hd (by decide)), c.row 73 (rDs_row hd (by decide))]
  exact h
theorem tr_tel (h : ITel (mI M 19 9) (mI M 67 15) (mI M 21) (mI M 22) (mI M 75) (mI M 76)) (c : ch (rR l s) M M') (hd : rDs l s [21, 22, 75, 76] [(19, 9), (67, 15)] = true) : ITel (mI M' 19 9) (mI M' 67 15) (mI M' 21) (mI M' 22) (mI M' 75) (mI M' 76) := by
  rw [c.I 19 9 (rDs_slot hd (by decide)), c.I 67 15 (rDs_slot hd (by decide)), c.row 21 (rDs_row hd (by decide)), c.row 22 (rDs_row hd (by decide)), c.row 75 (rDs_row hd (by decide)), c.row 76 (rDs_row hd (by decide))]
  exact h
theorem tr_find (h : IFind (mI M 19 8) (mI M 67 16) (mI M 19 9) (mI M 9 15) (mI M 21) (mI M 22) (mI M 20) (mI M 77) (mI M 78) (mI M 79) (mI M 80) (mI M 81) (mI M 82) (mI M 83) (mI M 84)) (c : ch (rR l s) M M') (hd : rDs l s [21, 22, 20, 77, 78, 79, 80, 81, 82, 83, 84] [(19, 8), (67, 16), (19, 9), (9, 15)] = true) : IFind (mI M' 19 8) (mI M' 67 16) (mI M' 19 9) (mI M' 9 15) (mI M' 21) (mI M' 22) (mI M' 20) (mI M' 77) (mI M' 78) (mI M' 79) (mI M' 80) (mI M' 81) (mI M' 82) (mI M' 83) (mI M' 84) := by
  rw [c.I 19 8 (rDs_slot hd (by decide)), c.I 67 16 (rDs_slot hd (by decide)), c.I 19 9 (rDs_slot hd (by decide)), c.I 9 15 (rDs_slot hd (by decide)), c.row 21 (rDs_row hd (by decide)), c.row 22 (rDs_row hd (by decide)), c.row 20 (rDs_row hd (by decide)), c.row 77 (rDs_row hd (by decide)), c.row 78 (rDs_row hd (by decide)), c.row 79 (rDs_row hd (by decide)), c.row 80 (rDs_row hd (by decide)), c.row 81 (rDs_row hd (by decide)), c.row 82 (rDs_row hd (by decide)), c.row 83 (rDs_row hd (by decide)), c.row 84 (rDs_row hd (by decide))]
  exact h
theorem tr_doubt (h : IDoubt (mI M 19 10) (mI M 67 17) (mI M 23) (mI M 24) (mI M 25) (mI M 85) (mI M 86) (mI M 87)) (c : ch (rR l s) M M') (hd : rDs l s [23, 24, 25, 85, 86, 87] [(19, 10), (67, 17)] = true) : IDoubt (mI M' 19 10) (mI M' 67 17) (mI M' 23) (mI M' 24) (mI M' 25) (mI M' 85) (mI M' 86) (mI M' 87) := by
  rw [c.I 19 10 (rDs_slot hd (by decide)), c.I 67 17 (rDs_slot hd (by decide)), c.row 23 (rDs_row hd (by decide)), c.row 24 (rDs_row hd (by decide)), c.row 25 (rDs_row hd (by decide)), c.row 85 (rDs_row hd (by decide)), c.row 86 (rDs_row hd (by decide)), c.row 87 (rDs_row hd (by decide))]
  exact h
theorem tr_row (h : IRow (mI M 28 5) (mI M 67 37) (mI M 29) (mI M 92)) (c : ch (rR l s) M M') (hd : rDs l s [29, 92] [(28, 5), (67, 37)] = true) : IRow (mI M' 28 5) (mI M' 67 37) (mI M' 29) (mI M' 92) := by
  rw [c.I 28 5 (rDs_slot hd (by decide)), c.I 67 37 (rDs_slot hd (by decide)), c.row 29 (rDs_row hd (by decide)), c.row 92 (rDs_row hd (by decide))]
  exact h
theorem tr_ship (h : IShip (mI M 41 12) (mI M 67 43) (mI M 42) (mI M 43) (mI M 44) (mI M 95) (mI M 96) (mI M 97)) (c : ch (rR l s) M M') (hd : rDs l s [42, 43, 44, 95, 96, 97] [(41, 12), (67, 43)] = true) : IShip (mI M' 41 12) (mI M' 67 43) (mI M' 42) (mI M' 43) (mI M' 44) (mI M' 95) (mI M' 96) (mI M' 97) := by
  rw [c.I 41 12 (rDs_slot hd (by decide)), c.I 67 43 (rDs_slot hd (by decide)), c.row 42 (rDs_row hd (by decide)), c.row 43 (rDs_row hd (by decide)), c.row 44 (rDs_row hd (by decide)), c.row 95 (rDs_row hd (by decide)), c.row 96 (rDs_row hd (by decide)), c.row 97 (rDs_row hd (by decide))]
  exact h
theorem tr_tape (h : ITape (mI M 55 4) (mI M 67 54) (mI M 59 7) (mI M 67 58) (mI M 56) (mI M 115)) (c : ch (rR l s) M M') (hd : rDs l s [56, 115] [(55, 4), (67, 54), (59, 7), (67, 58)] = true) : ITape (mI M' 55 4) (mI M' 67 54) (mI M' 59 7) (mI M' 67 58) (mI M' 56) (mI M' 115) := by
  rw [c.I 55 4 (rDs_slot hd (by decide)), c.I 67 54 (rDs_slot hd (by decide)), c.I 59 7 (rDs_slot hd (by decide)), c.I 67 58 (rDs_slot hd (by decide)), c.row 56 (rDs_row hd (by decide)), c.row 115 (rDs_row hd (by decide))]
  exact h
theorem tr_rule (h : IRule (mI M 9 14) (mI M 67 52) (mI M 67 59) (mI M 9 15) (mA M) (dynI M) (mK M) (mN M) (msk 9 (mI M 102)) (msk 9 (mI M 103)) (msk 270 (mI M 104)) (msk 270 (mI M 105)) (msk 270 (mI M 106)) (msk 270 (mI M 107)) (msk 6480 (mI M 108)) (msk 6480 (mI M 109)) (msk 6480 (mI M 110)) (msk 6480 (mI M 111)) (msk 6480 (mI M 112)) (msk 6480 (mI M 113))) (c : ch (rR l s) M M') (hd : rDs l s [62, 102, 103, 104, 105, 106, 107, 108, 109, 110, 111, 112, 113] [(9, 14), (67, 52), (67, 59), (9, 15)] = true) (hl : rLo l s = true) : IRule (mI M' 9 14) (mI M' 67 52) (mI M' 67 59) (mI M' 9 15) (mA M') (dynI M') (mK M') (mN M') (msk 9 (mI M' 102)) (msk 9 (mI M' 103)) (msk 270 (mI M' 104)) (msk 270 (mI M' 105)) (msk 270 (mI M' 106)) (msk 270 (mI M' 107)) (msk 6480 (mI M' 108)) (msk 6480 (mI M' 109)) (msk 6480 (mI M' 110)) (msk 6480 (mI M' 111)) (msk 6480 (mI M' 112)) (msk 6480 (mI M' 113)) := by
  rw [c.I 9 14 (rDs_slot hd (by decide)), c.I 67 52 (rDs_slot hd (by decide)), c.I 67 59 (rDs_slot hd (by decide)), c.I 9 15 (rDs_slot hd (by decide)), c.A, ch_dyn c hl (rDs_row hd (by decide)), c.K, c.N, ch_msk c 9 102 (rDs_row hd (by decide)), ch_msk c 9 103 (rDs_row hd (by decide)), ch_msk c 270 104 (rDs_row hd (by decide)), ch_msk c 270 105 (rDs_row hd (by decide)), ch_msk c 270 106 (rDs_row hd (by decide)), ch_msk c 270 107 (rDs_row hd (by decide)), ch_msk c 6480 108 (rDs_row hd (by decide)), ch_msk c 6480 109 (rDs_row hd (by decide)), ch_msk c 6480 110 (rDs_row hd (by decide)), ch_msk c 6480 111 (rDs_row hd (by decide)), ch_msk c 6480 112 (rDs_row hd (by decide)), ch_msk c 6480 113 (rDs_row hd (by decide))]
  exact h
theorem tr_stat (h : IStat (mI M 1) (mI M 2) (mI M 7) (mI M 8) (mI M 5) (mI M 6) (mL M 3) (mL M 4) (mA M) (mN M)) (c : ch (rR l s) M M') (hd : rDs l s [1, 2, 7, 8, 5, 6, 3, 4] [] = true) : IStat (mI M' 1) (mI M' 2) (mI M' 7) (mI M' 8) (mI M' 5) (mI M' 6) (mL M' 3) (mL M' 4) (mA M') (mN M') := by
  rw [c.row 1 (rDs_row hd (by decide)), c.row 2 (rDs_row hd (by decide)), c.row 7 (rDs_row hd (by decide)), c.row 8 (rDs_row hd (by decide)), c.row 5 (rDs_row hd (by decide)), c.row 6 (rDs_row hd (by decide)), c.rowL 3 (rDs_row hd (by decide)), c.rowL 4 (rDs_row hd (by decide)), c.A, c.N]
  exact h
theorem ch_un {l l' : List Nat} {s s' : List (Nat × Nat)} {M M' M'' : am_M} (h1 : ch (rR l s) M M') (h2 : ch (rR l' s') M' M'') : ch (rR (l ++ l') (s ++ s')) M M'' := by
  refine ch_trans (ch_sub h1 (fun i k q => ?_)) (ch_sub h2 (fun i k q => ?_)) <;> rw [rR_false] at q ⊢
  · exact ⟨fun x hx => q.1 x (List.mem_append_left _ hx), fun x hx => q.2 x (List.mem_append_left _ hx)⟩
  · exact ⟨fun x hx => q.1 x (List.mem_append_right _ hx), fun x hx => q.2 x (List.mem_append_right _ hx)⟩
end TR
