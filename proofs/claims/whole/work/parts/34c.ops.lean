/-! the adding ops -/
theorem cl_to {x : Int32} (h : 0 ≤ x.toInt) : x.toInt = (x.toNatClampNeg : Int) := nn_to h
theorem nI_lo (n : Nat) (h : n < 2147483648) : 0 ≤ (nI n).toInt := by rw [nI_toInt h]; omega
theorem cnt_ice {M : am_M} (hI : Inv M) : ∃ n, n ≤ 200 ∧ mI M 10 7 = nI n ∧ mI M 67 9 = nI n := by
  have h1 := hI.ice.n_eq
  have h2 := hI.ice.n_lo
  have h3 := hI.ice.n_hi
  have h4 := nn_to h2
  exact ⟨nn (mI M 10 7), by omega, nn_eq h2, h1.trans (nn_eq h2)⟩
theorem cnt_tel {M : am_M} (hI : Inv M) : ∃ n, n ≤ 10 ∧ mI M 19 9 = nI n ∧ mI M 67 15 = nI n := by
  have h1 := hI.tel.n_eq
  have h2 := hI.tel.n_lo
  have h3 := hI.tel.n_hi
  have h4 := nn_to h2
  exact ⟨nn (mI M 19 9), by omega, nn_eq h2, h1.trans (nn_eq h2)⟩
theorem cnt_find {M : am_M} (hI : Inv M) : ∃ n, n ≤ 40 ∧ mI M 19 8 = nI n ∧ mI M 67 16 = nI n := by
  have h1 := hI.find.n_eq
  have h2 := hI.find.n_lo
  have h3 := hI.find.n_hi
  have h4 := nn_to h2
  exact ⟨nn (mI M 19 8), by omega, nn_eq h2, h1.trans (nn_eq h2)⟩
theorem cnt_doubt {M : am_M} (hI : Inv M) : ∃ n, n ≤ 200 ∧ mI M 19 10 = nI n ∧ mI M 67 17 = nI n := by
  have h1 := hI.doubt.n_eq
  have h2 := hI.doubt.n_lo
  have h3 := hI.doubt.n_hi
  have h4 := nn_to h2
  exact ⟨nn (mI M 19 10), by omega, nn_eq h2, h1.trans (nn_eq h2)⟩
theorem cnt_row {M : am_M} (hI : Inv M) : ∃ n, n ≤ 119 ∧ mI M 28 5 = nI n ∧ mI M 67 37 = nI n := by
  have h1 := hI.row.n_eq
  have h2 := hI.row.n_lo
  have h3 := hI.row.n_hi
  have h4 := nn_to h2
  exact ⟨nn (mI M 28 5), by omega, nn_eq h2, h1.trans (nn_eq h2)⟩
theorem cnt_ship {M : am_M} (hI : Inv M) : ∃ n, n ≤ 4 ∧ mI M 41 12 = nI n ∧ mI M 67 43 = nI n := by
  have h1 := hI.ship.n_eq
  have h2 := hI.ship.n_lo
  have h3 := hI.ship.n_hi
  have h4 := nn_to h2
  exact ⟨nn (mI M 41 12), by omega, nn_eq h2, h1.trans (nn_eq h2)⟩
theorem cnt_tape {M : am_M} (hI : Inv M) : ∃ n, n ≤ 700 ∧ mI M 55 4 = nI n ∧ mI M 67 54 = nI n := by
  have h1 := hI.tape.n_eq
  have h2 := hI.tape.n_lo
  have h3 := hI.tape.n_hi
  have h4 := nn_to h2
  exact ⟨nn (mI M 55 4), by omega, nn_eq h2, h1.trans (nn_eq h2)⟩
theorem cnt_rule {M : am_M} (hI : Inv M) : ∃ n, n ≤ 8 ∧ mI M 9 14 = nI n ∧ mI M 67 52 = nI n := by
  have h1 := hI.rule.1
  have h2 := hI.rule.2.1
  have h3 := hI.rule.2.2.1
  have h4 := nn_to h2
  exact ⟨nn (mI M 9 14), by omega, nn_eq h2, h1.trans (nn_eq h2)⟩
theorem cnt_td {M : am_M} (hI : Inv M) : ∃ n, n ≤ 999 ∧ 0 ≤ n ∧ mI M 9 15 = nI n ∧ mI M 67 0 = nI n := by
  have h1 := hI.misc.td_eq
  have h2 := hI.misc.td_lo
  have h3 := hI.misc.td_hi
  have h5 : 0 ≤ (mI M 9 15).toInt := by omega
  have h4 := nn_to h5
  exact ⟨nn (mI M 9 15), by omega, by omega, nn_eq h5, h1.trans (nn_eq h5)⟩
theorem cnt_la {M : am_M} (hI : Inv M) : ∃ n, n ≤ 119 ∧ 0 ≤ n ∧ mI M 9 16 = nI n ∧ mI M 67 5 = nI n := by
  have h1 := hI.misc.la_eq
  have h2 := hI.misc.la_lo
  have h3 := hI.misc.la_hi
  have h5 : 0 ≤ (mI M 9 16).toInt := by omega
  have h4 := nn_to h5
  exact ⟨nn (mI M 9 16), by omega, by omega, nn_eq h5, h1.trans (nn_eq h5)⟩
theorem cnt_ho {M : am_M} (hI : Inv M) : ∃ n, n ≤ 100 ∧ 0 ≤ n ∧ mI M 9 17 = nI n ∧ mI M 67 6 = nI n := by
  have h1 := hI.misc.ho_eq
  have h2 := hI.misc.ho_lo
  have h3 := hI.misc.ho_hi
  have h5 : 0 ≤ (mI M 9 17).toInt := by omega
  have h4 := nn_to h5
  exact ⟨nn (mI M 9 17), by omega, by omega, nn_eq h5, h1.trans (nn_eq h5)⟩
theorem cnt_ce {M : am_M} (hI : Inv M) : ∃ n, n ≤ 255 ∧ 0 ≤ n ∧ mI M 18 0 = nI n ∧ mI M 67 1 = nI n := by
  have h1 := hI.misc.ce_eq
  have h2 := hI.misc.ce_lo
  have h3 := hI.misc.ce_hi
  have h5 : 0 ≤ (mI M 18 0).toInt := by omega
  have h4 := nn_to h5
  exact ⟨nn (mI M 18 0), by omega, by omega, nn_eq h5, h1.trans (nn_eq h5)⟩
theorem cnt_me {M : am_M} (hI : Inv M) : ∃ n, n ≤ 200 ∧ 1 ≤ n ∧ mI M 18 1 = nI n ∧ mI M 67 2 = nI n := by
  have h1 := hI.misc.me_eq
  have h2 := hI.misc.me_lo
  have h3 := hI.misc.me_hi
  have h5 : 0 ≤ (mI M 18 1).toInt := by omega
  have h4 := nn_to h5
  exact ⟨nn (mI M 18 1), by omega, by omega, nn_eq h5, h1.trans (nn_eq h5)⟩
theorem cnt_fo {M : am_M} (hI : Inv M) : ∃ n, n ≤ 99999 ∧ 0 ≤ n ∧ mI M 18 2 = nI n ∧ mI M 67 3 = nI n := by
  have h1 := hI.misc.fo_eq
  have h2 := hI.misc.fo_lo
  have h3 := hI.misc.fo_hi
  have h5 : 0 ≤ (mI M 18 2).toInt := by omega
  have h4 := nn_to h5
  exact ⟨nn (mI M 18 2), by omega, by omega, nn_eq h5, h1.trans (nn_eq h5)⟩
theorem IMisc_lost {td td2 la la2 ho ho2 ce ce2 me me2 fo fo2 as_ as2 a b c e : Int32} (h : IMisc td td2 la la2 ho ho2 ce ce2 me me2 fo fo2 as_ as2) (h1 : 0 ≤ a.toInt) (h2 : a.toInt ≤ 255) (h3 : 1 ≤ b.toInt) (h4 : b.toInt ≤ 200) (h5 : 0 ≤ c.toInt) (h6 : c.toInt ≤ 99999) (h7 : -1 ≤ e.toInt) (h8 : e.toInt ≤ 119) : IMisc td td2 la la2 ho ho2 a a b b c c e e := by
  obtain ⟨b0, b1, b2, b3, b4, b5, b6, b7, b8, b9⟩ := h
  exact ⟨b0, b1, b2, b3, b4, b5, b6, b7, b8, rfl, h1, h2, rfl, h3, h4, rfl, h5, h6, rfl, h7, h8⟩
theorem IMisc_set {td td2 la la2 ho ho2 ce ce2 me me2 fo fo2 as_ as2 a b : Int32} (h : IMisc td td2 la la2 ho ho2 ce ce2 me me2 fo fo2 as_ as2) (h1 : 0 ≤ a.toInt) (h2 : a.toInt ≤ 119) (h3 : 0 ≤ b.toInt) (h4 : b.toInt ≤ 100) : IMisc td td2 a a b b ce ce2 me me2 fo fo2 as_ as2 := by
  obtain ⟨b0, b1, b2, b3, b4, b5, b6, b7, b8, b9⟩ := h
  exact ⟨b0, b1, b2, rfl, h1, h2, rfl, h3, h4, b9⟩
theorem IRow_add {n : Nat} {a : Int32} {mo mo2 : Nat → Int32} (h : IRow (nI n) (nI n) mo mo2) (hn : n < 119) (h1 : 0 ≤ a.toInt) (h2 : a.toInt ≤ 8) : IRow (nI (n + 1)) (nI (n + 1)) (am_up mo n a) (am_up mo2 n a) := by
  obtain ⟨b0, b1, b2, b3, b4⟩ := h
  rw [nI_toInt (by omega)] at b4
  refine ⟨rfl, nI_lo _ (by omega), by rw [nI_toInt (by omega)]; omega, by rw [b3], fun j hj => ?_⟩
  rw [nI_toInt (by omega)] at hj
  by_cases e : j = n
  · rw [e, up_eq]; omega
  · rw [up_ne e]; exact b4 j (by omega)
theorem IRow_0 {n n2 : Int32} {mo mo2 : Nat → Int32} (h : IRow n n2 mo mo2) : IRow (nI 0) (nI 0) mo mo2 := by
  obtain ⟨b0, b1, b2, b3, b4⟩ := h
  exact ⟨rfl, by decide, by decide, b3, fun j hj => absurd (show (j : Int) < 0 from hj) (by omega)⟩
theorem IShip_add {n : Nat} {a b c : Int32} {ha ra we ha2 ra2 we2 : Nat → Int32} (h : IShip (nI n) (nI n) ha ra we ha2 ra2 we2) (hn : n < 4) (h1 : 0 ≤ a.toInt) (h2 : a.toInt ≤ 255) (h3 : 0 ≤ b.toInt) (h4 : b.toInt ≤ 20) (h5 : 1 ≤ c.toInt) (h6 : c.toInt ≤ 100) : IShip (nI (n + 1)) (nI (n + 1)) (am_up ha n a) (am_up ra n b) (am_up we n c) (am_up ha2 n a) (am_up ra2 n b) (am_up we2 n c) := by
  obtain ⟨b0, b1, b2, b3, b4, b5, b6⟩ := h
  rw [nI_toInt (by omega)] at b6
  refine ⟨rfl, nI_lo _ (by omega), by rw [nI_toInt (by omega)]; omega, by rw [b3], by rw [b4], by rw [b5], fun j hj => ?_⟩
  rw [nI_toInt (by omega)] at hj
  by_cases e : j = n
  · rw [e, up_eq, up_eq, up_eq]; omega
  · rw [up_ne e, up_ne e, up_ne e]; exact b6 j (by omega)
theorem IIce_add {n : Nat} {a b c : Int32} {s : Nat} {ce ye da is ce2 ye2 da2 is2 : Nat → Int32} (h : IIce (nI n) (nI n) ce ye da is ce2 ye2 da2 is2) (hn : n < 200) (h1 : 0 ≤ a.toInt) (h2 : a.toInt ≤ 255) (h3 : 0 ≤ b.toInt) (h4 : b.toInt ≤ 11) (h5 : s ≤ 1) : IIce (nI (n + 1)) (nI (n + 1)) (am_up ce n a) (am_up ye n b) (am_up da n c) (am_up is n (nI s)) (am_up ce2 n a) (am_up ye2 n b) (am_up da2 n c) (am_up is2 n (nI s)) := by
  obtain ⟨b0, b1, b2, b3, b4, b5, b6, b7⟩ := h
  rw [nI_toInt (by omega)] at b7
  refine ⟨rfl, nI_lo _ (by omega), by rw [nI_toInt (by omega)]; omega, by rw [b3], by rw [b4], by rw [b5], by rw [b6], fun j hj => ?_⟩
  rw [nI_toInt (by omega)] at hj
  by_cases e : j = n
  · rw [e, up_eq, up_eq, up_eq]
    rcases (show s = 0 ∨ s = 1 by omega) with rfl | rfl
    · exact ⟨h1, h2, h3, h4, Or.inl rfl⟩
    · exact ⟨h1, h2, h3, h4, Or.inr rfl⟩
  · rw [up_ne e, up_ne e, up_ne e]; exact b7 j (by omega)
theorem ITel_add {n : Nat} {a b : Int32} {tr by_ tr2 by2 : Nat → Int32} (h : ITel (nI n) (nI n) tr by_ tr2 by2) (hn : n < 10) (h1 : 0 ≤ a.toInt) (h2 : a.toInt ≤ 100) (h3 : -1 ≤ b.toInt) (h4 : b.toInt < n) : ITel (nI (n + 1)) (nI (n + 1)) (am_up tr n a) (am_up by_ n b) (am_up tr2 n a) (am_up by2 n b) := by
  obtain ⟨b0, b1, b2, b3, b4, b5⟩ := h
  rw [nI_toInt (by omega)] at b5
  refine ⟨rfl, nI_lo _ (by omega), by rw [nI_toInt (by omega)]; omega, by rw [b3], by rw [b4], fun j hj => ?_⟩
  rw [nI_toInt (by omega)] at hj
  by_cases e : j = n
  · subst e; rw [up_eq, up_eq]; omega
  · rw [up_ne e, up_ne e]; exact b5 j (by omega)
/-- the chain of tellers doesn't see one that is told later -/
theorem chF_up {T B : Nat → Int32} {k : Nat} {a b : Int32} (hB : ∀ j, j < k → (B j).toInt < j) : ∀ (n x : Nat) (t : Int32), t.toInt < k → chF (am_up T k a) (am_up B k b) n x t = chF T B n x t
  | 0, _, _, _ => rfl
  | n + 1, x, t, ht => by
    unfold chF
    by_cases h0 : t.toInt < 0
    · rw [if_pos h0, if_pos h0]
    · rw [if_neg h0, if_neg h0]
      have e := cl_to (show 0 ≤ t.toInt by omega)
      rw [up_ne (by omega), up_ne (by omega)]
      exact chF_up hB n _ _ (by have := hB t.toNatClampNeg (by omega); omega)
theorem trF_up {T B : Nat → Int32} {k : Nat} {a b t : Int32} (hB : ∀ j, j < k → (B j).toInt < j) (ht : t.toInt < k) : trF (am_up T k a) (am_up B k b) t = trF T B t := by
  unfold trF
  by_cases h0 : t.toInt < 0
  · rw [if_pos h0, if_pos h0]
  · rw [if_neg h0, if_neg h0]
    have e := cl_to (show 0 ≤ t.toInt by omega)
    rw [up_ne (by omega), up_ne (by omega)]
    exact chF_up hB 10 _ _ (by have := hB t.toNatClampNeg (by omega); omega)
theorem IFind_tel {n n2 td a b : Int32} {k : Nat} {tr by_ fa ki pl fi la re te fr_ to : Nat → Int32} (h : IFind n n2 (nI k) td tr by_ fa ki pl fi la re te fr_ to) (hB : ∀ j, j < k → (by_ j).toInt < j) (hk : k < 10) : IFind n n2 (nI (k + 1)) td (am_up tr k a) (am_up by_ k b) fa ki pl fi la re te fr_ to := by
  obtain ⟨a1, a2, a3, b0, b1, b2, b3, b4, b5, b6, b7, b8, ok, mo⟩ := h
  rw [nI_toInt (by omega)] at ok
  refine ⟨a1, a2, a3, b0, b1, b2, b3, b4, b5, b6, fun f hf => ?_, b8, fun f hf => ?_, mo⟩
  · obtain ⟨c1, c2, c3, c4, c5, c6, c7, c8, c9, c10, c11, c12, c13, c14, c15⟩ := ok f hf
    rw [trF_up hB (by omega)]
    exact b7 f hf
  · obtain ⟨c1, c2, c3, c4, c5, c6, c7, c8, c9, c10, c11, c12, c13, c14, c15⟩ := ok f hf
    rw [nI_toInt (by omega)]
    exact ⟨c1, c2, c3, c4, c5, c6, c7, c8, c9, c10, by omega, c12, c13, c14, c15⟩
theorem ok_lost : okOp_lost Inv := by
  intro M a0 a1 a2 a3 hI
  unfold opOK
  refine x_lost  (fun hc M1 c1 e0 e1 e2 e3 => ⟨_, rfl, ?_⟩) (fun hc => ⟨_, rfl, ?_⟩)
  · refine m_lost  (fun _ M2 c2 f0 f1 f2 f3 => ⟨rfl, ?_⟩) (fun h => absurd (by rw [c1.row 68 (fun _ => rfl), hI.land.la_eq]; exact hc) h)
    have hq := hc
    have hc := ch_un c1 c2
    refine fin_ch hc ?_
    refine ⟨?_, ?_, ?_, ?_, ?_, ?_, ?_, ?_, ?_, ?_, ?_⟩ <;> first | exact tr_misc hI.misc hc rfl | exact tr_land hI.land hc rfl | exact tr_ice hI.ice hc rfl | exact tr_tel hI.tel hc rfl | exact tr_find hI.find hc rfl | exact tr_doubt hI.doubt hc rfl | exact tr_row hI.row hc rfl | exact tr_ship hI.ship hc rfl | exact tr_tape hI.tape hc rfl | exact tr_rule hI.rule hc rfl rfl | exact tr_stat hI.stat hc rfl | skip
    · have g0 := hc.I 9 15 rfl
      have g1 := hc.I 67 0 rfl
      have g2 := hc.I 9 16 rfl
      have g3 := hc.I 67 5 rfl
      have g4 := hc.I 9 17 rfl
      have g5 := hc.I 67 6 rfl
      have g6 := (c2.I 18 0 rfl).trans e0
      have g7 := f0
      have g8 := (c2.I 18 1 rfl).trans e1
      have g9 := f1
      have g10 := (c2.I 18 2 rfl).trans e2
      have g11 := f2
      have g12 := (c2.I 18 3 rfl).trans e3
      have g13 := f3
      simp only [g0, g1, g2, g3, g4, g5, g6, g7, g8, g9, g10, g11, g12, g13]
      apply IMisc_lost hI.misc <;> first | omega
  · refine m_lost  (fun h _ _ _ _ _ _ => absurd (by rw [hI.land.la_eq] at h; exact h) hc) (fun _ => ⟨rfl, fin_0 hI⟩)
theorem ok_set : okOp_set Inv := by
  intro M a0 a1 hI
  unfold opOK
  refine x_set  (fun hc M1 c1 e0 e1 => ⟨_, rfl, ?_⟩) (fun hc => ⟨_, rfl, ?_⟩)
  · refine m_set  (fun _ M2 c2 f0 f1 => ⟨rfl, ?_⟩) (fun h => absurd hc h)
    have hq := hc
    have hc := ch_un c1 c2
    refine fin_ch hc ?_
    refine ⟨?_, ?_, ?_, ?_, ?_, ?_, ?_, ?_, ?_, ?_, ?_⟩ <;> first | exact tr_misc hI.misc hc rfl | exact tr_land hI.land hc rfl | exact tr_ice hI.ice hc rfl | exact tr_tel hI.tel hc rfl | exact tr_find hI.find hc rfl | exact tr_doubt hI.doubt hc rfl | exact tr_row hI.row hc rfl | exact tr_ship hI.ship hc rfl | exact tr_tape hI.tape hc rfl | exact tr_rule hI.rule hc rfl rfl | exact tr_stat hI.stat hc rfl | skip
    · have g0 := hc.I 9 15 rfl
      have g1 := hc.I 67 0 rfl
      have g2 := (c2.I 9 16 rfl).trans e0
      have g3 := f0
      have g4 := (c2.I 9 17 rfl).trans e1
      have g5 := f1
      have g6 := hc.I 18 0 rfl
      have g7 := hc.I 67 1 rfl
      have g8 := hc.I 18 1 rfl
      have g9 := hc.I 67 2 rfl
      have g10 := hc.I 18 2 rfl
      have g11 := hc.I 67 3 rfl
      have g12 := hc.I 18 3 rfl
      have g13 := hc.I 67 4 rfl
      simp only [g0, g1, g2, g3, g4, g5, g6, g7, g8, g9, g10, g11, g12, g13]
      apply IMisc_set hI.misc <;> first | omega
  · refine m_set  (fun h _ _ _ _ => absurd h hc) (fun _ => ⟨rfl, fin_0 hI⟩)
theorem ok_move : okOp_move Inv := by
  intro M a0 hI
  obtain ⟨n, hl, hx, hm⟩ := cnt_row hI
  have hi := hI.row
  rw [hx, hm] at hi
  unfold opOK
  refine x_move hx hl (fun hc M1 c1 e0 e1 => ⟨_, rfl, ?_⟩) (fun hc => ⟨_, rfl, ?_⟩)
  · refine m_move ((c1.I 67 37 rfl).trans hm) hl (fun _ M2 c2 f0 f1 => ⟨rfl, ?_⟩) (fun h => absurd hc h)
    have hq := hc
    have hc := ch_un c1 c2
    refine fin_ch hc ?_
    refine ⟨?_, ?_, ?_, ?_, ?_, ?_, ?_, ?_, ?_, ?_, ?_⟩ <;> first | exact tr_misc hI.misc hc rfl | exact tr_land hI.land hc rfl | exact tr_ice hI.ice hc rfl | exact tr_tel hI.tel hc rfl | exact tr_find hI.find hc rfl | exact tr_doubt hI.doubt hc rfl | exact tr_row hI.row hc rfl | exact tr_ship hI.ship hc rfl | exact tr_tape hI.tape hc rfl | exact tr_rule hI.rule hc rfl rfl | exact tr_stat hI.stat hc rfl | skip
    · have g0 := (c2.I 28 5 rfl).trans e1
      have g1 := f1
      have g2 := (c2.row 29 (fun _ => rfl)).trans e0
      have g3 := (f0.trans (congrArg (fun q => am_up q n _) (c1.row 92 (fun _ => rfl))))
      simp only [g0, g1, g2, g3]
      apply IRow_add hi <;> first | omega
  · refine m_move hm hl (fun h _ _ _ _ => absurd h hc) (fun _ => ⟨rfl, fin_0 hI⟩)
theorem ok_ship : okOp_ship Inv := by
  intro M a0 a1 a2 hI
  obtain ⟨n, hl, hx, hm⟩ := cnt_ship hI
  have hi := hI.ship
  rw [hx, hm] at hi
  unfold opOK
  refine x_ship hx hl (fun hc M1 c1 e0 e1 e2 e3 => ⟨_, rfl, ?_⟩) (fun hc => ⟨_, rfl, ?_⟩)
  · refine m_ship ((c1.I 67 43 rfl).trans hm) hl (fun _ M2 c2 f0 f1 f2 f3 => ⟨rfl, ?_⟩) (fun h => absurd hc h)
    have hq := hc
    have hc := ch_un c1 c2
    refine fin_ch hc ?_
    refine ⟨?_, ?_, ?_, ?_, ?_, ?_, ?_, ?_, ?_, ?_, ?_⟩ <;> first | exact tr_misc hI.misc hc rfl | exact tr_land hI.land hc rfl | exact tr_ice hI.ice hc rfl | exact tr_tel hI.tel hc rfl | exact tr_find hI.find hc rfl | exact tr_doubt hI.doubt hc rfl | exact tr_row hI.row hc rfl | exact tr_ship hI.ship hc rfl | exact tr_tape hI.tape hc rfl | exact tr_rule hI.rule hc rfl rfl | exact tr_stat hI.stat hc rfl | skip
    · have g0 := (c2.I 41 12 rfl).trans e3
      have g1 := f3
      have g2 := (c2.row 42 (fun _ => rfl)).trans e0
      have g3 := (c2.row 43 (fun _ => rfl)).trans e1
      have g4 := (c2.row 44 (fun _ => rfl)).trans e2
      have g5 := (f0.trans (congrArg (fun q => am_up q n _) (c1.row 95 (fun _ => rfl))))
      have g6 := (f1.trans (congrArg (fun q => am_up q n _) (c1.row 96 (fun _ => rfl))))
      have g7 := (f2.trans (congrArg (fun q => am_up q n _) (c1.row 97 (fun _ => rfl))))
      simp only [g0, g1, g2, g3, g4, g5, g6, g7]
      apply IShip_add hi <;> first | omega
  · refine m_ship hm hl (fun h _ _ _ _ _ _ => absurd h hc) (fun _ => ⟨rfl, fin_0 hI⟩)
theorem ok_ice : okOp_ice Inv := by
  intro M a0 a1 s hI hs
  obtain ⟨n, hl, hx, hm⟩ := cnt_ice hI
  have hi := hI.ice
  rw [hx, hm] at hi
  unfold opOK
  refine x_ice hs hx hl (fun hc M1 c1 e0 e1 e2 e3 e4 => ⟨_, rfl, ?_⟩) (fun hc => ⟨_, rfl, ?_⟩)
  · refine m_ice hs ((c1.I 67 9 rfl).trans hm) hl (fun _ M2 c2 f0 f1 f2 f3 f4 => ⟨rfl, ?_⟩) (fun h => absurd hc h)
    have hq := hc
    have hc := ch_un c1 c2
    refine fin_ch hc ?_
    refine ⟨?_, ?_, ?_, ?_, ?_, ?_, ?_, ?_, ?_, ?_, ?_⟩ <;> first | exact tr_misc hI.misc hc rfl | exact tr_land hI.land hc rfl | exact tr_ice hI.ice hc rfl | exact tr_tel hI.tel hc rfl | exact tr_find hI.find hc rfl | exact tr_doubt hI.doubt hc rfl | exact tr_row hI.row hc rfl | exact tr_ship hI.ship hc rfl | exact tr_tape hI.tape hc rfl | exact tr_rule hI.rule hc rfl rfl | exact tr_stat hI.stat hc rfl | skip
    have fd : mI M1 67 0 = mI M 9 15 := (c1.I 67 0 rfl).trans hI.misc.td_eq
    rw [fd] at f2
    · have g0 := (c2.I 10 7 rfl).trans e4
      have g1 := f4
      have g2 := (c2.row 13 (fun _ => rfl)).trans e0
      have g3 := (c2.row 14 (fun _ => rfl)).trans e1
      have g4 := (c2.row 15 (fun _ => rfl)).trans e2
      have g5 := (c2.row 16 (fun _ => rfl)).trans e3
      have g6 := (f0.trans (congrArg (fun q => am_up q n _) (c1.row 70 (fun _ => rfl))))
      have g7 := (f1.trans (congrArg (fun q => am_up q n _) (c1.row 71 (fun _ => rfl))))
      have g8 := (f2.trans (congrArg (fun q => am_up q n _) (c1.row 72 (fun _ => rfl))))
      have g9 := (f3.trans (congrArg (fun q => am_up q n _) (c1.row 73 (fun _ => rfl))))
      simp only [g0, g1, g2, g3, g4, g5, g6, g7, g8, g9]
      apply IIce_add hi <;> first | exact hs | omega
  · refine m_ice hs hm hl (fun h _ _ _ _ _ _ _ => absurd h hc) (fun _ => ⟨rfl, fin_0 hI⟩)
theorem ok_teller : okOp_teller Inv := by
  intro M a0 a1 hI
  obtain ⟨n, hl, hx, hm⟩ := cnt_tel hI
  have hi := hI.tel
  have hj := hI.find
  rw [hx, hm] at hi
  rw [hx] at hj
  have hB : ∀ j, j < n → (mI M 22 j).toInt < j := fun j h => (hi.ok j (by rw [nI_toInt (by omega)]; omega)).2.2.2
  unfold opOK
  refine x_teller hx hl (fun hc M1 c1 e0 e1 e2 => ⟨_, rfl, ?_⟩) (fun hc => ⟨_, rfl, ?_⟩)
  · refine m_teller ((c1.I 67 15 rfl).trans hm) hl (fun _ M2 c2 f0 f1 f2 => ⟨rfl, ?_⟩) (fun h => absurd hc h)
    have hq := hc
    have hc := ch_un c1 c2
    refine fin_ch hc ?_
    refine ⟨?_, ?_, ?_, ?_, ?_, ?_, ?_, ?_, ?_, ?_, ?_⟩ <;> first | exact tr_misc hI.misc hc rfl | exact tr_land hI.land hc rfl | exact tr_ice hI.ice hc rfl | exact tr_tel hI.tel hc rfl | exact tr_find hI.find hc rfl | exact tr_doubt hI.doubt hc rfl | exact tr_row hI.row hc rfl | exact tr_ship hI.ship hc rfl | exact tr_tape hI.tape hc rfl | exact tr_rule hI.rule hc rfl rfl | exact tr_stat hI.stat hc rfl | skip
    · have g0 := (c2.I 19 9 rfl).trans e2
      have g1 := f2
      have g2 := (c2.row 21 (fun _ => rfl)).trans e0
      have g3 := (c2.row 22 (fun _ => rfl)).trans e1
      have g4 := (f0.trans (congrArg (fun q => am_up q n _) (c1.row 75 (fun _ => rfl))))
      have g5 := (f1.trans (congrArg (fun q => am_up q n _) (c1.row 76 (fun _ => rfl))))
      simp only [g0, g1, g2, g3, g4, g5]
      apply ITel_add hi <;> first | omega
    · have g0 := hc.I 19 8 rfl
      have g1 := hc.I 67 16 rfl
      have g2 := (c2.I 19 9 rfl).trans e2
      have g3 := hc.I 9 15 rfl
      have g4 := (c2.row 21 (fun _ => rfl)).trans e0
      have g5 := (c2.row 22 (fun _ => rfl)).trans e1
      have g6 := hc.row 20 (fun _ => rfl)
      have g7 := hc.row 77 (fun _ => rfl)
      have g8 := hc.row 78 (fun _ => rfl)
      have g9 := hc.row 79 (fun _ => rfl)
      have g10 := hc.row 80 (fun _ => rfl)
      have g11 := hc.row 81 (fun _ => rfl)
      have g12 := hc.row 82 (fun _ => rfl)
      have g13 := hc.row 83 (fun _ => rfl)
      have g14 := hc.row 84 (fun _ => rfl)
      simp only [g0, g1, g2, g3, g4, g5, g6, g7, g8, g9, g10, g11, g12, g13, g14]
      apply IFind_tel hj hB <;> first | omega
  · refine m_teller hm hl (fun h _ _ _ _ _ => absurd h hc) (fun _ => ⟨rfl, fin_0 hI⟩)
set_option maxRecDepth 100000 in
theorem ok_clear : okOp_clear Inv := by
  intro M hI
  have e1 := hI.row.n_eq
  unfold opOK
  refine rcallI rfl rfl ?_
  repeat' (first | (apply riald; exact rfl; omega; decide) | (apply rlald; exact rfl; omega; decide) | (apply rzald; exact rfl; omega; decide) | (apply rbald; exact rfl; omega; decide) | (apply rzast; decide; exact rfl; omega; decide; omega) | (apply riast; decide; exact rfl; omega; decide) | (apply rlast; decide; exact rfl; omega; decide) | (apply ciald; exact rfl; (first | omega | (simp (disch := omega) only [nI_toInt, nM_toInt, i_ne, i_eq, l_ne, l_eq, a_ne, a_eq, i_L, i_A, l_I, l_A, a_I, a_L, up_ne, up_eq, ne_eq, Nat.reduceEqDiff, not_false_eq_true, Int.reduceNatCast', e1] <;> omega)); decide) | (apply czald; exact rfl; (first | omega | (simp (disch := omega) only [nI_toInt, nM_toInt, i_ne, i_eq, l_ne, l_eq, a_ne, a_eq, i_L, i_A, l_I, l_A, a_I, a_L, up_ne, up_eq, ne_eq, Nat.reduceEqDiff, not_false_eq_true, Int.reduceNatCast', e1] <;> omega)); decide) | (apply clald; exact rfl; (first | omega | (simp (disch := omega) only [nI_toInt, nM_toInt, i_ne, i_eq, l_ne, l_eq, a_ne, a_eq, i_L, i_A, l_I, l_A, a_I, a_L, up_ne, up_eq, ne_eq, Nat.reduceEqDiff, not_false_eq_true, Int.reduceNatCast', e1] <;> omega)); decide) | (apply ciast; decide; exact rfl; (first | omega | (simp (disch := omega) only [nI_toInt, nM_toInt, i_ne, i_eq, l_ne, l_eq, a_ne, a_eq, i_L, i_A, l_I, l_A, a_I, a_L, up_ne, up_eq, ne_eq, Nat.reduceEqDiff, not_false_eq_true, Int.reduceNatCast', e1] <;> omega)); decide) | (apply czast; decide; exact rfl; (first | omega | (simp (disch := omega) only [nI_toInt, nM_toInt, i_ne, i_eq, l_ne, l_eq, a_ne, a_eq, i_L, i_A, l_I, l_A, a_I, a_L, up_ne, up_eq, ne_eq, Nat.reduceEqDiff, not_false_eq_true, Int.reduceNatCast', e1] <;> omega)); decide; omega) | (refine re1 ?_) | (refine re0 ?_) | (refine rn1 ?_) | (refine rn0 ?_) | ((first | (refine rb_lt (fun h => ?_) (fun h => ?_)) | (refine rb_ge (fun h => ?_) (fun h => ?_)) | (refine rb_gt (fun h => ?_) (fun h => ?_)) | (refine rb_le (fun h => ?_) (fun h => ?_)) | (refine rb_eq (fun h => ?_) (fun h => ?_)) | (refine rb_ne (fun h => ?_) (fun h => ?_)) | (refine rc_lt (fun h => ?_) (fun h => ?_)) | (refine rc_ge (fun h => ?_) (fun h => ?_)) | (refine rc_gt (fun h => ?_) (fun h => ?_)) | (refine rc_le (fun h => ?_) (fun h => ?_)) | (refine rc_eq (fun h => ?_) (fun h => ?_)) | (refine rc_ne (fun h => ?_) (fun h => ?_))) <;> (try (simp (disch := omega) only [nI_toInt, nM_toInt, i_ne, i_eq, l_ne, l_eq, a_ne, a_eq, i_L, i_A, l_I, l_A, a_I, a_L, up_ne, up_eq, ne_eq, Nat.reduceEqDiff, not_false_eq_true, Int.reduceNatCast', e1] at h)) <;> (try (exfalso; omega))) | (refine riaddN ?_) | (refine rimulN ?_) | (apply risubN; omega) | (apply r1; exact rfl) | (apply rgoto; exact rfl) | (apply rfall; exact rfl) | (apply rirI; exact rfl) | (apply rend; exact rfl; exact rfl) | (apply opgo; exact rfl; exact rfl) | (apply rcallC; exact rfl; exact rfl; exact rfl; first |  (apply rcallI; exact rfl; exact rfl)))
  refine ⟨by rw [← e1]; rfl, ?_⟩
  generalize hM : wI (wI M 28 _) 67 _ = M2
  have hc : ch (rR [] [(28, 5), (67, 37)]) M M2 := by
    rw [← hM]
    exact ch_wS (ch_wS (ch_refl _ _) rfl) rfl
  have g1 : mI M2 28 5 = nI 0 := by rw [← hM]; rfl
  have g2 : mI M2 67 37 = nI 0 := by rw [← hM]; rfl
  refine fin_ch hc ?_
  refine ⟨?_, ?_, ?_, ?_, ?_, ?_, ?_, ?_, ?_, ?_, ?_⟩ <;> first | exact tr_misc hI.misc hc rfl | exact tr_land hI.land hc rfl | exact tr_ice hI.ice hc rfl | exact tr_tel hI.tel hc rfl | exact tr_find hI.find hc rfl | exact tr_doubt hI.doubt hc rfl | exact tr_row hI.row hc rfl | exact tr_ship hI.ship hc rfl | exact tr_tape hI.tape hc rfl | exact tr_rule hI.rule hc rfl rfl | exact tr_stat hI.stat hc rfl | skip
  rw [g1, g2, hc.row 29 (fun _ => rfl), hc.row 92 (fun _ => rfl)]
  exact IRow_0 hI.row
set_option maxRecDepth 100000 in
theorem ok_fault : okOp_fault Inv := by
  intro M hI
  have e1 := hI.tape.ft_eq
  unfold opOK
  refine rcallI rfl rfl ?_
  repeat' (first | (apply riald; exact rfl; omega; decide) | (apply rlald; exact rfl; omega; decide) | (apply rzald; exact rfl; omega; decide) | (apply rbald; exact rfl; omega; decide) | (apply rzast; decide; exact rfl; omega; decide; omega) | (apply riast; decide; exact rfl; omega; decide) | (apply rlast; decide; exact rfl; omega; decide) | (apply ciald; exact rfl; (first | omega | (simp (disch := omega) only [nI_toInt, nM_toInt, i_ne, i_eq, l_ne, l_eq, a_ne, a_eq, i_L, i_A, l_I, l_A, a_I, a_L, up_ne, up_eq, ne_eq, Nat.reduceEqDiff, not_false_eq_true, Int.reduceNatCast', e1] <;> omega)); decide) | (apply czald; exact rfl; (first | omega | (simp (disch := omega) only [nI_toInt, nM_toInt, i_ne, i_eq, l_ne, l_eq, a_ne, a_eq, i_L, i_A, l_I, l_A, a_I, a_L, up_ne, up_eq, ne_eq, Nat.reduceEqDiff, not_false_eq_true, Int.reduceNatCast', e1] <;> omega)); decide) | (apply clald; exact rfl; (first | omega | (simp (disch := omega) only [nI_toInt, nM_toInt, i_ne, i_eq, l_ne, l_eq, a_ne, a_eq, i_L, i_A, l_I, l_A, a_I, a_L, up_ne, up_eq, ne_eq, Nat.reduceEqDiff, not_false_eq_true, Int.reduceNatCast', e1] <;> omega)); decide) | (apply ciast; decide; exact rfl; (first | omega | (simp (disch := omega) only [nI_toInt, nM_toInt, i_ne, i_eq, l_ne, l_eq, a_ne, a_eq, i_L, i_A, l_I, l_A, a_I, a_L, up_ne, up_eq, ne_eq, Nat.reduceEqDiff, not_false_eq_true, Int.reduceNatCast', e1] <;> omega)); decide) | (apply czast; decide; exact rfl; (first | omega | (simp (disch := omega) only [nI_toInt, nM_toInt, i_ne, i_eq, l_ne, l_eq, a_ne, a_eq, i_L, i_A, l_I, l_A, a_I, a_L, up_ne, up_eq, ne_eq, Nat.reduceEqDiff, not_false_eq_true, Int.reduceNatCast', e1] <;> omega)); decide; omega) | (refine re1 ?_) | (refine re0 ?_) | (refine rn1 ?_) | (refine rn0 ?_) | ((first | (refine rb_lt (fun h => ?_) (fun h => ?_)) | (refine rb_ge (fun h => ?_) (fun h => ?_)) | (refine rb_gt (fun h => ?_) (fun h => ?_)) | (refine rb_le (fun h => ?_) (fun h => ?_)) | (refine rb_eq (fun h => ?_) (fun h => ?_)) | (refine rb_ne (fun h => ?_) (fun h => ?_)) | (refine rc_lt (fun h => ?_) (fun h => ?_)) | (refine rc_ge (fun h => ?_) (fun h => ?_)) | (refine rc_gt (fun h => ?_) (fun h => ?_)) | (refine rc_le (fun h => ?_) (fun h => ?_)) | (refine rc_eq (fun h => ?_) (fun h => ?_)) | (refine rc_ne (fun h => ?_) (fun h => ?_))) <;> (try (simp (disch := omega) only [nI_toInt, nM_toInt, i_ne, i_eq, l_ne, l_eq, a_ne, a_eq, i_L, i_A, l_I, l_A, a_I, a_L, up_ne, up_eq, ne_eq, Nat.reduceEqDiff, not_false_eq_true, Int.reduceNatCast', e1] at h)) <;> (try (exfalso; omega))) | (refine riaddN ?_) | (refine rimulN ?_) | (apply risubN; omega) | (apply r1; exact rfl) | (apply rgoto; exact rfl) | (apply rfall; exact rfl) | (apply rirI; exact rfl) | (apply rend; exact rfl; exact rfl) | (apply opgo; exact rfl; exact rfl) | (apply rcallC; exact rfl; exact rfl; exact rfl; first |  (apply rcallI; exact rfl; exact rfl)))
  exact ⟨by rw [e1], fin_0 hI⟩
