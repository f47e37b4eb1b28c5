/-! what stays while a text is read -/
section
variable {V F F' M0 M4 : am_M} {i k s m n K c : Nat} {B : Nat → Int32} {day : Int32} {R2 : Nat → Nat → Bool}
theorem stl_row (h1 : 102 ≤ i) (h2 : i ≤ 113) : rR stL stS i k = true := by
  have : ∀ j : Fin 12, stL.any (fun x => Nat.beq x (102 + j.val)) = true := by decide
  have := this ⟨i - 102, by omega⟩
  rw [show 102 + (⟨i - 102, by omega⟩ : Fin 12).val = i by show 102 + (i - 102) = i; omega] at this
  unfold rR
  rw [this]
  rfl
theorem rR_hi {l : List Nat} {w : List (Nat × Nat)} (h : (l.all (fun x => Nat.blt x 102) && w.all (fun q => Nat.blt q.1 102)) = true) (hi : 102 ≤ i) : rR l w i k = false := by
  rw [Bool.and_eq_true, List.all_eq_true, List.all_eq_true] at h
  rw [rR_false]
  refine ⟨fun x hx e => ?_, fun q hq e => ?_⟩
  · have h1 : Nat.blt x 102 = true := h.1 x hx
    have := Nat.le_of_ble_eq_true h1
    omega
  · have h1 : Nat.blt q.1 102 = true := h.2 q hq
    have := Nat.le_of_ble_eq_true h1
    rw [e] at this
    have : i + 1 ≤ 102 := this
    omega
theorem mq_parts (a1 : (decide (104 ≤ i) && decide (i ≤ 107) && decide (270 ≤ k)) = false) (a2 : mdR 0 i k = false) (a3 : rR [116] [(102, 9), (67, 55), (67, 54), (67, 58)] i k = false) : mqR i k = false := by
  unfold mqR
  rw [a1, a2, a3]
  rfl
theorem md_parts (a1 : (decide (108 ≤ i) && decide (i ≤ 113) && decide (6480 + n ≤ k)) = false) (a2 : rR [] [(67, 56), (67, 75), (67, 76), (67, 57), (67, 53)] i k = false) : mdR n i k = false := by
  unfold mdR
  rw [a1, a2]
  rfl
theorem mq_hi (h : 118 ≤ i) : mqR i k = false := mq_parts (by simp only [Bool.and_eq_false_iff, decide_eq_false_iff_not]; omega) (mdR_hi (by omega) (by omega)) (rLo_hi rfl h k)
theorem mq_st (h : rR stL stS i k = false) : mqR i k = false := by
  have n1 : ¬(102 ≤ i ∧ i ≤ 113) := fun q => by rw [stl_row q.1 q.2] at h; cases h
  exact mq_parts (by simp only [Bool.and_eq_false_iff, decide_eq_false_iff_not]; omega) (md_parts (by simp only [Bool.and_eq_false_iff, decide_eq_false_iff_not]; omega) (rIn_ok rfl i k h)) (rIn_ok rfl i k h)
theorem mq_lim (h1 : 102 ≤ i) (h2 : i ≤ 113) (h3 : i ≤ 103 → k < 9) (h4 : 104 ≤ i → i ≤ 107 → k < 270) (h5 : 108 ≤ i → k < 6480) : mqR i k = false := by
  refine mq_parts (by simp only [Bool.and_eq_false_iff, decide_eq_false_iff_not]; omega) (md_parts (by simp only [Bool.and_eq_false_iff, decide_eq_false_iff_not]; omega) (rR_hi rfl h1)) ?_
  rw [rR_false]
  refine ⟨fun x hx e => ?_, fun q hq e => ?_⟩
  · rw [List.mem_singleton] at hx
    omega
  · rw [List.mem_cons] at hq
    rcases hq with rfl | hq
    · have e1 := (Prod.mk.inj e).1
      have e2 := (Prod.mk.inj e).2
      omega
    · have := (rR_false.mp (rR_hi (l := []) (w := [(67, 55), (67, 54), (67, 58)]) (i := i) (k := k) rfl h1)).2 q hq
      exact this e
theorem be_hi (h : 118 ≤ i) : beS s i k = false := be_f (by omega) (by omega) (by omega)
theorem be_st (h : rR stL stS i k = false) : beS s i k = false := by
  have n1 : ¬(102 ≤ i ∧ i ≤ 113) := fun q => by rw [stl_row q.1 q.2] at h; cases h
  exact be_f (by omega) (by omega) (by omega)
/-- all but the set s and what doesn't last is as it was -/
def bas (s : Nat) (V F : am_M) : Prop := keV s V F ∧ stc V F
theorem bas_0 : bas s V V := ⟨⟨Nat.le_refl _, fun _ _ => rfl, fun _ _ _ => rfl, fun _ _ _ => rfl, fun _ _ _ _ _ _ _ _ => rfl⟩, fun _ _ _ _ => rfl, fun _ _ _ _ => rfl⟩
theorem bas_ch (h : bas s V F) (hV : 118 ≤ mN V) (c : ch R2 F F') (r1 : ∀ i k, 118 ≤ i → R2 i k = false) (r2 : ∀ i k, rR stL stS i k = false → R2 i k = false) (r3 : ∀ i k, 102 ≤ i → i ≤ 113 → (i ≤ 103 → k < 9) → (104 ≤ i → i ≤ 107 → k < 270) → (108 ≤ i → k < 6480) → beS s i k = false → R2 i k = false) : bas s V F' := by
  obtain ⟨⟨a1, a2, a3, a4, a5⟩, b1, b2⟩ := h
  refine ⟨⟨by rw [c.N]; exact a1, fun i hi => by rw [c.K]; exact a2 i hi, fun i hi h1 => by rw [c.A]; exact a3 i hi h1, fun i hi h1 => (c.row i (fun k => r1 i k h1)).trans (a4 i hi h1), fun i k h1 h2 h3 h4 h5 h6 => (c.I i k (r3 i k h1 h2 h3 h4 h5 h6)).trans (a5 i k h1 h2 h3 h4 h5 h6)⟩, fun i hi k q => (c.I i k (r2 i k q)).trans (b1 i hi k q), fun i hi k q => (c.L i k (r2 i k q)).trans (b2 i hi k q)⟩
theorem bas_r {l : List Nat} {w : List (Nat × Nat)} (h : bas s V F) (hV : 118 ≤ mN V) (c : ch (rR l w) F F') (r1 : rLo l w = true) (r2 : rIn l w stL stS = true) (r3 : (l.all (fun x => Nat.blt x 102) && w.all (fun q => Nat.blt q.1 102)) = true) : bas s V F' := bas_ch h hV c (fun i k q => rLo_hi r1 q k) (fun i k q => rIn_ok r2 i k q) (fun i k q _ _ _ _ _ => rR_hi r3 q)
theorem bas_mq (h : bas s V F) (hV : 118 ≤ mN V) (c : ch mqR F F') : bas s V F' := bas_ch h hV c (fun _ _ q => mq_hi q) (fun _ _ q => mq_st q) (fun _ _ h1 h2 h3 h4 h5 _ => mq_lim h1 h2 h3 h4 h5)
theorem bas_be (h : bas s V F) (hV : 118 ≤ mN V) (c : ch (beS s) F F') : bas s V F' := bas_ch h hV c (fun _ _ q => be_hi q) (fun _ _ q => be_st q) (fun _ _ _ _ _ _ _ h6 => h6)
theorem bas_A {p : Nat} {f : Nat → Nat} (h : bas s V F) (hp : p < 118) : bas s V (wA F p f) := by
  obtain ⟨⟨a1, a2, a3, a4, a5⟩, b1, b2⟩ := h
  exact ⟨⟨a1, a2, fun i hi h1 => by rw [a_ne (by omega)]; exact a3 i hi h1, a4, a5⟩, b1, b2⟩
theorem bas_mk (hV : 118 ≤ mN V) (h : bas s V M0) (hn : mN M0 = mN V) (h2 : mkR M0 M4 K c day) : bas s V M4 := by
  obtain ⟨⟨a1, a2, a3, a4, a5⟩, b1, b2⟩ := h
  obtain ⟨m1, m2, m3, m4⟩ := h2
  rw [hn] at m1 m3
  refine ⟨⟨by omega, fun i hi => (m3 i hi).1.trans (a2 i hi), fun i hi h1 => (m3 i hi).2.2.2.trans (a3 i hi h1), fun i hi h1 => (m3 i hi).2.1.trans (a4 i hi h1), fun i k h1 h2 h3 h4 h5 h6 => ?_⟩, fun i hi k q => ?_, fun i hi k q => ?_⟩
  · rw [(m3 i (by omega)).2.1]; exact a5 i k h1 h2 h3 h4 h5 h6
  · rw [(m3 i (by omega)).2.1]; exact b1 i hi k q
  · rw [(m3 i (by omega)).2.2.1]; exact b2 i hi k q
theorem nwX_ch (h : nwX V F B n K c day) (hV : 118 ≤ mN V) (cc : ch R2 F F') (r1 : ∀ i k, 118 ≤ i → R2 i k = false) : nwX V F' B n K c day := by
  unfold nwX at h ⊢
  have r : ∀ i, 118 ≤ i → mI F' i = mI F i := fun i hi => cc.row i (fun k => r1 i k hi)
  rw [cc.N, cc.K, cc.A, r (mN V) hV, r (mN V + 1) (by omega), r (mN V + 2) (by omega)]
  exact h
theorem nwX_A {p : Nat} {f : Nat → Nat} (h : nwX V F B n K c day) (hV : 118 ≤ mN V) (hp : p < 118) : nwX V (wA F p f) B n K c day := by
  unfold nwX at h ⊢
  rw [a_ne (by omega)]
  exact h
theorem nwX_mk (hn : mN M0 = mN V) (h2 : mkR M0 M4 K c day) (hl : ∀ j, j < K → lnX B n M0 c j) (hp : ∀ j, j < K → (pLi (tkT B n) (stI (tkT B n) j)).1 = true) : nwX V M4 B n K c day := by
  obtain ⟨m1, m2, m3, m4, m5, m6, m7, m8, m9, m10, m11, m12⟩ := h2
  rw [hn] at m1 m4 m5 m6 m7 m8 m9 m10 m11 m12
  exact ⟨m1, m4, m5, m6, m9, m10, m11, m12, fun i hi => ⟨lnY_of (hl i hi) hi m7 m8, hp i hi⟩⟩
theorem nwM_67 {w : Nat} (h : nwM F B n K s day) (cc : ch (rR [] [(67, w)]) F F') : nwM F' B n K s day := by
  have r : ∀ i, i ≠ 67 → mI F' i = mI F i := fun i hi => cc.row i (fun k => rR_no (fun q hq e => by
    rw [List.mem_singleton] at hq
    rw [hq] at e
    exact hi (Prod.mk.inj e).1.symm))
  obtain ⟨m0, m1, M2, N', hN', hag, hm⟩ := h
  have rg : rowG F' = rowG F := funext fun t => funext fun j => by
    unfold rowG
    by_cases z : 108 + t = 67
    · omega
    · rw [r _ z]
  refine ⟨by rw [r 102 (by decide)]; exact m0, by rw [r 103 (by decide)]; exact m1, M2, N', hN', by rw [rg]; exact hag, fun i hi => ?_⟩
  rw [r 104 (by decide), r 105 (by decide), r 106 (by decide), r 107 (by decide)]
  exact hm i hi
/-- the invariant, when the rules' part is given -/
theorem inv_end {n' : Int32} (hI : Inv V) (hb0 : bas s V F) (t1 : mI F 55 4 = nI 0) (t2 : mI F 67 54 = nI 0) (t3 : mI F 67 58 = mI F 59 7) (hA : ∀ i, i < 9 → mA F i = mA V i) (r1 : mI F 9 14 = n') (r2 : mI F 67 52 = n') (r3 : 0 ≤ n'.toInt) (r4 : n'.toInt ≤ 8) (r5 : ∀ k : Nat, (k : Int) < n'.toInt → ∃ r, mA F 65 k = r + 1 ∧ 118 ≤ r ∧ setV F r k ∧ (msk 9 (mI F 103) k).toInt ≤ (mI V 9 15).toInt) (r6 : (mA F 9 13 = 0 ∧ mI F 67 59 = nI 0) ∨ (mI F 67 59 = nI 1 ∧ ∃ r, mA F 9 13 = r + 1 ∧ 118 ≤ r ∧ setV F r 8)) : Inv F := by
  obtain ⟨hk, hc⟩ := hb0
  have ht := hI.tape
  have hr := hI.rule
  refine inv_mk hI hc ?_ ?_ hk.1 hA
  · rw [stc_row hc (i := 56) (by decide) (fun _ => rfl), stc_row hc (i := 115) (by decide) (fun _ => rfl)]
    have t2' : mI F 67 54 = nI 0 := t2
    have t3' : mI F 67 58 = mI F 59 7 := t3
    rw [t1, t2', t3']
    obtain ⟨u1, u2, u3, u4, u5, u6⟩ := ht
    exact ⟨rfl, by decide, by decide, rfl, u5, u6⟩
  · have e15 : mI F 9 15 = mI V 9 15 := hc.1 9 (by decide) 15 rfl
    have e62 : dynI F 62 = dynI V 62 := by
      show (if 62 < 118 ∧ 62 ≠ 62 then _ else mI F 62) = if 62 < 118 ∧ 62 ≠ 62 then _ else mI V 62
      rw [if_neg (by decide), if_neg (by decide)]
      exact stc_row hc (by decide) (fun _ => rfl)
    rw [r1, r2, e15]
    exact ⟨rfl, r3, r4, r5, r6, by rw [e62]; exact hr.nor⟩
theorem each_old (hI : Inv V) (hb : bas s V F) {k rc : Nat} (hk : k < rc) (h8 : rc ≤ 8) (hn : mI V 9 14 = nI rc) (hs : k ≠ s) (hA : mA F 65 k = mA V 65 k) : ∃ r, mA F 65 k = r + 1 ∧ 118 ≤ r ∧ setV F r k ∧ (msk 9 (mI F 103) k).toInt ≤ (mI V 9 15).toInt := by
  obtain ⟨r, a1, a2, a3, a4⟩ := hI.rule.each k (by rw [hn, nI_toInt (by omega)]; omega)
  refine ⟨r, hA.trans a1, a2, set_keF hb.1 (by omega) hs a2 a3, ?_⟩
  rw [msk_in (by omega), hb.1.2.2.2.2 103 k (by decide) (by decide) (fun _ => by omega) (fun q => absurd q (by decide)) (fun q => absurd q (by decide)) (be_f (by omega) (by omega) (by omega))]
  rw [msk_in (by omega)] at a4
  exact a4
theorem bes_old (hI : Inv V) (hb : bas s V F) (hs : 8 ≠ s) (hA : mA F 9 13 = mA V 9 13) (hh : mI F 67 59 = mI V 67 59) : (mA F 9 13 = 0 ∧ mI F 67 59 = nI 0) ∨ (mI F 67 59 = nI 1 ∧ ∃ r, mA F 9 13 = r + 1 ∧ 118 ≤ r ∧ setV F r 8) := by
  rw [hA, hh]
  rcases hI.rule.bes with ⟨h1, h2⟩ | ⟨h1, r, h2, h3, h4⟩
  · exact Or.inl ⟨h1, h2⟩
  · exact Or.inr ⟨h1, r, h2, h3, set_keF hb.1 (by decide) hs h3 h4⟩
theorem inv_rules (hI : Inv V) {rc : Nat} (h8 : rc < 8) (hn : mI V 9 14 = nI rc) (hb : bas rc V F) (hK : K ≤ 30) (hc : c ≤ 700) (hx : nwX V F B n K c (mI V 9 15)) (hm : nwM F B n K rc (mI V 9 15)) (t1 : mI F 55 4 = nI 0) (t2 : mI F 67 54 = nI 0) (t3 : mI F 67 58 = mI F 59 7) (hA : mA F 9 = mA V 9) (hA0 : ∀ i, i < 9 → mA F i = mA V i) (hA5 : mA F 65 = am_up (mA V 65) rc (mN V + 2)) (r1 : mI F 9 14 = nI (rc + 1)) (r2 : mI F 67 52 = nI (rc + 1)) (r3 : mI F 67 59 = mI V 67 59) : Inv F := by
  have hV := hI.stat.N_lo
  have eV : (nI (rc + 1)).toInt = ((rc + 1 : Nat) : Int) := nI_toInt (by omega)
  refine inv_end hI hb t1 t2 t3 hA0 r1 r2 (by rw [eV]; omega) (by rw [eV]; omega) (fun k hk => ?_) (bes_old hI hb (by omega) (by rw [hA]) r3)
  rw [eV] at hk
  by_cases w : k = rc
  · subst w
    refine ⟨mN V + 1, by rw [hA5]; exact up_eq, by omega, set_neF (by omega) hV hK hc hx hm, ?_⟩
    rw [msk_in (by omega), hm.2.1]
    exact Int.le_refl _
  · exact each_old hI hb (by omega) (by omega) hn w (by rw [hA5]; exact up_ne w)
theorem inv_beside (hI : Inv V) {rc : Nat} (h8 : rc ≤ 8) (hn : mI V 9 14 = nI rc) (hn2 : mI V 67 52 = nI rc) (hb : bas 8 V F) (hK : K ≤ 30) (hc : c ≤ 700) (hx : nwX V F B n K c (mI V 9 15)) (hm : nwM F B n K 8 (mI V 9 15)) (t1 : mI F 55 4 = nI 0) (t2 : mI F 67 54 = nI 0) (t3 : mI F 67 58 = mI F 59 7) (hA : mA F 9 13 = mN V + 2) (hA0 : ∀ i, i < 9 → mA F i = mA V i) (hA5 : mA F 65 = mA V 65) (r1 : mI F 9 14 = mI V 9 14) (r2 : mI F 67 52 = mI V 67 52) (r3 : mI F 67 59 = nI 1) : Inv F := by
  have hV := hI.stat.N_lo
  have eV : (nI rc).toInt = (rc : Int) := nI_toInt (by omega)
  refine inv_end hI hb t1 t2 t3 hA0 (r1.trans hn) (r2.trans hn2) (by rw [eV]; omega) (by rw [eV]; omega) (fun k hk => ?_) (Or.inr ⟨r3, mN V + 1, hA, by omega, set_neF (by decide) hV hK hc hx hm⟩)
  rw [eV] at hk
  exact each_old hI hb (by omega) h8 hn (by omega) (by rw [hA5])
theorem inv_bad (hI : Inv V) {rc : Nat} (h8 : rc ≤ 8) (hn : mI V 9 14 = nI rc) (hn2 : mI V 67 52 = nI rc) (hb : bas 9 V F) (t1 : mI F 55 4 = nI 0) (t2 : mI F 67 54 = nI 0) (t3 : mI F 67 58 = mI F 59 7) (hA0 : ∀ i, i < 9 → mA F i = mA V i) (hA5 : mA F 65 = mA V 65) (r1 : mI F 9 14 = mI V 9 14) (r2 : mI F 67 52 = mI V 67 52) (hx : (mA F 9 13 = 0 ∧ mI F 67 59 = nI 0) ∨ (mA F 9 13 = mA V 9 13 ∧ mI F 67 59 = mI V 67 59)) : Inv F := by
  have eV : (nI rc).toInt = (rc : Int) := nI_toInt (by omega)
  refine inv_end hI hb t1 t2 t3 hA0 (r1.trans hn) (r2.trans hn2) (by rw [eV]; omega) (by rw [eV]; omega) (fun k hk => ?_) ?_
  · rw [eV] at hk
    exact each_old hI hb (by omega) h8 hn (by omega) (by rw [hA5])
  · rcases hx with hx | ⟨h1, h2⟩
    · exact Or.inl hx
    · exact bes_old hI hb (by decide) h1 h2
end
