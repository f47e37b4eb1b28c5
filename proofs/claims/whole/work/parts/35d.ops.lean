/-! ops: doubt, found, find -/
theorem IDoubt_add {n s : Nat} {a b : Int32} {fi da is fi2 da2 is2 : Nat → Int32} (h : IDoubt (nI n) (nI n) fi da is fi2 da2 is2) (hn : n < 200) (hs : s ≤ 1) : IDoubt (nI (n + 1)) (nI (n + 1)) (am_up fi n a) (am_up da n b) (am_up is n (nI s)) (am_up fi2 n a) (am_up da2 n b) (am_up is2 n (nI s)) := by
  obtain ⟨b0, b1, b2, b3, b4, b5, b6⟩ := h
  rw [nI_toInt (by omega)] at b6
  refine ⟨rfl, nI_lo _ (by omega), by rw [nI_toInt (by omega)]; omega, by rw [b3], by rw [b4], by rw [b5], fun j hj => ?_⟩
  rw [nI_toInt (by omega)] at hj
  by_cases e : j = n
  · rw [e, up_eq]
    rcases (show s = 0 ∨ s = 1 by omega) with rfl | rfl
    · exact Or.inl rfl
    · exact Or.inr rfl
  · rw [up_ne e]; exact b6 j (by omega)
section
variable {d n s : Nat} {M : am_M} {Q : Option Value → am_M → Prop} {a0 : Int32} {B : Bool}
set_option maxRecDepth 100000
theorem x_doubt (hI : Inv M) (hs : s ≤ 1) (hn : mI M 19 10 = nI n) (hl : n ≤ 200) (hB : dbtF M a0 (mI M 9 15) = B) (k1 : 0 ≤ a0.toInt ∧ a0.toInt < (mI M 19 8).toInt ∧ n < 200 ∧ cond B 1 0 ≠ s → ∀ M1, ch (rR [23, 24, 25] [(19, 10)]) M M1 → mI M1 23 = am_up (mI M 23) n a0 → mI M1 24 = am_up (mI M 24) n (mI M 9 15) → mI M1 25 = am_up (mI M 25) n (nI s) → mI M1 19 10 = nI (n + 1) → Q (some (.int (nI 1))) M1) (k0 : ¬(0 ≤ a0.toInt ∧ a0.toInt < (mI M 19 8).toInt ∧ n < 200 ∧ cond B 1 0 ≠ s) → Q (some (.int (nI 0))) M) : am_Call true 59 37 [.ref 9, .int a0, .int (nI s)] M Q := by
  rcases (show s = 0 ∨ s = 1 by omega) with rfl | rfl <;> cases B <;> refine rcallI rfl rfl ?_
  all_goals
    repeat' (first | (apply rgetN; exact rfl; exact hn) | (apply riald; exact rfl; omega; decide) | (apply rlald; exact rfl; omega; decide) | (apply rzald; exact rfl; omega; decide) | (apply rbald; exact rfl; omega; decide) | (apply rzast; decide; exact rfl; omega; decide; omega) | (apply riast; decide; exact rfl; omega; decide) | (apply rlast; decide; exact rfl; omega; decide) | (refine re1 ?_) | (refine re0 ?_) | (refine rn1 ?_) | (refine rn0 ?_) | (refine rbe (fun h => ?_) (fun h => ?_)) | (refine rbn (fun h => ?_) (fun h => ?_)) | ((first | (refine rb_lt (fun h => ?_) (fun h => ?_)) | (refine rb_ge (fun h => ?_) (fun h => ?_)) | (refine rb_gt (fun h => ?_) (fun h => ?_)) | (refine rb_le (fun h => ?_) (fun h => ?_)) | (refine rb_eq (fun h => ?_) (fun h => ?_)) | (refine rb_ne (fun h => ?_) (fun h => ?_)) | (refine rc_lt (fun h => ?_) (fun h => ?_)) | (refine rc_ge (fun h => ?_) (fun h => ?_)) | (refine rc_gt (fun h => ?_) (fun h => ?_)) | (refine rc_le (fun h => ?_) (fun h => ?_)) | (refine rc_eq (fun h => ?_) (fun h => ?_)) | (refine rc_ne (fun h => ?_) (fun h => ?_))) <;> (try (simp (disch := omega) only [nI_toInt, nM_toInt, i_ne, i_eq, l_ne, l_eq, a_ne, a_eq, i_L, i_A, l_I, l_A, a_I, a_L, up_ne, up_eq, ne_eq, Nat.reduceEqDiff, not_false_eq_true, Int.reduceNatCast', ] at h)) <;> (try (exfalso; omega))) | (refine riaddN ?_) | (refine rimulN ?_) | (refine riconst ?_) | (refine rlconst ?_) | (apply risubN; (first | omega | decide)) | (apply ridivN; (first | omega | decide); (first | omega | decide); (first | omega | decide)) | (apply riremN; (first | omega | decide); (first | omega | decide); (first | omega | decide)) | (apply ri2lN; (first | omega | decide)) | (refine rl2iN ?_) | (refine rlmulN ?_) | (refine rladdN ?_) | (apply rlsubN; (first | omega | decide)) | (apply rldivN; (first | omega | decide); (first | omega | decide); (first | omega | decide)) | (apply riinc1; exact rfl; exact rfl) | (apply r1; exact rfl) | (apply rgoto; exact rfl) | (apply rfall; exact rfl) | (apply rirI; exact rfl) | (apply rend; exact rfl; exact rfl) | (apply rtsw; exact rfl; exact rfl) | (apply rcallC; exact rfl; exact rfl; exact rfl; first | (refine cc_isFind (fun h => ?_) (fun h => ?_)) | (refine cc_xDoubted hI ?_; first | rw [hB, bI_f] | rw [hB, bI_t]) | (apply rcallI; exact rfl; exact rfl)))
  all_goals first | exact k0 (fun q => absurd q.2.2.2 (by decide)) | exact k0 (fun q => by obtain ⟨q1, q2, q3, -⟩ := q; omega) | (exfalso; first | exact absurd h (by decide) | exact h (by decide) | (rw [hB] at h; first | exact absurd h (by decide) | exact h (by decide))) | (apply k1 ⟨by omega, by omega, by omega, by decide⟩ <;> first | exact rfl | (repeat (first | exact ch_refl _ _ | (refine ch_wS ?_ rfl) | (refine ch_wI ?_ (fun _ => rfl)) | (refine ch_wSL ?_ rfl) | (refine ch_wL ?_ (fun _ => rfl)))))
theorem m_doubt {m : Nat} (hs : s ≤ 1) (hn : mI M 67 17 = nI n) (hl : n ≤ 200) (hm : mI M 67 16 = nI m) (hlm : m ≤ 40) (ok : ∀ k, k < n → mI M 87 k = nI 0 ∨ mI M 87 k = nI 1) (hB : dbtM M a0 (mI M 67 0) = B) (k1 : 0 ≤ a0.toInt ∧ a0.toInt < m ∧ n < 200 ∧ cond B 1 0 ≠ s → ∀ M1, ch (rR [85, 86, 87] [(67, 17)]) M M1 → mI M1 85 = am_up (mI M 85) n a0 → mI M1 86 = am_up (mI M 86) n (mI M 67 0) → mI M1 87 = am_up (mI M 87) n (nI s) → mI M1 67 17 = nI (n + 1) → Q (some (.int (nI 1))) M1) (k0 : ¬(0 ≤ a0.toInt ∧ a0.toInt < m ∧ n < 200 ∧ cond B 1 0 ≠ s) → Q (some (.int (nI 0))) M) : am_Call true 59 203 [.ref 67, .int a0, .int (nI s)] M Q := by
  rcases (show s = 0 ∨ s = 1 by omega) with rfl | rfl <;> cases B <;> refine rcallI rfl rfl ?_
  all_goals
    repeat' (first | (apply rgetN; exact rfl; exact hn) | (apply rgetN; exact rfl; exact hm) | (apply riald; exact rfl; omega; decide) | (apply rlald; exact rfl; omega; decide) | (apply rzald; exact rfl; omega; decide) | (apply rbald; exact rfl; omega; decide) | (apply rzast; decide; exact rfl; omega; decide; omega) | (apply riast; decide; exact rfl; omega; decide) | (apply rlast; decide; exact rfl; omega; decide) | (refine re1 ?_) | (refine re0 ?_) | (refine rn1 ?_) | (refine rn0 ?_) | (refine rbe (fun h => ?_) (fun h => ?_)) | (refine rbn (fun h => ?_) (fun h => ?_)) | ((first | (refine rb_lt (fun h => ?_) (fun h => ?_)) | (refine rb_ge (fun h => ?_) (fun h => ?_)) | (refine rb_gt (fun h => ?_) (fun h => ?_)) | (refine rb_le (fun h => ?_) (fun h => ?_)) | (refine rb_eq (fun h => ?_) (fun h => ?_)) | (refine rb_ne (fun h => ?_) (fun h => ?_)) | (refine rc_lt (fun h => ?_) (fun h => ?_)) | (refine rc_ge (fun h => ?_) (fun h => ?_)) | (refine rc_gt (fun h => ?_) (fun h => ?_)) | (refine rc_le (fun h => ?_) (fun h => ?_)) | (refine rc_eq (fun h => ?_) (fun h => ?_)) | (refine rc_ne (fun h => ?_) (fun h => ?_))) <;> (try (simp (disch := omega) only [nI_toInt, nM_toInt, i_ne, i_eq, l_ne, l_eq, a_ne, a_eq, i_L, i_A, l_I, l_A, a_I, a_L, up_ne, up_eq, ne_eq, Nat.reduceEqDiff, not_false_eq_true, Int.reduceNatCast', sub_toInt] at h)) <;> (try (exfalso; omega))) | (refine riaddN ?_) | (refine rimulN ?_) | (refine riconst ?_) | (refine rlconst ?_) | (apply risubN; (first | omega | decide)) | (apply ridivN; (first | omega | decide); (first | omega | decide); (first | omega | decide)) | (apply riremN; (first | omega | decide); (first | omega | decide); (first | omega | decide)) | (apply ri2lN; (first | omega | decide)) | (refine rl2iN ?_) | (refine rlmulN ?_) | (refine rladdN ?_) | (apply rlsubN; (first | omega | decide)) | (apply rldivN; (first | omega | decide); (first | omega | decide); (first | omega | decide)) | (apply riinc1; exact rfl; exact rfl) | (apply r1; exact rfl) | (apply rgoto; exact rfl) | (apply rfall; exact rfl) | (apply rirI; exact rfl) | (apply rend; exact rfl; exact rfl) | (apply rtsw; exact rfl; exact rfl) | (apply rcallC; exact rfl; exact rfl; exact rfl; first | (refine cc_mDoubted0 hl hn ok ?_; first | rw [hB, bI_f] | rw [hB, bI_t]) | (apply rcallI; exact rfl; exact rfl)))
  all_goals first | exact k0 (fun q => absurd q.2.2.2 (by decide)) | exact k0 (fun q => by obtain ⟨q1, q2, q3, -⟩ := q; omega) | (exfalso; first | exact absurd h (by decide) | exact h (by decide) | (rw [hB] at h; first | exact absurd h (by decide) | exact h (by decide))) | (apply k1 ⟨by omega, by omega, by omega, by decide⟩ <;> first | exact rfl | (repeat (first | exact ch_refl _ _ | (refine ch_wS ?_ rfl) | (refine ch_wI ?_ (fun _ => rfl)) | (refine ch_wSL ?_ rfl) | (refine ch_wL ?_ (fun _ => rfl)))))
end
theorem ok_doubt : okOp_doubt Inv := by
  intro M a0 s hI hs
  obtain ⟨n, hl, hx, hm⟩ := cnt_doubt hI
  obtain ⟨f, hfl, hfx, hfm⟩ := cnt_find hI
  have hi := hI.doubt
  rw [hx, hm] at hi
  have he : (mI M 19 8).toInt = f := by rw [hfx, nI_toInt (by omega)]
  have okm := dbt_okm hI hl hx
  have hB : dbtM M a0 (mI M 67 0) = dbtF M a0 (mI M 9 15) := by rw [dbtM_eq hI, hI.misc.td_eq]
  unfold opOK
  refine x_doubt hI hs hx hl rfl (fun hc M1 c1 e0 e1 e2 e3 => ⟨_, rfl, ?_⟩) (fun hc => ⟨_, rfl, ?_⟩)
  · have hB1 : dbtM M1 a0 (mI M1 67 0) = dbtF M a0 (mI M 9 15) := by
      rw [← hB]
      unfold dbtM dbtPm dbtVm
      rw [c1.row 85 (fun _ => rfl), c1.row 86 (fun _ => rfl), c1.row 87 (fun _ => rfl), c1.I 67 17 rfl, c1.I 67 0 rfl]
    refine m_doubt hs ((c1.I 67 17 rfl).trans hm) hl ((c1.I 67 16 rfl).trans hfm) hfl (fun k hk => by rw [c1.row 87 (fun _ => rfl)]; exact okm k hk) hB1 (fun _ M2 c2 f0 f1 f2 f3 => ⟨rfl, ?_⟩) (fun h => absurd (by omega) h)
    have hq := hc
    have hc := ch_un c1 c2
    have fd : mI M1 67 0 = mI M 9 15 := (c1.I 67 0 rfl).trans hI.misc.td_eq
    rw [fd] at f1
    refine fin_ch hc ?_
    refine ⟨?_, ?_, ?_, ?_, ?_, ?_, ?_, ?_, ?_, ?_, ?_⟩ <;> first | exact tr_misc hI.misc hc rfl | exact tr_land hI.land hc rfl | exact tr_ice hI.ice hc rfl | exact tr_tel hI.tel hc rfl | exact tr_find hI.find hc rfl | exact tr_doubt hI.doubt hc rfl | exact tr_row hI.row hc rfl | exact tr_ship hI.ship hc rfl | exact tr_tape hI.tape hc rfl | exact tr_rule hI.rule hc rfl rfl | exact tr_stat hI.stat hc rfl | skip
    · have g0 := (c2.I 19 10 rfl).trans e3
      have g1 := f3
      have g2 := (c2.row 23 (fun _ => rfl)).trans e0
      have g3 := (c2.row 24 (fun _ => rfl)).trans e1
      have g4 := (c2.row 25 (fun _ => rfl)).trans e2
      have g5 := (f0.trans (congrArg (fun q => am_up q n _) (c1.row 85 (fun _ => rfl))))
      have g6 := (f1.trans (congrArg (fun q => am_up q n _) (c1.row 86 (fun _ => rfl))))
      have g7 := (f2.trans (congrArg (fun q => am_up q n _) (c1.row 87 (fun _ => rfl))))
      simp only [g0, g1, g2, g3, g4, g5, g6, g7]
      apply IDoubt_add hi <;> first | exact hs | omega
  · refine m_doubt hs hm hl hfm hfl okm hB (fun h _ _ _ _ _ _ => absurd (by omega) hc) (fun _ => ⟨rfl, fin_0 hI⟩)
