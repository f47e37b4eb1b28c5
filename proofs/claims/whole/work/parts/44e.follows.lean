/-! the voyage: the model's steps; would, tried -/
section
variable {d dd s k r ln cd n cl cell men food sv la q : Nat} {foot : Bool} {V M M' : am_M} {Q : Option Value → am_M → Prop} {env : Nat → Int32}
set_option maxRecDepth 100000
theorem cc_follows (hI : Inv V) (hs : sc V M) (hd : dd < 1000) (hsr : srOK V k n) (kk : ∀ M', sc V M' → voM M' (voS V dd k n (nn (mI V 9 16))).1 (voS V dd k n (nn (mI V 9 16))).2.1 (voS V dd k n (nn (mI V 9 16))).2.2.1 (voS V dd k n (nn (mI V 9 16))).2.2.2.1 → mI M' 67 78 = svI (voS V dd k n (nn (mI V 9 16))).2.2.2.2 → (∀ t, t ≤ nn (mI V 9 16) → mI M' 117 t = nI (voS V dd k n t).1) → Q none M') : am_Call true (d + 43) 269 [.ref 67, .int (srI k), .int (nI dd)] M Q := by
  obtain ⟨la, hla, -, hla1, hla2⟩ := cnt_la hI
  rw [hla1, nn_I (by omega)] at kk
  have b0 := voS_b hI (dd := dd) (k := k) (n := n) 0
  obtain ⟨⟨-, m1, m2⟩, ⟨-, f1, f2⟩, -, c1, c2⟩ := me_ok hI (sc_refl V)
  have hme : 1 ≤ nn (mI V 18 1) := by
    have := hI.misc.me_lo
    have := nn_to (show 0 ≤ (mI V 18 1).toInt by omega)
    omega
  have a0 : arS V 0 (nn (mI V 18 0)) (nn (mI V 18 1)) 120 = if homeF V (nn (mI V 18 0)) = true then 0 else 120 := by
    unfold arS
    by_cases h : homeF V (nn (mI V 18 0)) = true
    · rw [if_pos h, if_pos ⟨rfl, by omega, h⟩]
    · rw [if_neg h, if_neg (fun z => h z.2.2)]
  refine rcallI rfl rfl ?_
  repeat' (first |  (apply riald; exact rfl; omega; decide) | (apply rlald; exact rfl; omega; decide) | (apply rzald; exact rfl; omega; decide) | (apply rbald; exact rfl; omega; decide) | (apply rzast; decide; exact rfl; omega; decide; omega) | (apply riast; decide; exact rfl; omega; decide) | (apply rlast; decide; exact rfl; omega; decide) | (refine re1 ?_) | (refine re0 ?_) | (refine rn1 ?_) | (refine rn0 ?_) | (refine rbe (fun h => ?_) (fun h => ?_)) | (refine rbn (fun h => ?_) (fun h => ?_)) | ((first | (refine rb_lt (fun h => ?_) (fun h => ?_)) | (refine rb_ge (fun h => ?_) (fun h => ?_)) | (refine rb_gt (fun h => ?_) (fun h => ?_)) | (refine rb_le (fun h => ?_) (fun h => ?_)) | (refine rb_eq (fun h => ?_) (fun h => ?_)) | (refine rb_ne (fun h => ?_) (fun h => ?_)) | (refine rc_lt (fun h => ?_) (fun h => ?_)) | (refine rc_ge (fun h => ?_) (fun h => ?_)) | (refine rc_gt (fun h => ?_) (fun h => ?_)) | (refine rc_le (fun h => ?_) (fun h => ?_)) | (refine rc_eq (fun h => ?_) (fun h => ?_)) | (refine rc_ne (fun h => ?_) (fun h => ?_))) <;> (try (simp (disch := omega) only [nI_toInt, nM_toInt, i_ne, i_eq, l_ne, l_eq, a_ne, a_eq, i_L, i_A, l_I, l_A, a_I, a_L, up_ne, up_eq, ne_eq, Nat.reduceEqDiff, not_false_eq_true, Int.reduceNatCast', ] at h)) <;> (try (exfalso; omega))) | (refine riaddN ?_) | (refine rimulN ?_) | (refine riconst ?_) | (refine rlconst ?_) | (apply risubN; (first | omega | decide)) | (apply ridivN; (first | omega | decide); (first | omega | decide); (first | omega | decide)) | (apply riremN; (first | omega | decide); (first | omega | decide); (first | omega | decide)) | (apply ri2lN; (first | omega | decide)) | (refine rl2iN ?_) | (refine rlmulN ?_) | (refine rladdN ?_) | (apply rlsubN; (first | omega | decide)) | (apply rldivN; (first | omega | decide); (first | omega | decide); (first | omega | decide)) | (apply riinc1; exact rfl; exact rfl) | (apply r1; exact rfl) | (apply rgoto; exact rfl) | (apply rfall; exact rfl) | (apply rirI; exact rfl) | (apply rend; exact rfl; exact rfl) | (apply rtsw; exact rfl; exact rfl) | (apply rcallC; exact rfl; exact rfl; exact rfl; first | (refine cc_freezes hI hs hd (fun M1 s1q c1q i1q => ?_)) | (apply rcallI; exact rfl; exact rfl)))
  all_goals skip
end
