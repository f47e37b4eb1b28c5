/-! the law's entry: the memory with which it begins, and the claim out of a run of the abstract machine -/
section START
variable {p : Program} {s : State} {m : MethodId} {meth : Method} {c : Code} {b L : Nat} {xs : Nat → Int32}
theorem am_sarrI (hgv : (Jvm.Cond.and given_1 narrow_1).before #[Value.ref b] s = true) {tm : Term} {ty : FieldType} {N q : Nat} {l : List Int} (hN : N < 2 ^ 31) (h : (am_F.drop q).take (N + 2) = am_sgI tm ty N l) :
    ∃ t : Nat, tm.eval #[Value.ref b] s none [] s = some (.ref t) ∧ va_T ty t N (fun j => .int (Int32.ofInt (l.getD j 0))) (fun q => s.heap.size ≤ q) s s.heap := by
  obtain ⟨h1, h2, h3⟩ := am_sgI_mem h
  exact va_Tof hN (am_flat hgv h1) (va_eqt (am_flat hgv h2)) (fun j hj => va_eqt (am_flat hgv (h3 j hj))) (fun a h => Nat.not_le.mpr h)
theorem am_sarrL (hgv : (Jvm.Cond.and given_1 narrow_1).before #[Value.ref b] s = true) {tm : Term} {ty : FieldType} {N q : Nat} {l : List Int} (hN : N < 2 ^ 31) (h : (am_F.drop q).take (N + 2) = am_sgL tm ty N l) :
    ∃ t : Nat, tm.eval #[Value.ref b] s none [] s = some (.ref t) ∧ va_T ty t N (fun j => .long (Int64.ofInt (l.getD j 0))) (fun q => s.heap.size ≤ q) s s.heap := by
  obtain ⟨h1, h2, h3⟩ := am_sgL_mem h
  exact va_Tof hN (am_flat hgv h1) (va_eqt (am_flat hgv h2)) (fun j hj => va_eqtl (am_flat hgv (h3 j hj))) (fun a h => Nat.not_le.mpr h)
theorem am_T_arr {G : am_G} {M : am_M} {i k n : Nat} {f : Nat → Value} (hi : i < 9) (hn : n < 2 ^ 31) (hk : k ≠ 24) (h : va_T (am_ty k) (gS G i) n f (fun q => s.heap.size ≤ q) s s.heap) (hf : ∀ j, j < n → f j = am_ra G (am_ev M i k j)) : am_arr G s M s.heap i k n := by
  obtain ⟨cell, q1, q2, q3, q4, q5, q6, q7⟩ := h
  refine ⟨cell, ?_, q2, q3, q4, q5, hn, fun h9 => by omega, fun h24 => absurd h24 hk, fun j hj => ?_⟩
  · unfold am_ad; rw [if_pos hi]; exact q1
  · rw [q6 j hj, hf j hj]
set_option maxRecDepth 100000 in
theorem am_start (C0 : lw_At p s m meth c b L xs) (hL : L ≤ 4096) : ∃ G : am_G, gH G = s.heap.size ∧ am_ctx G 279 p s m #[Value.ref b] meth c ∧ am_rel G false s (am_M0 L xs) s.heap ∧ am_ad G 0 = b := by
  obtain ⟨hx, hb, hr, hml, hown, hts, hX, hbl, hlocks, hgv⟩ := C0
  have hA : ∀ a : Nat, a < s.heap.size → ¬ s.heap.size ≤ a := fun a h => Nat.not_le.mpr h
  obtain ⟨t1, e1, T1⟩ := am_sarrI hgv (by decide) am_seg1
  obtain ⟨t2, e2, T2⟩ := am_sarrI hgv (by decide) am_seg2
  obtain ⟨t3, e3, T3⟩ := am_sarrL hgv (by decide) am_seg3
  obtain ⟨t4, e4, T4⟩ := am_sarrL hgv (by decide) am_seg4
  obtain ⟨t7, e7, T7⟩ := am_sarrI hgv (by decide) am_seg7
  obtain ⟨t8, e8, T8⟩ := am_sarrI hgv (by decide) am_seg8
  obtain ⟨t5, c5, cA5, kA5, q51, q52, q53, q54, q55, q56, -⟩ := Cond.exactly_spec (args := #[Value.ref b]) (first := s) (o := none) (s := s) (idx := []) (t := .string "IceSearch$Tape" 72) (cls := "java/lang/String") (am_flat hgv (List.mem_of_getElem? am_F51))
  obtain ⟨t6, c6, cA6, kA6, q61, q62, q63, q64, q65, q66, -⟩ := Cond.exactly_spec (args := #[Value.ref b]) (first := s) (o := none) (s := s) (idx := []) (t := .string "IceSearch$Tape" 64) (cls := "java/lang/String") (am_flat hgv (List.mem_of_getElem? am_F193))
  have co5 := vk_OFof (A := fun q => s.heap.size ≤ q) q51 (va_eqt (am_flat hgv (List.mem_of_getElem? am_F52))) hA
  have co6 := vk_OFof (A := fun q => s.heap.size ≤ q) q61 (va_eqt (am_flat hgv (List.mem_of_getElem? am_F194))) hA
  have va5 := vk_OFof (A := fun q => s.heap.size ≤ q) q51 e7 hA
  have va6 := vk_OFof (A := fun q => s.heap.size ≤ q) q61 e8 hA
  obtain ⟨cfv, kv, fiv, fv, cellv, v1, v2, v3, v4, v5, -⟩ := va5
  obtain ⟨cfv', kv', fiv', fv', cellv', v1', v2', v3', v4', v5', -⟩ := va6
  cases v1.symm.trans v1'
  obtain ⟨cfc, kc, fic, fc, cellc, w1, w2, w3, w4, w5, -⟩ := co5
  obtain ⟨cfc', kc', fic', fc', cellc', w1', w2', w3', w4', w5', -⟩ := co6
  cases w1.symm.trans w1'
  have hZS := va_Zof (A := fun q => s.heap.size ≤ q) (C := "java/lang/String") (n := "COMPACT_STRINGS") (d := "Z") (hts (.laysStatic "java/lang/String" "COMPACT_STRINGS" "Z") (by decide +kernel)) (hts (.initialized "java/lang/String") (by decide +kernel)) (va_eqt (z := 1) (am_flat hgv (List.mem_of_getElem? am_F37))) hA
  have hZP := va_Zqof (A := fun q => s.heap.size ≤ q) (C := "jdk/internal/util/Preconditions") (n := "SIOOBE_FORMATTER") (d := "Ljava/util/function/BiFunction;") (hts (.laysStatic "jdk/internal/util/Preconditions" "SIOOBE_FORMATTER" "Ljava/util/function/BiFunction;") (by decide +kernel)) (hts (.initialized "jdk/internal/util/Preconditions") (by decide +kernel)) (am_flat hgv (List.mem_of_getElem? am_F38)) hA
  obtain ⟨ov, hov, hZP⟩ : ∃ ov : Value, (ov = .null ∨ ∃ a, ov = .ref a) ∧ va_Z "jdk/internal/util/Preconditions" "SIOOBE_FORMATTER" "Ljava/util/function/BiFunction;" ov (fun q => s.heap.size ≤ q) s s.heap := by
    rcases hZP with h | ⟨t, h⟩
    · exact ⟨_, Or.inl rfl, h⟩
    · exact ⟨_, Or.inr ⟨t, rfl⟩, h⟩
  have hZ1 := va_Zof (A := fun q => s.heap.size ≤ q) (hts (.laysStatic "IceSearch" "ROWS_OF_MOVE" "[I") (by decide +kernel)) (hts (.initialized "IceSearch") (by decide +kernel)) e1 hA
  have hZ2 := va_Zof (A := fun q => s.heap.size ≤ q) (hts (.laysStatic "IceSearch" "COLUMNS_OF_MOVE" "[I") (by decide +kernel)) (hts (.initialized "IceSearch") (by decide +kernel)) e2 hA
  have hZ3 := va_Zof (A := fun q => s.heap.size ≤ q) (hts (.laysStatic "IceSearch$Ways" "SETS_WITH" "[J") (by decide +kernel)) (hts (.initialized "IceSearch$Ways") (by decide +kernel)) e3 hA
  have hZ4 := va_Zof (A := fun q => s.heap.size ≤ q) (hts (.laysStatic "IceSearchModel" "WITHOUT" "[J") (by decide +kernel)) (hts (.initialized "IceSearchModel") (by decide +kernel)) e4 hA
  have hcls : ∀ a : Nat, ∃ q : ClassId × (Nat → Nat), a < 13 → s.vm.findClass (am_CN a) = some q.1 ∧ (∃ kC : Class, s.vm.classes[q.1]? = some kC ∧ kC.kind = .ordinary) ∧ ∀ k, k < am_nf a → ∃ cf kf fi fd, s.fieldFound? (am_CN a) (am_f a k).1 (am_f a k).2.1 = some (cf, kf, fi, fd) ∧ fd.isStatic = false ∧ fd.slot = q.2 k := by
    intro a
    by_cases ha : a < 13
    · obtain ⟨ec, hec, hec2⟩ := List.any_eq_true.mp (am_CP_all a ha)
      have hcp := List.all_eq_true.mp am_CP_ok ec hec
      rw [show ec.1 = a by simpa using hec2] at hcp
      simp only [Bool.and_eq_true] at hcp
      obtain ⟨cC, kC, hfc, hkC, hkind, -⟩ := Cond.instantiable_spec (hts _ (am_wat_mem hcp.1))
      have hf : ∀ k : Nat, ∃ sl : Nat, k < am_nf a → ∃ cf kf fi fd, s.fieldFound? (am_CN a) (am_f a k).1 (am_f a k).2.1 = some (cf, kf, fi, fd) ∧ fd.isStatic = false ∧ fd.slot = sl := by
        intro k
        by_cases hk : k < am_nf a
        · have hl : (Cond.lays (am_CN a) (am_CN a) (am_f a k).1 (am_f a k).2.1).before #[Value.ref b] s = true ∨ (Cond.laysFinal (am_CN a) (am_CN a) (am_f a k).1 (am_f a k).2.1).before #[Value.ref b] s = true := by
            have h := am_lay ha hk
            unfold am_layw at h
            split at h
            · exact Or.inr (hts _ h)
            · exact Or.inl (hts _ h)
          obtain ⟨sl, cf, kf, fi, fd, hi, hs⟩ := u_found hl
          exact ⟨sl, fun _ => ⟨cf, kf, fi, fd, hi, (u_facts hfc hkC hl hi).1, hs⟩⟩
        · exact ⟨0, fun h => absurd h hk⟩
      obtain ⟨sl, hsl⟩ := Classical.axiomOfChoice hf
      exact ⟨(cC, sl), fun _ => ⟨hfc, ⟨kC, hkC, hkind⟩, hsl⟩⟩
    · exact ⟨(0, fun _ => 0), fun h => absurd h ha⟩
  obtain ⟨dq, hdq⟩ := Classical.axiomOfChoice hcls
  let G : am_G := (s.heap.size, (fun i => match i with | 0 => b | 1 => t1 | 2 => t2 | 3 => t3 | 4 => t4 | 5 => t5 | 6 => t6 | 7 => t7 | _ => t8), ov, (fun a => if a = 13 then cellv.cls else (dq a).1), (fun a k => if a = 13 then (if k = 0 then fv.slot else fc.slot) else (dq a).2 k))
  have hgC : ∀ a, a < 13 → gC G a = (dq a).1 := fun a ha => by show (if a = 13 then _ else _) = _; rw [if_neg (by omega)]
  have hgI : ∀ a k, a < 13 → gI G a k = (dq a).2 k := fun a k ha => by show (if a = 13 then _ else _) = _; rw [if_neg (by omega)]
  have hfs : ∀ k, k < am_nf 13 → k = 0 ∨ k = 1 := fun k hk => by have : am_nf 13 = 2 := by decide +kernel
                                                                 omega
  have hstr : s.vm.findClass "java/lang/String" = some cellv.cls := by
    cases q53.symm.trans v3
    rw [q56]
    exact q52
  have hstr' : s.vm.findClass "java/lang/String" = some cellv'.cls := by
    cases q63.symm.trans v3'
    rw [q66]
    exact q62
  have hcc : cellc = cellv := Option.some.inj (w3.symm.trans v3)
  have hcc' : cellc' = cellv' := Option.some.inj (w3'.symm.trans v3')
  refine ⟨G, rfl, ?_, ?_, rfl⟩
  · refine ⟨hx, hb, hml, hown, fun w hw => hts w (List.mem_filter.mp hw).1, ⟨fun w hw hn => ?_, fun a ha => ?_, fun a ha => ?_, ?_, ?_, ?_, ?_⟩, fun hn => absurd hn (by decide), hov⟩
    · cases w with
      | fieldLinkNest a1 i1 b1 n1 d1 h1 => exact va_Nw.of rfl (hts _ hw)
      | methodLinkNest a1 i1 x1 h1 => exact va_Nw.of rfl (hts _ hw)
      | _ => simp [am_nst] at hn
    · by_cases h13 : a < 13
      · obtain ⟨f1, f2, f3⟩ := hdq a h13
        refine ⟨by rw [hgC a h13]; exact f1, fun k hk => ?_⟩
        rw [hgI a k h13]
        exact f3 k hk
      · have : a = 13 := by omega
        subst this
        refine ⟨hstr, fun k hk => ?_⟩
        rcases hfs k hk with rfl | rfl
        · exact ⟨cfv, kv, fiv, fv, v1, v2, rfl⟩
        · exact ⟨cfc, kc, fic, fc, w1, w2, rfl⟩
    · obtain ⟨f1, f2, f3⟩ := hdq a ha
      rw [hgC a ha]
      exact f2
    · exact vk_R.of (hts (.stringRef "IceSearch$Tape" 72 am_t72) (by decide +kernel)) q51
    · exact vk_R.of (hts (.stringRef "IceSearch$Tape" 64 am_t64) (by decide +kernel)) q61
    · exact va_Nw.of rfl (hts _ (by decide +kernel))
    · exact va_AO.of (hts _ (by decide +kernel))
  · have hlt := fun {ty : FieldType} {t n : Nat} {f : Nat → Value} (h : va_T ty t n f (fun q => s.heap.size ≤ q) s s.heap) => show t < s.heap.size by
      obtain ⟨cell, h1, -⟩ := h
      exact (Array.getElem?_eq_some_iff.mp h1).1
    refine ⟨Nat.le_refl _, rfl, fun h => (by cases h), fun i h1 h2 => ?_, fun i hi => ?_, fun k v hk => ?_, fun i hi => ?_⟩
    · show (if i = 0 then _ else _) = _
      rw [if_neg (by omega)]
    · match i, hi with
      | 0, _ => exact hbl
      | 1, _ => exact hlt T1
      | 2, _ => exact hlt T2
      | 3, _ => exact hlt T3
      | 4, _ => exact hlt T4
      | 5, _ => exact (Array.getElem?_eq_some_iff.mp v3).1
      | 6, _ => exact (Array.getElem?_eq_some_iff.mp v3').1
      | 7, _ => exact hlt T7
      | 8, _ => exact hlt T8
      | k + 9, h => omega
    · match k, hk with
      | 0, hk => cases hk; exact hZ1
      | 1, hk => cases hk; exact hZ2
      | 2, hk => cases hk; exact hZ3
      | 3, hk => cases hk; exact hZ4
      | 4, hk => cases hk; exact hZS
      | 5, hk => cases hk; exact hZP
      | k + 6, hk => simp [am_SV, am_SVT] at hk
    · match i, hi with
      | 0, _ =>
        refine ⟨fun h => absurd h (by show ¬ 20 < 14; decide), fun _ _ => ?_⟩
        obtain ⟨scr, x1, x2, x3, x4, x5⟩ := hX
        exact ⟨scr, x1, x2, x3, Nat.le_of_eq x4.symm, by rw [x4]; rfl, by show L < 2 ^ 31; omega, fun h9 => by omega, fun h24 => absurd h24 (by show ¬ 20 = 24; decide), fun j hj => x5 j hj⟩
      | 1, _ => exact ⟨fun h => absurd h (show ¬ 20 < 14 by decide), fun _ _ => am_T_arr (k := 20) (n := 9) (by decide) (by decide) (by decide) T1 (fun j hj => rfl)⟩
      | 2, _ => exact ⟨fun h => absurd h (show ¬ 20 < 14 by decide), fun _ _ => am_T_arr (k := 20) (n := 9) (by decide) (by decide) (by decide) T2 (fun j hj => rfl)⟩
      | 3, _ => exact ⟨fun h => absurd h (show ¬ 21 < 14 by decide), fun _ _ => am_T_arr (k := 21) (n := 6) (by decide) (by decide) (by decide) T3 (fun j hj => rfl)⟩
      | 4, _ => exact ⟨fun h => absurd h (show ¬ 21 < 14 by decide), fun _ _ => am_T_arr (k := 21) (n := 6) (by decide) (by decide) (by decide) T4 (fun j hj => rfl)⟩
      | 5, _ =>
        refine ⟨fun _ => ⟨cellv, v3, rfl, ?_, v4, fun h => absurd h (show ¬ 13 < 13 by decide), fun k hk => ?_⟩, fun h => absurd h (show ¬ 20 ≤ 13 by decide)⟩
        · cases q53.symm.trans v3; rw [q55]
        · rcases hfs k hk with rfl | rfl
          · exact v5
          · rw [← hcc]; exact w5
      | 6, _ =>
        refine ⟨fun _ => ⟨cellv', v3', ?_, ?_, v4', fun h => absurd h (show ¬ 13 < 13 by decide), fun k hk => ?_⟩, fun h => absurd h (show ¬ 20 ≤ 13 by decide)⟩
        · exact Option.some.inj (hstr'.symm.trans hstr)
        · cases q63.symm.trans v3'; rw [q65]
        · rcases hfs k hk with rfl | rfl
          · exact v5'
          · rw [← hcc']; exact w5'
      | 7, _ => exact ⟨fun h => absurd h (show ¬ 23 < 14 by decide), fun _ _ => am_T_arr (k := 23) (n := 138) (by decide) (by decide) (by decide) T7 (fun j hj => rfl)⟩
      | 8, _ => exact ⟨fun h => absurd h (show ¬ 23 < 14 by decide), fun _ _ => am_T_arr (k := 23) (n := 6) (by decide) (by decide) (by decide) T8 (fun j hj => rfl)⟩
      | k + 9, h => exact absurd h (by show ¬ k + 9 < 9; omega)
end START
/-- the law's end, out of a run of the abstract machine -/
theorem am_whole {p : Program} {e : Env} {s : State} {m : MethodId} {below : List Frame} {meth : Method} {c : Code} (l : Launch) {b L : Nat} {xs : Nat → Int32} (hL : L ≤ 4096) (C0 : lw_At p s m meth c b L xs)
    (hrun : am_Run false 60 279 (am_blk 279 0) [some (.ref 0), none, none, none] [] (am_M0 L xs) (fun r M' => r = some (.int 1) ∧ mN M' ≤ 600009 ∧ mS M' ≤ 7302250)) :
    W p l e room_1 s m #[Value.ref b] below meth c s.heap [] 0 0 (lw_Z below #[Value.ref b] s) (entryFrame m ([Value.ref b] : List Value).toArray 4) := by
  obtain ⟨G, hG, C, hR, hb0⟩ := am_start C0 hL
  obtain ⟨f, r, M', hex, hr1, hN, hS⟩ := hrun
  subst hr1
  have hlocks : meth.locks = false := C0.2.2.2.2.2.2.2.2.1
  have hret : meth.sig.returnType = ret := C0.2.2.1
  have hO := C.2.2.2.2.2.2.2
  have hent := lv_entry ([.ref b]) (n := 4) (Nat.le_of_ble_eq_true rfl)
  have hcode : am_by 279 = code := rfl
  have hml : am_ml 279 = 4 := by decide +kernel
  rw [lg_entry_eq]
  have hok := am_blk_ok (z := 279) (by omega) 0
  rw [show am_bpc 279 0 = 0 by decide +kernel] at hok
  have h9 : mN (am_M0 L xs) = 9 := rfl
  have h0 : mS (am_M0 L xs) = 0 := rfl
  refine am_snd l G false f 60 279 _ _ [] _ _ _ hex (by omega) p e room_1 s m _ below meth c s.heap [] 0 0 _ 0 _ C hR (fun q hq => by cases hq) ?_ hok (by decide) (by decide) (by show 0 + (mN M' - 9) ≤ 600000; omega) (by show 0 + (mS M' - 0) ≤ 7302250; omega) ?_
  · refine ⟨hml.symm, by rw [hml]; exact hent.1, hent.2.1, fun q hq => ?_⟩
    have hq' : q ∈ [(0, Value.ref (am_ad G 0))] := hq
    rw [hb0] at hq'
    exact hent.2.2 q (by simpa [lv_args] using hq')
  · intro H' ls' locs' pc' ins' st' h1 h2 h3 h4
    have hst : ins' = .ireturn ∧ st' = [.int 1] := by
      unfold am_end at h4
      split at h4
      · split at h4 <;> cases h4
      · split at h4
        · obtain ⟨-, h4⟩ := am_ite h4
          cases h4
          exact ⟨rfl, rfl⟩
        · cases h4
      · split at h4 <;> cases h4
      · split at h4 <;> cases h4
      · cases h4
    obtain ⟨rfl, rfl⟩ := hst
    have hfin := lw_ret (l := l) (e := e) (s := s) (m := m) (b := b) (below := below) (ls := ls') (H := H') C.1 (by rw [C.2.1]; exact hcode) hret hlocks (pc := pc') (by rw [← hcode]; exact h3)
    refine W.widen (k := 600000) (n := 7302250) (by omega) (by omega) ?_
    have := W.forget (locs := []) (L := locs') (fun q hq => by rw [← hG]; exact h2 q hq) hfin
    exact this
