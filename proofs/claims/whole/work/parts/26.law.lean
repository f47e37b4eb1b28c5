/-! the law's loop, over any invariant that the thirty-six ops keep -/
def opOK (Inv : am_M → Prop) (zx zm : Nat) (as : List Value) (M : am_M) : Prop := am_Call true 59 zx (.ref 9 :: as) M (fun r M1 => ∃ v, r = some (.int v) ∧ am_Call true 59 zm (.ref 67 :: as) M1 (fun r' M2 => r' = some (.int v) ∧ Inv M2 ∧ mN M2 ≤ mN M + 3 ∧ mS M2 ≤ mS M + 900))
def okOp_day (Inv : am_M → Prop) : Prop := ∀ (M : am_M) (a0 : Int32), Inv M → opOK Inv 12 188 [.int a0] M
def okOp_land (Inv : am_M → Prop) : Prop := ∀ (M : am_M) (a0 : Int32) (a1 : Nat), Inv M → a1 ≤ 1 → opOK Inv 13 189 [.int a0, .int (nI a1)] M
def okOp_lost (Inv : am_M → Prop) : Prop := ∀ (M : am_M) (a0 : Int32) (a1 : Int32) (a2 : Int32) (a3 : Int32), Inv M → opOK Inv 16 192 [.int a0, .int a1, .int a2, .int a3] M
def okOp_set (Inv : am_M → Prop) : Prop := ∀ (M : am_M) (a0 : Int32) (a1 : Int32), Inv M → opOK Inv 19 193 [.int a0, .int a1] M
def okOp_ice (Inv : am_M → Prop) : Prop := ∀ (M : am_M) (a0 : Int32) (a1 : Int32) (a2 : Nat), Inv M → a2 ≤ 1 → opOK Inv 21 195 [.int a0, .int a1, .int (nI a2)] M
def okOp_shut (Inv : am_M → Prop) : Prop := ∀ (M : am_M) (a0 : Int32) (a1 : Int32) (a2 : Int32), Inv M → opOK Inv 24 196 [.int a0, .int a1, .int a2] M
def okOp_teller (Inv : am_M → Prop) : Prop := ∀ (M : am_M) (a0 : Int32) (a1 : Int32), Inv M → opOK Inv 27 200 [.int a0, .int a1] M
def okOp_find (Inv : am_M → Prop) : Prop := ∀ (M : am_M) (a0 : Int32) (a1 : Int32) (a2 : Int32) (a3 : Int32) (a4 : Int32) (a5 : Int32) (a6 : Int32), Inv M → opOK Inv 30 201 [.int a0, .int a1, .int a2, .int a3, .int a4, .int a5, .int a6] M
def okOp_doubt (Inv : am_M → Prop) : Prop := ∀ (M : am_M) (a0 : Int32) (a1 : Nat), Inv M → a1 ≤ 1 → opOK Inv 37 203 [.int a0, .int (nI a1)] M
def okOp_found (Inv : am_M → Prop) : Prop := ∀ (M : am_M) (a0 : Int32) (a1 : Int32), Inv M → opOK Inv 41 205 [.int a0, .int a1] M
def okOp_kept (Inv : am_M → Prop) : Prop := ∀ (M : am_M) (a0 : Int32) (a1 : Int32), Inv M → opOK Inv 43 207 [.int a0, .int a1] M
def okOp_fits (Inv : am_M → Prop) : Prop := ∀ (M : am_M) (a0 : Int32), Inv M → opOK Inv 49 210 [.int a0] M
def okOp_most (Inv : am_M → Prop) : Prop := ∀ (M : am_M) (a0 : Int32) (a1 : Int32), Inv M → opOK Inv 70 221 [.int a0, .int a1] M
def okOp_at (Inv : am_M → Prop) : Prop := ∀ (M : am_M) (a0 : Int32) (a1 : Int32) (a2 : Int32), Inv M → opOK Inv 73 223 [.int a0, .int a1, .int a2] M
def okOp_sure (Inv : am_M → Prop) : Prop := ∀ (M : am_M) (a0 : Int32) (a1 : Int32), Inv M → opOK Inv 75 224 [.int a0, .int a1] M
def okOp_ends (Inv : am_M → Prop) : Prop := ∀ (M : am_M) (a0 : Int32), Inv M → opOK Inv 76 225 [.int a0] M
def okOp_move (Inv : am_M → Prop) : Prop := ∀ (M : am_M) (a0 : Int32), Inv M → opOK Inv 77 226 [.int a0] M
def okOp_clear (Inv : am_M → Prop) : Prop := ∀ (M : am_M), Inv M → opOK Inv 79 227 [] M
def okOp_judge (Inv : am_M → Prop) : Prop := ∀ (M : am_M) (a0 : Int32), Inv M → opOK Inv 81 228 [.int a0] M
def okOp_alive (Inv : am_M → Prop) : Prop := ∀ (M : am_M) (a0 : Int32), Inv M → opOK Inv 88 229 [.int a0] M
def okOp_chance (Inv : am_M → Prop) : Prop := ∀ (M : am_M) (a0 : Int32) (a1 : Int32) (a2 : Int32), Inv M → opOK Inv 91 231 [.int a0, .int a1, .int a2] M
def okOp_left (Inv : am_M → Prop) : Prop := ∀ (M : am_M) (a0 : Int32) (a1 : Int32), Inv M → opOK Inv 98 235 [.int a0, .int a1] M
def okOp_lead (Inv : am_M → Prop) : Prop := ∀ (M : am_M) (a0 : Int32) (a1 : Int32) (a2 : Int32) (a3 : Int32), Inv M → opOK Inv 100 236 [.int a0, .int a1, .int a2, .int a3] M
def okOp_ship (Inv : am_M → Prop) : Prop := ∀ (M : am_M) (a0 : Int32) (a1 : Int32) (a2 : Int32), Inv M → opOK Inv 101 237 [.int a0, .int a1, .int a2] M
def okOp_trip (Inv : am_M → Prop) : Prop := ∀ (M : am_M) (a0 : Int32) (a1 : Int32), Inv M → opOK Inv 103 238 [.int a0, .int a1] M
def okOp_best (Inv : am_M → Prop) : Prop := ∀ (M : am_M) (a0 : Int32), Inv M → opOK Inv 108 240 [.int a0] M
def okOp_feed (Inv : am_M → Prop) : Prop := ∀ (M : am_M) (a0 : Int32) (a1 : Int32) (a2 : Int32) (a3 : Int32) (a4 : Int32), Inv M → opOK Inv 117 245 [.int a0, .int a1, .int a2, .int a3, .int a4] M
def okOp_rules (Inv : am_M → Prop) : Prop := ∀ (M : am_M) (a0 : Int32), Inv M → opOK Inv 120 247 [.int a0] M
def okOp_beside (Inv : am_M → Prop) : Prop := ∀ (M : am_M) (a0 : Int32), Inv M → opOK Inv 156 264 [.int a0] M
def okOp_fault (Inv : am_M → Prop) : Prop := ∀ (M : am_M), Inv M → opOK Inv 157 265 [] M
def okOp_home (Inv : am_M → Prop) : Prop := ∀ (M : am_M) (a0 : Int32) (a1 : Nat), Inv M → a1 ≤ 1 → opOK Inv 158 194 [.int a0, .int (nI a1)] M
def okOp_would (Inv : am_M → Prop) : Prop := ∀ (M : am_M) (a0 : Int32) (a1 : Int32), Inv M → opOK Inv 160 268 [.int a0, .int a1] M
def okOp_tried (Inv : am_M → Prop) : Prop := ∀ (M : am_M) (a0 : Int32) (a1 : Int32), Inv M → opOK Inv 177 275 [.int a0, .int a1] M
def okOp_quarrel (Inv : am_M → Prop) : Prop := ∀ (M : am_M) (a0 : Int32) (a1 : Int32), Inv M → opOK Inv 178 266 [.int a0, .int a1] M
def okOp_paid (Inv : am_M → Prop) : Prop := ∀ (M : am_M) (a0 : Int32) (a1 : Int32), Inv M → opOK Inv 181 276 [.int a0, .int a1] M
def okOp_count (Inv : am_M → Prop) : Prop := ∀ (M : am_M) (a0 : Int32), Inv M → opOK Inv 185 278 [.int a0] M
def okOps (Inv : am_M → Prop) : Prop := okOp_day Inv ∧ okOp_land Inv ∧ okOp_lost Inv ∧ okOp_set Inv ∧ okOp_ice Inv ∧ okOp_shut Inv ∧ okOp_teller Inv ∧ okOp_find Inv ∧ okOp_doubt Inv ∧ okOp_found Inv ∧ okOp_kept Inv ∧ okOp_fits Inv ∧ okOp_most Inv ∧ okOp_at Inv ∧ okOp_sure Inv ∧ okOp_ends Inv ∧ okOp_move Inv ∧ okOp_clear Inv ∧ okOp_judge Inv ∧ okOp_alive Inv ∧ okOp_chance Inv ∧ okOp_left Inv ∧ okOp_lead Inv ∧ okOp_ship Inv ∧ okOp_trip Inv ∧ okOp_best Inv ∧ okOp_feed Inv ∧ okOp_rules Inv ∧ okOp_beside Inv ∧ okOp_fault Inv ∧ okOp_home Inv ∧ okOp_would Inv ∧ okOp_tried Inv ∧ okOp_quarrel Inv ∧ okOp_paid Inv ∧ okOp_count Inv
section LAW
variable {Inv : am_M → Prop} {L i : Nat} {M : am_M} {Q : Option Value → am_M → Prop}
/-- what stands at the loop's head -/
def lawAt (L i : Nat) (Inv : am_M → Prop) (M : am_M) : Prop := Inv M ∧ mK M 0 = (20, L) ∧ 118 ≤ mN M ∧ 8 * mN M ≤ 944 + 3 * i ∧ 8 * mS M ≤ 800000 + 900 * i
def lawHd (i : Nat) (M : am_M) (Q : Option Value → am_M → Prop) : Prop := am_Run true 60 279 (am_blk 279 1) [some (.ref 0), some (.ref 9), some (.ref 67), some (.int (nI i))] [] M Q
theorem law_end {v : Int32} {code : List Instr} {M2 : am_M} (hi : i + 8 < 2147483648) (ih : ∀ M2, lawAt L (i + 8) Inv M2 → lawHd (i + 8) M2 Q) (h : lawAt L (i + 8) Inv M2) : am_Run true 60 279 (.if_icmp .eq 99 :: code) [some (.ref 0), some (.ref 9), some (.ref 67), some (.int (nI i))] [.int v, .int v] M2 Q := by
  refine rb_eq (fun _ => ?_) (fun h => absurd rfl h)
  show am_Run true 60 279 (Instr.iinc 3 (Int.ofNat 8) :: [.jsr_w 1]) [some (.ref 0), some (.ref 9), some (.ref 67), some (.int (nI i))] [] M2 Q
  refine riincN (k := i) (q := 8) rfl rfl ?_
  refine rback ?_
  exact ih M2 h
theorem law_next {M1 M2 : am_M} (hM : lawAt L i Inv M) (f1 : fr M M1) (f2 : fr M1 M2) (h : Inv M2 ∧ mN M2 ≤ mN M + 3 ∧ mS M2 ≤ mS M + 900) : lawAt L (i + 8) Inv M2 := by
  obtain ⟨a1, a2, a3, a4, a5⟩ := hM
  refine ⟨h.1, ?_, Nat.le_trans a3 (Nat.le_trans f1.1 f2.1), by omega, by omega⟩
  rw [(f2.2 0 (by omega)).2.2.2, (f1.2 0 (by omega)).2.2.2]
  exact a2
set_option maxRecDepth 100000 in
theorem law_day (ho : okOp_day Inv) (hM : lawAt L i Inv M) (hL : i + 8 ≤ L) (hL2 : L ≤ 4096) (ih : ∀ M2, lawAt L (i + 8) Inv M2 → lawHd (i + 8) M2 Q) : am_Run true 60 279 (am_blk 279 3) [some (.ref 0), some (.ref 9), some (.ref 67), some (.int (nI i))] [] M Q := by
  have hk : am_kd true M 0 = (20, L) := hM.2.1
  repeat (first | (refine riald hk (by (first | omega | (simp (disch := omega) only [nI_toInt, nM_toInt]; omega))) (by omega) ?_) | (refine riaddN ?_) | (refine rimulN ?_) | (refine r1 rfl ?_) | (refine rgoto rfl ?_) | (refine rfall rfl ?_) | (refine re1 ?_) | (refine re0 ?_) | (refine rn1 ?_) | (refine rn0 ?_) | (refine rend rfl rfl ?_))
  refine rcall rfl rfl rfl (fr_run hM.2.2.1 (ho M (mI M 0 (i + 1)) hM.1)) (fun r M1 h1 => ?_)
  obtain ⟨⟨v, rfl, h1⟩, f1⟩ := h1
  have hk1 : am_kd true M1 0 = (20, L) := ((f1.2 0 (by omega)).2.2.2).trans hk
  have hi1 := (f1.2 0 (by omega)).1
  repeat (first | (refine riald hk1 (by (first | omega | (simp (disch := omega) only [nI_toInt, nM_toInt]; omega))) (by omega) ?_) | (refine riaddN ?_) | (refine rimulN ?_) | (refine r1 rfl ?_) | (refine rgoto rfl ?_) | (refine rfall rfl ?_) | (refine re1 ?_) | (refine re0 ?_) | (refine rn1 ?_) | (refine rn0 ?_) | (refine rend rfl rfl ?_))
  simp only [hi1]
  refine rcall rfl rfl rfl (fr_run (Nat.le_trans hM.2.2.1 f1.1) h1) (fun r' M2 h2 => ?_)
  obtain ⟨⟨rfl, h2⟩, f2⟩ := h2
  exact law_end (by omega) ih (law_next hM f1 f2 h2)
set_option maxRecDepth 100000 in
theorem law_land (ho : okOp_land Inv) (hM : lawAt L i Inv M) (hL : i + 8 ≤ L) (hL2 : L ≤ 4096) (ih : ∀ M2, lawAt L (i + 8) Inv M2 → lawHd (i + 8) M2 Q) : am_Run true 60 279 (am_blk 279 5) [some (.ref 0), some (.ref 9), some (.ref 67), some (.int (nI i))] [] M Q := by
  have hk : am_kd true M 0 = (20, L) := hM.2.1
  repeat (first | (refine riald hk (by (first | omega | (simp (disch := omega) only [nI_toInt, nM_toInt]; omega))) (by omega) ?_) | (refine riaddN ?_) | (refine rimulN ?_) | (refine r1 rfl ?_) | (refine rgoto rfl ?_) | (refine rfall rfl ?_) | (refine re1 ?_) | (refine re0 ?_) | (refine rn1 ?_) | (refine rn0 ?_) | (refine rend rfl rfl ?_))
  refine rc_eq (fun hb => ?_) (fun hb => ?_)
  · repeat (first | (refine riald hk (by (first | omega | (simp (disch := omega) only [nI_toInt, nM_toInt]; omega))) (by omega) ?_) | (refine riaddN ?_) | (refine rimulN ?_) | (refine r1 rfl ?_) | (refine rgoto rfl ?_) | (refine rfall rfl ?_) | (refine re1 ?_) | (refine re0 ?_) | (refine rn1 ?_) | (refine rn0 ?_) | (refine rend rfl rfl ?_))
    refine rcall rfl rfl rfl (fr_run hM.2.2.1 (ho M (mI M 0 (i + 1)) 0 hM.1 (by decide))) (fun r M1 h1 => ?_)
    obtain ⟨⟨v, rfl, h1⟩, f1⟩ := h1
    have hk1 : am_kd true M1 0 = (20, L) := ((f1.2 0 (by omega)).2.2.2).trans hk
    have hi1 := (f1.2 0 (by omega)).1
    repeat (first | (refine riald hk1 (by (first | omega | (simp (disch := omega) only [nI_toInt, nM_toInt]; omega))) (by omega) ?_) | (refine riaddN ?_) | (refine rimulN ?_) | (refine r1 rfl ?_) | (refine rgoto rfl ?_) | (refine rfall rfl ?_) | (refine re1 ?_) | (refine re0 ?_) | (refine rn1 ?_) | (refine rn0 ?_) | (refine rend rfl rfl ?_))
    simp only [hi1]
    refine rc_eq (fun hb2 => ?_) (fun hb2 => ?_)
    · repeat (first | (refine riaddN ?_) | (refine rimulN ?_) | (refine r1 rfl ?_) | (refine rgoto rfl ?_) | (refine rfall rfl ?_) | (refine re1 ?_) | (refine re0 ?_) | (refine rn1 ?_) | (refine rn0 ?_) | (refine rend rfl rfl ?_))
      refine rcall rfl rfl rfl (fr_run (Nat.le_trans hM.2.2.1 f1.1) h1) (fun r' M2 h2 => ?_)
      obtain ⟨⟨rfl, h2⟩, f2⟩ := h2
      exact law_end (by omega) ih (law_next hM f1 f2 h2)
    · exact absurd hb hb2
  · repeat (first | (refine riald hk (by (first | omega | (simp (disch := omega) only [nI_toInt, nM_toInt]; omega))) (by omega) ?_) | (refine riaddN ?_) | (refine rimulN ?_) | (refine r1 rfl ?_) | (refine rgoto rfl ?_) | (refine rfall rfl ?_) | (refine re1 ?_) | (refine re0 ?_) | (refine rn1 ?_) | (refine rn0 ?_) | (refine rend rfl rfl ?_))
    refine rcall rfl rfl rfl (fr_run hM.2.2.1 (ho M (mI M 0 (i + 1)) 1 hM.1 (by decide))) (fun r M1 h1 => ?_)
    obtain ⟨⟨v, rfl, h1⟩, f1⟩ := h1
    have hk1 : am_kd true M1 0 = (20, L) := ((f1.2 0 (by omega)).2.2.2).trans hk
    have hi1 := (f1.2 0 (by omega)).1
    repeat (first | (refine riald hk1 (by (first | omega | (simp (disch := omega) only [nI_toInt, nM_toInt]; omega))) (by omega) ?_) | (refine riaddN ?_) | (refine rimulN ?_) | (refine r1 rfl ?_) | (refine rgoto rfl ?_) | (refine rfall rfl ?_) | (refine re1 ?_) | (refine re0 ?_) | (refine rn1 ?_) | (refine rn0 ?_) | (refine rend rfl rfl ?_))
    simp only [hi1]
    refine rc_eq (fun hb2 => ?_) (fun hb2 => ?_)
    · exact absurd hb2 hb
    · repeat (first | (refine riaddN ?_) | (refine rimulN ?_) | (refine r1 rfl ?_) | (refine rgoto rfl ?_) | (refine rfall rfl ?_) | (refine re1 ?_) | (refine re0 ?_) | (refine rn1 ?_) | (refine rn0 ?_) | (refine rend rfl rfl ?_))
      refine rcall rfl rfl rfl (fr_run (Nat.le_trans hM.2.2.1 f1.1) h1) (fun r' M2 h2 => ?_)
      obtain ⟨⟨rfl, h2⟩, f2⟩ := h2
      exact law_end (by omega) ih (law_next hM f1 f2 h2)
set_option maxRecDepth 100000 in
theorem law_lost (ho : okOp_lost Inv) (hM : lawAt L i Inv M) (hL : i + 8 ≤ L) (hL2 : L ≤ 4096) (ih : ∀ M2, lawAt L (i + 8) Inv M2 → lawHd (i + 8) M2 Q) : am_Run true 60 279 (am_blk 279 13) [some (.ref 0), some (.ref 9), some (.ref 67), some (.int (nI i))] [] M Q := by
  have hk : am_kd true M 0 = (20, L) := hM.2.1
  repeat (first | (refine riald hk (by (first | omega | (simp (disch := omega) only [nI_toInt, nM_toInt]; omega))) (by omega) ?_) | (refine riaddN ?_) | (refine rimulN ?_) | (refine r1 rfl ?_) | (refine rgoto rfl ?_) | (refine rfall rfl ?_) | (refine re1 ?_) | (refine re0 ?_) | (refine rn1 ?_) | (refine rn0 ?_) | (refine rend rfl rfl ?_))
  refine rcall rfl rfl rfl (fr_run hM.2.2.1 (ho M (mI M 0 (i + 1)) (mI M 0 (i + 2)) (mI M 0 (i + 3)) (mI M 0 (i + 4)) hM.1)) (fun r M1 h1 => ?_)
  obtain ⟨⟨v, rfl, h1⟩, f1⟩ := h1
  have hk1 : am_kd true M1 0 = (20, L) := ((f1.2 0 (by omega)).2.2.2).trans hk
  have hi1 := (f1.2 0 (by omega)).1
  repeat (first | (refine riald hk1 (by (first | omega | (simp (disch := omega) only [nI_toInt, nM_toInt]; omega))) (by omega) ?_) | (refine riaddN ?_) | (refine rimulN ?_) | (refine r1 rfl ?_) | (refine rgoto rfl ?_) | (refine rfall rfl ?_) | (refine re1 ?_) | (refine re0 ?_) | (refine rn1 ?_) | (refine rn0 ?_) | (refine rend rfl rfl ?_))
  simp only [hi1]
  refine rcall rfl rfl rfl (fr_run (Nat.le_trans hM.2.2.1 f1.1) h1) (fun r' M2 h2 => ?_)
  obtain ⟨⟨rfl, h2⟩, f2⟩ := h2
  exact law_end (by omega) ih (law_next hM f1 f2 h2)
set_option maxRecDepth 100000 in
theorem law_set (ho : okOp_set Inv) (hM : lawAt L i Inv M) (hL : i + 8 ≤ L) (hL2 : L ≤ 4096) (ih : ∀ M2, lawAt L (i + 8) Inv M2 → lawHd (i + 8) M2 Q) : am_Run true 60 279 (am_blk 279 15) [some (.ref 0), some (.ref 9), some (.ref 67), some (.int (nI i))] [] M Q := by
  have hk : am_kd true M 0 = (20, L) := hM.2.1
  repeat (first | (refine riald hk (by (first | omega | (simp (disch := omega) only [nI_toInt, nM_toInt]; omega))) (by omega) ?_) | (refine riaddN ?_) | (refine rimulN ?_) | (refine r1 rfl ?_) | (refine rgoto rfl ?_) | (refine rfall rfl ?_) | (refine re1 ?_) | (refine re0 ?_) | (refine rn1 ?_) | (refine rn0 ?_) | (refine rend rfl rfl ?_))
  refine rcall rfl rfl rfl (fr_run hM.2.2.1 (ho M (mI M 0 (i + 1)) (mI M 0 (i + 2)) hM.1)) (fun r M1 h1 => ?_)
  obtain ⟨⟨v, rfl, h1⟩, f1⟩ := h1
  have hk1 : am_kd true M1 0 = (20, L) := ((f1.2 0 (by omega)).2.2.2).trans hk
  have hi1 := (f1.2 0 (by omega)).1
  repeat (first | (refine riald hk1 (by (first | omega | (simp (disch := omega) only [nI_toInt, nM_toInt]; omega))) (by omega) ?_) | (refine riaddN ?_) | (refine rimulN ?_) | (refine r1 rfl ?_) | (refine rgoto rfl ?_) | (refine rfall rfl ?_) | (refine re1 ?_) | (refine re0 ?_) | (refine rn1 ?_) | (refine rn0 ?_) | (refine rend rfl rfl ?_))
  simp only [hi1]
  refine rcall rfl rfl rfl (fr_run (Nat.le_trans hM.2.2.1 f1.1) h1) (fun r' M2 h2 => ?_)
  obtain ⟨⟨rfl, h2⟩, f2⟩ := h2
  exact law_end (by omega) ih (law_next hM f1 f2 h2)
set_option maxRecDepth 100000 in
theorem law_ice (ho : okOp_ice Inv) (hM : lawAt L i Inv M) (hL : i + 8 ≤ L) (hL2 : L ≤ 4096) (ih : ∀ M2, lawAt L (i + 8) Inv M2 → lawHd (i + 8) M2 Q) : am_Run true 60 279 (am_blk 279 17) [some (.ref 0), some (.ref 9), some (.ref 67), some (.int (nI i))] [] M Q := by
  have hk : am_kd true M 0 = (20, L) := hM.2.1
  repeat (first | (refine riald hk (by (first | omega | (simp (disch := omega) only [nI_toInt, nM_toInt]; omega))) (by omega) ?_) | (refine riaddN ?_) | (refine rimulN ?_) | (refine r1 rfl ?_) | (refine rgoto rfl ?_) | (refine rfall rfl ?_) | (refine re1 ?_) | (refine re0 ?_) | (refine rn1 ?_) | (refine rn0 ?_) | (refine rend rfl rfl ?_))
  refine rc_eq (fun hb => ?_) (fun hb => ?_)
  · repeat (first | (refine riald hk (by (first | omega | (simp (disch := omega) only [nI_toInt, nM_toInt]; omega))) (by omega) ?_) | (refine riaddN ?_) | (refine rimulN ?_) | (refine r1 rfl ?_) | (refine rgoto rfl ?_) | (refine rfall rfl ?_) | (refine re1 ?_) | (refine re0 ?_) | (refine rn1 ?_) | (refine rn0 ?_) | (refine rend rfl rfl ?_))
    refine rcall rfl rfl rfl (fr_run hM.2.2.1 (ho M (mI M 0 (i + 1)) (mI M 0 (i + 2)) 0 hM.1 (by decide))) (fun r M1 h1 => ?_)
    obtain ⟨⟨v, rfl, h1⟩, f1⟩ := h1
    have hk1 : am_kd true M1 0 = (20, L) := ((f1.2 0 (by omega)).2.2.2).trans hk
    have hi1 := (f1.2 0 (by omega)).1
    repeat (first | (refine riald hk1 (by (first | omega | (simp (disch := omega) only [nI_toInt, nM_toInt]; omega))) (by omega) ?_) | (refine riaddN ?_) | (refine rimulN ?_) | (refine r1 rfl ?_) | (refine rgoto rfl ?_) | (refine rfall rfl ?_) | (refine re1 ?_) | (refine re0 ?_) | (refine rn1 ?_) | (refine rn0 ?_) | (refine rend rfl rfl ?_))
    simp only [hi1]
    refine rc_eq (fun hb2 => ?_) (fun hb2 => ?_)
    · repeat (first | (refine riaddN ?_) | (refine rimulN ?_) | (refine r1 rfl ?_) | (refine rgoto rfl ?_) | (refine rfall rfl ?_) | (refine re1 ?_) | (refine re0 ?_) | (refine rn1 ?_) | (refine rn0 ?_) | (refine rend rfl rfl ?_))
      refine rcall rfl rfl rfl (fr_run (Nat.le_trans hM.2.2.1 f1.1) h1) (fun r' M2 h2 => ?_)
      obtain ⟨⟨rfl, h2⟩, f2⟩ := h2
      exact law_end (by omega) ih (law_next hM f1 f2 h2)
    · exact absurd hb hb2
  · repeat (first | (refine riald hk (by (first | omega | (simp (disch := omega) only [nI_toInt, nM_toInt]; omega))) (by omega) ?_) | (refine riaddN ?_) | (refine rimulN ?_) | (refine r1 rfl ?_) | (refine rgoto rfl ?_) | (refine rfall rfl ?_) | (refine re1 ?_) | (refine re0 ?_) | (refine rn1 ?_) | (refine rn0 ?_) | (refine rend rfl rfl ?_))
    refine rcall rfl rfl rfl (fr_run hM.2.2.1 (ho M (mI M 0 (i + 1)) (mI M 0 (i + 2)) 1 hM.1 (by decide))) (fun r M1 h1 => ?_)
    obtain ⟨⟨v, rfl, h1⟩, f1⟩ := h1
    have hk1 : am_kd true M1 0 = (20, L) := ((f1.2 0 (by omega)).2.2.2).trans hk
    have hi1 := (f1.2 0 (by omega)).1
    repeat (first | (refine riald hk1 (by (first | omega | (simp (disch := omega) only [nI_toInt, nM_toInt]; omega))) (by omega) ?_) | (refine riaddN ?_) | (refine rimulN ?_) | (refine r1 rfl ?_) | (refine rgoto rfl ?_) | (refine rfall rfl ?_) | (refine re1 ?_) | (refine re0 ?_) | (refine rn1 ?_) | (refine rn0 ?_) | (refine rend rfl rfl ?_))
    simp only [hi1]
    refine rc_eq (fun hb2 => ?_) (fun hb2 => ?_)
    · exact absurd hb2 hb
    · repeat (first | (refine riaddN ?_) | (refine rimulN ?_) | (refine r1 rfl ?_) | (refine rgoto rfl ?_) | (refine rfall rfl ?_) | (refine re1 ?_) | (refine re0 ?_) | (refine rn1 ?_) | (refine rn0 ?_) | (refine rend rfl rfl ?_))
      refine rcall rfl rfl rfl (fr_run (Nat.le_trans hM.2.2.1 f1.1) h1) (fun r' M2 h2 => ?_)
      obtain ⟨⟨rfl, h2⟩, f2⟩ := h2
      exact law_end (by omega) ih (law_next hM f1 f2 h2)
set_option maxRecDepth 100000 in
theorem law_shut (ho : okOp_shut Inv) (hM : lawAt L i Inv M) (hL : i + 8 ≤ L) (hL2 : L ≤ 4096) (ih : ∀ M2, lawAt L (i + 8) Inv M2 → lawHd (i + 8) M2 Q) : am_Run true 60 279 (am_blk 279 25) [some (.ref 0), some (.ref 9), some (.ref 67), some (.int (nI i))] [] M Q := by
  have hk : am_kd true M 0 = (20, L) := hM.2.1
  repeat (first | (refine riald hk (by (first | omega | (simp (disch := omega) only [nI_toInt, nM_toInt]; omega))) (by omega) ?_) | (refine riaddN ?_) | (refine rimulN ?_) | (refine r1 rfl ?_) | (refine rgoto rfl ?_) | (refine rfall rfl ?_) | (refine re1 ?_) | (refine re0 ?_) | (refine rn1 ?_) | (refine rn0 ?_) | (refine rend rfl rfl ?_))
  refine rcall rfl rfl rfl (fr_run hM.2.2.1 (ho M (mI M 0 (i + 1)) (mI M 0 (i + 2)) (mI M 0 (i + 3)) hM.1)) (fun r M1 h1 => ?_)
  obtain ⟨⟨v, rfl, h1⟩, f1⟩ := h1
  have hk1 : am_kd true M1 0 = (20, L) := ((f1.2 0 (by omega)).2.2.2).trans hk
  have hi1 := (f1.2 0 (by omega)).1
  repeat (first | (refine riald hk1 (by (first | omega | (simp (disch := omega) only [nI_toInt, nM_toInt]; omega))) (by omega) ?_) | (refine riaddN ?_) | (refine rimulN ?_) | (refine r1 rfl ?_) | (refine rgoto rfl ?_) | (refine rfall rfl ?_) | (refine re1 ?_) | (refine re0 ?_) | (refine rn1 ?_) | (refine rn0 ?_) | (refine rend rfl rfl ?_))
  simp only [hi1]
  refine rcall rfl rfl rfl (fr_run (Nat.le_trans hM.2.2.1 f1.1) h1) (fun r' M2 h2 => ?_)
  obtain ⟨⟨rfl, h2⟩, f2⟩ := h2
  exact law_end (by omega) ih (law_next hM f1 f2 h2)
set_option maxRecDepth 100000 in
theorem law_teller (ho : okOp_teller Inv) (hM : lawAt L i Inv M) (hL : i + 8 ≤ L) (hL2 : L ≤ 4096) (ih : ∀ M2, lawAt L (i + 8) Inv M2 → lawHd (i + 8) M2 Q) : am_Run true 60 279 (am_blk 279 27) [some (.ref 0), some (.ref 9), some (.ref 67), some (.int (nI i))] [] M Q := by
  have hk : am_kd true M 0 = (20, L) := hM.2.1
  repeat (first | (refine riald hk (by (first | omega | (simp (disch := omega) only [nI_toInt, nM_toInt]; omega))) (by omega) ?_) | (refine riaddN ?_) | (refine rimulN ?_) | (refine r1 rfl ?_) | (refine rgoto rfl ?_) | (refine rfall rfl ?_) | (refine re1 ?_) | (refine re0 ?_) | (refine rn1 ?_) | (refine rn0 ?_) | (refine rend rfl rfl ?_))
  refine rcall rfl rfl rfl (fr_run hM.2.2.1 (ho M (mI M 0 (i + 1)) (mI M 0 (i + 2)) hM.1)) (fun r M1 h1 => ?_)
  obtain ⟨⟨v, rfl, h1⟩, f1⟩ := h1
  have hk1 : am_kd true M1 0 = (20, L) := ((f1.2 0 (by omega)).2.2.2).trans hk
  have hi1 := (f1.2 0 (by omega)).1
  repeat (first | (refine riald hk1 (by (first | omega | (simp (disch := omega) only [nI_toInt, nM_toInt]; omega))) (by omega) ?_) | (refine riaddN ?_) | (refine rimulN ?_) | (refine r1 rfl ?_) | (refine rgoto rfl ?_) | (refine rfall rfl ?_) | (refine re1 ?_) | (refine re0 ?_) | (refine rn1 ?_) | (refine rn0 ?_) | (refine rend rfl rfl ?_))
  simp only [hi1]
  refine rcall rfl rfl rfl (fr_run (Nat.le_trans hM.2.2.1 f1.1) h1) (fun r' M2 h2 => ?_)
  obtain ⟨⟨rfl, h2⟩, f2⟩ := h2
  exact law_end (by omega) ih (law_next hM f1 f2 h2)
set_option maxRecDepth 100000 in
theorem law_find (ho : okOp_find Inv) (hM : lawAt L i Inv M) (hL : i + 8 ≤ L) (hL2 : L ≤ 4096) (ih : ∀ M2, lawAt L (i + 8) Inv M2 → lawHd (i + 8) M2 Q) : am_Run true 60 279 (am_blk 279 29) [some (.ref 0), some (.ref 9), some (.ref 67), some (.int (nI i))] [] M Q := by
  have hk : am_kd true M 0 = (20, L) := hM.2.1
  repeat (first | (refine riald hk (by (first | omega | (simp (disch := omega) only [nI_toInt, nM_toInt]; omega))) (by omega) ?_) | (refine riaddN ?_) | (refine rimulN ?_) | (refine r1 rfl ?_) | (refine rgoto rfl ?_) | (refine rfall rfl ?_) | (refine re1 ?_) | (refine re0 ?_) | (refine rn1 ?_) | (refine rn0 ?_) | (refine rend rfl rfl ?_))
  refine rcall rfl rfl rfl (fr_run hM.2.2.1 (ho M (mI M 0 (i + 1)) (mI M 0 (i + 2)) (mI M 0 (i + 3)) (mI M 0 (i + 4)) (mI M 0 (i + 5)) (mI M 0 (i + 6)) (mI M 0 (i + 7)) hM.1)) (fun r M1 h1 => ?_)
  obtain ⟨⟨v, rfl, h1⟩, f1⟩ := h1
  have hk1 : am_kd true M1 0 = (20, L) := ((f1.2 0 (by omega)).2.2.2).trans hk
  have hi1 := (f1.2 0 (by omega)).1
  repeat (first | (refine riald hk1 (by (first | omega | (simp (disch := omega) only [nI_toInt, nM_toInt]; omega))) (by omega) ?_) | (refine riaddN ?_) | (refine rimulN ?_) | (refine r1 rfl ?_) | (refine rgoto rfl ?_) | (refine rfall rfl ?_) | (refine re1 ?_) | (refine re0 ?_) | (refine rn1 ?_) | (refine rn0 ?_) | (refine rend rfl rfl ?_))
  simp only [hi1]
  refine rcall rfl rfl rfl (fr_run (Nat.le_trans hM.2.2.1 f1.1) h1) (fun r' M2 h2 => ?_)
  obtain ⟨⟨rfl, h2⟩, f2⟩ := h2
  exact law_end (by omega) ih (law_next hM f1 f2 h2)
set_option maxRecDepth 100000 in
theorem law_doubt (ho : okOp_doubt Inv) (hM : lawAt L i Inv M) (hL : i + 8 ≤ L) (hL2 : L ≤ 4096) (ih : ∀ M2, lawAt L (i + 8) Inv M2 → lawHd (i + 8) M2 Q) : am_Run true 60 279 (am_blk 279 31) [some (.ref 0), some (.ref 9), some (.ref 67), some (.int (nI i))] [] M Q := by
  have hk : am_kd true M 0 = (20, L) := hM.2.1
  repeat (first | (refine riald hk (by (first | omega | (simp (disch := omega) only [nI_toInt, nM_toInt]; omega))) (by omega) ?_) | (refine riaddN ?_) | (refine rimulN ?_) | (refine r1 rfl ?_) | (refine rgoto rfl ?_) | (refine rfall rfl ?_) | (refine re1 ?_) | (refine re0 ?_) | (refine rn1 ?_) | (refine rn0 ?_) | (refine rend rfl rfl ?_))
  refine rc_eq (fun hb => ?_) (fun hb => ?_)
  · repeat (first | (refine riald hk (by (first | omega | (simp (disch := omega) only [nI_toInt, nM_toInt]; omega))) (by omega) ?_) | (refine riaddN ?_) | (refine rimulN ?_) | (refine r1 rfl ?_) | (refine rgoto rfl ?_) | (refine rfall rfl ?_) | (refine re1 ?_) | (refine re0 ?_) | (refine rn1 ?_) | (refine rn0 ?_) | (refine rend rfl rfl ?_))
    refine rcall rfl rfl rfl (fr_run hM.2.2.1 (ho M (mI M 0 (i + 1)) 0 hM.1 (by decide))) (fun r M1 h1 => ?_)
    obtain ⟨⟨v, rfl, h1⟩, f1⟩ := h1
    have hk1 : am_kd true M1 0 = (20, L) := ((f1.2 0 (by omega)).2.2.2).trans hk
    have hi1 := (f1.2 0 (by omega)).1
    repeat (first | (refine riald hk1 (by (first | omega | (simp (disch := omega) only [nI_toInt, nM_toInt]; omega))) (by omega) ?_) | (refine riaddN ?_) | (refine rimulN ?_) | (refine r1 rfl ?_) | (refine rgoto rfl ?_) | (refine rfall rfl ?_) | (refine re1 ?_) | (refine re0 ?_) | (refine rn1 ?_) | (refine rn0 ?_) | (refine rend rfl rfl ?_))
    simp only [hi1]
    refine rc_eq (fun hb2 => ?_) (fun hb2 => ?_)
    · repeat (first | (refine riaddN ?_) | (refine rimulN ?_) | (refine r1 rfl ?_) | (refine rgoto rfl ?_) | (refine rfall rfl ?_) | (refine re1 ?_) | (refine re0 ?_) | (refine rn1 ?_) | (refine rn0 ?_) | (refine rend rfl rfl ?_))
      refine rcall rfl rfl rfl (fr_run (Nat.le_trans hM.2.2.1 f1.1) h1) (fun r' M2 h2 => ?_)
      obtain ⟨⟨rfl, h2⟩, f2⟩ := h2
      exact law_end (by omega) ih (law_next hM f1 f2 h2)
    · exact absurd hb hb2
  · repeat (first | (refine riald hk (by (first | omega | (simp (disch := omega) only [nI_toInt, nM_toInt]; omega))) (by omega) ?_) | (refine riaddN ?_) | (refine rimulN ?_) | (refine r1 rfl ?_) | (refine rgoto rfl ?_) | (refine rfall rfl ?_) | (refine re1 ?_) | (refine re0 ?_) | (refine rn1 ?_) | (refine rn0 ?_) | (refine rend rfl rfl ?_))
    refine rcall rfl rfl rfl (fr_run hM.2.2.1 (ho M (mI M 0 (i + 1)) 1 hM.1 (by decide))) (fun r M1 h1 => ?_)
    obtain ⟨⟨v, rfl, h1⟩, f1⟩ := h1
    have hk1 : am_kd true M1 0 = (20, L) := ((f1.2 0 (by omega)).2.2.2).trans hk
    have hi1 := (f1.2 0 (by omega)).1
    repeat (first | (refine riald hk1 (by (first | omega | (simp (disch := omega) only [nI_toInt, nM_toInt]; omega))) (by omega) ?_) | (refine riaddN ?_) | (refine rimulN ?_) | (refine r1 rfl ?_) | (refine rgoto rfl ?_) | (refine rfall rfl ?_) | (refine re1 ?_) | (refine re0 ?_) | (refine rn1 ?_) | (refine rn0 ?_) | (refine rend rfl rfl ?_))
    simp only [hi1]
    refine rc_eq (fun hb2 => ?_) (fun hb2 => ?_)
    · exact absurd hb2 hb
    · repeat (first | (refine riaddN ?_) | (refine rimulN ?_) | (refine r1 rfl ?_) | (refine rgoto rfl ?_) | (refine rfall rfl ?_) | (refine re1 ?_) | (refine re0 ?_) | (refine rn1 ?_) | (refine rn0 ?_) | (refine rend rfl rfl ?_))
      refine rcall rfl rfl rfl (fr_run (Nat.le_trans hM.2.2.1 f1.1) h1) (fun r' M2 h2 => ?_)
      obtain ⟨⟨rfl, h2⟩, f2⟩ := h2
      exact law_end (by omega) ih (law_next hM f1 f2 h2)
set_option maxRecDepth 100000 in
theorem law_found (ho : okOp_found Inv) (hM : lawAt L i Inv M) (hL : i + 8 ≤ L) (hL2 : L ≤ 4096) (ih : ∀ M2, lawAt L (i + 8) Inv M2 → lawHd (i + 8) M2 Q) : am_Run true 60 279 (am_blk 279 39) [some (.ref 0), some (.ref 9), some (.ref 67), some (.int (nI i))] [] M Q := by
  have hk : am_kd true M 0 = (20, L) := hM.2.1
  repeat (first | (refine riald hk (by (first | omega | (simp (disch := omega) only [nI_toInt, nM_toInt]; omega))) (by omega) ?_) | (refine riaddN ?_) | (refine rimulN ?_) | (refine r1 rfl ?_) | (refine rgoto rfl ?_) | (refine rfall rfl ?_) | (refine re1 ?_) | (refine re0 ?_) | (refine rn1 ?_) | (refine rn0 ?_) | (refine rend rfl rfl ?_))
  refine rcall rfl rfl rfl (fr_run hM.2.2.1 (ho M (mI M 0 (i + 1)) (mI M 0 (i + 2)) hM.1)) (fun r M1 h1 => ?_)
  obtain ⟨⟨v, rfl, h1⟩, f1⟩ := h1
  have hk1 : am_kd true M1 0 = (20, L) := ((f1.2 0 (by omega)).2.2.2).trans hk
  have hi1 := (f1.2 0 (by omega)).1
  repeat (first | (refine riald hk1 (by (first | omega | (simp (disch := omega) only [nI_toInt, nM_toInt]; omega))) (by omega) ?_) | (refine riaddN ?_) | (refine rimulN ?_) | (refine r1 rfl ?_) | (refine rgoto rfl ?_) | (refine rfall rfl ?_) | (refine re1 ?_) | (refine re0 ?_) | (refine rn1 ?_) | (refine rn0 ?_) | (refine rend rfl rfl ?_))
  simp only [hi1]
  refine rcall rfl rfl rfl (fr_run (Nat.le_trans hM.2.2.1 f1.1) h1) (fun r' M2 h2 => ?_)
  obtain ⟨⟨rfl, h2⟩, f2⟩ := h2
  exact law_end (by omega) ih (law_next hM f1 f2 h2)
set_option maxRecDepth 100000 in
theorem law_kept (ho : okOp_kept Inv) (hM : lawAt L i Inv M) (hL : i + 8 ≤ L) (hL2 : L ≤ 4096) (ih : ∀ M2, lawAt L (i + 8) Inv M2 → lawHd (i + 8) M2 Q) : am_Run true 60 279 (am_blk 279 41) [some (.ref 0), some (.ref 9), some (.ref 67), some (.int (nI i))] [] M Q := by
  have hk : am_kd true M 0 = (20, L) := hM.2.1
  repeat (first | (refine riald hk (by (first | omega | (simp (disch := omega) only [nI_toInt, nM_toInt]; omega))) (by omega) ?_) | (refine riaddN ?_) | (refine rimulN ?_) | (refine r1 rfl ?_) | (refine rgoto rfl ?_) | (refine rfall rfl ?_) | (refine re1 ?_) | (refine re0 ?_) | (refine rn1 ?_) | (refine rn0 ?_) | (refine rend rfl rfl ?_))
  refine rcall rfl rfl rfl (fr_run hM.2.2.1 (ho M (mI M 0 (i + 1)) (mI M 0 (i + 2)) hM.1)) (fun r M1 h1 => ?_)
  obtain ⟨⟨v, rfl, h1⟩, f1⟩ := h1
  have hk1 : am_kd true M1 0 = (20, L) := ((f1.2 0 (by omega)).2.2.2).trans hk
  have hi1 := (f1.2 0 (by omega)).1
  repeat (first | (refine riald hk1 (by (first | omega | (simp (disch := omega) only [nI_toInt, nM_toInt]; omega))) (by omega) ?_) | (refine riaddN ?_) | (refine rimulN ?_) | (refine r1 rfl ?_) | (refine rgoto rfl ?_) | (refine rfall rfl ?_) | (refine re1 ?_) | (refine re0 ?_) | (refine rn1 ?_) | (refine rn0 ?_) | (refine rend rfl rfl ?_))
  simp only [hi1]
  refine rcall rfl rfl rfl (fr_run (Nat.le_trans hM.2.2.1 f1.1) h1) (fun r' M2 h2 => ?_)
  obtain ⟨⟨rfl, h2⟩, f2⟩ := h2
  exact law_end (by omega) ih (law_next hM f1 f2 h2)
set_option maxRecDepth 100000 in
theorem law_fits (ho : okOp_fits Inv) (hM : lawAt L i Inv M) (hL : i + 8 ≤ L) (hL2 : L ≤ 4096) (ih : ∀ M2, lawAt L (i + 8) Inv M2 → lawHd (i + 8) M2 Q) : am_Run true 60 279 (am_blk 279 43) [some (.ref 0), some (.ref 9), some (.ref 67), some (.int (nI i))] [] M Q := by
  have hk : am_kd true M 0 = (20, L) := hM.2.1
  repeat (first | (refine riald hk (by (first | omega | (simp (disch := omega) only [nI_toInt, nM_toInt]; omega))) (by omega) ?_) | (refine riaddN ?_) | (refine rimulN ?_) | (refine r1 rfl ?_) | (refine rgoto rfl ?_) | (refine rfall rfl ?_) | (refine re1 ?_) | (refine re0 ?_) | (refine rn1 ?_) | (refine rn0 ?_) | (refine rend rfl rfl ?_))
  refine rcall rfl rfl rfl (fr_run hM.2.2.1 (ho M (mI M 0 (i + 1)) hM.1)) (fun r M1 h1 => ?_)
  obtain ⟨⟨v, rfl, h1⟩, f1⟩ := h1
  have hk1 : am_kd true M1 0 = (20, L) := ((f1.2 0 (by omega)).2.2.2).trans hk
  have hi1 := (f1.2 0 (by omega)).1
  repeat (first | (refine riald hk1 (by (first | omega | (simp (disch := omega) only [nI_toInt, nM_toInt]; omega))) (by omega) ?_) | (refine riaddN ?_) | (refine rimulN ?_) | (refine r1 rfl ?_) | (refine rgoto rfl ?_) | (refine rfall rfl ?_) | (refine re1 ?_) | (refine re0 ?_) | (refine rn1 ?_) | (refine rn0 ?_) | (refine rend rfl rfl ?_))
  simp only [hi1]
  refine rcall rfl rfl rfl (fr_run (Nat.le_trans hM.2.2.1 f1.1) h1) (fun r' M2 h2 => ?_)
  obtain ⟨⟨rfl, h2⟩, f2⟩ := h2
  exact law_end (by omega) ih (law_next hM f1 f2 h2)
set_option maxRecDepth 100000 in
theorem law_most (ho : okOp_most Inv) (hM : lawAt L i Inv M) (hL : i + 8 ≤ L) (hL2 : L ≤ 4096) (ih : ∀ M2, lawAt L (i + 8) Inv M2 → lawHd (i + 8) M2 Q) : am_Run true 60 279 (am_blk 279 45) [some (.ref 0), some (.ref 9), some (.ref 67), some (.int (nI i))] [] M Q := by
  have hk : am_kd true M 0 = (20, L) := hM.2.1
  repeat (first | (refine riald hk (by (first | omega | (simp (disch := omega) only [nI_toInt, nM_toInt]; omega))) (by omega) ?_) | (refine riaddN ?_) | (refine rimulN ?_) | (refine r1 rfl ?_) | (refine rgoto rfl ?_) | (refine rfall rfl ?_) | (refine re1 ?_) | (refine re0 ?_) | (refine rn1 ?_) | (refine rn0 ?_) | (refine rend rfl rfl ?_))
  refine rcall rfl rfl rfl (fr_run hM.2.2.1 (ho M (mI M 0 (i + 1)) (mI M 0 (i + 2)) hM.1)) (fun r M1 h1 => ?_)
  obtain ⟨⟨v, rfl, h1⟩, f1⟩ := h1
  have hk1 : am_kd true M1 0 = (20, L) := ((f1.2 0 (by omega)).2.2.2).trans hk
  have hi1 := (f1.2 0 (by omega)).1
  repeat (first | (refine riald hk1 (by (first | omega | (simp (disch := omega) only [nI_toInt, nM_toInt]; omega))) (by omega) ?_) | (refine riaddN ?_) | (refine rimulN ?_) | (refine r1 rfl ?_) | (refine rgoto rfl ?_) | (refine rfall rfl ?_) | (refine re1 ?_) | (refine re0 ?_) | (refine rn1 ?_) | (refine rn0 ?_) | (refine rend rfl rfl ?_))
  simp only [hi1]
  refine rcall rfl rfl rfl (fr_run (Nat.le_trans hM.2.2.1 f1.1) h1) (fun r' M2 h2 => ?_)
  obtain ⟨⟨rfl, h2⟩, f2⟩ := h2
  exact law_end (by omega) ih (law_next hM f1 f2 h2)
set_option maxRecDepth 100000 in
theorem law_at (ho : okOp_at Inv) (hM : lawAt L i Inv M) (hL : i + 8 ≤ L) (hL2 : L ≤ 4096) (ih : ∀ M2, lawAt L (i + 8) Inv M2 → lawHd (i + 8) M2 Q) : am_Run true 60 279 (am_blk 279 47) [some (.ref 0), some (.ref 9), some (.ref 67), some (.int (nI i))] [] M Q := by
  have hk : am_kd true M 0 = (20, L) := hM.2.1
  repeat (first | (refine riald hk (by (first | omega | (simp (disch := omega) only [nI_toInt, nM_toInt]; omega))) (by omega) ?_) | (refine riaddN ?_) | (refine rimulN ?_) | (refine r1 rfl ?_) | (refine rgoto rfl ?_) | (refine rfall rfl ?_) | (refine re1 ?_) | (refine re0 ?_) | (refine rn1 ?_) | (refine rn0 ?_) | (refine rend rfl rfl ?_))
  refine rcall rfl rfl rfl (fr_run hM.2.2.1 (ho M (mI M 0 (i + 1)) (mI M 0 (i + 2)) (mI M 0 (i + 3)) hM.1)) (fun r M1 h1 => ?_)
  obtain ⟨⟨v, rfl, h1⟩, f1⟩ := h1
  have hk1 : am_kd true M1 0 = (20, L) := ((f1.2 0 (by omega)).2.2.2).trans hk
  have hi1 := (f1.2 0 (by omega)).1
  repeat (first | (refine riald hk1 (by (first | omega | (simp (disch := omega) only [nI_toInt, nM_toInt]; omega))) (by omega) ?_) | (refine riaddN ?_) | (refine rimulN ?_) | (refine r1 rfl ?_) | (refine rgoto rfl ?_) | (refine rfall rfl ?_) | (refine re1 ?_) | (refine re0 ?_) | (refine rn1 ?_) | (refine rn0 ?_) | (refine rend rfl rfl ?_))
  simp only [hi1]
  refine rcall rfl rfl rfl (fr_run (Nat.le_trans hM.2.2.1 f1.1) h1) (fun r' M2 h2 => ?_)
  obtain ⟨⟨rfl, h2⟩, f2⟩ := h2
  exact law_end (by omega) ih (law_next hM f1 f2 h2)
set_option maxRecDepth 100000 in
theorem law_sure (ho : okOp_sure Inv) (hM : lawAt L i Inv M) (hL : i + 8 ≤ L) (hL2 : L ≤ 4096) (ih : ∀ M2, lawAt L (i + 8) Inv M2 → lawHd (i + 8) M2 Q) : am_Run true 60 279 (am_blk 279 49) [some (.ref 0), some (.ref 9), some (.ref 67), some (.int (nI i))] [] M Q := by
  have hk : am_kd true M 0 = (20, L) := hM.2.1
  repeat (first | (refine riald hk (by (first | omega | (simp (disch := omega) only [nI_toInt, nM_toInt]; omega))) (by omega) ?_) | (refine riaddN ?_) | (refine rimulN ?_) | (refine r1 rfl ?_) | (refine rgoto rfl ?_) | (refine rfall rfl ?_) | (refine re1 ?_) | (refine re0 ?_) | (refine rn1 ?_) | (refine rn0 ?_) | (refine rend rfl rfl ?_))
  refine rcall rfl rfl rfl (fr_run hM.2.2.1 (ho M (mI M 0 (i + 1)) (mI M 0 (i + 2)) hM.1)) (fun r M1 h1 => ?_)
  obtain ⟨⟨v, rfl, h1⟩, f1⟩ := h1
  have hk1 : am_kd true M1 0 = (20, L) := ((f1.2 0 (by omega)).2.2.2).trans hk
  have hi1 := (f1.2 0 (by omega)).1
  repeat (first | (refine riald hk1 (by (first | omega | (simp (disch := omega) only [nI_toInt, nM_toInt]; omega))) (by omega) ?_) | (refine riaddN ?_) | (refine rimulN ?_) | (refine r1 rfl ?_) | (refine rgoto rfl ?_) | (refine rfall rfl ?_) | (refine re1 ?_) | (refine re0 ?_) | (refine rn1 ?_) | (refine rn0 ?_) | (refine rend rfl rfl ?_))
  simp only [hi1]
  refine rcall rfl rfl rfl (fr_run (Nat.le_trans hM.2.2.1 f1.1) h1) (fun r' M2 h2 => ?_)
  obtain ⟨⟨rfl, h2⟩, f2⟩ := h2
  exact law_end (by omega) ih (law_next hM f1 f2 h2)
set_option maxRecDepth 100000 in
theorem law_ends (ho : okOp_ends Inv) (hM : lawAt L i Inv M) (hL : i + 8 ≤ L) (hL2 : L ≤ 4096) (ih : ∀ M2, lawAt L (i + 8) Inv M2 → lawHd (i + 8) M2 Q) : am_Run true 60 279 (am_blk 279 51) [some (.ref 0), some (.ref 9), some (.ref 67), some (.int (nI i))] [] M Q := by
  have hk : am_kd true M 0 = (20, L) := hM.2.1
  repeat (first | (refine riald hk (by (first | omega | (simp (disch := omega) only [nI_toInt, nM_toInt]; omega))) (by omega) ?_) | (refine riaddN ?_) | (refine rimulN ?_) | (refine r1 rfl ?_) | (refine rgoto rfl ?_) | (refine rfall rfl ?_) | (refine re1 ?_) | (refine re0 ?_) | (refine rn1 ?_) | (refine rn0 ?_) | (refine rend rfl rfl ?_))
  refine rcall rfl rfl rfl (fr_run hM.2.2.1 (ho M (mI M 0 (i + 1)) hM.1)) (fun r M1 h1 => ?_)
  obtain ⟨⟨v, rfl, h1⟩, f1⟩ := h1
  have hk1 : am_kd true M1 0 = (20, L) := ((f1.2 0 (by omega)).2.2.2).trans hk
  have hi1 := (f1.2 0 (by omega)).1
  repeat (first | (refine riald hk1 (by (first | omega | (simp (disch := omega) only [nI_toInt, nM_toInt]; omega))) (by omega) ?_) | (refine riaddN ?_) | (refine rimulN ?_) | (refine r1 rfl ?_) | (refine rgoto rfl ?_) | (refine rfall rfl ?_) | (refine re1 ?_) | (refine re0 ?_) | (refine rn1 ?_) | (refine rn0 ?_) | (refine rend rfl rfl ?_))
  simp only [hi1]
  refine rcall rfl rfl rfl (fr_run (Nat.le_trans hM.2.2.1 f1.1) h1) (fun r' M2 h2 => ?_)
  obtain ⟨⟨rfl, h2⟩, f2⟩ := h2
  exact law_end (by omega) ih (law_next hM f1 f2 h2)
set_option maxRecDepth 100000 in
theorem law_move (ho : okOp_move Inv) (hM : lawAt L i Inv M) (hL : i + 8 ≤ L) (hL2 : L ≤ 4096) (ih : ∀ M2, lawAt L (i + 8) Inv M2 → lawHd (i + 8) M2 Q) : am_Run true 60 279 (am_blk 279 53) [some (.ref 0), some (.ref 9), some (.ref 67), some (.int (nI i))] [] M Q := by
  have hk : am_kd true M 0 = (20, L) := hM.2.1
  repeat (first | (refine riald hk (by (first | omega | (simp (disch := omega) only [nI_toInt, nM_toInt]; omega))) (by omega) ?_) | (refine riaddN ?_) | (refine rimulN ?_) | (refine r1 rfl ?_) | (refine rgoto rfl ?_) | (refine rfall rfl ?_) | (refine re1 ?_) | (refine re0 ?_) | (refine rn1 ?_) | (refine rn0 ?_) | (refine rend rfl rfl ?_))
  refine rcall rfl rfl rfl (fr_run hM.2.2.1 (ho M (mI M 0 (i + 1)) hM.1)) (fun r M1 h1 => ?_)
  obtain ⟨⟨v, rfl, h1⟩, f1⟩ := h1
  have hk1 : am_kd true M1 0 = (20, L) := ((f1.2 0 (by omega)).2.2.2).trans hk
  have hi1 := (f1.2 0 (by omega)).1
  repeat (first | (refine riald hk1 (by (first | omega | (simp (disch := omega) only [nI_toInt, nM_toInt]; omega))) (by omega) ?_) | (refine riaddN ?_) | (refine rimulN ?_) | (refine r1 rfl ?_) | (refine rgoto rfl ?_) | (refine rfall rfl ?_) | (refine re1 ?_) | (refine re0 ?_) | (refine rn1 ?_) | (refine rn0 ?_) | (refine rend rfl rfl ?_))
  simp only [hi1]
  refine rcall rfl rfl rfl (fr_run (Nat.le_trans hM.2.2.1 f1.1) h1) (fun r' M2 h2 => ?_)
  obtain ⟨⟨rfl, h2⟩, f2⟩ := h2
  exact law_end (by omega) ih (law_next hM f1 f2 h2)
set_option maxRecDepth 100000 in
theorem law_clear (ho : okOp_clear Inv) (hM : lawAt L i Inv M) (hL : i + 8 ≤ L) (hL2 : L ≤ 4096) (ih : ∀ M2, lawAt L (i + 8) Inv M2 → lawHd (i + 8) M2 Q) : am_Run true 60 279 (am_blk 279 55) [some (.ref 0), some (.ref 9), some (.ref 67), some (.int (nI i))] [] M Q := by
  have hk : am_kd true M 0 = (20, L) := hM.2.1
  repeat (first | (refine riald hk (by (first | omega | (simp (disch := omega) only [nI_toInt, nM_toInt]; omega))) (by omega) ?_) | (refine riaddN ?_) | (refine rimulN ?_) | (refine r1 rfl ?_) | (refine rgoto rfl ?_) | (refine rfall rfl ?_) | (refine re1 ?_) | (refine re0 ?_) | (refine rn1 ?_) | (refine rn0 ?_) | (refine rend rfl rfl ?_))
  refine rcall rfl rfl rfl (fr_run hM.2.2.1 (ho M  hM.1)) (fun r M1 h1 => ?_)
  obtain ⟨⟨v, rfl, h1⟩, f1⟩ := h1
  have hk1 : am_kd true M1 0 = (20, L) := ((f1.2 0 (by omega)).2.2.2).trans hk
  have hi1 := (f1.2 0 (by omega)).1
  repeat (first | (refine riald hk1 (by (first | omega | (simp (disch := omega) only [nI_toInt, nM_toInt]; omega))) (by omega) ?_) | (refine riaddN ?_) | (refine rimulN ?_) | (refine r1 rfl ?_) | (refine rgoto rfl ?_) | (refine rfall rfl ?_) | (refine re1 ?_) | (refine re0 ?_) | (refine rn1 ?_) | (refine rn0 ?_) | (refine rend rfl rfl ?_))
  refine rcall rfl rfl rfl (fr_run (Nat.le_trans hM.2.2.1 f1.1) h1) (fun r' M2 h2 => ?_)
  obtain ⟨⟨rfl, h2⟩, f2⟩ := h2
  exact law_end (by omega) ih (law_next hM f1 f2 h2)
set_option maxRecDepth 100000 in
theorem law_judge (ho : okOp_judge Inv) (hM : lawAt L i Inv M) (hL : i + 8 ≤ L) (hL2 : L ≤ 4096) (ih : ∀ M2, lawAt L (i + 8) Inv M2 → lawHd (i + 8) M2 Q) : am_Run true 60 279 (am_blk 279 57) [some (.ref 0), some (.ref 9), some (.ref 67), some (.int (nI i))] [] M Q := by
  have hk : am_kd true M 0 = (20, L) := hM.2.1
  repeat (first | (refine riald hk (by (first | omega | (simp (disch := omega) only [nI_toInt, nM_toInt]; omega))) (by omega) ?_) | (refine riaddN ?_) | (refine rimulN ?_) | (refine r1 rfl ?_) | (refine rgoto rfl ?_) | (refine rfall rfl ?_) | (refine re1 ?_) | (refine re0 ?_) | (refine rn1 ?_) | (refine rn0 ?_) | (refine rend rfl rfl ?_))
  refine rcall rfl rfl rfl (fr_run hM.2.2.1 (ho M (mI M 0 (i + 1)) hM.1)) (fun r M1 h1 => ?_)
  obtain ⟨⟨v, rfl, h1⟩, f1⟩ := h1
  have hk1 : am_kd true M1 0 = (20, L) := ((f1.2 0 (by omega)).2.2.2).trans hk
  have hi1 := (f1.2 0 (by omega)).1
  repeat (first | (refine riald hk1 (by (first | omega | (simp (disch := omega) only [nI_toInt, nM_toInt]; omega))) (by omega) ?_) | (refine riaddN ?_) | (refine rimulN ?_) | (refine r1 rfl ?_) | (refine rgoto rfl ?_) | (refine rfall rfl ?_) | (refine re1 ?_) | (refine re0 ?_) | (refine rn1 ?_) | (refine rn0 ?_) | (refine rend rfl rfl ?_))
  simp only [hi1]
  refine rcall rfl rfl rfl (fr_run (Nat.le_trans hM.2.2.1 f1.1) h1) (fun r' M2 h2 => ?_)
  obtain ⟨⟨rfl, h2⟩, f2⟩ := h2
  exact law_end (by omega) ih (law_next hM f1 f2 h2)
set_option maxRecDepth 100000 in
theorem law_alive (ho : okOp_alive Inv) (hM : lawAt L i Inv M) (hL : i + 8 ≤ L) (hL2 : L ≤ 4096) (ih : ∀ M2, lawAt L (i + 8) Inv M2 → lawHd (i + 8) M2 Q) : am_Run true 60 279 (am_blk 279 59) [some (.ref 0), some (.ref 9), some (.ref 67), some (.int (nI i))] [] M Q := by
  have hk : am_kd true M 0 = (20, L) := hM.2.1
  repeat (first | (refine riald hk (by (first | omega | (simp (disch := omega) only [nI_toInt, nM_toInt]; omega))) (by omega) ?_) | (refine riaddN ?_) | (refine rimulN ?_) | (refine r1 rfl ?_) | (refine rgoto rfl ?_) | (refine rfall rfl ?_) | (refine re1 ?_) | (refine re0 ?_) | (refine rn1 ?_) | (refine rn0 ?_) | (refine rend rfl rfl ?_))
  refine rcall rfl rfl rfl (fr_run hM.2.2.1 (ho M (mI M 0 (i + 1)) hM.1)) (fun r M1 h1 => ?_)
  obtain ⟨⟨v, rfl, h1⟩, f1⟩ := h1
  have hk1 : am_kd true M1 0 = (20, L) := ((f1.2 0 (by omega)).2.2.2).trans hk
  have hi1 := (f1.2 0 (by omega)).1
  repeat (first | (refine riald hk1 (by (first | omega | (simp (disch := omega) only [nI_toInt, nM_toInt]; omega))) (by omega) ?_) | (refine riaddN ?_) | (refine rimulN ?_) | (refine r1 rfl ?_) | (refine rgoto rfl ?_) | (refine rfall rfl ?_) | (refine re1 ?_) | (refine re0 ?_) | (refine rn1 ?_) | (refine rn0 ?_) | (refine rend rfl rfl ?_))
  simp only [hi1]
  refine rcall rfl rfl rfl (fr_run (Nat.le_trans hM.2.2.1 f1.1) h1) (fun r' M2 h2 => ?_)
  obtain ⟨⟨rfl, h2⟩, f2⟩ := h2
  exact law_end (by omega) ih (law_next hM f1 f2 h2)
set_option maxRecDepth 100000 in
theorem law_chance (ho : okOp_chance Inv) (hM : lawAt L i Inv M) (hL : i + 8 ≤ L) (hL2 : L ≤ 4096) (ih : ∀ M2, lawAt L (i + 8) Inv M2 → lawHd (i + 8) M2 Q) : am_Run true 60 279 (am_blk 279 61) [some (.ref 0), some (.ref 9), some (.ref 67), some (.int (nI i))] [] M Q := by
  have hk : am_kd true M 0 = (20, L) := hM.2.1
  repeat (first | (refine riald hk (by (first | omega | (simp (disch := omega) only [nI_toInt, nM_toInt]; omega))) (by omega) ?_) | (refine riaddN ?_) | (refine rimulN ?_) | (refine r1 rfl ?_) | (refine rgoto rfl ?_) | (refine rfall rfl ?_) | (refine re1 ?_) | (refine re0 ?_) | (refine rn1 ?_) | (refine rn0 ?_) | (refine rend rfl rfl ?_))
  refine rcall rfl rfl rfl (fr_run hM.2.2.1 (ho M (mI M 0 (i + 1)) (mI M 0 (i + 2)) (mI M 0 (i + 3)) hM.1)) (fun r M1 h1 => ?_)
  obtain ⟨⟨v, rfl, h1⟩, f1⟩ := h1
  have hk1 : am_kd true M1 0 = (20, L) := ((f1.2 0 (by omega)).2.2.2).trans hk
  have hi1 := (f1.2 0 (by omega)).1
  repeat (first | (refine riald hk1 (by (first | omega | (simp (disch := omega) only [nI_toInt, nM_toInt]; omega))) (by omega) ?_) | (refine riaddN ?_) | (refine rimulN ?_) | (refine r1 rfl ?_) | (refine rgoto rfl ?_) | (refine rfall rfl ?_) | (refine re1 ?_) | (refine re0 ?_) | (refine rn1 ?_) | (refine rn0 ?_) | (refine rend rfl rfl ?_))
  simp only [hi1]
  refine rcall rfl rfl rfl (fr_run (Nat.le_trans hM.2.2.1 f1.1) h1) (fun r' M2 h2 => ?_)
  obtain ⟨⟨rfl, h2⟩, f2⟩ := h2
  exact law_end (by omega) ih (law_next hM f1 f2 h2)
set_option maxRecDepth 100000 in
theorem law_left (ho : okOp_left Inv) (hM : lawAt L i Inv M) (hL : i + 8 ≤ L) (hL2 : L ≤ 4096) (ih : ∀ M2, lawAt L (i + 8) Inv M2 → lawHd (i + 8) M2 Q) : am_Run true 60 279 (am_blk 279 63) [some (.ref 0), some (.ref 9), some (.ref 67), some (.int (nI i))] [] M Q := by
  have hk : am_kd true M 0 = (20, L) := hM.2.1
  repeat (first | (refine riald hk (by (first | omega | (simp (disch := omega) only [nI_toInt, nM_toInt]; omega))) (by omega) ?_) | (refine riaddN ?_) | (refine rimulN ?_) | (refine r1 rfl ?_) | (refine rgoto rfl ?_) | (refine rfall rfl ?_) | (refine re1 ?_) | (refine re0 ?_) | (refine rn1 ?_) | (refine rn0 ?_) | (refine rend rfl rfl ?_))
  refine rcall rfl rfl rfl (fr_run hM.2.2.1 (ho M (mI M 0 (i + 1)) (mI M 0 (i + 2)) hM.1)) (fun r M1 h1 => ?_)
  obtain ⟨⟨v, rfl, h1⟩, f1⟩ := h1
  have hk1 : am_kd true M1 0 = (20, L) := ((f1.2 0 (by omega)).2.2.2).trans hk
  have hi1 := (f1.2 0 (by omega)).1
  repeat (first | (refine riald hk1 (by (first | omega | (simp (disch := omega) only [nI_toInt, nM_toInt]; omega))) (by omega) ?_) | (refine riaddN ?_) | (refine rimulN ?_) | (refine r1 rfl ?_) | (refine rgoto rfl ?_) | (refine rfall rfl ?_) | (refine re1 ?_) | (refine re0 ?_) | (refine rn1 ?_) | (refine rn0 ?_) | (refine rend rfl rfl ?_))
  simp only [hi1]
  refine rcall rfl rfl rfl (fr_run (Nat.le_trans hM.2.2.1 f1.1) h1) (fun r' M2 h2 => ?_)
  obtain ⟨⟨rfl, h2⟩, f2⟩ := h2
  exact law_end (by omega) ih (law_next hM f1 f2 h2)
set_option maxRecDepth 100000 in
theorem law_lead (ho : okOp_lead Inv) (hM : lawAt L i Inv M) (hL : i + 8 ≤ L) (hL2 : L ≤ 4096) (ih : ∀ M2, lawAt L (i + 8) Inv M2 → lawHd (i + 8) M2 Q) : am_Run true 60 279 (am_blk 279 65) [some (.ref 0), some (.ref 9), some (.ref 67), some (.int (nI i))] [] M Q := by
  have hk : am_kd true M 0 = (20, L) := hM.2.1
  repeat (first | (refine riald hk (by (first | omega | (simp (disch := omega) only [nI_toInt, nM_toInt]; omega))) (by omega) ?_) | (refine riaddN ?_) | (refine rimulN ?_) | (refine r1 rfl ?_) | (refine rgoto rfl ?_) | (refine rfall rfl ?_) | (refine re1 ?_) | (refine re0 ?_) | (refine rn1 ?_) | (refine rn0 ?_) | (refine rend rfl rfl ?_))
  refine rcall rfl rfl rfl (fr_run hM.2.2.1 (ho M (mI M 0 (i + 1)) (mI M 0 (i + 2)) (mI M 0 (i + 3)) (mI M 0 (i + 4)) hM.1)) (fun r M1 h1 => ?_)
  obtain ⟨⟨v, rfl, h1⟩, f1⟩ := h1
  have hk1 : am_kd true M1 0 = (20, L) := ((f1.2 0 (by omega)).2.2.2).trans hk
  have hi1 := (f1.2 0 (by omega)).1
  repeat (first | (refine riald hk1 (by (first | omega | (simp (disch := omega) only [nI_toInt, nM_toInt]; omega))) (by omega) ?_) | (refine riaddN ?_) | (refine rimulN ?_) | (refine r1 rfl ?_) | (refine rgoto rfl ?_) | (refine rfall rfl ?_) | (refine re1 ?_) | (refine re0 ?_) | (refine rn1 ?_) | (refine rn0 ?_) | (refine rend rfl rfl ?_))
  simp only [hi1]
  refine rcall rfl rfl rfl (fr_run (Nat.le_trans hM.2.2.1 f1.1) h1) (fun r' M2 h2 => ?_)
  obtain ⟨⟨rfl, h2⟩, f2⟩ := h2
  exact law_end (by omega) ih (law_next hM f1 f2 h2)
set_option maxRecDepth 100000 in
theorem law_ship (ho : okOp_ship Inv) (hM : lawAt L i Inv M) (hL : i + 8 ≤ L) (hL2 : L ≤ 4096) (ih : ∀ M2, lawAt L (i + 8) Inv M2 → lawHd (i + 8) M2 Q) : am_Run true 60 279 (am_blk 279 67) [some (.ref 0), some (.ref 9), some (.ref 67), some (.int (nI i))] [] M Q := by
  have hk : am_kd true M 0 = (20, L) := hM.2.1
  repeat (first | (refine riald hk (by (first | omega | (simp (disch := omega) only [nI_toInt, nM_toInt]; omega))) (by omega) ?_) | (refine riaddN ?_) | (refine rimulN ?_) | (refine r1 rfl ?_) | (refine rgoto rfl ?_) | (refine rfall rfl ?_) | (refine re1 ?_) | (refine re0 ?_) | (refine rn1 ?_) | (refine rn0 ?_) | (refine rend rfl rfl ?_))
  refine rcall rfl rfl rfl (fr_run hM.2.2.1 (ho M (mI M 0 (i + 1)) (mI M 0 (i + 2)) (mI M 0 (i + 3)) hM.1)) (fun r M1 h1 => ?_)
  obtain ⟨⟨v, rfl, h1⟩, f1⟩ := h1
  have hk1 : am_kd true M1 0 = (20, L) := ((f1.2 0 (by omega)).2.2.2).trans hk
  have hi1 := (f1.2 0 (by omega)).1
  repeat (first | (refine riald hk1 (by (first | omega | (simp (disch := omega) only [nI_toInt, nM_toInt]; omega))) (by omega) ?_) | (refine riaddN ?_) | (refine rimulN ?_) | (refine r1 rfl ?_) | (refine rgoto rfl ?_) | (refine rfall rfl ?_) | (refine re1 ?_) | (refine re0 ?_) | (refine rn1 ?_) | (refine rn0 ?_) | (refine rend rfl rfl ?_))
  simp only [hi1]
  refine rcall rfl rfl rfl (fr_run (Nat.le_trans hM.2.2.1 f1.1) h1) (fun r' M2 h2 => ?_)
  obtain ⟨⟨rfl, h2⟩, f2⟩ := h2
  exact law_end (by omega) ih (law_next hM f1 f2 h2)
set_option maxRecDepth 100000 in
theorem law_trip (ho : okOp_trip Inv) (hM : lawAt L i Inv M) (hL : i + 8 ≤ L) (hL2 : L ≤ 4096) (ih : ∀ M2, lawAt L (i + 8) Inv M2 → lawHd (i + 8) M2 Q) : am_Run true 60 279 (am_blk 279 69) [some (.ref 0), some (.ref 9), some (.ref 67), some (.int (nI i))] [] M Q := by
  have hk : am_kd true M 0 = (20, L) := hM.2.1
  repeat (first | (refine riald hk (by (first | omega | (simp (disch := omega) only [nI_toInt, nM_toInt]; omega))) (by omega) ?_) | (refine riaddN ?_) | (refine rimulN ?_) | (refine r1 rfl ?_) | (refine rgoto rfl ?_) | (refine rfall rfl ?_) | (refine re1 ?_) | (refine re0 ?_) | (refine rn1 ?_) | (refine rn0 ?_) | (refine rend rfl rfl ?_))
  refine rcall rfl rfl rfl (fr_run hM.2.2.1 (ho M (mI M 0 (i + 1)) (mI M 0 (i + 2)) hM.1)) (fun r M1 h1 => ?_)
  obtain ⟨⟨v, rfl, h1⟩, f1⟩ := h1
  have hk1 : am_kd true M1 0 = (20, L) := ((f1.2 0 (by omega)).2.2.2).trans hk
  have hi1 := (f1.2 0 (by omega)).1
  repeat (first | (refine riald hk1 (by (first | omega | (simp (disch := omega) only [nI_toInt, nM_toInt]; omega))) (by omega) ?_) | (refine riaddN ?_) | (refine rimulN ?_) | (refine r1 rfl ?_) | (refine rgoto rfl ?_) | (refine rfall rfl ?_) | (refine re1 ?_) | (refine re0 ?_) | (refine rn1 ?_) | (refine rn0 ?_) | (refine rend rfl rfl ?_))
  simp only [hi1]
  refine rcall rfl rfl rfl (fr_run (Nat.le_trans hM.2.2.1 f1.1) h1) (fun r' M2 h2 => ?_)
  obtain ⟨⟨rfl, h2⟩, f2⟩ := h2
  exact law_end (by omega) ih (law_next hM f1 f2 h2)
set_option maxRecDepth 100000 in
theorem law_best (ho : okOp_best Inv) (hM : lawAt L i Inv M) (hL : i + 8 ≤ L) (hL2 : L ≤ 4096) (ih : ∀ M2, lawAt L (i + 8) Inv M2 → lawHd (i + 8) M2 Q) : am_Run true 60 279 (am_blk 279 71) [some (.ref 0), some (.ref 9), some (.ref 67), some (.int (nI i))] [] M Q := by
  have hk : am_kd true M 0 = (20, L) := hM.2.1
  repeat (first | (refine riald hk (by (first | omega | (simp (disch := omega) only [nI_toInt, nM_toInt]; omega))) (by omega) ?_) | (refine riaddN ?_) | (refine rimulN ?_) | (refine r1 rfl ?_) | (refine rgoto rfl ?_) | (refine rfall rfl ?_) | (refine re1 ?_) | (refine re0 ?_) | (refine rn1 ?_) | (refine rn0 ?_) | (refine rend rfl rfl ?_))
  refine rcall rfl rfl rfl (fr_run hM.2.2.1 (ho M (mI M 0 (i + 1)) hM.1)) (fun r M1 h1 => ?_)
  obtain ⟨⟨v, rfl, h1⟩, f1⟩ := h1
  have hk1 : am_kd true M1 0 = (20, L) := ((f1.2 0 (by omega)).2.2.2).trans hk
  have hi1 := (f1.2 0 (by omega)).1
  repeat (first | (refine riald hk1 (by (first | omega | (simp (disch := omega) only [nI_toInt, nM_toInt]; omega))) (by omega) ?_) | (refine riaddN ?_) | (refine rimulN ?_) | (refine r1 rfl ?_) | (refine rgoto rfl ?_) | (refine rfall rfl ?_) | (refine re1 ?_) | (refine re0 ?_) | (refine rn1 ?_) | (refine rn0 ?_) | (refine rend rfl rfl ?_))
  simp only [hi1]
  refine rcall rfl rfl rfl (fr_run (Nat.le_trans hM.2.2.1 f1.1) h1) (fun r' M2 h2 => ?_)
  obtain ⟨⟨rfl, h2⟩, f2⟩ := h2
  exact law_end (by omega) ih (law_next hM f1 f2 h2)
set_option maxRecDepth 100000 in
theorem law_feed (ho : okOp_feed Inv) (hM : lawAt L i Inv M) (hL : i + 8 ≤ L) (hL2 : L ≤ 4096) (ih : ∀ M2, lawAt L (i + 8) Inv M2 → lawHd (i + 8) M2 Q) : am_Run true 60 279 (am_blk 279 73) [some (.ref 0), some (.ref 9), some (.ref 67), some (.int (nI i))] [] M Q := by
  have hk : am_kd true M 0 = (20, L) := hM.2.1
  repeat (first | (refine riald hk (by (first | omega | (simp (disch := omega) only [nI_toInt, nM_toInt]; omega))) (by omega) ?_) | (refine riaddN ?_) | (refine rimulN ?_) | (refine r1 rfl ?_) | (refine rgoto rfl ?_) | (refine rfall rfl ?_) | (refine re1 ?_) | (refine re0 ?_) | (refine rn1 ?_) | (refine rn0 ?_) | (refine rend rfl rfl ?_))
  refine rcall rfl rfl rfl (fr_run hM.2.2.1 (ho M (mI M 0 (i + 1)) (mI M 0 (i + 2)) (mI M 0 (i + 3)) (mI M 0 (i + 4)) (mI M 0 (i + 5)) hM.1)) (fun r M1 h1 => ?_)
  obtain ⟨⟨v, rfl, h1⟩, f1⟩ := h1
  have hk1 : am_kd true M1 0 = (20, L) := ((f1.2 0 (by omega)).2.2.2).trans hk
  have hi1 := (f1.2 0 (by omega)).1
  repeat (first | (refine riald hk1 (by (first | omega | (simp (disch := omega) only [nI_toInt, nM_toInt]; omega))) (by omega) ?_) | (refine riaddN ?_) | (refine rimulN ?_) | (refine r1 rfl ?_) | (refine rgoto rfl ?_) | (refine rfall rfl ?_) | (refine re1 ?_) | (refine re0 ?_) | (refine rn1 ?_) | (refine rn0 ?_) | (refine rend rfl rfl ?_))
  simp only [hi1]
  refine rcall rfl rfl rfl (fr_run (Nat.le_trans hM.2.2.1 f1.1) h1) (fun r' M2 h2 => ?_)
  obtain ⟨⟨rfl, h2⟩, f2⟩ := h2
  exact law_end (by omega) ih (law_next hM f1 f2 h2)
set_option maxRecDepth 100000 in
theorem law_rules (ho : okOp_rules Inv) (hM : lawAt L i Inv M) (hL : i + 8 ≤ L) (hL2 : L ≤ 4096) (ih : ∀ M2, lawAt L (i + 8) Inv M2 → lawHd (i + 8) M2 Q) : am_Run true 60 279 (am_blk 279 75) [some (.ref 0), some (.ref 9), some (.ref 67), some (.int (nI i))] [] M Q := by
  have hk : am_kd true M 0 = (20, L) := hM.2.1
  repeat (first | (refine riald hk (by (first | omega | (simp (disch := omega) only [nI_toInt, nM_toInt]; omega))) (by omega) ?_) | (refine riaddN ?_) | (refine rimulN ?_) | (refine r1 rfl ?_) | (refine rgoto rfl ?_) | (refine rfall rfl ?_) | (refine re1 ?_) | (refine re0 ?_) | (refine rn1 ?_) | (refine rn0 ?_) | (refine rend rfl rfl ?_))
  refine rcall rfl rfl rfl (fr_run hM.2.2.1 (ho M (mI M 0 (i + 1)) hM.1)) (fun r M1 h1 => ?_)
  obtain ⟨⟨v, rfl, h1⟩, f1⟩ := h1
  have hk1 : am_kd true M1 0 = (20, L) := ((f1.2 0 (by omega)).2.2.2).trans hk
  have hi1 := (f1.2 0 (by omega)).1
  repeat (first | (refine riald hk1 (by (first | omega | (simp (disch := omega) only [nI_toInt, nM_toInt]; omega))) (by omega) ?_) | (refine riaddN ?_) | (refine rimulN ?_) | (refine r1 rfl ?_) | (refine rgoto rfl ?_) | (refine rfall rfl ?_) | (refine re1 ?_) | (refine re0 ?_) | (refine rn1 ?_) | (refine rn0 ?_) | (refine rend rfl rfl ?_))
  simp only [hi1]
  refine rcall rfl rfl rfl (fr_run (Nat.le_trans hM.2.2.1 f1.1) h1) (fun r' M2 h2 => ?_)
  obtain ⟨⟨rfl, h2⟩, f2⟩ := h2
  exact law_end (by omega) ih (law_next hM f1 f2 h2)
set_option maxRecDepth 100000 in
theorem law_beside (ho : okOp_beside Inv) (hM : lawAt L i Inv M) (hL : i + 8 ≤ L) (hL2 : L ≤ 4096) (ih : ∀ M2, lawAt L (i + 8) Inv M2 → lawHd (i + 8) M2 Q) : am_Run true 60 279 (am_blk 279 77) [some (.ref 0), some (.ref 9), some (.ref 67), some (.int (nI i))] [] M Q := by
  have hk : am_kd true M 0 = (20, L) := hM.2.1
  repeat (first | (refine riald hk (by (first | omega | (simp (disch := omega) only [nI_toInt, nM_toInt]; omega))) (by omega) ?_) | (refine riaddN ?_) | (refine rimulN ?_) | (refine r1 rfl ?_) | (refine rgoto rfl ?_) | (refine rfall rfl ?_) | (refine re1 ?_) | (refine re0 ?_) | (refine rn1 ?_) | (refine rn0 ?_) | (refine rend rfl rfl ?_))
  refine rcall rfl rfl rfl (fr_run hM.2.2.1 (ho M (mI M 0 (i + 1)) hM.1)) (fun r M1 h1 => ?_)
  obtain ⟨⟨v, rfl, h1⟩, f1⟩ := h1
  have hk1 : am_kd true M1 0 = (20, L) := ((f1.2 0 (by omega)).2.2.2).trans hk
  have hi1 := (f1.2 0 (by omega)).1
  repeat (first | (refine riald hk1 (by (first | omega | (simp (disch := omega) only [nI_toInt, nM_toInt]; omega))) (by omega) ?_) | (refine riaddN ?_) | (refine rimulN ?_) | (refine r1 rfl ?_) | (refine rgoto rfl ?_) | (refine rfall rfl ?_) | (refine re1 ?_) | (refine re0 ?_) | (refine rn1 ?_) | (refine rn0 ?_) | (refine rend rfl rfl ?_))
  simp only [hi1]
  refine rcall rfl rfl rfl (fr_run (Nat.le_trans hM.2.2.1 f1.1) h1) (fun r' M2 h2 => ?_)
  obtain ⟨⟨rfl, h2⟩, f2⟩ := h2
  exact law_end (by omega) ih (law_next hM f1 f2 h2)
set_option maxRecDepth 100000 in
theorem law_fault (ho : okOp_fault Inv) (hM : lawAt L i Inv M) (hL : i + 8 ≤ L) (hL2 : L ≤ 4096) (ih : ∀ M2, lawAt L (i + 8) Inv M2 → lawHd (i + 8) M2 Q) : am_Run true 60 279 (am_blk 279 79) [some (.ref 0), some (.ref 9), some (.ref 67), some (.int (nI i))] [] M Q := by
  have hk : am_kd true M 0 = (20, L) := hM.2.1
  repeat (first | (refine riald hk (by (first | omega | (simp (disch := omega) only [nI_toInt, nM_toInt]; omega))) (by omega) ?_) | (refine riaddN ?_) | (refine rimulN ?_) | (refine r1 rfl ?_) | (refine rgoto rfl ?_) | (refine rfall rfl ?_) | (refine re1 ?_) | (refine re0 ?_) | (refine rn1 ?_) | (refine rn0 ?_) | (refine rend rfl rfl ?_))
  refine rcall rfl rfl rfl (fr_run hM.2.2.1 (ho M  hM.1)) (fun r M1 h1 => ?_)
  obtain ⟨⟨v, rfl, h1⟩, f1⟩ := h1
  have hk1 : am_kd true M1 0 = (20, L) := ((f1.2 0 (by omega)).2.2.2).trans hk
  have hi1 := (f1.2 0 (by omega)).1
  repeat (first | (refine riald hk1 (by (first | omega | (simp (disch := omega) only [nI_toInt, nM_toInt]; omega))) (by omega) ?_) | (refine riaddN ?_) | (refine rimulN ?_) | (refine r1 rfl ?_) | (refine rgoto rfl ?_) | (refine rfall rfl ?_) | (refine re1 ?_) | (refine re0 ?_) | (refine rn1 ?_) | (refine rn0 ?_) | (refine rend rfl rfl ?_))
  refine rcall rfl rfl rfl (fr_run (Nat.le_trans hM.2.2.1 f1.1) h1) (fun r' M2 h2 => ?_)
  obtain ⟨⟨rfl, h2⟩, f2⟩ := h2
  exact law_end (by omega) ih (law_next hM f1 f2 h2)
set_option maxRecDepth 100000 in
theorem law_home (ho : okOp_home Inv) (hM : lawAt L i Inv M) (hL : i + 8 ≤ L) (hL2 : L ≤ 4096) (ih : ∀ M2, lawAt L (i + 8) Inv M2 → lawHd (i + 8) M2 Q) : am_Run true 60 279 (am_blk 279 81) [some (.ref 0), some (.ref 9), some (.ref 67), some (.int (nI i))] [] M Q := by
  have hk : am_kd true M 0 = (20, L) := hM.2.1
  repeat (first | (refine riald hk (by (first | omega | (simp (disch := omega) only [nI_toInt, nM_toInt]; omega))) (by omega) ?_) | (refine riaddN ?_) | (refine rimulN ?_) | (refine r1 rfl ?_) | (refine rgoto rfl ?_) | (refine rfall rfl ?_) | (refine re1 ?_) | (refine re0 ?_) | (refine rn1 ?_) | (refine rn0 ?_) | (refine rend rfl rfl ?_))
  refine rc_eq (fun hb => ?_) (fun hb => ?_)
  · repeat (first | (refine riald hk (by (first | omega | (simp (disch := omega) only [nI_toInt, nM_toInt]; omega))) (by omega) ?_) | (refine riaddN ?_) | (refine rimulN ?_) | (refine r1 rfl ?_) | (refine rgoto rfl ?_) | (refine rfall rfl ?_) | (refine re1 ?_) | (refine re0 ?_) | (refine rn1 ?_) | (refine rn0 ?_) | (refine rend rfl rfl ?_))
    refine rcall rfl rfl rfl (fr_run hM.2.2.1 (ho M (mI M 0 (i + 1)) 0 hM.1 (by decide))) (fun r M1 h1 => ?_)
    obtain ⟨⟨v, rfl, h1⟩, f1⟩ := h1
    have hk1 : am_kd true M1 0 = (20, L) := ((f1.2 0 (by omega)).2.2.2).trans hk
    have hi1 := (f1.2 0 (by omega)).1
    repeat (first | (refine riald hk1 (by (first | omega | (simp (disch := omega) only [nI_toInt, nM_toInt]; omega))) (by omega) ?_) | (refine riaddN ?_) | (refine rimulN ?_) | (refine r1 rfl ?_) | (refine rgoto rfl ?_) | (refine rfall rfl ?_) | (refine re1 ?_) | (refine re0 ?_) | (refine rn1 ?_) | (refine rn0 ?_) | (refine rend rfl rfl ?_))
    simp only [hi1]
    refine rc_eq (fun hb2 => ?_) (fun hb2 => ?_)
    · repeat (first | (refine riaddN ?_) | (refine rimulN ?_) | (refine r1 rfl ?_) | (refine rgoto rfl ?_) | (refine rfall rfl ?_) | (refine re1 ?_) | (refine re0 ?_) | (refine rn1 ?_) | (refine rn0 ?_) | (refine rend rfl rfl ?_))
      refine rcall rfl rfl rfl (fr_run (Nat.le_trans hM.2.2.1 f1.1) h1) (fun r' M2 h2 => ?_)
      obtain ⟨⟨rfl, h2⟩, f2⟩ := h2
      exact law_end (by omega) ih (law_next hM f1 f2 h2)
    · exact absurd hb hb2
  · repeat (first | (refine riald hk (by (first | omega | (simp (disch := omega) only [nI_toInt, nM_toInt]; omega))) (by omega) ?_) | (refine riaddN ?_) | (refine rimulN ?_) | (refine r1 rfl ?_) | (refine rgoto rfl ?_) | (refine rfall rfl ?_) | (refine re1 ?_) | (refine re0 ?_) | (refine rn1 ?_) | (refine rn0 ?_) | (refine rend rfl rfl ?_))
    refine rcall rfl rfl rfl (fr_run hM.2.2.1 (ho M (mI M 0 (i + 1)) 1 hM.1 (by decide))) (fun r M1 h1 => ?_)
    obtain ⟨⟨v, rfl, h1⟩, f1⟩ := h1
    have hk1 : am_kd true M1 0 = (20, L) := ((f1.2 0 (by omega)).2.2.2).trans hk
    have hi1 := (f1.2 0 (by omega)).1
    repeat (first | (refine riald hk1 (by (first | omega | (simp (disch := omega) only [nI_toInt, nM_toInt]; omega))) (by omega) ?_) | (refine riaddN ?_) | (refine rimulN ?_) | (refine r1 rfl ?_) | (refine rgoto rfl ?_) | (refine rfall rfl ?_) | (refine re1 ?_) | (refine re0 ?_) | (refine rn1 ?_) | (refine rn0 ?_) | (refine rend rfl rfl ?_))
    simp only [hi1]
    refine rc_eq (fun hb2 => ?_) (fun hb2 => ?_)
    · exact absurd hb2 hb
    · repeat (first | (refine riaddN ?_) | (refine rimulN ?_) | (refine r1 rfl ?_) | (refine rgoto rfl ?_) | (refine rfall rfl ?_) | (refine re1 ?_) | (refine re0 ?_) | (refine rn1 ?_) | (refine rn0 ?_) | (refine rend rfl rfl ?_))
      refine rcall rfl rfl rfl (fr_run (Nat.le_trans hM.2.2.1 f1.1) h1) (fun r' M2 h2 => ?_)
      obtain ⟨⟨rfl, h2⟩, f2⟩ := h2
      exact law_end (by omega) ih (law_next hM f1 f2 h2)
set_option maxRecDepth 100000 in
theorem law_would (ho : okOp_would Inv) (hM : lawAt L i Inv M) (hL : i + 8 ≤ L) (hL2 : L ≤ 4096) (ih : ∀ M2, lawAt L (i + 8) Inv M2 → lawHd (i + 8) M2 Q) : am_Run true 60 279 (am_blk 279 89) [some (.ref 0), some (.ref 9), some (.ref 67), some (.int (nI i))] [] M Q := by
  have hk : am_kd true M 0 = (20, L) := hM.2.1
  repeat (first | (refine riald hk (by (first | omega | (simp (disch := omega) only [nI_toInt, nM_toInt]; omega))) (by omega) ?_) | (refine riaddN ?_) | (refine rimulN ?_) | (refine r1 rfl ?_) | (refine rgoto rfl ?_) | (refine rfall rfl ?_) | (refine re1 ?_) | (refine re0 ?_) | (refine rn1 ?_) | (refine rn0 ?_) | (refine rend rfl rfl ?_))
  refine rcall rfl rfl rfl (fr_run hM.2.2.1 (ho M (mI M 0 (i + 1)) (mI M 0 (i + 2)) hM.1)) (fun r M1 h1 => ?_)
  obtain ⟨⟨v, rfl, h1⟩, f1⟩ := h1
  have hk1 : am_kd true M1 0 = (20, L) := ((f1.2 0 (by omega)).2.2.2).trans hk
  have hi1 := (f1.2 0 (by omega)).1
  repeat (first | (refine riald hk1 (by (first | omega | (simp (disch := omega) only [nI_toInt, nM_toInt]; omega))) (by omega) ?_) | (refine riaddN ?_) | (refine rimulN ?_) | (refine r1 rfl ?_) | (refine rgoto rfl ?_) | (refine rfall rfl ?_) | (refine re1 ?_) | (refine re0 ?_) | (refine rn1 ?_) | (refine rn0 ?_) | (refine rend rfl rfl ?_))
  simp only [hi1]
  refine rcall rfl rfl rfl (fr_run (Nat.le_trans hM.2.2.1 f1.1) h1) (fun r' M2 h2 => ?_)
  obtain ⟨⟨rfl, h2⟩, f2⟩ := h2
  exact law_end (by omega) ih (law_next hM f1 f2 h2)
set_option maxRecDepth 100000 in
theorem law_tried (ho : okOp_tried Inv) (hM : lawAt L i Inv M) (hL : i + 8 ≤ L) (hL2 : L ≤ 4096) (ih : ∀ M2, lawAt L (i + 8) Inv M2 → lawHd (i + 8) M2 Q) : am_Run true 60 279 (am_blk 279 91) [some (.ref 0), some (.ref 9), some (.ref 67), some (.int (nI i))] [] M Q := by
  have hk : am_kd true M 0 = (20, L) := hM.2.1
  repeat (first | (refine riald hk (by (first | omega | (simp (disch := omega) only [nI_toInt, nM_toInt]; omega))) (by omega) ?_) | (refine riaddN ?_) | (refine rimulN ?_) | (refine r1 rfl ?_) | (refine rgoto rfl ?_) | (refine rfall rfl ?_) | (refine re1 ?_) | (refine re0 ?_) | (refine rn1 ?_) | (refine rn0 ?_) | (refine rend rfl rfl ?_))
  refine rcall rfl rfl rfl (fr_run hM.2.2.1 (ho M (mI M 0 (i + 1)) (mI M 0 (i + 2)) hM.1)) (fun r M1 h1 => ?_)
  obtain ⟨⟨v, rfl, h1⟩, f1⟩ := h1
  have hk1 : am_kd true M1 0 = (20, L) := ((f1.2 0 (by omega)).2.2.2).trans hk
  have hi1 := (f1.2 0 (by omega)).1
  repeat (first | (refine riald hk1 (by (first | omega | (simp (disch := omega) only [nI_toInt, nM_toInt]; omega))) (by omega) ?_) | (refine riaddN ?_) | (refine rimulN ?_) | (refine r1 rfl ?_) | (refine rgoto rfl ?_) | (refine rfall rfl ?_) | (refine re1 ?_) | (refine re0 ?_) | (refine rn1 ?_) | (refine rn0 ?_) | (refine rend rfl rfl ?_))
  simp only [hi1]
  refine rcall rfl rfl rfl (fr_run (Nat.le_trans hM.2.2.1 f1.1) h1) (fun r' M2 h2 => ?_)
  obtain ⟨⟨rfl, h2⟩, f2⟩ := h2
  exact law_end (by omega) ih (law_next hM f1 f2 h2)
set_option maxRecDepth 100000 in
theorem law_quarrel (ho : okOp_quarrel Inv) (hM : lawAt L i Inv M) (hL : i + 8 ≤ L) (hL2 : L ≤ 4096) (ih : ∀ M2, lawAt L (i + 8) Inv M2 → lawHd (i + 8) M2 Q) : am_Run true 60 279 (am_blk 279 93) [some (.ref 0), some (.ref 9), some (.ref 67), some (.int (nI i))] [] M Q := by
  have hk : am_kd true M 0 = (20, L) := hM.2.1
  repeat (first | (refine riald hk (by (first | omega | (simp (disch := omega) only [nI_toInt, nM_toInt]; omega))) (by omega) ?_) | (refine riaddN ?_) | (refine rimulN ?_) | (refine r1 rfl ?_) | (refine rgoto rfl ?_) | (refine rfall rfl ?_) | (refine re1 ?_) | (refine re0 ?_) | (refine rn1 ?_) | (refine rn0 ?_) | (refine rend rfl rfl ?_))
  refine rcall rfl rfl rfl (fr_run hM.2.2.1 (ho M (mI M 0 (i + 1)) (mI M 0 (i + 2)) hM.1)) (fun r M1 h1 => ?_)
  obtain ⟨⟨v, rfl, h1⟩, f1⟩ := h1
  have hk1 : am_kd true M1 0 = (20, L) := ((f1.2 0 (by omega)).2.2.2).trans hk
  have hi1 := (f1.2 0 (by omega)).1
  repeat (first | (refine riald hk1 (by (first | omega | (simp (disch := omega) only [nI_toInt, nM_toInt]; omega))) (by omega) ?_) | (refine riaddN ?_) | (refine rimulN ?_) | (refine r1 rfl ?_) | (refine rgoto rfl ?_) | (refine rfall rfl ?_) | (refine re1 ?_) | (refine re0 ?_) | (refine rn1 ?_) | (refine rn0 ?_) | (refine rend rfl rfl ?_))
  simp only [hi1]
  refine rcall rfl rfl rfl (fr_run (Nat.le_trans hM.2.2.1 f1.1) h1) (fun r' M2 h2 => ?_)
  obtain ⟨⟨rfl, h2⟩, f2⟩ := h2
  exact law_end (by omega) ih (law_next hM f1 f2 h2)
set_option maxRecDepth 100000 in
theorem law_paid (ho : okOp_paid Inv) (hM : lawAt L i Inv M) (hL : i + 8 ≤ L) (hL2 : L ≤ 4096) (ih : ∀ M2, lawAt L (i + 8) Inv M2 → lawHd (i + 8) M2 Q) : am_Run true 60 279 (am_blk 279 95) [some (.ref 0), some (.ref 9), some (.ref 67), some (.int (nI i))] [] M Q := by
  have hk : am_kd true M 0 = (20, L) := hM.2.1
  repeat (first | (refine riald hk (by (first | omega | (simp (disch := omega) only [nI_toInt, nM_toInt]; omega))) (by omega) ?_) | (refine riaddN ?_) | (refine rimulN ?_) | (refine r1 rfl ?_) | (refine rgoto rfl ?_) | (refine rfall rfl ?_) | (refine re1 ?_) | (refine re0 ?_) | (refine rn1 ?_) | (refine rn0 ?_) | (refine rend rfl rfl ?_))
  refine rcall rfl rfl rfl (fr_run hM.2.2.1 (ho M (mI M 0 (i + 1)) (mI M 0 (i + 2)) hM.1)) (fun r M1 h1 => ?_)
  obtain ⟨⟨v, rfl, h1⟩, f1⟩ := h1
  have hk1 : am_kd true M1 0 = (20, L) := ((f1.2 0 (by omega)).2.2.2).trans hk
  have hi1 := (f1.2 0 (by omega)).1
  repeat (first | (refine riald hk1 (by (first | omega | (simp (disch := omega) only [nI_toInt, nM_toInt]; omega))) (by omega) ?_) | (refine riaddN ?_) | (refine rimulN ?_) | (refine r1 rfl ?_) | (refine rgoto rfl ?_) | (refine rfall rfl ?_) | (refine re1 ?_) | (refine re0 ?_) | (refine rn1 ?_) | (refine rn0 ?_) | (refine rend rfl rfl ?_))
  simp only [hi1]
  refine rcall rfl rfl rfl (fr_run (Nat.le_trans hM.2.2.1 f1.1) h1) (fun r' M2 h2 => ?_)
  obtain ⟨⟨rfl, h2⟩, f2⟩ := h2
  exact law_end (by omega) ih (law_next hM f1 f2 h2)
set_option maxRecDepth 100000 in
theorem law_count (ho : okOp_count Inv) (hM : lawAt L i Inv M) (hL : i + 8 ≤ L) (hL2 : L ≤ 4096) (ih : ∀ M2, lawAt L (i + 8) Inv M2 → lawHd (i + 8) M2 Q) : am_Run true 60 279 (am_blk 279 97) [some (.ref 0), some (.ref 9), some (.ref 67), some (.int (nI i))] [] M Q := by
  have hk : am_kd true M 0 = (20, L) := hM.2.1
  repeat (first | (refine riald hk (by (first | omega | (simp (disch := omega) only [nI_toInt, nM_toInt]; omega))) (by omega) ?_) | (refine riaddN ?_) | (refine rimulN ?_) | (refine r1 rfl ?_) | (refine rgoto rfl ?_) | (refine rfall rfl ?_) | (refine re1 ?_) | (refine re0 ?_) | (refine rn1 ?_) | (refine rn0 ?_) | (refine rend rfl rfl ?_))
  refine rcall rfl rfl rfl (fr_run hM.2.2.1 (ho M (mI M 0 (i + 1)) hM.1)) (fun r M1 h1 => ?_)
  obtain ⟨⟨v, rfl, h1⟩, f1⟩ := h1
  have hk1 : am_kd true M1 0 = (20, L) := ((f1.2 0 (by omega)).2.2.2).trans hk
  have hi1 := (f1.2 0 (by omega)).1
  repeat (first | (refine riald hk1 (by (first | omega | (simp (disch := omega) only [nI_toInt, nM_toInt]; omega))) (by omega) ?_) | (refine riaddN ?_) | (refine rimulN ?_) | (refine r1 rfl ?_) | (refine rgoto rfl ?_) | (refine rfall rfl ?_) | (refine re1 ?_) | (refine re0 ?_) | (refine rn1 ?_) | (refine rn0 ?_) | (refine rend rfl rfl ?_))
  simp only [hi1]
  refine rcall rfl rfl rfl (fr_run (Nat.le_trans hM.2.2.1 f1.1) h1) (fun r' M2 h2 => ?_)
  obtain ⟨⟨rfl, h2⟩, f2⟩ := h2
  exact law_end (by omega) ih (law_next hM f1 f2 h2)
end LAW
