/-! runs of the abstract machine -/
theorem am_exec_succ (b : Bool) : ∀ (f d z : Nat) (code : List Instr) (lv : am_L) (st : List Value) (M : am_M) (x : Option Value × am_M), am_exec b f d z code lv st M = some x → am_exec b (f + 1) d z code lv st M = some x := by
  intro f
  induction f with
  | zero => intro d z code lv st M x h; simp [am_exec] at h
  | succ f ih =>
    intro d z code lv st M x h
    cases code with
    | nil => simp [am_exec] at h
    | cons ins rest =>
      rw [am_exec_cons] at h ⊢
      unfold am_one at h ⊢
      rcases hs : am_step b z ins lv st M with _ | ⟨_ | t, lv', st', M'⟩
      · rw [hs] at h
        dsimp only at h ⊢
        rcases he : am_end z ins st with _ | r
        · rw [he] at h
          dsimp only at h ⊢
          cases d with
          | zero => simp at h
          | succ d' =>
            dsimp only at h ⊢
            rcases hc : am_call b ins st M with _ | ⟨z', as, rs⟩
            · rw [hc] at h; simp at h
            · rw [hc] at h
              dsimp only at h ⊢
              rcases hx : am_exec b f d' z' (am_blk z' 0) (am_ent z' as) [] M with _ | ⟨r, M'⟩
              · rw [hx] at h; simp at h
              · rw [hx] at h
                rw [ih _ _ _ _ _ _ _ hx]
                exact ih _ _ _ _ _ _ _ h
        · rw [he] at h
          exact h
      · rw [hs] at h
        exact ih _ _ _ _ _ _ _ h
      · rw [hs] at h
        exact ih _ _ _ _ _ _ _ h
theorem am_exec_mono (b : Bool) {f g d z : Nat} {code : List Instr} {lv : am_L} {st : List Value} {M : am_M} {x : Option Value × am_M} (hfg : f ≤ g) (h : am_exec b f d z code lv st M = some x) : am_exec b g d z code lv st M = some x := by
  obtain ⟨k, rfl⟩ := Nat.le.dest hfg
  induction k with
  | zero => exact h
  | succ k ih => exact am_exec_succ b _ _ _ _ _ _ _ _ (ih (Nat.le_add_right _ _))
def am_Run (b : Bool) (d z : Nat) (code : List Instr) (lv : am_L) (st : List Value) (M : am_M) (Q : Option Value → am_M → Prop) : Prop :=
  ∃ (f : Nat) (r : Option Value) (M' : am_M), am_exec b f d z code lv st M = some (r, M') ∧ Q r M'
def am_Call (b : Bool) (d z : Nat) (as : List Value) (M : am_M) (Q : Option Value → am_M → Prop) : Prop := am_Run b d z (am_blk z 0) (am_ent z as) [] M Q
section AMR
variable {b : Bool} {d z : Nat} {ins : Instr} {rest : List Instr} {lv lv' : am_L} {st st' : List Value} {M M' : am_M} {Q : Option Value → am_M → Prop}
theorem r1 (h : am_step b z ins lv st M = some (none, lv', st', M')) (k : am_Run b d z rest lv' st' M' Q) : am_Run b d z (ins :: rest) lv st M Q := by
  obtain ⟨f, r, N, h1, h2⟩ := k
  exact ⟨f + 1, r, N, by rw [am_exec_cons]; unfold am_one; rw [h]; exact h1, h2⟩
theorem rj {t : Nat} (h : am_step b z ins lv st M = some (some t, lv', st', M')) (k : am_Run b d z (am_blk z t) lv' st' M' Q) : am_Run b d z (ins :: rest) lv st M Q := by
  obtain ⟨f, r, N, h1, h2⟩ := k
  exact ⟨f + 1, r, N, by rw [am_exec_cons]; unfold am_one; rw [h]; exact h1, h2⟩
theorem rgo {t : Nat} {code : List Instr} (h : am_step b z ins lv st M = some (some t, lv', st', M')) (hc : am_blk z t = code) (k : am_Run b d z code lv' st' M' Q) : am_Run b d z (ins :: rest) lv st M Q := rj h (hc ▸ k)
theorem rgoto {t : Int} {code : List Instr} (hc : am_blk z t.toNat = code) (k : am_Run b d z code lv st M Q) : am_Run b d z (.goto t :: rest) lv st M Q := rgo rfl hc k
theorem rfall {t : Int} {code : List Instr} (hc : am_blk z t.toNat = code) (k : am_Run b d z code lv st M Q) : am_Run b d z (.goto_w t :: rest) lv st M Q := rgo rfl hc k
theorem rback {t : Int} (k : am_Run b d z (am_blk z t.toNat) lv st M Q) : am_Run b d z (.jsr_w t :: rest) lv st M Q := rj rfl k
theorem rhead {t : Nat} (k : am_Run b d z (am_blk z t) lv st M Q) : am_Run b d z (.ret t :: rest) lv st M Q := rj rfl k
theorem rend {r : Option Value} (h0 : am_step b z ins lv st M = none) (h : am_end z ins st = some r) (k : Q r M) : am_Run b d z (ins :: rest) lv st M Q :=
  ⟨1, r, M, by rw [am_exec_cons]; unfold am_one; rw [h0]; dsimp only; rw [h], k⟩
theorem rcond {c : Jvm.ClassFile.Cond} {t : Int} {x y : Int32} (k1 : am_cmp c x y = true → am_Run b d z (am_blk z t.toNat) lv st M Q) (k2 : am_cmp c x y = false → am_Run b d z rest lv st M Q) : am_Run b d z (.if_icmp c t :: rest) lv (.int y :: .int x :: st) M Q := by
  cases h : am_cmp c x y with
  | true => exact rj (t := t.toNat) (by rw [am_step]; simp [h, am_jmp]) (k1 h)
  | false => exact r1 (by rw [am_step]; simp [h, am_jmp]) (k2 h)
theorem rcond0 {c : Jvm.ClassFile.Cond} {t : Int} {x : Int32} (k1 : am_cmp c x 0 = true → am_Run b d z (am_blk z t.toNat) lv st M Q) (k2 : am_cmp c x 0 = false → am_Run b d z rest lv st M Q) : am_Run b d z (.ifCond c t :: rest) lv (.int x :: st) M Q := by
  cases h : am_cmp c x 0 with
  | true => exact rj (t := t.toNat) (by rw [am_step]; simp [h, am_jmp]) (k1 h)
  | false => exact r1 (by rw [am_step]; simp [h, am_jmp]) (k2 h)
theorem ri_lt {t : Int} {x y : Int32} (k1 : x < y → am_Run b d z (am_blk z t.toNat) lv st M Q) (k2 : ¬ x < y → am_Run b d z rest lv st M Q) : am_Run b d z (.if_icmp .lt t :: rest) lv (.int y :: .int x :: st) M Q := rcond (fun h => k1 (by simpa [am_cmp] using h)) (fun h => k2 (by simpa [am_cmp] using h))
theorem ri_ge {t : Int} {x y : Int32} (k1 : ¬ x < y → am_Run b d z (am_blk z t.toNat) lv st M Q) (k2 : x < y → am_Run b d z rest lv st M Q) : am_Run b d z (.if_icmp .ge t :: rest) lv (.int y :: .int x :: st) M Q := rcond (fun h => k1 (by simpa [am_cmp] using h)) (fun h => k2 (by simpa [am_cmp] using h))
theorem ri_gt {t : Int} {x y : Int32} (k1 : y < x → am_Run b d z (am_blk z t.toNat) lv st M Q) (k2 : ¬ y < x → am_Run b d z rest lv st M Q) : am_Run b d z (.if_icmp .gt t :: rest) lv (.int y :: .int x :: st) M Q := rcond (fun h => k1 (by simpa [am_cmp] using h)) (fun h => k2 (by simpa [am_cmp] using h))
theorem ri_le {t : Int} {x y : Int32} (k1 : ¬ y < x → am_Run b d z (am_blk z t.toNat) lv st M Q) (k2 : y < x → am_Run b d z rest lv st M Q) : am_Run b d z (.if_icmp .le t :: rest) lv (.int y :: .int x :: st) M Q := rcond (fun h => k1 (by simpa [am_cmp] using h)) (fun h => k2 (by simpa [am_cmp] using h))
theorem ri_eq {t : Int} {x y : Int32} (k1 : x = y → am_Run b d z (am_blk z t.toNat) lv st M Q) (k2 : ¬ x = y → am_Run b d z rest lv st M Q) : am_Run b d z (.if_icmp .eq t :: rest) lv (.int y :: .int x :: st) M Q := rcond (fun h => k1 (by simpa [am_cmp] using h)) (fun h => k2 (by simpa [am_cmp] using h))
theorem ri_ne {t : Int} {x y : Int32} (k1 : ¬ x = y → am_Run b d z (am_blk z t.toNat) lv st M Q) (k2 : x = y → am_Run b d z rest lv st M Q) : am_Run b d z (.if_icmp .ne t :: rest) lv (.int y :: .int x :: st) M Q := rcond (fun h => k1 (by simpa [am_cmp] using h)) (fun h => k2 (by simpa [am_cmp] using h))
theorem rz_lt {t : Int} {x : Int32} (k1 : x < 0 → am_Run b d z (am_blk z t.toNat) lv st M Q) (k2 : ¬ x < 0 → am_Run b d z rest lv st M Q) : am_Run b d z (.ifCond .lt t :: rest) lv (.int x :: st) M Q := rcond0 (fun h => k1 (by simpa [am_cmp] using h)) (fun h => k2 (by simpa [am_cmp] using h))
theorem rz_ge {t : Int} {x : Int32} (k1 : ¬ x < 0 → am_Run b d z (am_blk z t.toNat) lv st M Q) (k2 : x < 0 → am_Run b d z rest lv st M Q) : am_Run b d z (.ifCond .ge t :: rest) lv (.int x :: st) M Q := rcond0 (fun h => k1 (by simpa [am_cmp] using h)) (fun h => k2 (by simpa [am_cmp] using h))
theorem rz_gt {t : Int} {x : Int32} (k1 : 0 < x → am_Run b d z (am_blk z t.toNat) lv st M Q) (k2 : ¬ 0 < x → am_Run b d z rest lv st M Q) : am_Run b d z (.ifCond .gt t :: rest) lv (.int x :: st) M Q := rcond0 (fun h => k1 (by simpa [am_cmp] using h)) (fun h => k2 (by simpa [am_cmp] using h))
theorem rz_le {t : Int} {x : Int32} (k1 : ¬ 0 < x → am_Run b d z (am_blk z t.toNat) lv st M Q) (k2 : 0 < x → am_Run b d z rest lv st M Q) : am_Run b d z (.ifCond .le t :: rest) lv (.int x :: st) M Q := rcond0 (fun h => k1 (by simpa [am_cmp] using h)) (fun h => k2 (by simpa [am_cmp] using h))
theorem rz_eq {t : Int} {x : Int32} (k1 : x = 0 → am_Run b d z (am_blk z t.toNat) lv st M Q) (k2 : ¬ x = 0 → am_Run b d z rest lv st M Q) : am_Run b d z (.ifCond .eq t :: rest) lv (.int x :: st) M Q := rcond0 (fun h => k1 (by simpa [am_cmp] using h)) (fun h => k2 (by simpa [am_cmp] using h))
theorem rz_ne {t : Int} {x : Int32} (k1 : ¬ x = 0 → am_Run b d z (am_blk z t.toNat) lv st M Q) (k2 : x = 0 → am_Run b d z rest lv st M Q) : am_Run b d z (.ifCond .ne t :: rest) lv (.int x :: st) M Q := rcond0 (fun h => k1 (by simpa [am_cmp] using h)) (fun h => k2 (by simpa [am_cmp] using h))
theorem rcall {z' : Nat} {as rs : List Value} {Q' : Option Value → am_M → Prop} (h0 : am_step b z ins lv st M = none) (h1 : am_end z ins st = none) (h2 : am_call b ins st M = some (z', as, rs)) (c : am_Call b d z' as M Q') (k : ∀ (r : Option Value) (M' : am_M), Q' r M' → am_Run b (d + 1) z rest lv (r.toList ++ rs) M' Q) : am_Run b (d + 1) z (ins :: rest) lv st M Q := by
  obtain ⟨f1, r1, M1, e1, q1⟩ := c
  obtain ⟨f2, r2, M2, e2, q2⟩ := k r1 M1 q1
  refine ⟨f1 + f2 + 1, r2, M2, ?_, q2⟩
  rw [am_exec_cons]
  unfold am_one
  rw [h0]
  dsimp only
  rw [h1]
  dsimp only
  rw [h2]
  dsimp only
  rw [am_exec_mono b (Nat.le_add_right f1 f2) e1]
  dsimp only
  exact am_exec_mono b (Nat.le_add_left f2 f1) e2
theorem am_Run.mono {code : List Instr} {Q' : Option Value → am_M → Prop} (h : am_Run b d z code lv st M Q) (hq : ∀ r M', Q r M' → Q' r M') : am_Run b d z code lv st M Q' := by
  obtain ⟨f, r, N, h1, h2⟩ := h
  exact ⟨f, r, N, h1, hq _ _ h2⟩
end AMR
def b2i (p : Prop) [Decidable p] : Int32 := if p then 1 else 0
