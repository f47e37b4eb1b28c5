/-! rows of the abstract machine with indices that are Nat; numbers -/
def isC (n : Nat) (c : Int32) : Prop := 0 ≤ c.toInt ∧ c.toInt < n
theorem nI_ix {n : Nat} {c : Int32} (h : isC n c) (hn : n ≤ 2147483648) : ¬ (c < 0 ∨ n ≤ c.toNatClampNeg) := by
  obtain ⟨h1, h2⟩ := h
  intro q
  rcases q with q | q
  · rw [Int32.lt_iff_toInt_lt] at q
    simp at q
    omega
  · have : c.toNatClampNeg = c.toInt.toNat := rfl
    omega
theorem nI_isC {n k : Nat} (h : k < n) (hn : n ≤ 2147483648) : isC n (nI k) := by
  unfold isC
  rw [nI_toInt (by omega)]
  omega
theorem isC_nI {n : Nat} {c : Int32} (h : isC n c) : c = nI c.toNatClampNeg := by
  obtain ⟨h1, h2⟩ := h
  apply Int32.toInt_inj.mp
  have h3 : c.toNatClampNeg = c.toInt.toNat := rfl
  have h4 : c.toInt < 2 ^ 31 := Int32.toInt_lt c
  rw [nI_toInt (by omega)]
  omega
section ROWS
variable {b : Bool} {d z : Nat} {rest : List Instr} {lv : am_L} {st : List Value} {M : am_M} {Q : Option Value → am_M → Prop} {i n k : Nat}
theorem nI_ck (hk : k < n) (hn : n ≤ 2147483648) : ¬ (nI k < 0 ∨ n ≤ (nI k).toNatClampNeg) := nI_ix (nI_isC hk hn) hn
theorem riald (h : am_kd b M i = (20, n)) (hk : k < n) (hn : n ≤ 2147483648) (kk : am_Run b d z rest lv (.int (mI M i k) :: st) M Q) : am_Run b d z (.iaload :: rest) lv (.int (nI k) :: .ref i :: st) M Q := by
  refine r1 ?_ kk
  show (if (am_kd b M i).1 = 20 ∧ ¬ (nI k < 0 ∨ (am_kd b M i).2 ≤ (nI k).toNatClampNeg) then _ else _) = _
  rw [h, if_pos ⟨rfl, nI_ck hk hn⟩, nI_clamp (by omega)]
theorem rlald (h : am_kd b M i = (21, n)) (hk : k < n) (hn : n ≤ 2147483648) (kk : am_Run b d z rest lv (.long (mL M i k) :: st) M Q) : am_Run b d z (.laload :: rest) lv (.int (nI k) :: .ref i :: st) M Q := by
  refine r1 ?_ kk
  show (if (am_kd b M i).1 = 21 ∧ ¬ (nI k < 0 ∨ (am_kd b M i).2 ≤ (nI k).toNatClampNeg) then _ else _) = _
  rw [h, if_pos ⟨rfl, nI_ck hk hn⟩, nI_clamp (by omega)]
theorem rzald (h : am_kd b M i = (22, n)) (hk : k < n) (hn : n ≤ 2147483648) (kk : am_Run b d z rest lv (.int (mI M i k) :: st) M Q) : am_Run b d z (.baload :: rest) lv (.int (nI k) :: .ref i :: st) M Q := by
  refine r1 ?_ kk
  show (if ((am_kd b M i).1 = 22 ∨ (am_kd b M i).1 = 23) ∧ ¬ (nI k < 0 ∨ (am_kd b M i).2 ≤ (nI k).toNatClampNeg) then _ else _) = _
  rw [h, if_pos ⟨Or.inl rfl, nI_ck hk hn⟩, nI_clamp (by omega)]
theorem rbald (h : am_kd b M i = (23, n)) (hk : k < n) (hn : n ≤ 2147483648) (kk : am_Run b d z rest lv (.int (mI M i k) :: st) M Q) : am_Run b d z (.baload :: rest) lv (.int (nI k) :: .ref i :: st) M Q := by
  refine r1 ?_ kk
  show (if ((am_kd b M i).1 = 22 ∨ (am_kd b M i).1 = 23) ∧ ¬ (nI k < 0 ∨ (am_kd b M i).2 ≤ (nI k).toNatClampNeg) then _ else _) = _
  rw [h, if_pos ⟨Or.inr rfl, nI_ck hk hn⟩, nI_clamp (by omega)]
theorem riast {x : Int32} (h9 : 9 ≤ i) (h : am_kd b M i = (20, n)) (hk : k < n) (hn : n ≤ 2147483648) (kk : am_Run b d z rest lv st (wI M i (am_up (mI M i) k x)) Q) : am_Run b d z (.iastore :: rest) lv (.int x :: .int (nI k) :: .ref i :: st) M Q := by
  refine r1 ?_ kk
  show (if 9 ≤ i ∧ (am_kd b M i).1 = 20 ∧ ¬ (nI k < 0 ∨ (am_kd b M i).2 ≤ (nI k).toNatClampNeg) then _ else _) = _
  rw [h, if_pos ⟨h9, rfl, nI_ck hk hn⟩, nI_clamp (by omega)]
theorem rlast {x : Int64} (h9 : 9 ≤ i) (h : am_kd b M i = (21, n)) (hk : k < n) (hn : n ≤ 2147483648) (kk : am_Run b d z rest lv st (wL M i (am_up (mL M i) k x)) Q) : am_Run b d z (.lastore :: rest) lv (.long x :: .int (nI k) :: .ref i :: st) M Q := by
  refine r1 ?_ kk
  show (if 9 ≤ i ∧ (am_kd b M i).1 = 21 ∧ ¬ (nI k < 0 ∨ (am_kd b M i).2 ≤ (nI k).toNatClampNeg) then _ else _) = _
  rw [h, if_pos ⟨h9, rfl, nI_ck hk hn⟩, nI_clamp (by omega)]
theorem nI_and1 {t : Nat} (ht : t ≤ 1) : nI t &&& 1 = nI t := by
  rcases (show t = 0 ∨ t = 1 by omega) with rfl | rfl <;> decide
theorem rzast {t : Nat} (h9 : 9 ≤ i) (h : am_kd b M i = (22, n)) (hk : k < n) (hn : n ≤ 2147483648) (ht : t ≤ 1) (kk : am_Run b d z rest lv st (wI M i (am_up (mI M i) k (nI t))) Q) : am_Run b d z (.bastore :: rest) lv (.int (nI t) :: .int (nI k) :: .ref i :: st) M Q := by
  refine r1 ?_ kk
  show (if 9 ≤ i ∧ (am_kd b M i).1 = 22 ∧ ¬ (nI k < 0 ∨ (am_kd b M i).2 ≤ (nI k).toNatClampNeg) then _ else _) = _
  rw [h, if_pos ⟨h9, rfl, nI_ck hk hn⟩, nI_clamp (by omega), nI_and1 ht]
theorem rbast {x : Int32} (h9 : 9 ≤ i) (h : am_kd b M i = (23, n)) (hk : k < n) (hn : n ≤ 2147483648) (kk : am_Run b d z rest lv st (wI M i (am_up (mI M i) k x.toInt8.toInt32)) Q) : am_Run b d z (.bastore :: rest) lv (.int x :: .int (nI k) :: .ref i :: st) M Q := by
  refine r1 ?_ kk
  show (if 9 ≤ i ∧ (am_kd b M i).1 = 22 ∧ ¬ (nI k < 0 ∨ (am_kd b M i).2 ≤ (nI k).toNatClampNeg) then _ else if 9 ≤ i ∧ (am_kd b M i).1 = 23 ∧ ¬ (nI k < 0 ∨ (am_kd b M i).2 ≤ (nI k).toNatClampNeg) then _ else _) = _
  rw [h, if_neg (by rintro ⟨-, h2, -⟩; cases h2), if_pos ⟨h9, rfl, nI_ck hk hn⟩, nI_clamp (by omega)]
theorem ridiv {x y : Int32} (hy : y ≠ 0) (kk : am_Run b d z rest lv (.int (x / y) :: st) M Q) : am_Run b d z (.idiv :: rest) lv (.int y :: .int x :: st) M Q := by
  refine r1 ?_ kk
  show (if y = 0 then none else _) = _
  rw [if_neg hy]
theorem rirem {x y : Int32} (hy : y ≠ 0) (kk : am_Run b d z rest lv (.int (x - x / y * y) :: st) M Q) : am_Run b d z (.irem :: rest) lv (.int y :: .int x :: st) M Q := by
  refine r1 ?_ kk
  show (if y = 0 then none else _) = _
  rw [if_neg hy]
theorem rldiv {x y : Int64} (hy : y ≠ 0) (kk : am_Run b d z rest lv (.long (x / y) :: st) M Q) : am_Run b d z (.ldiv :: rest) lv (.long y :: .long x :: st) M Q := by
  refine r1 ?_ kk
  show (if y = 0 then none else _) = _
  rw [if_neg hy]
/-- a call, its body walked here -/
theorem rin {ins : Instr} {z' : Nat} {as rs : List Value} {code : List Instr} {lv' : am_L} (h0 : am_step b z ins lv st M = none) (h1 : am_end z ins st = none) (h2 : am_call b ins st M = some (z', as, rs)) (h3 : am_blk z' 0 = code) (h4 : am_ent z' as = lv') (c : am_Run b d z' code lv' [] M (fun r M' => am_Run b (d + 1) z rest lv (r.toList ++ rs) M' Q)) : am_Run b (d + 1) z (ins :: rest) lv st M Q :=
  rcall h0 h1 h2 (Q' := fun r M' => am_Run b (d + 1) z rest lv (r.toList ++ rs) M' Q) (by unfold am_Call; rw [h3, h4]; exact c) (fun _ _ h => h)
theorem rcallI {as : List Value} {code : List Instr} {lv' : am_L} (h3 : am_blk z 0 = code) (h4 : am_ent z as = lv') (c : am_Run b d z code lv' [] M Q) : am_Call b d z as M Q := by
  unfold am_Call; rw [h3, h4]; exact c
end ROWS
section BRANCH
variable {b : Bool} {d z : Nat} {rest : List Instr} {lv : am_L} {st : List Value} {M : am_M} {Q : Option Value → am_M → Prop} {t : Int} {x y : Int32}
theorem nM_toInt {n : Nat} (h : n < 2147483648) : (nM n).toInt = -(n : Int) - 1 := by
  unfold nM
  rw [Int32.toInt_ofInt_of_le] <;> rw [Int.negSucc_eq] <;> omega
theorem rb_lt (k1 : x.toInt < y.toInt → am_Run b d z (am_blk z t.toNat) lv st M Q) (k2 : y.toInt ≤ x.toInt → am_Run b d z rest lv st M Q) : am_Run b d z (.if_icmp .lt t :: rest) lv (.int y :: .int x :: st) M Q := ri_lt (fun h => k1 (Int32.lt_iff_toInt_lt.mp h)) (fun h => k2 (by rw [Int32.lt_iff_toInt_lt] at h; omega))
theorem rc_lt (k1 : x.toInt < 0 → am_Run b d z (am_blk z t.toNat) lv st M Q) (k2 : 0 ≤ x.toInt → am_Run b d z rest lv st M Q) : am_Run b d z (.ifCond .lt t :: rest) lv (.int x :: st) M Q := rz_lt (fun h => k1 (by simpa [Int32.lt_iff_toInt_lt] using h)) (fun h => k2 (by simpa [Int32.lt_iff_toInt_lt, Int.not_lt] using h))
theorem rb_ge (k1 : y.toInt ≤ x.toInt → am_Run b d z (am_blk z t.toNat) lv st M Q) (k2 : x.toInt < y.toInt → am_Run b d z rest lv st M Q) : am_Run b d z (.if_icmp .ge t :: rest) lv (.int y :: .int x :: st) M Q := ri_ge (fun h => k1 (by rw [Int32.lt_iff_toInt_lt] at h; omega)) (fun h => k2 (Int32.lt_iff_toInt_lt.mp h))
theorem rc_ge (k1 : 0 ≤ x.toInt → am_Run b d z (am_blk z t.toNat) lv st M Q) (k2 : x.toInt < 0 → am_Run b d z rest lv st M Q) : am_Run b d z (.ifCond .ge t :: rest) lv (.int x :: st) M Q := rz_ge (fun h => k1 (by simpa [Int32.lt_iff_toInt_lt, Int.not_lt] using h)) (fun h => k2 (by simpa [Int32.lt_iff_toInt_lt] using h))
theorem rb_gt (k1 : y.toInt < x.toInt → am_Run b d z (am_blk z t.toNat) lv st M Q) (k2 : x.toInt ≤ y.toInt → am_Run b d z rest lv st M Q) : am_Run b d z (.if_icmp .gt t :: rest) lv (.int y :: .int x :: st) M Q := ri_gt (fun h => k1 (Int32.lt_iff_toInt_lt.mp h)) (fun h => k2 (by rw [Int32.lt_iff_toInt_lt] at h; omega))
theorem rc_gt (k1 : 0 < x.toInt → am_Run b d z (am_blk z t.toNat) lv st M Q) (k2 : x.toInt ≤ 0 → am_Run b d z rest lv st M Q) : am_Run b d z (.ifCond .gt t :: rest) lv (.int x :: st) M Q := rz_gt (fun h => k1 (by simpa [Int32.lt_iff_toInt_lt] using h)) (fun h => k2 (by simpa [Int32.lt_iff_toInt_lt, Int.not_lt] using h))
theorem rb_le (k1 : x.toInt ≤ y.toInt → am_Run b d z (am_blk z t.toNat) lv st M Q) (k2 : y.toInt < x.toInt → am_Run b d z rest lv st M Q) : am_Run b d z (.if_icmp .le t :: rest) lv (.int y :: .int x :: st) M Q := ri_le (fun h => k1 (by rw [Int32.lt_iff_toInt_lt] at h; omega)) (fun h => k2 (Int32.lt_iff_toInt_lt.mp h))
theorem rc_le (k1 : x.toInt ≤ 0 → am_Run b d z (am_blk z t.toNat) lv st M Q) (k2 : 0 < x.toInt → am_Run b d z rest lv st M Q) : am_Run b d z (.ifCond .le t :: rest) lv (.int x :: st) M Q := rz_le (fun h => k1 (by simpa [Int32.lt_iff_toInt_lt, Int.not_lt] using h)) (fun h => k2 (by simpa [Int32.lt_iff_toInt_lt] using h))
theorem rb_eq (k1 : x.toInt = y.toInt → am_Run b d z (am_blk z t.toNat) lv st M Q) (k2 : x.toInt ≠ y.toInt → am_Run b d z rest lv st M Q) : am_Run b d z (.if_icmp .eq t :: rest) lv (.int y :: .int x :: st) M Q := ri_eq (fun h => k1 (congrArg Int32.toInt h)) (fun h => k2 (fun q => h (Int32.toInt_inj.mp q)))
theorem rc_eq (k1 : x.toInt = 0 → am_Run b d z (am_blk z t.toNat) lv st M Q) (k2 : x.toInt ≠ 0 → am_Run b d z rest lv st M Q) : am_Run b d z (.ifCond .eq t :: rest) lv (.int x :: st) M Q := rz_eq (fun h => k1 (by rw [h]; rfl)) (fun h => k2 (fun q => h (Int32.toInt_inj.mp (by rw [q]; rfl))))
theorem rb_ne (k1 : x.toInt ≠ y.toInt → am_Run b d z (am_blk z t.toNat) lv st M Q) (k2 : x.toInt = y.toInt → am_Run b d z rest lv st M Q) : am_Run b d z (.if_icmp .ne t :: rest) lv (.int y :: .int x :: st) M Q := ri_ne (fun h => k1 (fun q => h (Int32.toInt_inj.mp q))) (fun h => k2 (congrArg Int32.toInt h))
theorem rc_ne (k1 : x.toInt ≠ 0 → am_Run b d z (am_blk z t.toNat) lv st M Q) (k2 : x.toInt = 0 → am_Run b d z rest lv st M Q) : am_Run b d z (.ifCond .ne t :: rest) lv (.int x :: st) M Q := rz_ne (fun h => k1 (fun q => h (Int32.toInt_inj.mp (by rw [q]; rfl)))) (fun h => k2 (by rw [h]; rfl))
theorem re1 (k : am_Run b d z rest lv st M Q) : am_Run b d z (.ifCond .eq t :: rest) lv (.int (nI 1) :: st) M Q := rc_eq (fun h => absurd h (by decide)) (fun _ => k)
theorem re0 (k : am_Run b d z (am_blk z t.toNat) lv st M Q) : am_Run b d z (.ifCond .eq t :: rest) lv (.int (nI 0) :: st) M Q := rc_eq (fun _ => k) (fun h => absurd (show (nI 0).toInt = 0 by decide) h)
theorem rn1 (k : am_Run b d z (am_blk z t.toNat) lv st M Q) : am_Run b d z (.ifCond .ne t :: rest) lv (.int (nI 1) :: st) M Q := rc_ne (fun _ => k) (fun h => absurd h (by decide))
theorem rn0 (k : am_Run b d z rest lv st M Q) : am_Run b d z (.ifCond .ne t :: rest) lv (.int (nI 0) :: st) M Q := rc_ne (fun h => absurd (show (nI 0).toInt = 0 by decide) h) (fun _ => k)
variable {i n : Nat} {j : Int32}
theorem cix (h : 0 ≤ j.toInt ∧ j.toInt < n) (hn : n ≤ 2147483648) : j = nI j.toNatClampNeg ∧ j.toNatClampNeg < n := ⟨isC_nI (n := n) h, by have : j.toNatClampNeg = j.toInt.toNat := rfl; omega⟩
theorem ciald (h : am_kd b M i = (20, n)) (hj : 0 ≤ j.toInt ∧ j.toInt < n) (hn : n ≤ 2147483648) (kk : am_Run b d z rest lv (.int (mI M i j.toNatClampNeg) :: st) M Q) : am_Run b d z (.iaload :: rest) lv (.int j :: .ref i :: st) M Q := by
  obtain ⟨e, hl⟩ := cix hj hn
  rw [e]
  exact riald h hl hn kk
theorem clald (h : am_kd b M i = (21, n)) (hj : 0 ≤ j.toInt ∧ j.toInt < n) (hn : n ≤ 2147483648) (kk : am_Run b d z rest lv (.long (mL M i j.toNatClampNeg) :: st) M Q) : am_Run b d z (.laload :: rest) lv (.int j :: .ref i :: st) M Q := by
  obtain ⟨e, hl⟩ := cix hj hn
  rw [e]
  exact rlald h hl hn kk
theorem czald (h : am_kd b M i = (22, n)) (hj : 0 ≤ j.toInt ∧ j.toInt < n) (hn : n ≤ 2147483648) (kk : am_Run b d z rest lv (.int (mI M i j.toNatClampNeg) :: st) M Q) : am_Run b d z (.baload :: rest) lv (.int j :: .ref i :: st) M Q := by
  obtain ⟨e, hl⟩ := cix hj hn
  rw [e]
  exact rzald h hl hn kk
theorem ciast {v : Int32} (h9 : 9 ≤ i) (h : am_kd b M i = (20, n)) (hj : 0 ≤ j.toInt ∧ j.toInt < n) (hn : n ≤ 2147483648) (kk : am_Run b d z rest lv st (wI M i (am_up (mI M i) j.toNatClampNeg v)) Q) : am_Run b d z (.iastore :: rest) lv (.int v :: .int j :: .ref i :: st) M Q := by
  obtain ⟨e, hl⟩ := cix hj hn
  rw [e]
  exact riast h9 h hl hn kk
theorem czast {t : Nat} (h9 : 9 ≤ i) (h : am_kd b M i = (22, n)) (hj : 0 ≤ j.toInt ∧ j.toInt < n) (hn : n ≤ 2147483648) (ht : t ≤ 1) (kk : am_Run b d z rest lv st (wI M i (am_up (mI M i) j.toNatClampNeg (nI t))) Q) : am_Run b d z (.bastore :: rest) lv (.int (nI t) :: .int j :: .ref i :: st) M Q := by
  obtain ⟨e, hl⟩ := cix hj hn
  rw [e]
  exact rzast h9 h hl hn ht kk
end BRANCH
section NUM
variable {b : Bool} {d z : Nat} {rest : List Instr} {lv : am_L} {st : List Value} {M : am_M} {Q : Option Value → am_M → Prop} {i n k q : Nat}
theorem riaddN (kk : am_Run b d z rest lv (.int (nI (k + q)) :: st) M Q) : am_Run b d z (.iadd :: rest) lv (.int (nI q) :: .int (nI k) :: st) M Q := by
  rw [← nI_add] at kk
  exact r1 rfl kk
theorem nI_mul (a b : Nat) : nI a * nI b = nI (a * b) := by
  unfold nI
  simp
theorem rimulN (kk : am_Run b d z rest lv (.int (nI (k * q)) :: st) M Q) : am_Run b d z (.imul :: rest) lv (.int (nI q) :: .int (nI k) :: st) M Q := by
  rw [← nI_mul] at kk
  exact r1 rfl kk
theorem riincN {lv' : am_L} (h1 : lv[n]? = some (some (.int (nI k)))) (h2 : am_set1 lv n (.int (nI (k + q))) = lv') (kk : am_Run b d z rest lv' st M Q) : am_Run b d z (.iinc n (Int.ofNat q) :: rest) lv st M Q := by
  have hl : n < lv.length := (List.getElem?_eq_some_iff.mp h1).1
  refine r1 ?_ kk
  rw [← h2, ← nI_add]
  show (match lv[n]? with | some (some (.int x)) => (if n < lv.length then some (none, am_set1 lv n (.int (x + nI q)), st, M) else none) | _ => none) = _
  rw [h1]
  exact if_pos hl
theorem am_tsw_nI {d hi : Int} {offs : Array Int} (hk : k < 2147483648) : am_tsw d 0 hi offs (nI k) = if hi < (k : Int) then d.toNat else (offs.getD k 0).toNat := by
  unfold am_tsw
  rw [nI_toInt (by omega)]
  by_cases h : hi < (k : Int)
  · rw [if_pos (Or.inr h), if_pos h]
  · rw [if_neg (by omega), if_neg h]
    simp
theorem rtswN {d0 hi : Int} {offs : Array Int} {code : List Instr} (hk : k < 2147483648) (hc : am_blk z (if hi < (k : Int) then d0.toNat else (offs.getD k 0).toNat) = code) (kk : am_Run b d z code lv st M Q) : am_Run b d z (.tableswitch d0 0 hi offs :: rest) lv (.int (nI k) :: st) M Q := by
  refine rj (t := am_tsw d0 0 hi offs (nI k)) rfl ?_
  rw [am_tsw_nI hk, hc]
  exact kk
theorem ralen {kd : Nat} (h : am_kd b M i = (kd, n)) (hk : 20 ≤ kd ∧ kd ≤ 24) (kk : am_Run b d z rest lv (.int (nI n) :: st) M Q) : am_Run b d z (.arraylength :: rest) lv (.ref i :: st) M Q := by
  refine r1 ?_ kk
  show (match am_kd b M i with | (k, n) => if 20 ≤ k ∧ k ≤ 24 then some (none, lv, Value.int (nI n) :: st, M) else none) = _
  rw [h]
  exact if_pos hk
theorem sub_toInt {a c : Nat} (ha : a < 2147483648) (hc : c < 2147483648) : (nI a - nI c).toInt = (a : Int) - c := by
  rw [Int32.toInt_sub, nI_toInt (by omega), nI_toInt (by omega)]
  rw [Int.bmod_eq_of_le] <;> omega
theorem and63 (x : Int32) : ∃ k, k < 64 ∧ x &&& nI 63 = nI k := by
  refine ⟨(x &&& nI 63).toUInt32.toNat, ?_, ?_⟩
  · have e : (x &&& nI 63).toUInt32.toNat = x.toUInt32.toNat &&& 63 := by
      rw [show (x &&& nI 63).toUInt32 = x.toUInt32 &&& 63 from rfl]
      exact UInt32.toNat_and _ _
    rw [e]
    exact Nat.lt_of_le_of_lt Nat.and_le_right (by decide)
  · apply Int32.toInt_inj.mp
    have e : (x &&& nI 63).toUInt32.toNat = x.toUInt32.toNat &&& 63 := by
      rw [show (x &&& nI 63).toUInt32 = x.toUInt32 &&& 63 from rfl]
      exact UInt32.toNat_and _ _
    have hl : x.toUInt32.toNat &&& 63 ≤ 63 := Nat.and_le_right
    rw [e, nI_toInt (by omega)]
    have h2 : (x &&& nI 63).toInt = (x &&& nI 63).toBitVec.toInt := rfl
    rw [h2, BitVec.toInt_eq_toNat_of_lt (by show 2 * (x &&& nI 63).toUInt32.toNat < _; omega)]
    exact congrArg Int.ofNat e
end NUM
theorem mI_wI (M : am_M) (i j : Nat) (f : Nat → Int32) : mI (wI M i f) j = if j = i then f else mI M j := rfl
theorem mI_wL (M : am_M) (i j : Nat) (f : Nat → Int64) : mI (wL M i f) j = mI M j := rfl
theorem mI_wA (M : am_M) (i j : Nat) (f : Nat → Nat) : mI (wA M i f) j = mI M j := rfl
theorem mL_wI (M : am_M) (i j : Nat) (f : Nat → Int32) : mL (wI M i f) j = mL M j := rfl
theorem mL_wL (M : am_M) (i j : Nat) (f : Nat → Int64) : mL (wL M i f) j = if j = i then f else mL M j := rfl
theorem mL_wA (M : am_M) (i j : Nat) (f : Nat → Nat) : mL (wA M i f) j = mL M j := rfl
theorem mA_wI (M : am_M) (i j : Nat) (f : Nat → Int32) : mA (wI M i f) j = mA M j := rfl
theorem mA_wL (M : am_M) (i j : Nat) (f : Nat → Int64) : mA (wL M i f) j = mA M j := rfl
theorem mA_wA (M : am_M) (i j : Nat) (f : Nat → Nat) : mA (wA M i f) j = if j = i then f else mA M j := rfl
theorem wI_wI (M : am_M) (i : Nat) (f g : Nat → Int32) : wI (wI M i f) i g = wI M i g := by
  unfold wI mN mS mK mI mL mA
  dsimp only
  congr 3
  unfold am_up
  congr 1
  funext j
  split <;> rfl
