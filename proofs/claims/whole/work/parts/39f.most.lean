/-! most -/
def popK : Nat → Nat → Nat
  | 0, _ => 0
  | k + 1, v => v % 2 + popK k (v / 2)
def popF (m : Nat) : Nat := popK 6 m
theorem popK_0 : ∀ k, popK k 0 = 0
  | 0 => rfl
  | k + 1 => by
    show 0 % 2 + popK k (0 / 2) = 0
    rw [show 0 / 2 = 0 from rfl, popK_0 k]
theorem popK_le : ∀ k v, popK k v ≤ k
  | 0, _ => Nat.le_refl _
  | k + 1, v => by
    have := popK_le k (v / 2)
    show v % 2 + popK k (v / 2) ≤ k + 1
    omega
def bcF (x : Int32) : Int32 :=
  let a := x - (((x.toUInt32 >>> ((nI 1).toUInt32 &&& Int32.toUInt32 31)).toInt32) &&& nI 1431655765)
  let b := (a &&& nI 858993459) + (((a.toUInt32 >>> ((nI 2).toUInt32 &&& Int32.toUInt32 31)).toInt32) &&& nI 858993459)
  let c := (b + ((b.toUInt32 >>> ((nI 4).toUInt32 &&& Int32.toUInt32 31)).toInt32)) &&& nI 252645135
  let e := c + ((c.toUInt32 >>> ((nI 8).toUInt32 &&& Int32.toUInt32 31)).toInt32)
  let f := e + ((e.toUInt32 >>> ((nI 16).toUInt32 &&& Int32.toUInt32 31)).toInt32)
  f &&& nI 63
theorem bcF_64 : ∀ m : Fin 64, bcF (nI m.val) = nI (popF m.val) := by decide +kernel
theorem and1_64 : ∀ m : Fin 64, nI m.val &&& nI 1 = nI (m.val % 2) := by decide +kernel
theorem shr1_64 : ∀ m : Fin 64, nI m.val >>> (nI 1 &&& 31) = nI (m.val / 2) := by decide +kernel
/-- the greatest of the first n for which p holds, the least of several; 64: none -/
def moF (p : Nat → Bool) : Nat → Nat
  | 0 => 64
  | n + 1 => if p n = true ∧ (moF p n = 64 ∨ popF (moF p n) < popF n) then n else moF p n
theorem moF_r (p : Nat → Bool) : ∀ n, n ≤ 64 → moF p n < n ∨ moF p n = 64
  | 0, _ => Or.inr rfl
  | n + 1, h => by
    have := moF_r p n (by omega)
    unfold moF
    split <;> omega
theorem moF_y {p : Nat → Bool} {n : Nat} (h1 : p n = true) (h2 : moF p n = 64 ∨ popF (moF p n) < popF n) : moF p (n + 1) = n := if_pos ⟨h1, h2⟩
theorem moF_n {p : Nat → Bool} {n : Nat} (h : ¬(p n = true ∧ (moF p n = 64 ∨ popF (moF p n) < popF n))) : moF p (n + 1) = moF p n := if_neg h
theorem moF_stop {p : Nat → Bool} {a : Nat} : ∀ j, (∀ m, a ≤ m → m < a + j → p m = false) → moF p (a + j) = moF p a
  | 0, _ => rfl
  | j + 1, h => by
    rw [show a + (j + 1) = (a + j) + 1 from rfl, moF_n (fun z => Bool.noConfusion (z.1.symm.trans (h (a + j) (by omega) (by omega))))]
    exact moF_stop j (fun m h1 h2 => h m h1 (by omega))
/-- a number or none -/
def mmI (b : Nat) : Int32 := if b = 64 then nM 0 else nI b
/-- all sets of some -/
def orA (S : Nat → Int64) : Nat → Int64
  | 0 => lN 0
  | n + 1 => orA S n ||| S n
theorem tb_or (a b : Int64) (m : Nat) : tb (a ||| b) m = (tb a m || tb b m) := by
  unfold tb
  rw [Int64.toBitVec_or, BitVec.getLsbD_or]
theorem tb_and (a b : Int64) (m : Nat) : tb (a &&& b) m = (tb a m && tb b m) := by
  unfold tb
  rw [Int64.toBitVec_and, BitVec.getLsbD_and]
theorem tb_0 (m : Nat) : tb (lN 0) m = false := by
  unfold tb
  show (0#64).getLsbD m = false
  simp
theorem tb_orA (S : Nat → Int64) (m : Nat) : ∀ n, tb (orA S n) m = anyB (fun c => tb (S c) m) n
  | 0 => tb_0 m
  | n + 1 => by
    show tb (orA S n ||| S n) m = (anyB (fun c => tb (S c) m) n || tb (S n) m)
    rw [tb_or, tb_orA S m n]
/-- no set of a number of N or more -/
def low (N : Nat) (w : Int64) : Prop := ∀ m, N ≤ m → m < 64 → tb w m = false
theorem low_0 (N : Nat) : low N (lN 0) := fun m _ _ => tb_0 m
theorem low_1 {N : Nat} (h : 1 ≤ N) : low N (lN 1) := by
  intro m h1 h2
  unfold tb
  show (1#64).getLsbD m = false
  rw [BitVec.getLsbD_one]
  simp; omega
theorem low_or {N : Nat} {a b : Int64} (h1 : low N a) (h2 : low N b) : low N (a ||| b) := by
  intro m p q
  rw [tb_or, h1 m p q, h2 m p q]; rfl
theorem low_orN {N : Nat} {S : Nat → Int64} (h : ∀ c, c < 256 → low N (S c)) {c : Nat} (hc : c < 256) : ∀ m, low N (orN S c m)
  | 0 => h c hc
  | m + 1 => by
    refine low_or (low_orN h hc m) ?_
    unfold orT
    split
    · next q => exact h _ q
    · exact low_0 N
theorem sh_one : ∀ i : Fin 6, ((nI 1 <<< (nI i.val &&& 31)).toInt64 &&& 63) = Int64.ofNat (2 ^ i.val) := by decide +kernel
theorem with_bit : ∀ i : Fin 6, ∀ m : Fin 64, tb (Int64.ofInt (am_swith.getD i.val 0)) m.val = m.val.testBit i.val := by decide +kernel
theorem bit_low : ∀ k : Fin 7, ∀ i : Fin 6, ∀ m : Fin 64, i.val < k.val → 2 ^ k.val ≤ m.val → 2 ^ i.val ≤ m.val → (m.val - 2 ^ i.val).testBit i.val = false → 2 ^ k.val ≤ m.val - 2 ^ i.val := by decide +kernel
theorem two_32 : ∀ i : Fin 6, 2 ^ i.val < 64 := by decide
theorem smod_64 : ∀ i : Fin 6, ((BitVec.ofNat 64 (2 ^ i.val)).smod 64).toNat = 2 ^ i.val := by decide +kernel
theorem tb_shl {x : Int64} {i m : Nat} (hi : i < 6) (hm : m < 64) : tb (x <<< ((nI 1 <<< (nI i &&& 31)).toInt64 &&& 63)) m = (decide (2 ^ i ≤ m) && tb x (m - 2 ^ i)) := by
  have e := sh_one ⟨i, hi⟩
  have e2 := two_32 ⟨i, hi⟩
  simp only at e e2
  rw [e]
  unfold tb
  have e3 : (x <<< Int64.ofNat (2 ^ i)).toBitVec = x.toBitVec <<< (2 ^ i) := by
    rw [Int64.toBitVec_shiftLeft]
    show x.toBitVec <<< ((BitVec.ofNat 64 (2 ^ i)).smod 64) = _
    have q := smod_64 ⟨i, hi⟩
    simp only at q
    rw [BitVec.shiftLeft_eq', q]
  rw [e3, BitVec.getLsbD_shiftLeft, decide_eq_true hm]
  by_cases q : m < 2 ^ i
  · rw [decide_eq_true q, decide_eq_false (show ¬2 ^ i ≤ m by omega)]; rfl
  · rw [decide_eq_false q, decide_eq_true (show 2 ^ i ≤ m by omega)]; rfl
theorem low_wI1 {V : am_M} (hI : Inv V) {k i : Nat} (hk : k ≤ 6) (hi : i < k) {v : Int64} (h : low (2 ^ k) v) : low (2 ^ k) (wI1 V i v) := by
  intro m p q
  have e3 := hI.stat.l3_eq i (by omega)
  have q2 : m - 2 ^ i < 64 := Nat.lt_of_le_of_lt (Nat.sub_le _ _) q
  unfold wI1
  rw [tb_or, tb_and, h m p q, Bool.false_and, Bool.false_or, tb_shl (by omega) q, tb_and]
  by_cases z : 2 ^ i ≤ m
  · rw [decide_eq_true z, Bool.true_and]
    cases hb : (m - 2 ^ i).testBit i
    · have := bit_low ⟨k, by omega⟩ ⟨i, by omega⟩ ⟨m, q⟩ hi p z hb
      rw [h (m - 2 ^ i) this q2, Bool.false_and]
    · have w := with_bit ⟨i, by omega⟩ ⟨m - 2 ^ i, q2⟩
      simp only at w
      have : tb (mL V 3 i ^^^ lM 0) (m - 2 ^ i) = false := by
        unfold tb
        rw [Int64.toBitVec_xor, BitVec.getLsbD_xor]
        rw [e3]
        unfold tb at w
        rw [w, hb]
        have : (lM 0).toBitVec = BitVec.allOnes 64 := by decide
        rw [this, BitVec.getLsbD_allOnes, decide_eq_true q2]; rfl
      rw [this, Bool.and_false]
  · rw [decide_eq_false z, Bool.false_and]
theorem low_meF {V : am_M} (hI : Inv V) {dd c s : Nat} {v : Int64} (h : low (2 ^ (KE V dd).length) v) : ∀ i, i ≤ (KE V dd).length → low (2 ^ (KE V dd).length) (meF V dd c s i v)
  | 0, _ => h
  | i + 1, hi => by
    have := low_meF hI (c := c) (s := s) h i (by omega)
    unfold meF
    split
    · exact low_wI1 hI KE_6 (by omega) this
    · exact this
theorem low_way {V : am_M} (hI : Inv V) {dd pc ps sh : Nat} : ∀ s c, c < 256 → low (2 ^ (KE V dd).length) (wayF V dd pc ps sh s c)
  | 0, c, _ => by
    show low _ (if c = nn (mI V 18 0) then lN 1 else lN 0)
    split
    · exact low_1 (pow6 KE_6).1
    · exact low_0 _
  | s + 1, c, hc => by
    have ih := low_way hI (dd := dd) (pc := pc) (ps := ps) (sh := sh) s
    show low _ (wayB V dd pc ps sh s (wayF V dd pc ps sh s) c)
    unfold wayB
    split
    · exact low_0 _
    · refine low_meF hI ?_ _ (Nat.le_refl _)
      split
      · exact low_orN ih hc 8
      · exact ih c hc
theorem orA_ext {A B : Nat → Int64} : ∀ n, (∀ c, c < n → A c = B c) → orA A n = orA B n
  | 0, _ => rfl
  | n + 1, h => by
    show orA A n ||| A n = orA B n ||| B n
    rw [orA_ext n (fun c hc => h c (by omega)), h n (by omega)]
section
variable {b : Bool} {d z : Nat} {rest : List Instr} {lv : am_L} {st : List Value} {M : am_M} {Q : Option Value → am_M → Prop} {v : Nat}
theorem riand1 (h : v < 64) (kk : am_Run b d z rest lv (.int (nI (v % 2)) :: st) M Q) : am_Run b d z (.iand :: rest) lv (.int (nI 1) :: .int (nI v) :: st) M Q := by
  have e := and1_64 ⟨v, h⟩
  simp only at e
  rw [← e] at kk
  exact r1 rfl kk
theorem rishr1 (h : v < 64) (kk : am_Run b d z rest lv (.int (nI (v / 2)) :: st) M Q) : am_Run b d z (.ishr :: rest) lv (.int (nI 1) :: .int (nI v) :: st) M Q := by
  have e := shr1_64 ⟨v, h⟩
  simp only at e
  rw [← e] at kk
  exact r1 rfl kk
end
section
variable {d dd m : Nat} {V M M' : am_M} {Q : Option Value → am_M → Prop}
set_option maxRecDepth 100000
theorem cc_bitCount (hm : m < 64) (kk : Q (some (.int (nI (popF m)))) M) : am_Call true d 72 [.int (nI m)] M Q := by
  have e := bcF_64 ⟨m, hm⟩
  simp only at e
  rw [← e] at kk
  refine rcallI rfl rfl ?_
  repeat' (first | (apply r1; exact rfl) | (apply rirI; exact rfl))
  exact kk
theorem cc_bits (hm : m < 64) (kk : Q (some (.int (nI (popF m)))) M) : am_Call true d 222 [.int (nI m)] M Q := by
  have L : ∀ k v n, v < 2 ^ k → k ≤ 6 → n + k ≤ 100 → Q (some (.int (nI (n + popK k v)))) M → am_Run true d 222 (am_blk 222 1) [some (.int (nI m)), some (.int (nI n)), some (.int (nI v))] [] M Q := by
    intro k
    induction k with
    | zero =>
      intro v n hv hk hn hq
      have : v = 0 := by
        have : (2 : Nat) ^ 0 = 1 := rfl
        omega
      subst this
      repeat' (first | (refine rlitT (by decide) ?_) | (refine rlitF (by decide) ?_) | (refine rlit0T (by decide) ?_) | (refine rlit0F (by decide) ?_) | (apply riald; exact rfl; omega; decide) | (apply rlald; exact rfl; omega; decide) | (apply rzald; exact rfl; omega; decide) | (apply rbald; exact rfl; omega; decide) | (apply rzast; decide; exact rfl; omega; decide; omega) | (apply riast; decide; exact rfl; omega; decide) | (apply rlast; decide; exact rfl; omega; decide) | (refine re1 ?_) | (refine re0 ?_) | (refine rn1 ?_) | (refine rn0 ?_) | (refine rbe (fun h => ?_) (fun h => ?_)) | (refine rbn (fun h => ?_) (fun h => ?_)) | ((first | (refine rb_lt (fun h => ?_) (fun h => ?_)) | (refine rb_ge (fun h => ?_) (fun h => ?_)) | (refine rb_gt (fun h => ?_) (fun h => ?_)) | (refine rb_le (fun h => ?_) (fun h => ?_)) | (refine rb_eq (fun h => ?_) (fun h => ?_)) | (refine rb_ne (fun h => ?_) (fun h => ?_)) | (refine rc_lt (fun h => ?_) (fun h => ?_)) | (refine rc_ge (fun h => ?_) (fun h => ?_)) | (refine rc_gt (fun h => ?_) (fun h => ?_)) | (refine rc_le (fun h => ?_) (fun h => ?_)) | (refine rc_eq (fun h => ?_) (fun h => ?_)) | (refine rc_ne (fun h => ?_) (fun h => ?_))) <;> (try (simp (disch := omega) only [nI_toInt, nM_toInt, i_ne, i_eq, l_ne, l_eq, a_ne, a_eq, i_L, i_A, l_I, l_A, a_I, a_L, up_ne, up_eq, ne_eq, Nat.reduceEqDiff, not_false_eq_true, Int.reduceNatCast', ] at h)) <;> (try (exfalso; omega))) | (refine riaddN ?_) | (refine rimulN ?_) | (refine riconst ?_) | (refine rlconst ?_) | (apply risubN; (first | omega | decide)) | (apply ridivN; (first | omega | decide); (first | omega | decide); (first | omega | decide)) | (apply riremN; (first | omega | decide); (first | omega | decide); (first | omega | decide)) | (apply ri2lN; (first | omega | decide)) | (refine rl2iN ?_) | (refine rlmulN ?_) | (refine rladdN ?_) | (apply rlsubN; (first | omega | decide)) | (apply rldivN; (first | omega | decide); (first | omega | decide); (first | omega | decide)) | (apply riinc1; exact rfl; exact rfl) | (apply r1; exact rfl) | (apply rgoto; exact rfl) | (apply rfall; exact rfl) | (apply rirI; exact rfl) | (apply rend; exact rfl; exact rfl) | (apply rtsw; exact rfl; exact rfl) | (apply rcallC; exact rfl; exact rfl; exact rfl; first |  (apply rcallI; exact rfl; exact rfl)))
      exact hq
    | succ k ih =>
      intro v n hv hk hn hq
      have hp := pow6 hk
      have hv2 : v < 64 := by omega
      by_cases hz : v = 0
      · subst hz
        rw [popK_0] at hq
        repeat' (first | (refine rlitT (by decide) ?_) | (refine rlitF (by decide) ?_) | (refine rlit0T (by decide) ?_) | (refine rlit0F (by decide) ?_) | (apply riald; exact rfl; omega; decide) | (apply rlald; exact rfl; omega; decide) | (apply rzald; exact rfl; omega; decide) | (apply rbald; exact rfl; omega; decide) | (apply rzast; decide; exact rfl; omega; decide; omega) | (apply riast; decide; exact rfl; omega; decide) | (apply rlast; decide; exact rfl; omega; decide) | (refine re1 ?_) | (refine re0 ?_) | (refine rn1 ?_) | (refine rn0 ?_) | (refine rbe (fun h => ?_) (fun h => ?_)) | (refine rbn (fun h => ?_) (fun h => ?_)) | ((first | (refine rb_lt (fun h => ?_) (fun h => ?_)) | (refine rb_ge (fun h => ?_) (fun h => ?_)) | (refine rb_gt (fun h => ?_) (fun h => ?_)) | (refine rb_le (fun h => ?_) (fun h => ?_)) | (refine rb_eq (fun h => ?_) (fun h => ?_)) | (refine rb_ne (fun h => ?_) (fun h => ?_)) | (refine rc_lt (fun h => ?_) (fun h => ?_)) | (refine rc_ge (fun h => ?_) (fun h => ?_)) | (refine rc_gt (fun h => ?_) (fun h => ?_)) | (refine rc_le (fun h => ?_) (fun h => ?_)) | (refine rc_eq (fun h => ?_) (fun h => ?_)) | (refine rc_ne (fun h => ?_) (fun h => ?_))) <;> (try (simp (disch := omega) only [nI_toInt, nM_toInt, i_ne, i_eq, l_ne, l_eq, a_ne, a_eq, i_L, i_A, l_I, l_A, a_I, a_L, up_ne, up_eq, ne_eq, Nat.reduceEqDiff, not_false_eq_true, Int.reduceNatCast', ] at h)) <;> (try (exfalso; omega))) | (refine riaddN ?_) | (refine rimulN ?_) | (refine riconst ?_) | (refine rlconst ?_) | (apply risubN; (first | omega | decide)) | (apply ridivN; (first | omega | decide); (first | omega | decide); (first | omega | decide)) | (apply riremN; (first | omega | decide); (first | omega | decide); (first | omega | decide)) | (apply ri2lN; (first | omega | decide)) | (refine rl2iN ?_) | (refine rlmulN ?_) | (refine rladdN ?_) | (apply rlsubN; (first | omega | decide)) | (apply rldivN; (first | omega | decide); (first | omega | decide); (first | omega | decide)) | (apply riinc1; exact rfl; exact rfl) | (apply r1; exact rfl) | (apply rgoto; exact rfl) | (apply rfall; exact rfl) | (apply rirI; exact rfl) | (apply rend; exact rfl; exact rfl) | (apply rtsw; exact rfl; exact rfl) | (apply rcallC; exact rfl; exact rfl; exact rfl; first |  (apply rcallI; exact rfl; exact rfl)))
        exact hq
      · repeat' (first | (apply riand1; omega) | (apply rishr1; omega) | (apply riald; exact rfl; omega; decide) | (apply rlald; exact rfl; omega; decide) | (apply rzald; exact rfl; omega; decide) | (apply rbald; exact rfl; omega; decide) | (apply rzast; decide; exact rfl; omega; decide; omega) | (apply riast; decide; exact rfl; omega; decide) | (apply rlast; decide; exact rfl; omega; decide) | (refine re1 ?_) | (refine re0 ?_) | (refine rn1 ?_) | (refine rn0 ?_) | (refine rbe (fun h => ?_) (fun h => ?_)) | (refine rbn (fun h => ?_) (fun h => ?_)) | ((first | (refine rb_lt (fun h => ?_) (fun h => ?_)) | (refine rb_ge (fun h => ?_) (fun h => ?_)) | (refine rb_gt (fun h => ?_) (fun h => ?_)) | (refine rb_le (fun h => ?_) (fun h => ?_)) | (refine rb_eq (fun h => ?_) (fun h => ?_)) | (refine rb_ne (fun h => ?_) (fun h => ?_)) | (refine rc_lt (fun h => ?_) (fun h => ?_)) | (refine rc_ge (fun h => ?_) (fun h => ?_)) | (refine rc_gt (fun h => ?_) (fun h => ?_)) | (refine rc_le (fun h => ?_) (fun h => ?_)) | (refine rc_eq (fun h => ?_) (fun h => ?_)) | (refine rc_ne (fun h => ?_) (fun h => ?_))) <;> (try (simp (disch := omega) only [nI_toInt, nM_toInt, i_ne, i_eq, l_ne, l_eq, a_ne, a_eq, i_L, i_A, l_I, l_A, a_I, a_L, up_ne, up_eq, ne_eq, Nat.reduceEqDiff, not_false_eq_true, Int.reduceNatCast', ] at h)) <;> (try (exfalso; omega))) | (refine riaddN ?_) | (refine rimulN ?_) | (refine riconst ?_) | (refine rlconst ?_) | (apply risubN; (first | omega | decide)) | (apply ridivN; (first | omega | decide); (first | omega | decide); (first | omega | decide)) | (apply riremN; (first | omega | decide); (first | omega | decide); (first | omega | decide)) | (apply ri2lN; (first | omega | decide)) | (refine rl2iN ?_) | (refine rlmulN ?_) | (refine rladdN ?_) | (apply rlsubN; (first | omega | decide)) | (apply rldivN; (first | omega | decide); (first | omega | decide); (first | omega | decide)) | (apply riinc1; exact rfl; exact rfl) | (apply r1; exact rfl) | (apply rgoto; exact rfl) | (apply rfall; exact rfl) | (apply rirI; exact rfl) | (apply rend; exact rfl; exact rfl) | (apply rtsw; exact rfl; exact rfl) | (apply rcallC; exact rfl; exact rfl; exact rfl; first |  (apply rcallI; exact rfl; exact rfl)))
        refine rback (ih (v / 2) (n + v % 2) ?_ (by omega) ?_ ?_)
        · have : 2 ^ (k + 1) = 2 ^ k * 2 := rfl
          omega
        · omega
        · rw [Nat.add_assoc]; exact hq
  refine rcallI rfl rfl ?_
  repeat' (first |  (apply riald; exact rfl; omega; decide) | (apply rlald; exact rfl; omega; decide) | (apply rzald; exact rfl; omega; decide) | (apply rbald; exact rfl; omega; decide) | (apply rzast; decide; exact rfl; omega; decide; omega) | (apply riast; decide; exact rfl; omega; decide) | (apply rlast; decide; exact rfl; omega; decide) | (refine re1 ?_) | (refine re0 ?_) | (refine rn1 ?_) | (refine rn0 ?_) | (refine rbe (fun h => ?_) (fun h => ?_)) | (refine rbn (fun h => ?_) (fun h => ?_)) | ((first | (refine rb_lt (fun h => ?_) (fun h => ?_)) | (refine rb_ge (fun h => ?_) (fun h => ?_)) | (refine rb_gt (fun h => ?_) (fun h => ?_)) | (refine rb_le (fun h => ?_) (fun h => ?_)) | (refine rb_eq (fun h => ?_) (fun h => ?_)) | (refine rb_ne (fun h => ?_) (fun h => ?_)) | (refine rc_lt (fun h => ?_) (fun h => ?_)) | (refine rc_ge (fun h => ?_) (fun h => ?_)) | (refine rc_gt (fun h => ?_) (fun h => ?_)) | (refine rc_le (fun h => ?_) (fun h => ?_)) | (refine rc_eq (fun h => ?_) (fun h => ?_)) | (refine rc_ne (fun h => ?_) (fun h => ?_))) <;> (try (simp (disch := omega) only [nI_toInt, nM_toInt, i_ne, i_eq, l_ne, l_eq, a_ne, a_eq, i_L, i_A, l_I, l_A, a_I, a_L, up_ne, up_eq, ne_eq, Nat.reduceEqDiff, not_false_eq_true, Int.reduceNatCast', ] at h)) <;> (try (exfalso; omega))) | (refine riaddN ?_) | (refine rimulN ?_) | (refine riconst ?_) | (refine rlconst ?_) | (apply risubN; (first | omega | decide)) | (apply ridivN; (first | omega | decide); (first | omega | decide); (first | omega | decide)) | (apply riremN; (first | omega | decide); (first | omega | decide); (first | omega | decide)) | (apply ri2lN; (first | omega | decide)) | (refine rl2iN ?_) | (refine rlmulN ?_) | (refine rladdN ?_) | (apply rlsubN; (first | omega | decide)) | (apply rldivN; (first | omega | decide); (first | omega | decide); (first | omega | decide)) | (apply riinc1; exact rfl; exact rfl) | (apply r1; exact rfl) | (apply rgoto; exact rfl) | (apply rfall; exact rfl) | (apply rirI; exact rfl) | (apply rend; exact rfl; exact rfl) | (apply rtsw; exact rfl; exact rfl) | (apply rcallC; exact rfl; exact rfl; exact rfl; first |  (apply rcallI; exact rfl; exact rfl)))
  refine rhead ?_
  exact L 6 m 0 hm (by omega) (by omega) (by rw [Nat.zero_add]; exact kk)
theorem cc_mostMet {W : Nat → Int64} (hw : ∀ c, c < 256 → mL M 32 c = W c) (kk : Q (some (.int (mmI (moF (fun m => anyB (fun c => tb (W c) m) 256) 64)))) M) : am_Call true (d + 1) 71 [.ref 31] M Q := by
  refine rcallI rfl rfl ?_
  repeat' (first |  (apply riald; exact rfl; omega; decide) | (apply rlald; exact rfl; omega; decide) | (apply rzald; exact rfl; omega; decide) | (apply rbald; exact rfl; omega; decide) | (apply rzast; decide; exact rfl; omega; decide; omega) | (apply riast; decide; exact rfl; omega; decide) | (apply rlast; decide; exact rfl; omega; decide) | (refine re1 ?_) | (refine re0 ?_) | (refine rn1 ?_) | (refine rn0 ?_) | (refine rbe (fun h => ?_) (fun h => ?_)) | (refine rbn (fun h => ?_) (fun h => ?_)) | ((first | (refine rb_lt (fun h => ?_) (fun h => ?_)) | (refine rb_ge (fun h => ?_) (fun h => ?_)) | (refine rb_gt (fun h => ?_) (fun h => ?_)) | (refine rb_le (fun h => ?_) (fun h => ?_)) | (refine rb_eq (fun h => ?_) (fun h => ?_)) | (refine rb_ne (fun h => ?_) (fun h => ?_)) | (refine rc_lt (fun h => ?_) (fun h => ?_)) | (refine rc_ge (fun h => ?_) (fun h => ?_)) | (refine rc_gt (fun h => ?_) (fun h => ?_)) | (refine rc_le (fun h => ?_) (fun h => ?_)) | (refine rc_eq (fun h => ?_) (fun h => ?_)) | (refine rc_ne (fun h => ?_) (fun h => ?_))) <;> (try (simp (disch := omega) only [nI_toInt, nM_toInt, i_ne, i_eq, l_ne, l_eq, a_ne, a_eq, i_L, i_A, l_I, l_A, a_I, a_L, up_ne, up_eq, ne_eq, Nat.reduceEqDiff, not_false_eq_true, Int.reduceNatCast', ] at h)) <;> (try (exfalso; omega))) | (refine riaddN ?_) | (refine rimulN ?_) | (refine riconst ?_) | (refine rlconst ?_) | (apply risubN; (first | omega | decide)) | (apply ridivN; (first | omega | decide); (first | omega | decide); (first | omega | decide)) | (apply riremN; (first | omega | decide); (first | omega | decide); (first | omega | decide)) | (apply ri2lN; (first | omega | decide)) | (refine rl2iN ?_) | (refine rlmulN ?_) | (refine rladdN ?_) | (apply rlsubN; (first | omega | decide)) | (apply rldivN; (first | omega | decide); (first | omega | decide); (first | omega | decide)) | (apply riinc1; exact rfl; exact rfl) | (apply r1; exact rfl) | (apply rgoto; exact rfl) | (apply rfall; exact rfl) | (apply rirI; exact rfl) | (apply rend; exact rfl; exact rfl) | (apply rtsw; exact rfl; exact rfl) | (apply rcallC; exact rfl; exact rfl; exact rfl; first |  (apply rcallI; exact rfl; exact rfl)))
  refine rhead ?_
  refine am_it 256 (fun k lv M' => M' = M ∧ lv = [some (.ref 31), some (.long (orA W k)), none, some (.int (nI k)), none]) ?_ ?_ 0 _ _ (by omega) ⟨rfl, rfl⟩
  · rintro k lv M' hk ⟨rfl, rfl⟩ nx
    repeat' (first |  (apply riald; exact rfl; omega; decide) | (apply rlald; exact rfl; omega; decide) | (apply rzald; exact rfl; omega; decide) | (apply rbald; exact rfl; omega; decide) | (apply rzast; decide; exact rfl; omega; decide; omega) | (apply riast; decide; exact rfl; omega; decide) | (apply rlast; decide; exact rfl; omega; decide) | (refine re1 ?_) | (refine re0 ?_) | (refine rn1 ?_) | (refine rn0 ?_) | (refine rbe (fun h => ?_) (fun h => ?_)) | (refine rbn (fun h => ?_) (fun h => ?_)) | ((first | (refine rb_lt (fun h => ?_) (fun h => ?_)) | (refine rb_ge (fun h => ?_) (fun h => ?_)) | (refine rb_gt (fun h => ?_) (fun h => ?_)) | (refine rb_le (fun h => ?_) (fun h => ?_)) | (refine rb_eq (fun h => ?_) (fun h => ?_)) | (refine rb_ne (fun h => ?_) (fun h => ?_)) | (refine rc_lt (fun h => ?_) (fun h => ?_)) | (refine rc_ge (fun h => ?_) (fun h => ?_)) | (refine rc_gt (fun h => ?_) (fun h => ?_)) | (refine rc_le (fun h => ?_) (fun h => ?_)) | (refine rc_eq (fun h => ?_) (fun h => ?_)) | (refine rc_ne (fun h => ?_) (fun h => ?_))) <;> (try (simp (disch := omega) only [nI_toInt, nM_toInt, i_ne, i_eq, l_ne, l_eq, a_ne, a_eq, i_L, i_A, l_I, l_A, a_I, a_L, up_ne, up_eq, ne_eq, Nat.reduceEqDiff, not_false_eq_true, Int.reduceNatCast', ] at h)) <;> (try (exfalso; omega))) | (refine riaddN ?_) | (refine rimulN ?_) | (refine riconst ?_) | (refine rlconst ?_) | (apply risubN; (first | omega | decide)) | (apply ridivN; (first | omega | decide); (first | omega | decide); (first | omega | decide)) | (apply riremN; (first | omega | decide); (first | omega | decide); (first | omega | decide)) | (apply ri2lN; (first | omega | decide)) | (refine rl2iN ?_) | (refine rlmulN ?_) | (refine rladdN ?_) | (apply rlsubN; (first | omega | decide)) | (apply rldivN; (first | omega | decide); (first | omega | decide); (first | omega | decide)) | (apply riinc1; exact rfl; exact rfl) | (apply r1; exact rfl) | (apply rgoto; exact rfl) | (apply rfall; exact rfl) | (apply rirI; exact rfl) | (apply rend; exact rfl; exact rfl) | (apply rtsw; exact rfl; exact rfl) | (apply rcallC; exact rfl; exact rfl; exact rfl; first |  (apply rcallI; exact rfl; exact rfl)))
    refine rback (nx _ _ ⟨rfl, ?_⟩)
    rw [show orA W (k + 1) = orA W k ||| W k from rfl, ← hw k hk]
    rfl
  · rintro lv M' ⟨rfl, rfl⟩
    repeat' (first |  (apply riald; exact rfl; omega; decide) | (apply rlald; exact rfl; omega; decide) | (apply rzald; exact rfl; omega; decide) | (apply rbald; exact rfl; omega; decide) | (apply rzast; decide; exact rfl; omega; decide; omega) | (apply riast; decide; exact rfl; omega; decide) | (apply rlast; decide; exact rfl; omega; decide) | (refine re1 ?_) | (refine re0 ?_) | (refine rn1 ?_) | (refine rn0 ?_) | (refine rbe (fun h => ?_) (fun h => ?_)) | (refine rbn (fun h => ?_) (fun h => ?_)) | ((first | (refine rb_lt (fun h => ?_) (fun h => ?_)) | (refine rb_ge (fun h => ?_) (fun h => ?_)) | (refine rb_gt (fun h => ?_) (fun h => ?_)) | (refine rb_le (fun h => ?_) (fun h => ?_)) | (refine rb_eq (fun h => ?_) (fun h => ?_)) | (refine rb_ne (fun h => ?_) (fun h => ?_)) | (refine rc_lt (fun h => ?_) (fun h => ?_)) | (refine rc_ge (fun h => ?_) (fun h => ?_)) | (refine rc_gt (fun h => ?_) (fun h => ?_)) | (refine rc_le (fun h => ?_) (fun h => ?_)) | (refine rc_eq (fun h => ?_) (fun h => ?_)) | (refine rc_ne (fun h => ?_) (fun h => ?_))) <;> (try (simp (disch := omega) only [nI_toInt, nM_toInt, i_ne, i_eq, l_ne, l_eq, a_ne, a_eq, i_L, i_A, l_I, l_A, a_I, a_L, up_ne, up_eq, ne_eq, Nat.reduceEqDiff, not_false_eq_true, Int.reduceNatCast', ] at h)) <;> (try (exfalso; omega))) | (refine riaddN ?_) | (refine rimulN ?_) | (refine riconst ?_) | (refine rlconst ?_) | (apply risubN; (first | omega | decide)) | (apply ridivN; (first | omega | decide); (first | omega | decide); (first | omega | decide)) | (apply riremN; (first | omega | decide); (first | omega | decide); (first | omega | decide)) | (apply ri2lN; (first | omega | decide)) | (refine rl2iN ?_) | (refine rlmulN ?_) | (refine rladdN ?_) | (apply rlsubN; (first | omega | decide)) | (apply rldivN; (first | omega | decide); (first | omega | decide); (first | omega | decide)) | (apply riinc1; exact rfl; exact rfl) | (apply r1; exact rfl) | (apply rgoto; exact rfl) | (apply rfall; exact rfl) | (apply rirI; exact rfl) | (apply rend; exact rfl; exact rfl) | (apply rtsw; exact rfl; exact rfl) | (apply rcallC; exact rfl; exact rfl; exact rfl; first |  (apply rcallI; exact rfl; exact rfl)))
    refine rhead ?_
    have P : (fun m => anyB (fun c => tb (W c) m) 256) = fun m => tb (orA W 256) m := funext fun m => (tb_orA W m 256).symm
    rw [P] at kk
    refine am_it 64 (fun k lv M'' => M'' = M' ∧ lv = [some (.ref 31), some (.long (orA W 256)), none, some (.int (mmI (moF (fun m => tb (orA W 256) m) k))), some (.int (nI k))]) ?_ ?_ 0 _ _ (by omega) ⟨rfl, rfl⟩
    · rintro k lv M'' hk ⟨rfl, rfl⟩ nx
      have hr := moF_r (fun m => tb (orA W 256) m) k (by omega)
      have pk := popK_le 6 k
      have pb := popK_le 6 (moF (fun m => tb (orA W 256) m) k)
      rw [show popK 6 k = popF k from rfl] at pk
      rw [show popK 6 (moF (fun m => tb (orA W 256) m) k) = popF (moF (fun m => tb (orA W 256) m) k) from rfl] at pb
      rcases hr with hr | hr
      · have em : mmI (moF (fun m => tb (orA W 256) m) k) = nI (moF (fun m => tb (orA W 256) m) k) := if_neg (by omega)
        rw [em]
        repeat' (first | (apply rlandT; omega) | (refine rlcB (fun h => ?_) (fun h => ?_)) | (refine rlitT (by decide) ?_) | (refine rlitF (by decide) ?_) | (refine rlit0T (by decide) ?_) | (refine rlit0F (by decide) ?_) | (apply riald; exact rfl; omega; decide) | (apply rlald; exact rfl; omega; decide) | (apply rzald; exact rfl; omega; decide) | (apply rbald; exact rfl; omega; decide) | (apply rzast; decide; exact rfl; omega; decide; omega) | (apply riast; decide; exact rfl; omega; decide) | (apply rlast; decide; exact rfl; omega; decide) | (refine re1 ?_) | (refine re0 ?_) | (refine rn1 ?_) | (refine rn0 ?_) | (refine rbe (fun h => ?_) (fun h => ?_)) | (refine rbn (fun h => ?_) (fun h => ?_)) | ((first | (refine rb_lt (fun h => ?_) (fun h => ?_)) | (refine rb_ge (fun h => ?_) (fun h => ?_)) | (refine rb_gt (fun h => ?_) (fun h => ?_)) | (refine rb_le (fun h => ?_) (fun h => ?_)) | (refine rb_eq (fun h => ?_) (fun h => ?_)) | (refine rb_ne (fun h => ?_) (fun h => ?_)) | (refine rc_lt (fun h => ?_) (fun h => ?_)) | (refine rc_ge (fun h => ?_) (fun h => ?_)) | (refine rc_gt (fun h => ?_) (fun h => ?_)) | (refine rc_le (fun h => ?_) (fun h => ?_)) | (refine rc_eq (fun h => ?_) (fun h => ?_)) | (refine rc_ne (fun h => ?_) (fun h => ?_))) <;> (try (simp (disch := omega) only [nI_toInt, nM_toInt, i_ne, i_eq, l_ne, l_eq, a_ne, a_eq, i_L, i_A, l_I, l_A, a_I, a_L, up_ne, up_eq, ne_eq, Nat.reduceEqDiff, not_false_eq_true, Int.reduceNatCast', ] at h)) <;> (try (exfalso; omega))) | (refine riaddN ?_) | (refine rimulN ?_) | (refine riconst ?_) | (refine rlconst ?_) | (apply risubN; (first | omega | decide)) | (apply ridivN; (first | omega | decide); (first | omega | decide); (first | omega | decide)) | (apply riremN; (first | omega | decide); (first | omega | decide); (first | omega | decide)) | (apply ri2lN; (first | omega | decide)) | (refine rl2iN ?_) | (refine rlmulN ?_) | (refine rladdN ?_) | (apply rlsubN; (first | omega | decide)) | (apply rldivN; (first | omega | decide); (first | omega | decide); (first | omega | decide)) | (apply riinc1; exact rfl; exact rfl) | (apply r1; exact rfl) | (apply rgoto; exact rfl) | (apply rfall; exact rfl) | (apply rirI; exact rfl) | (apply rend; exact rfl; exact rfl) | (apply rtsw; exact rfl; exact rfl) | (apply rcallC; exact rfl; exact rfl; exact rfl; first | (refine cc_bitCount (by omega) ?_) | (apply rcallI; exact rfl; exact rfl)))
        all_goals refine rback (nx _ _ ⟨rfl, ?_⟩)
        all_goals first
          | (rw [moF_y (p := fun m => tb (orA W 256) m) (show tb (orA W 256) k = true by assumption) (by first | exact Or.inl hr | (right; omega)), show mmI k = nI k from if_neg (by omega)]; rfl)
          | (rw [moF_n (p := fun m => tb (orA W 256) m) (fun z => by first | exact Bool.noConfusion (z.1.symm.trans (show tb (orA W 256) k = false by assumption)) | (have := z.2; omega)), em]; rfl)
      · have em : mmI (moF (fun m => tb (orA W 256) m) k) = nM 0 := if_pos hr
        rw [em]
        repeat' (first | (apply rlandT; omega) | (refine rlcB (fun h => ?_) (fun h => ?_)) | (refine rlitT (by decide) ?_) | (refine rlitF (by decide) ?_) | (refine rlit0T (by decide) ?_) | (refine rlit0F (by decide) ?_) | (apply riald; exact rfl; omega; decide) | (apply rlald; exact rfl; omega; decide) | (apply rzald; exact rfl; omega; decide) | (apply rbald; exact rfl; omega; decide) | (apply rzast; decide; exact rfl; omega; decide; omega) | (apply riast; decide; exact rfl; omega; decide) | (apply rlast; decide; exact rfl; omega; decide) | (refine re1 ?_) | (refine re0 ?_) | (refine rn1 ?_) | (refine rn0 ?_) | (refine rbe (fun h => ?_) (fun h => ?_)) | (refine rbn (fun h => ?_) (fun h => ?_)) | ((first | (refine rb_lt (fun h => ?_) (fun h => ?_)) | (refine rb_ge (fun h => ?_) (fun h => ?_)) | (refine rb_gt (fun h => ?_) (fun h => ?_)) | (refine rb_le (fun h => ?_) (fun h => ?_)) | (refine rb_eq (fun h => ?_) (fun h => ?_)) | (refine rb_ne (fun h => ?_) (fun h => ?_)) | (refine rc_lt (fun h => ?_) (fun h => ?_)) | (refine rc_ge (fun h => ?_) (fun h => ?_)) | (refine rc_gt (fun h => ?_) (fun h => ?_)) | (refine rc_le (fun h => ?_) (fun h => ?_)) | (refine rc_eq (fun h => ?_) (fun h => ?_)) | (refine rc_ne (fun h => ?_) (fun h => ?_))) <;> (try (simp (disch := omega) only [nI_toInt, nM_toInt, i_ne, i_eq, l_ne, l_eq, a_ne, a_eq, i_L, i_A, l_I, l_A, a_I, a_L, up_ne, up_eq, ne_eq, Nat.reduceEqDiff, not_false_eq_true, Int.reduceNatCast', ] at h)) <;> (try (exfalso; omega))) | (refine riaddN ?_) | (refine rimulN ?_) | (refine riconst ?_) | (refine rlconst ?_) | (apply risubN; (first | omega | decide)) | (apply ridivN; (first | omega | decide); (first | omega | decide); (first | omega | decide)) | (apply riremN; (first | omega | decide); (first | omega | decide); (first | omega | decide)) | (apply ri2lN; (first | omega | decide)) | (refine rl2iN ?_) | (refine rlmulN ?_) | (refine rladdN ?_) | (apply rlsubN; (first | omega | decide)) | (apply rldivN; (first | omega | decide); (first | omega | decide); (first | omega | decide)) | (apply riinc1; exact rfl; exact rfl) | (apply r1; exact rfl) | (apply rgoto; exact rfl) | (apply rfall; exact rfl) | (apply rirI; exact rfl) | (apply rend; exact rfl; exact rfl) | (apply rtsw; exact rfl; exact rfl) | (apply rcallC; exact rfl; exact rfl; exact rfl; first | (refine cc_bitCount (by omega) ?_) | (apply rcallI; exact rfl; exact rfl)))
        all_goals refine rback (nx _ _ ⟨rfl, ?_⟩)
        all_goals first
          | (rw [moF_y (p := fun m => tb (orA W 256) m) (show tb (orA W 256) k = true by assumption) (by first | exact Or.inl hr | (right; omega)), show mmI k = nI k from if_neg (by omega)]; rfl)
          | (rw [moF_n (p := fun m => tb (orA W 256) m) (fun z => by first | exact Bool.noConfusion (z.1.symm.trans (show tb (orA W 256) k = false by assumption)) | (have := z.2; omega)), em]; rfl)
    · rintro lv M'' ⟨rfl, rfl⟩
      repeat' (first |  (apply riald; exact rfl; omega; decide) | (apply rlald; exact rfl; omega; decide) | (apply rzald; exact rfl; omega; decide) | (apply rbald; exact rfl; omega; decide) | (apply rzast; decide; exact rfl; omega; decide; omega) | (apply riast; decide; exact rfl; omega; decide) | (apply rlast; decide; exact rfl; omega; decide) | (refine re1 ?_) | (refine re0 ?_) | (refine rn1 ?_) | (refine rn0 ?_) | (refine rbe (fun h => ?_) (fun h => ?_)) | (refine rbn (fun h => ?_) (fun h => ?_)) | ((first | (refine rb_lt (fun h => ?_) (fun h => ?_)) | (refine rb_ge (fun h => ?_) (fun h => ?_)) | (refine rb_gt (fun h => ?_) (fun h => ?_)) | (refine rb_le (fun h => ?_) (fun h => ?_)) | (refine rb_eq (fun h => ?_) (fun h => ?_)) | (refine rb_ne (fun h => ?_) (fun h => ?_)) | (refine rc_lt (fun h => ?_) (fun h => ?_)) | (refine rc_ge (fun h => ?_) (fun h => ?_)) | (refine rc_gt (fun h => ?_) (fun h => ?_)) | (refine rc_le (fun h => ?_) (fun h => ?_)) | (refine rc_eq (fun h => ?_) (fun h => ?_)) | (refine rc_ne (fun h => ?_) (fun h => ?_))) <;> (try (simp (disch := omega) only [nI_toInt, nM_toInt, i_ne, i_eq, l_ne, l_eq, a_ne, a_eq, i_L, i_A, l_I, l_A, a_I, a_L, up_ne, up_eq, ne_eq, Nat.reduceEqDiff, not_false_eq_true, Int.reduceNatCast', ] at h)) <;> (try (exfalso; omega))) | (refine riaddN ?_) | (refine rimulN ?_) | (refine riconst ?_) | (refine rlconst ?_) | (apply risubN; (first | omega | decide)) | (apply ridivN; (first | omega | decide); (first | omega | decide); (first | omega | decide)) | (apply riremN; (first | omega | decide); (first | omega | decide); (first | omega | decide)) | (apply ri2lN; (first | omega | decide)) | (refine rl2iN ?_) | (refine rlmulN ?_) | (refine rladdN ?_) | (apply rlsubN; (first | omega | decide)) | (apply rldivN; (first | omega | decide); (first | omega | decide); (first | omega | decide)) | (apply riinc1; exact rfl; exact rfl) | (apply r1; exact rfl) | (apply rgoto; exact rfl) | (apply rfall; exact rfl) | (apply rirI; exact rfl) | (apply rend; exact rfl; exact rfl) | (apply rtsw; exact rfl; exact rfl) | (apply rcallC; exact rfl; exact rfl; exact rfl; first |  (apply rcallI; exact rfl; exact rfl)))
      exact kk
theorem anyB_s {p : Nat → Bool} {n : Nat} : anyB p (n + 1) = (anyB p n || p n) := rfl
theorem anyB_f {p : Nat → Bool} : ∀ n, (∀ c, c < n → p c = false) → anyB p n = false
  | 0, _ => rfl
  | n + 1, h => by
    rw [anyB_s, anyB_f n (fun c hc => h c (by omega)), h n (by omega)]; rfl
def moP (V : am_M) (dd m : Nat) : Bool := anyB (fun c => tb (wayF V dd 256 1000 256 (nn (mI V 9 16) + 1) c) m) 256
/-- the answer of most -/
def mostV (b0 w : Nat) : Int32 := if b0 = 64 then nM 0 else if w = 1 then nI b0 else nI (popF b0)
theorem x_most (hI : Inv V) (hs : sc V M) (hd : dd < 1000) {w : Nat} (hw : w ≤ 1) (kk : ∀ M', sc V M' → Q (some (.int (mostV (moF (moP V dd) 64) w))) M') : am_Call true 59 70 [.ref 9, .int (nI dd), .int (nI w)] M Q := by
  have kq := kk
  unfold mostV at kq
  have hr := moF_r (moP V dd) 64 (by omega)
  have hb : moF (fun m => anyB (fun c => tb (wayF V dd 256 1000 256 (nn (mI V 9 16) + 1) c) m) 256) 64 = moF (moP V dd) 64 := rfl
  revert hb kq hr
  generalize moF (moP V dd) 64 = b0
  intro kq hr hb
  rcases hr with hr | hr
  · rw [if_neg (by omega)] at kq
    have em : mmI b0 = nI b0 := if_neg (by omega)
    refine rcallI rfl rfl ?_
    repeat' (first |  (apply riald; exact rfl; omega; decide) | (apply rlald; exact rfl; omega; decide) | (apply rzald; exact rfl; omega; decide) | (apply rbald; exact rfl; omega; decide) | (apply rzast; decide; exact rfl; omega; decide; omega) | (apply riast; decide; exact rfl; omega; decide) | (apply rlast; decide; exact rfl; omega; decide) | (refine re1 ?_) | (refine re0 ?_) | (refine rn1 ?_) | (refine rn0 ?_) | (refine rbe (fun h => ?_) (fun h => ?_)) | (refine rbn (fun h => ?_) (fun h => ?_)) | ((first | (refine rb_lt (fun h => ?_) (fun h => ?_)) | (refine rb_ge (fun h => ?_) (fun h => ?_)) | (refine rb_gt (fun h => ?_) (fun h => ?_)) | (refine rb_le (fun h => ?_) (fun h => ?_)) | (refine rb_eq (fun h => ?_) (fun h => ?_)) | (refine rb_ne (fun h => ?_) (fun h => ?_)) | (refine rc_lt (fun h => ?_) (fun h => ?_)) | (refine rc_ge (fun h => ?_) (fun h => ?_)) | (refine rc_gt (fun h => ?_) (fun h => ?_)) | (refine rc_le (fun h => ?_) (fun h => ?_)) | (refine rc_eq (fun h => ?_) (fun h => ?_)) | (refine rc_ne (fun h => ?_) (fun h => ?_))) <;> (try (simp (disch := omega) only [nI_toInt, nM_toInt, i_ne, i_eq, l_ne, l_eq, a_ne, a_eq, i_L, i_A, l_I, l_A, a_I, a_L, up_ne, up_eq, ne_eq, Nat.reduceEqDiff, not_false_eq_true, Int.reduceNatCast', ] at h)) <;> (try (exfalso; omega))) | (refine riaddN ?_) | (refine rimulN ?_) | (refine riconst ?_) | (refine rlconst ?_) | (apply risubN; (first | omega | decide)) | (apply ridivN; (first | omega | decide); (first | omega | decide); (first | omega | decide)) | (apply riremN; (first | omega | decide); (first | omega | decide); (first | omega | decide)) | (apply ri2lN; (first | omega | decide)) | (refine rl2iN ?_) | (refine rlmulN ?_) | (refine rladdN ?_) | (apply rlsubN; (first | omega | decide)) | (apply rldivN; (first | omega | decide); (first | omega | decide); (first | omega | decide)) | (apply riinc1; exact rfl; exact rfl) | (apply r1; exact rfl) | (apply rgoto; exact rfl) | (apply rfall; exact rfl) | (apply rirI; exact rfl) | (apply rend; exact rfl; exact rfl) | (apply rtsw; exact rfl; exact rfl) | (apply rcallC; exact rfl; exact rfl; exact rfl; first | (refine cc_isCellN (by omega) ?_) | (refine cc_isDayN (by omega) ?_) | (refine cc_isYearN (by omega) ?_) | (refine cc_isStepN (by omega) ?_) | (refine cc_mCellN (by omega) ?_) | (refine cc_mDayN (by omega) ?_) | (refine cc_isInN (by omega) (by omega) (by omega) ?_) | (refine cc_countEnds hI hs hd noC noS noC nM0_lt (fun M1 s1q p1q e1q => ?_)) | (refine cc_mostMet e1q ?_; rw [hb, em]) | (refine cc_bitCount (by omega) ?_) | (apply rcallI; exact rfl; exact rfl)))
    · have k := kq M1 s1q; rw [if_neg (by omega)] at k; exact k
    · have k := kq M1 s1q; rw [if_pos (by omega)] at k; exact k
  · rw [if_pos hr] at kq
    have em : mmI b0 = nM 0 := if_pos hr
    refine rcallI rfl rfl ?_
    repeat' (first | (refine rlitT (by decide) ?_) | (refine rlitF (by decide) ?_) | (refine rlit0T (by decide) ?_) | (refine rlit0F (by decide) ?_) | (apply riald; exact rfl; omega; decide) | (apply rlald; exact rfl; omega; decide) | (apply rzald; exact rfl; omega; decide) | (apply rbald; exact rfl; omega; decide) | (apply rzast; decide; exact rfl; omega; decide; omega) | (apply riast; decide; exact rfl; omega; decide) | (apply rlast; decide; exact rfl; omega; decide) | (refine re1 ?_) | (refine re0 ?_) | (refine rn1 ?_) | (refine rn0 ?_) | (refine rbe (fun h => ?_) (fun h => ?_)) | (refine rbn (fun h => ?_) (fun h => ?_)) | ((first | (refine rb_lt (fun h => ?_) (fun h => ?_)) | (refine rb_ge (fun h => ?_) (fun h => ?_)) | (refine rb_gt (fun h => ?_) (fun h => ?_)) | (refine rb_le (fun h => ?_) (fun h => ?_)) | (refine rb_eq (fun h => ?_) (fun h => ?_)) | (refine rb_ne (fun h => ?_) (fun h => ?_)) | (refine rc_lt (fun h => ?_) (fun h => ?_)) | (refine rc_ge (fun h => ?_) (fun h => ?_)) | (refine rc_gt (fun h => ?_) (fun h => ?_)) | (refine rc_le (fun h => ?_) (fun h => ?_)) | (refine rc_eq (fun h => ?_) (fun h => ?_)) | (refine rc_ne (fun h => ?_) (fun h => ?_))) <;> (try (simp (disch := omega) only [nI_toInt, nM_toInt, i_ne, i_eq, l_ne, l_eq, a_ne, a_eq, i_L, i_A, l_I, l_A, a_I, a_L, up_ne, up_eq, ne_eq, Nat.reduceEqDiff, not_false_eq_true, Int.reduceNatCast', ] at h)) <;> (try (exfalso; omega))) | (refine riaddN ?_) | (refine rimulN ?_) | (refine riconst ?_) | (refine rlconst ?_) | (apply risubN; (first | omega | decide)) | (apply ridivN; (first | omega | decide); (first | omega | decide); (first | omega | decide)) | (apply riremN; (first | omega | decide); (first | omega | decide); (first | omega | decide)) | (apply ri2lN; (first | omega | decide)) | (refine rl2iN ?_) | (refine rlmulN ?_) | (refine rladdN ?_) | (apply rlsubN; (first | omega | decide)) | (apply rldivN; (first | omega | decide); (first | omega | decide); (first | omega | decide)) | (apply riinc1; exact rfl; exact rfl) | (apply r1; exact rfl) | (apply rgoto; exact rfl) | (apply rfall; exact rfl) | (apply rirI; exact rfl) | (apply rend; exact rfl; exact rfl) | (apply rtsw; exact rfl; exact rfl) | (apply rcallC; exact rfl; exact rfl; exact rfl; first | (refine cc_isCellN (by omega) ?_) | (refine cc_isDayN (by omega) ?_) | (refine cc_isYearN (by omega) ?_) | (refine cc_isStepN (by omega) ?_) | (refine cc_mCellN (by omega) ?_) | (refine cc_mDayN (by omega) ?_) | (refine cc_isInN (by omega) (by omega) (by omega) ?_) | (refine cc_countEnds hI hs hd noC noS noC nM0_lt (fun M1 s1q p1q e1q => ?_)) | (refine cc_mostMet e1q ?_; rw [hb, em]) | (apply rcallI; exact rfl; exact rfl)))
    all_goals exact kq M1 s1q
theorem m_most (hI : Inv V) (hs : sc V M) (hd : dd < 1000) {w : Nat} (hw : w ≤ 1) (kk : ∀ M', sc V M' → Q (some (.int (mostV (moF (moP V dd) 64) w))) M') : am_Call true 59 221 [.ref 67, .int (nI dd), .int (nI w)] M Q := by
  have l6 := KE_6 (V := V) (dd := dd)
  have hp := pow6 l6
  have st : moF (moP V dd) 64 = moF (moP V dd) (2 ^ (KE V dd).length) := by
    have := moF_stop (p := moP V dd) (a := 2 ^ (KE V dd).length) (64 - 2 ^ (KE V dd).length) (fun m h1 h2 => anyB_f _ (fun c hc => low_way hI _ c hc m h1 (by omega)))
    rw [← this]
    congr 1
    omega
  rw [st] at kk
  refine rcallI rfl rfl ?_
  repeat' (first |  (apply riald; exact rfl; omega; decide) | (apply rlald; exact rfl; omega; decide) | (apply rzald; exact rfl; omega; decide) | (apply rbald; exact rfl; omega; decide) | (apply rzast; decide; exact rfl; omega; decide; omega) | (apply riast; decide; exact rfl; omega; decide) | (apply rlast; decide; exact rfl; omega; decide) | (refine re1 ?_) | (refine re0 ?_) | (refine rn1 ?_) | (refine rn0 ?_) | (refine rbe (fun h => ?_) (fun h => ?_)) | (refine rbn (fun h => ?_) (fun h => ?_)) | ((first | (refine rb_lt (fun h => ?_) (fun h => ?_)) | (refine rb_ge (fun h => ?_) (fun h => ?_)) | (refine rb_gt (fun h => ?_) (fun h => ?_)) | (refine rb_le (fun h => ?_) (fun h => ?_)) | (refine rb_eq (fun h => ?_) (fun h => ?_)) | (refine rb_ne (fun h => ?_) (fun h => ?_)) | (refine rc_lt (fun h => ?_) (fun h => ?_)) | (refine rc_ge (fun h => ?_) (fun h => ?_)) | (refine rc_gt (fun h => ?_) (fun h => ?_)) | (refine rc_le (fun h => ?_) (fun h => ?_)) | (refine rc_eq (fun h => ?_) (fun h => ?_)) | (refine rc_ne (fun h => ?_) (fun h => ?_))) <;> (try (simp (disch := omega) only [nI_toInt, nM_toInt, i_ne, i_eq, l_ne, l_eq, a_ne, a_eq, i_L, i_A, l_I, l_A, a_I, a_L, up_ne, up_eq, ne_eq, Nat.reduceEqDiff, not_false_eq_true, Int.reduceNatCast', ] at h)) <;> (try (exfalso; omega))) | (refine riaddN ?_) | (refine rimulN ?_) | (refine riconst ?_) | (refine rlconst ?_) | (apply risubN; (first | omega | decide)) | (apply ridivN; (first | omega | decide); (first | omega | decide); (first | omega | decide)) | (apply riremN; (first | omega | decide); (first | omega | decide); (first | omega | decide)) | (apply ri2lN; (first | omega | decide)) | (refine rl2iN ?_) | (refine rlmulN ?_) | (refine rladdN ?_) | (apply rlsubN; (first | omega | decide)) | (apply rldivN; (first | omega | decide); (first | omega | decide); (first | omega | decide)) | (apply riinc1; exact rfl; exact rfl) | (apply r1; exact rfl) | (apply rgoto; exact rfl) | (apply rfall; exact rfl) | (apply rirI; exact rfl) | (apply rend; exact rfl; exact rfl) | (apply rtsw; exact rfl; exact rfl) | (apply rcallC; exact rfl; exact rfl; exact rfl; first | (refine cc_isCellN (by omega) ?_) | (refine cc_isDayN (by omega) ?_) | (refine cc_isYearN (by omega) ?_) | (refine cc_isStepN (by omega) ?_) | (refine cc_mCellN (by omega) ?_) | (refine cc_mDayN (by omega) ?_) | (refine cc_isInN (by omega) (by omega) (by omega) ?_) | (refine cc_goes hI hs hd (Nat.zero_le 1) goN (fun M1 s1q p1q e1q => ?_)) | (apply rcallI; exact rfl; exact rfl)))
  refine rhead ?_
  have k1 := p1q.1
  refine am_it (2 ^ (KE V dd).length) (fun k lv M' => M' = M1 ∧ ∃ o5 o6, lv = [some (.ref 67), some (.int (nI dd)), some (.int (nI w)), some (.int (mmI (moF (moP V dd) k))), some (.int (nI k)), o5, o6]) ?_ ?_ 0 _ _ (by omega) ⟨rfl, _, _, rfl⟩
  · rintro k lv M' hk ⟨rfl, o5, o6, rfl⟩ nx
    repeat' (first | (apply rgetN; exact rfl; exact k1) | (apply rishlA; omega) | (apply riald; exact rfl; omega; decide) | (apply rlald; exact rfl; omega; decide) | (apply rzald; exact rfl; omega; decide) | (apply rbald; exact rfl; omega; decide) | (apply rzast; decide; exact rfl; omega; decide; omega) | (apply riast; decide; exact rfl; omega; decide) | (apply rlast; decide; exact rfl; omega; decide) | (refine re1 ?_) | (refine re0 ?_) | (refine rn1 ?_) | (refine rn0 ?_) | (refine rbe (fun h => ?_) (fun h => ?_)) | (refine rbn (fun h => ?_) (fun h => ?_)) | ((first | (refine rb_lt (fun h => ?_) (fun h => ?_)) | (refine rb_ge (fun h => ?_) (fun h => ?_)) | (refine rb_gt (fun h => ?_) (fun h => ?_)) | (refine rb_le (fun h => ?_) (fun h => ?_)) | (refine rb_eq (fun h => ?_) (fun h => ?_)) | (refine rb_ne (fun h => ?_) (fun h => ?_)) | (refine rc_lt (fun h => ?_) (fun h => ?_)) | (refine rc_ge (fun h => ?_) (fun h => ?_)) | (refine rc_gt (fun h => ?_) (fun h => ?_)) | (refine rc_le (fun h => ?_) (fun h => ?_)) | (refine rc_eq (fun h => ?_) (fun h => ?_)) | (refine rc_ne (fun h => ?_) (fun h => ?_))) <;> (try (simp (disch := omega) only [nI_toInt, nM_toInt, i_ne, i_eq, l_ne, l_eq, a_ne, a_eq, i_L, i_A, l_I, l_A, a_I, a_L, up_ne, up_eq, ne_eq, Nat.reduceEqDiff, not_false_eq_true, Int.reduceNatCast', ] at h)) <;> (try (exfalso; omega))) | (refine riaddN ?_) | (refine rimulN ?_) | (refine riconst ?_) | (refine rlconst ?_) | (apply risubN; (first | omega | decide)) | (apply ridivN; (first | omega | decide); (first | omega | decide); (first | omega | decide)) | (apply riremN; (first | omega | decide); (first | omega | decide); (first | omega | decide)) | (apply ri2lN; (first | omega | decide)) | (refine rl2iN ?_) | (refine rlmulN ?_) | (refine rladdN ?_) | (apply rlsubN; (first | omega | decide)) | (apply rldivN; (first | omega | decide); (first | omega | decide); (first | omega | decide)) | (apply riinc1; exact rfl; exact rfl) | (apply r1; exact rfl) | (apply rgoto; exact rfl) | (apply rfall; exact rfl) | (apply rirI; exact rfl) | (apply rend; exact rfl; exact rfl) | (apply rtsw; exact rfl; exact rfl) | (apply rcallC; exact rfl; exact rfl; exact rfl; first |  (apply rcallI; exact rfl; exact rfl)))
    refine rhead ?_
    refine am_it 256 (fun c lv M'' => M'' = M' ∧ lv = [some (.ref 67), some (.int (nI dd)), some (.int (nI w)), some (.int (mmI (moF (moP V dd) k))), some (.int (nI k)), some (.int (bI (anyB (fun c => tb (wayF V dd 256 1000 256 (nn (mI V 9 16) + 1) c) k) c))), some (.int (nI c))]) ?_ ?_ 0 _ _ (by omega) ⟨rfl, rfl⟩
    · rintro c lv M'' hc ⟨rfl, rfl⟩ nxc
      repeat' (first | (apply rlandT; omega) | (refine rlcB (fun h => ?_) (fun h => ?_)) | (refine rlitT (by decide) ?_) | (refine rlitF (by decide) ?_) | (refine rlit0T (by decide) ?_) | (refine rlit0F (by decide) ?_) | (apply riald; exact rfl; omega; decide) | (apply rlald; exact rfl; omega; decide) | (apply rzald; exact rfl; omega; decide) | (apply rbald; exact rfl; omega; decide) | (apply rzast; decide; exact rfl; omega; decide; omega) | (apply riast; decide; exact rfl; omega; decide) | (apply rlast; decide; exact rfl; omega; decide) | (refine re1 ?_) | (refine re0 ?_) | (refine rn1 ?_) | (refine rn0 ?_) | (refine rbe (fun h => ?_) (fun h => ?_)) | (refine rbn (fun h => ?_) (fun h => ?_)) | ((first | (refine rb_lt (fun h => ?_) (fun h => ?_)) | (refine rb_ge (fun h => ?_) (fun h => ?_)) | (refine rb_gt (fun h => ?_) (fun h => ?_)) | (refine rb_le (fun h => ?_) (fun h => ?_)) | (refine rb_eq (fun h => ?_) (fun h => ?_)) | (refine rb_ne (fun h => ?_) (fun h => ?_)) | (refine rc_lt (fun h => ?_) (fun h => ?_)) | (refine rc_ge (fun h => ?_) (fun h => ?_)) | (refine rc_gt (fun h => ?_) (fun h => ?_)) | (refine rc_le (fun h => ?_) (fun h => ?_)) | (refine rc_eq (fun h => ?_) (fun h => ?_)) | (refine rc_ne (fun h => ?_) (fun h => ?_))) <;> (try (simp (disch := omega) only [nI_toInt, nM_toInt, i_ne, i_eq, l_ne, l_eq, a_ne, a_eq, i_L, i_A, l_I, l_A, a_I, a_L, up_ne, up_eq, ne_eq, Nat.reduceEqDiff, not_false_eq_true, Int.reduceNatCast', ] at h)) <;> (try (exfalso; omega))) | (refine riaddN ?_) | (refine rimulN ?_) | (refine riconst ?_) | (refine rlconst ?_) | (apply risubN; (first | omega | decide)) | (apply ridivN; (first | omega | decide); (first | omega | decide); (first | omega | decide)) | (apply riremN; (first | omega | decide); (first | omega | decide); (first | omega | decide)) | (apply ri2lN; (first | omega | decide)) | (refine rl2iN ?_) | (refine rlmulN ?_) | (refine rladdN ?_) | (apply rlsubN; (first | omega | decide)) | (apply rldivN; (first | omega | decide); (first | omega | decide); (first | omega | decide)) | (apply riinc1; exact rfl; exact rfl) | (apply r1; exact rfl) | (apply rgoto; exact rfl) | (apply rfall; exact rfl) | (apply rirI; exact rfl) | (apply rend; exact rfl; exact rfl) | (apply rtsw; exact rfl; exact rfl) | (apply rcallC; exact rfl; exact rfl; exact rfl; first |  (apply rcallI; exact rfl; exact rfl)))
      all_goals refine rback (nxc _ _ ⟨rfl, ?_⟩)
      all_goals rw [anyB_s]
      · rw [show anyB (fun c => tb (wayF V dd 256 1000 256 (nn (mI V 9 16) + 1) c) k) c = true by assumption]; rfl
      · rw [show anyB (fun c => tb (wayF V dd 256 1000 256 (nn (mI V 9 16) + 1) c) k) c = false by assumption, ← e1q c hc, show tb (mL M'' 90 c) k = true by assumption]; rfl
      · rw [show anyB (fun c => tb (wayF V dd 256 1000 256 (nn (mI V 9 16) + 1) c) k) c = false by assumption, ← e1q c hc, show tb (mL M'' 90 c) k = false by assumption]; rfl
    · rintro lv M'' ⟨rfl, rfl⟩
      rw [show anyB (fun c => tb (wayF V dd 256 1000 256 (nn (mI V 9 16) + 1) c) k) 256 = moP V dd k from rfl]
      have hr := moF_r (moP V dd) k (by omega)
      have pk := popK_le 6 k
      have pb := popK_le 6 (moF (moP V dd) k)
      rw [show popK 6 k = popF k from rfl] at pk
      rw [show popK 6 (moF (moP V dd) k) = popF (moF (moP V dd) k) from rfl] at pb
      rcases hr with hr | hr
      · have em : mmI (moF (moP V dd) k) = nI (moF (moP V dd) k) := if_neg (by omega)
        rw [em]
        repeat' (first |  (apply riald; exact rfl; omega; decide) | (apply rlald; exact rfl; omega; decide) | (apply rzald; exact rfl; omega; decide) | (apply rbald; exact rfl; omega; decide) | (apply rzast; decide; exact rfl; omega; decide; omega) | (apply riast; decide; exact rfl; omega; decide) | (apply rlast; decide; exact rfl; omega; decide) | (refine re1 ?_) | (refine re0 ?_) | (refine rn1 ?_) | (refine rn0 ?_) | (refine rbe (fun h => ?_) (fun h => ?_)) | (refine rbn (fun h => ?_) (fun h => ?_)) | ((first | (refine rb_lt (fun h => ?_) (fun h => ?_)) | (refine rb_ge (fun h => ?_) (fun h => ?_)) | (refine rb_gt (fun h => ?_) (fun h => ?_)) | (refine rb_le (fun h => ?_) (fun h => ?_)) | (refine rb_eq (fun h => ?_) (fun h => ?_)) | (refine rb_ne (fun h => ?_) (fun h => ?_)) | (refine rc_lt (fun h => ?_) (fun h => ?_)) | (refine rc_ge (fun h => ?_) (fun h => ?_)) | (refine rc_gt (fun h => ?_) (fun h => ?_)) | (refine rc_le (fun h => ?_) (fun h => ?_)) | (refine rc_eq (fun h => ?_) (fun h => ?_)) | (refine rc_ne (fun h => ?_) (fun h => ?_))) <;> (try (simp (disch := omega) only [nI_toInt, nM_toInt, i_ne, i_eq, l_ne, l_eq, a_ne, a_eq, i_L, i_A, l_I, l_A, a_I, a_L, up_ne, up_eq, ne_eq, Nat.reduceEqDiff, not_false_eq_true, Int.reduceNatCast', ] at h)) <;> (try (exfalso; omega))) | (refine riaddN ?_) | (refine rimulN ?_) | (refine riconst ?_) | (refine rlconst ?_) | (apply risubN; (first | omega | decide)) | (apply ridivN; (first | omega | decide); (first | omega | decide); (first | omega | decide)) | (apply riremN; (first | omega | decide); (first | omega | decide); (first | omega | decide)) | (apply ri2lN; (first | omega | decide)) | (refine rl2iN ?_) | (refine rlmulN ?_) | (refine rladdN ?_) | (apply rlsubN; (first | omega | decide)) | (apply rldivN; (first | omega | decide); (first | omega | decide); (first | omega | decide)) | (apply riinc1; exact rfl; exact rfl) | (apply r1; exact rfl) | (apply rgoto; exact rfl) | (apply rfall; exact rfl) | (apply rirI; exact rfl) | (apply rend; exact rfl; exact rfl) | (apply rtsw; exact rfl; exact rfl) | (apply rcallC; exact rfl; exact rfl; exact rfl; first | (refine cc_bits (by omega) ?_) | (apply rcallI; exact rfl; exact rfl)))
        all_goals refine rback (nx _ _ ⟨rfl, some (.int (bI (moP V dd k))), some (.int (nI 256)), ?_⟩)
        all_goals first
          | (rw [moF_y (p := moP V dd) (show moP V dd k = true by assumption) (by first | exact Or.inl hr | (right; omega)), show mmI k = nI k from if_neg (by omega)]; rfl)
          | (rw [moF_n (p := moP V dd) (fun z => by first | exact Bool.noConfusion (z.1.symm.trans (show moP V dd k = false by assumption)) | (have := z.2; omega)), em]; rfl)
      · have em : mmI (moF (moP V dd) k) = nM 0 := if_pos hr
        rw [em]
        repeat' (first | (refine rlitT (by decide) ?_) | (refine rlitF (by decide) ?_) | (refine rlit0T (by decide) ?_) | (refine rlit0F (by decide) ?_) | (apply riald; exact rfl; omega; decide) | (apply rlald; exact rfl; omega; decide) | (apply rzald; exact rfl; omega; decide) | (apply rbald; exact rfl; omega; decide) | (apply rzast; decide; exact rfl; omega; decide; omega) | (apply riast; decide; exact rfl; omega; decide) | (apply rlast; decide; exact rfl; omega; decide) | (refine re1 ?_) | (refine re0 ?_) | (refine rn1 ?_) | (refine rn0 ?_) | (refine rbe (fun h => ?_) (fun h => ?_)) | (refine rbn (fun h => ?_) (fun h => ?_)) | ((first | (refine rb_lt (fun h => ?_) (fun h => ?_)) | (refine rb_ge (fun h => ?_) (fun h => ?_)) | (refine rb_gt (fun h => ?_) (fun h => ?_)) | (refine rb_le (fun h => ?_) (fun h => ?_)) | (refine rb_eq (fun h => ?_) (fun h => ?_)) | (refine rb_ne (fun h => ?_) (fun h => ?_)) | (refine rc_lt (fun h => ?_) (fun h => ?_)) | (refine rc_ge (fun h => ?_) (fun h => ?_)) | (refine rc_gt (fun h => ?_) (fun h => ?_)) | (refine rc_le (fun h => ?_) (fun h => ?_)) | (refine rc_eq (fun h => ?_) (fun h => ?_)) | (refine rc_ne (fun h => ?_) (fun h => ?_))) <;> (try (simp (disch := omega) only [nI_toInt, nM_toInt, i_ne, i_eq, l_ne, l_eq, a_ne, a_eq, i_L, i_A, l_I, l_A, a_I, a_L, up_ne, up_eq, ne_eq, Nat.reduceEqDiff, not_false_eq_true, Int.reduceNatCast', ] at h)) <;> (try (exfalso; omega))) | (refine riaddN ?_) | (refine rimulN ?_) | (refine riconst ?_) | (refine rlconst ?_) | (apply risubN; (first | omega | decide)) | (apply ridivN; (first | omega | decide); (first | omega | decide); (first | omega | decide)) | (apply riremN; (first | omega | decide); (first | omega | decide); (first | omega | decide)) | (apply ri2lN; (first | omega | decide)) | (refine rl2iN ?_) | (refine rlmulN ?_) | (refine rladdN ?_) | (apply rlsubN; (first | omega | decide)) | (apply rldivN; (first | omega | decide); (first | omega | decide); (first | omega | decide)) | (apply riinc1; exact rfl; exact rfl) | (apply r1; exact rfl) | (apply rgoto; exact rfl) | (apply rfall; exact rfl) | (apply rirI; exact rfl) | (apply rend; exact rfl; exact rfl) | (apply rtsw; exact rfl; exact rfl) | (apply rcallC; exact rfl; exact rfl; exact rfl; first | (refine cc_bits (by omega) ?_) | (apply rcallI; exact rfl; exact rfl)))
        all_goals refine rback (nx _ _ ⟨rfl, some (.int (bI (moP V dd k))), some (.int (nI 256)), ?_⟩)
        all_goals first
          | (rw [moF_y (p := moP V dd) (show moP V dd k = true by assumption) (by first | exact Or.inl hr | (right; omega)), show mmI k = nI k from if_neg (by omega)]; rfl)
          | (rw [moF_n (p := moP V dd) (fun z => by first | exact Bool.noConfusion (z.1.symm.trans (show moP V dd k = false by assumption)) | (have := z.2; omega)), em]; rfl)
  · rintro lv M' ⟨rfl, o5, o6, rfl⟩
    have kq := kk _ s1q
    unfold mostV at kq
    have hr := moF_r (moP V dd) (2 ^ (KE V dd).length) (by omega)
    revert kq hr
    generalize moF (moP V dd) (2 ^ (KE V dd).length) = b0
    intro kq hr
    rcases hr with hr | hr
    · rw [if_neg (by omega)] at kq
      have em : mmI b0 = nI b0 := if_neg (by omega)
      rw [em]
      repeat' (first | (apply rgetN; exact rfl; exact k1) | (apply rishlA; omega) | (apply riald; exact rfl; omega; decide) | (apply rlald; exact rfl; omega; decide) | (apply rzald; exact rfl; omega; decide) | (apply rbald; exact rfl; omega; decide) | (apply rzast; decide; exact rfl; omega; decide; omega) | (apply riast; decide; exact rfl; omega; decide) | (apply rlast; decide; exact rfl; omega; decide) | (refine re1 ?_) | (refine re0 ?_) | (refine rn1 ?_) | (refine rn0 ?_) | (refine rbe (fun h => ?_) (fun h => ?_)) | (refine rbn (fun h => ?_) (fun h => ?_)) | ((first | (refine rb_lt (fun h => ?_) (fun h => ?_)) | (refine rb_ge (fun h => ?_) (fun h => ?_)) | (refine rb_gt (fun h => ?_) (fun h => ?_)) | (refine rb_le (fun h => ?_) (fun h => ?_)) | (refine rb_eq (fun h => ?_) (fun h => ?_)) | (refine rb_ne (fun h => ?_) (fun h => ?_)) | (refine rc_lt (fun h => ?_) (fun h => ?_)) | (refine rc_ge (fun h => ?_) (fun h => ?_)) | (refine rc_gt (fun h => ?_) (fun h => ?_)) | (refine rc_le (fun h => ?_) (fun h => ?_)) | (refine rc_eq (fun h => ?_) (fun h => ?_)) | (refine rc_ne (fun h => ?_) (fun h => ?_))) <;> (try (simp (disch := omega) only [nI_toInt, nM_toInt, i_ne, i_eq, l_ne, l_eq, a_ne, a_eq, i_L, i_A, l_I, l_A, a_I, a_L, up_ne, up_eq, ne_eq, Nat.reduceEqDiff, not_false_eq_true, Int.reduceNatCast', ] at h)) <;> (try (exfalso; omega))) | (refine riaddN ?_) | (refine rimulN ?_) | (refine riconst ?_) | (refine rlconst ?_) | (apply risubN; (first | omega | decide)) | (apply ridivN; (first | omega | decide); (first | omega | decide); (first | omega | decide)) | (apply riremN; (first | omega | decide); (first | omega | decide); (first | omega | decide)) | (apply ri2lN; (first | omega | decide)) | (refine rl2iN ?_) | (refine rlmulN ?_) | (refine rladdN ?_) | (apply rlsubN; (first | omega | decide)) | (apply rldivN; (first | omega | decide); (first | omega | decide); (first | omega | decide)) | (apply riinc1; exact rfl; exact rfl) | (apply r1; exact rfl) | (apply rgoto; exact rfl) | (apply rfall; exact rfl) | (apply rirI; exact rfl) | (apply rend; exact rfl; exact rfl) | (apply rtsw; exact rfl; exact rfl) | (apply rcallC; exact rfl; exact rfl; exact rfl; first | (refine cc_bits (by omega) ?_) | (apply rcallI; exact rfl; exact rfl)))
      · rw [if_neg (by omega)] at kq; exact kq
      · rw [if_pos (by omega)] at kq; exact kq
    · rw [if_pos hr] at kq
      have em : mmI b0 = nM 0 := if_pos hr
      rw [em]
      repeat' (first | (apply rgetN; exact rfl; exact k1) | (apply rishlA; omega) | (refine rlitT (by decide) ?_) | (refine rlitF (by decide) ?_) | (refine rlit0T (by decide) ?_) | (refine rlit0F (by decide) ?_) | (apply riald; exact rfl; omega; decide) | (apply rlald; exact rfl; omega; decide) | (apply rzald; exact rfl; omega; decide) | (apply rbald; exact rfl; omega; decide) | (apply rzast; decide; exact rfl; omega; decide; omega) | (apply riast; decide; exact rfl; omega; decide) | (apply rlast; decide; exact rfl; omega; decide) | (refine re1 ?_) | (refine re0 ?_) | (refine rn1 ?_) | (refine rn0 ?_) | (refine rbe (fun h => ?_) (fun h => ?_)) | (refine rbn (fun h => ?_) (fun h => ?_)) | ((first | (refine rb_lt (fun h => ?_) (fun h => ?_)) | (refine rb_ge (fun h => ?_) (fun h => ?_)) | (refine rb_gt (fun h => ?_) (fun h => ?_)) | (refine rb_le (fun h => ?_) (fun h => ?_)) | (refine rb_eq (fun h => ?_) (fun h => ?_)) | (refine rb_ne (fun h => ?_) (fun h => ?_)) | (refine rc_lt (fun h => ?_) (fun h => ?_)) | (refine rc_ge (fun h => ?_) (fun h => ?_)) | (refine rc_gt (fun h => ?_) (fun h => ?_)) | (refine rc_le (fun h => ?_) (fun h => ?_)) | (refine rc_eq (fun h => ?_) (fun h => ?_)) | (refine rc_ne (fun h => ?_) (fun h => ?_))) <;> (try (simp (disch := omega) only [nI_toInt, nM_toInt, i_ne, i_eq, l_ne, l_eq, a_ne, a_eq, i_L, i_A, l_I, l_A, a_I, a_L, up_ne, up_eq, ne_eq, Nat.reduceEqDiff, not_false_eq_true, Int.reduceNatCast', ] at h)) <;> (try (exfalso; omega))) | (refine riaddN ?_) | (refine rimulN ?_) | (refine riconst ?_) | (refine rlconst ?_) | (apply risubN; (first | omega | decide)) | (apply ridivN; (first | omega | decide); (first | omega | decide); (first | omega | decide)) | (apply riremN; (first | omega | decide); (first | omega | decide); (first | omega | decide)) | (apply ri2lN; (first | omega | decide)) | (refine rl2iN ?_) | (refine rlmulN ?_) | (refine rladdN ?_) | (apply rlsubN; (first | omega | decide)) | (apply rldivN; (first | omega | decide); (first | omega | decide); (first | omega | decide)) | (apply riinc1; exact rfl; exact rfl) | (apply r1; exact rfl) | (apply rgoto; exact rfl) | (apply rfall; exact rfl) | (apply rirI; exact rfl) | (apply rend; exact rfl; exact rfl) | (apply rtsw; exact rfl; exact rfl) | (apply rcallC; exact rfl; exact rfl; exact rfl; first | (refine cc_bits (by omega) ?_) | (apply rcallI; exact rfl; exact rfl)))
      all_goals exact kq
theorem ok_most : okOp_most Inv := by
  intro V a0 a1 hI
  by_cases h0 : (0 ≤ a0.toInt ∧ a0.toInt < 1000) ∧ (0 ≤ a1.toInt ∧ a1.toInt < 2)
  · obtain ⟨⟨h1, h2⟩, h3, h4⟩ := h0
    obtain ⟨dd, rfl, hd⟩ := nnE (n := 1000) h1 (by omega) (by decide)
    obtain ⟨w, rfl, hw⟩ := nnE (n := 2) h3 (by omega) (by decide)
    exact op_q hI (fun Q kk => x_most hI (sc_refl V) hd (by omega) kk) (fun M Q hs kk => m_most hI hs hd (by omega) kk)
  · refine op_q (v := nM 0) hI (fun Q kk => ?_) (fun M Q hs kk => ?_)
    · refine rcallI rfl rfl ?_
      repeat' (first |  (apply riald; exact rfl; omega; decide) | (apply rlald; exact rfl; omega; decide) | (apply rzald; exact rfl; omega; decide) | (apply rbald; exact rfl; omega; decide) | (apply rzast; decide; exact rfl; omega; decide; omega) | (apply riast; decide; exact rfl; omega; decide) | (apply rlast; decide; exact rfl; omega; decide) | (refine re1 ?_) | (refine re0 ?_) | (refine rn1 ?_) | (refine rn0 ?_) | (refine rbe (fun h => ?_) (fun h => ?_)) | (refine rbn (fun h => ?_) (fun h => ?_)) | ((first | (refine rb_lt (fun h => ?_) (fun h => ?_)) | (refine rb_ge (fun h => ?_) (fun h => ?_)) | (refine rb_gt (fun h => ?_) (fun h => ?_)) | (refine rb_le (fun h => ?_) (fun h => ?_)) | (refine rb_eq (fun h => ?_) (fun h => ?_)) | (refine rb_ne (fun h => ?_) (fun h => ?_)) | (refine rc_lt (fun h => ?_) (fun h => ?_)) | (refine rc_ge (fun h => ?_) (fun h => ?_)) | (refine rc_gt (fun h => ?_) (fun h => ?_)) | (refine rc_le (fun h => ?_) (fun h => ?_)) | (refine rc_eq (fun h => ?_) (fun h => ?_)) | (refine rc_ne (fun h => ?_) (fun h => ?_))) <;> (try (simp (disch := omega) only [nI_toInt, nM_toInt, i_ne, i_eq, l_ne, l_eq, a_ne, a_eq, i_L, i_A, l_I, l_A, a_I, a_L, up_ne, up_eq, ne_eq, Nat.reduceEqDiff, not_false_eq_true, Int.reduceNatCast', ] at h)) <;> (try (exfalso; omega))) | (refine riaddN ?_) | (refine rimulN ?_) | (refine riconst ?_) | (refine rlconst ?_) | (apply risubN; (first | omega | decide)) | (apply ridivN; (first | omega | decide); (first | omega | decide); (first | omega | decide)) | (apply riremN; (first | omega | decide); (first | omega | decide); (first | omega | decide)) | (apply ri2lN; (first | omega | decide)) | (refine rl2iN ?_) | (refine rlmulN ?_) | (refine rladdN ?_) | (apply rlsubN; (first | omega | decide)) | (apply rldivN; (first | omega | decide); (first | omega | decide); (first | omega | decide)) | (apply riinc1; exact rfl; exact rfl) | (apply r1; exact rfl) | (apply rgoto; exact rfl) | (apply rfall; exact rfl) | (apply rirI; exact rfl) | (apply rend; exact rfl; exact rfl) | (apply rtsw; exact rfl; exact rfl) | (apply rcallC; exact rfl; exact rfl; exact rfl; first | (refine cc_isCell (fun h => ?_) (fun h => ?_) <;> (try (exfalso; omega))) | (refine cc_isDay (fun h => ?_) (fun h => ?_) <;> (try (exfalso; omega))) | (refine cc_isYear (fun h => ?_) (fun h => ?_) <;> (try (exfalso; omega))) | (refine cc_isStep (fun h => ?_) (fun h => ?_) <;> (try (exfalso; omega))) | (refine cc_isFinder (fun h => ?_) (fun h => ?_) <;> (try (exfalso; omega))) | (refine cc_isHund (fun h => ?_) (fun h => ?_) <;> (try (exfalso; omega))) | (refine cc_isAsked (fun h => ?_) (fun h => ?_) <;> (try (exfalso; omega))) | (refine cc_mCell (fun h => ?_) (fun h => ?_) <;> (try (exfalso; omega))) | (refine cc_mDay (fun h => ?_) (fun h => ?_) <;> (try (exfalso; omega))) | (refine cc_isIn (fun h => ?_) (fun h => ?_) <;> (try simp (disch := omega) only [nI_toInt, nM_toInt] at h) <;> (try (exfalso; omega))) | (apply rcallI; exact rfl; exact rfl)))
      all_goals exact kk V (sc_refl V)
    · refine rcallI rfl rfl ?_
      repeat' (first |  (apply riald; exact rfl; omega; decide) | (apply rlald; exact rfl; omega; decide) | (apply rzald; exact rfl; omega; decide) | (apply rbald; exact rfl; omega; decide) | (apply rzast; decide; exact rfl; omega; decide; omega) | (apply riast; decide; exact rfl; omega; decide) | (apply rlast; decide; exact rfl; omega; decide) | (refine re1 ?_) | (refine re0 ?_) | (refine rn1 ?_) | (refine rn0 ?_) | (refine rbe (fun h => ?_) (fun h => ?_)) | (refine rbn (fun h => ?_) (fun h => ?_)) | ((first | (refine rb_lt (fun h => ?_) (fun h => ?_)) | (refine rb_ge (fun h => ?_) (fun h => ?_)) | (refine rb_gt (fun h => ?_) (fun h => ?_)) | (refine rb_le (fun h => ?_) (fun h => ?_)) | (refine rb_eq (fun h => ?_) (fun h => ?_)) | (refine rb_ne (fun h => ?_) (fun h => ?_)) | (refine rc_lt (fun h => ?_) (fun h => ?_)) | (refine rc_ge (fun h => ?_) (fun h => ?_)) | (refine rc_gt (fun h => ?_) (fun h => ?_)) | (refine rc_le (fun h => ?_) (fun h => ?_)) | (refine rc_eq (fun h => ?_) (fun h => ?_)) | (refine rc_ne (fun h => ?_) (fun h => ?_))) <;> (try (simp (disch := omega) only [nI_toInt, nM_toInt, i_ne, i_eq, l_ne, l_eq, a_ne, a_eq, i_L, i_A, l_I, l_A, a_I, a_L, up_ne, up_eq, ne_eq, Nat.reduceEqDiff, not_false_eq_true, Int.reduceNatCast', ] at h)) <;> (try (exfalso; omega))) | (refine riaddN ?_) | (refine rimulN ?_) | (refine riconst ?_) | (refine rlconst ?_) | (apply risubN; (first | omega | decide)) | (apply ridivN; (first | omega | decide); (first | omega | decide); (first | omega | decide)) | (apply riremN; (first | omega | decide); (first | omega | decide); (first | omega | decide)) | (apply ri2lN; (first | omega | decide)) | (refine rl2iN ?_) | (refine rlmulN ?_) | (refine rladdN ?_) | (apply rlsubN; (first | omega | decide)) | (apply rldivN; (first | omega | decide); (first | omega | decide); (first | omega | decide)) | (apply riinc1; exact rfl; exact rfl) | (apply r1; exact rfl) | (apply rgoto; exact rfl) | (apply rfall; exact rfl) | (apply rirI; exact rfl) | (apply rend; exact rfl; exact rfl) | (apply rtsw; exact rfl; exact rfl) | (apply rcallC; exact rfl; exact rfl; exact rfl; first | (refine cc_isCell (fun h => ?_) (fun h => ?_) <;> (try (exfalso; omega))) | (refine cc_isDay (fun h => ?_) (fun h => ?_) <;> (try (exfalso; omega))) | (refine cc_isYear (fun h => ?_) (fun h => ?_) <;> (try (exfalso; omega))) | (refine cc_isStep (fun h => ?_) (fun h => ?_) <;> (try (exfalso; omega))) | (refine cc_isFinder (fun h => ?_) (fun h => ?_) <;> (try (exfalso; omega))) | (refine cc_isHund (fun h => ?_) (fun h => ?_) <;> (try (exfalso; omega))) | (refine cc_isAsked (fun h => ?_) (fun h => ?_) <;> (try (exfalso; omega))) | (refine cc_mCell (fun h => ?_) (fun h => ?_) <;> (try (exfalso; omega))) | (refine cc_mDay (fun h => ?_) (fun h => ?_) <;> (try (exfalso; omega))) | (refine cc_isIn (fun h => ?_) (fun h => ?_) <;> (try simp (disch := omega) only [nI_toInt, nM_toInt] at h) <;> (try (exfalso; omega))) | (apply rcallI; exact rfl; exact rfl)))
      all_goals exact kk M hs
end
