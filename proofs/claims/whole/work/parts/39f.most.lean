/-! most -/
def popK : Nat → Nat → Nat
  | 0, _ => 0
  | k + 1, v => v % 2 + popK k (v / 2)
def popF (m : Nat) : Nat := popK 6 m
theorem popK_0 : ∀ k, popK k 0 = 0
  | 0 => rfl
  | k + 1 => by
    show 0 % 2 + popK k (0 / 2) = 0
    rw [show 0 / 2 = 0 from rfl, popK_0 k]
theorem popK_le : ∀ k v, popK k v ≤ k
  | 0, _ => Nat.le_refl _
  | k + 1, v => by
    have := popK_le k (v / 2)
    show v % 2 + popK k (v / 2) ≤ k + 1
    omega
def bcF (x : Int32) : Int32 :=
  let a := x - (((x.toUInt32 >>> ((nI 1).toUInt32 &&& Int32.toUInt32 31)).toInt32) &&& nI 1431655765)
  let b := (a &&& nI 858993459) + (((a.toUInt32 >>> ((nI 2).toUInt32 &&& Int32.toUInt32 31)).toInt32) &&& nI 858993459)
  let c := (b + ((b.toUInt32 >>> ((nI 4).toUInt32 &&& Int32.toUInt32 31)).toInt32)) &&& nI 252645135
  let e := c + ((c.toUInt32 >>> ((nI 8).toUInt32 &&& Int32.toUInt32 31)).toInt32)
  let f := e + ((e.toUInt32 >>> ((nI 16).toUInt32 &&& Int32.toUInt32 31)).toInt32)
  f &&& nI 63
theorem bcF_64 : ∀ m : Fin 64, bcF (nI m.val) = nI (popF m.val) := by decide +kernel
theorem and1_64 : ∀ m : Fin 64, nI m.val &&& nI 1 = nI (m.val % 2) := by decide +kernel
theorem shr1_64 : ∀ m : Fin 64, nI m.val >>> (nI 1 &&& 31) = nI (m.val / 2) := by decide +kernel
/-- the greatest of the first n for which p holds, the least of several; 64: none -/
def moF (p : Nat → Bool) : Nat → Nat
  | 0 => 64
  | n + 1 => if p n = true ∧ (moF p n = 64 ∨ popF (moF p n) < popF n) then n else moF p n
theorem moF_r (p : Nat → Bool) : ∀ n, n ≤ 64 → moF p n < n ∨ moF p n = 64
  | 0, _ => Or.inr rfl
  | n + 1, h => by
    have := moF_r p n (by omega)
    unfold moF
    split <;> omega
theorem moF_y {p : Nat → Bool} {n : Nat} (h1 : p n = true) (h2 : moF p n = 64 ∨ popF (moF p n) < popF n) : moF p (n + 1) = n := if_pos ⟨h1, h2⟩
theorem moF_n {p : Nat → Bool} {n : Nat} (h : ¬(p n = true ∧ (moF p n = 64 ∨ popF (moF p n) < popF n))) : moF p (n + 1) = moF p n := if_neg h
theorem moF_stop {p : Nat → Bool} {a : Nat} : ∀ j, (∀ m, a ≤ m → m < a + j → p m = false) → moF p (a + j) = moF p a
  | 0, _ => rfl
  | j + 1, h => by
    rw [show a + (j + 1) = (a + j) + 1 from rfl, moF_n (fun z => Bool.noConfusion (z.1.symm.trans (h (a + j) (by omega) (by omega))))]
    exact moF_stop j (fun m h1 h2 => h m h1 (by omega))
/-- a number or none -/
def mmI (b : Nat) : Int32 := if b = 64 then nM 0 else nI b
/-- all sets of some -/
def orA (S : Nat → Int64) : Nat → Int64
  | 0 => lN 0
  | n + 1 => orA S n ||| S n
theorem tb_or (a b : Int64) (m : Nat) : tb (a ||| b) m = (tb a m || tb b m) := by
  unfold tb
  rw [Int64.toBitVec_or, BitVec.getLsbD_or]
theorem tb_and (a b : Int64) (m : Nat) : tb (a &&& b) m = (tb a m && tb b m) := by
  unfold tb
  rw [Int64.toBitVec_and, BitVec.getLsbD_and]
theorem tb_0 (m : Nat) : tb (lN 0) m = false := by
  unfold tb
  show (0#64).getLsbD m = false
  simp
theorem tb_orA (S : Nat → Int64) (m : Nat) : ∀ n, tb (orA S n) m = anyB (fun c => tb (S c) m) n
  | 0 => tb_0 m
  | n + 1 => by
    show tb (orA S n ||| S n) m = (anyB (fun c => tb (S c) m) n || tb (S n) m)
    rw [tb_or, tb_orA S m n]
/-- no set of a number of N or more -/
def low (N : Nat) (w : Int64) : Prop := ∀ m, N ≤ m → m < 64 → tb w m = false
theorem low_0 (N : Nat) : low N (lN 0) := fun m _ _ => tb_0 m
theorem low_1 {N : Nat} (h : 1 ≤ N) : low N (lN 1) := by
  intro m h1 h2
  unfold tb
  show (1#64).getLsbD m = false
  rw [BitVec.getLsbD_one]
  simp; omega
theorem low_or {N : Nat} {a b : Int64} (h1 : low N a) (h2 : low N b) : low N (a ||| b) := by
  intro m p q
  rw [tb_or, h1 m p q, h2 m p q]; rfl
theorem low_orN {N : Nat} {S : Nat → Int64} (h : ∀ c, c < 256 → low N (S c)) {c : Nat} (hc : c < 256) : ∀ m, low N (orN S c m)
  | 0 => h c hc
  | m + 1 => by
    refine low_or (low_orN h hc m) ?_
    unfold orT
    split
    · next q => exact h _ q
    · exact low_0 N
theorem sh_one : ∀ i : Fin 6, ((nI 1 <<< (nI i.val &&& 31)).toInt64 &&& 63) = Int64.ofNat (2 ^ i.val) := by decide +kernel
theorem with_bit : ∀ i : Fin 6, ∀ m : Fin 64, tb (Int64.ofInt (am_swith.getD i.val 0)) m.val = m.val.testBit i.val := by decide +kernel
theorem bit_low : ∀ k : Fin 7, ∀ i : Fin 6, ∀ m : Fin 64, i.val < k.val → 2 ^ k.val ≤ m.val → 2 ^ i.val ≤ m.val → (m.val - 2 ^ i.val).testBit i.val = false → 2 ^ k.val ≤ m.val - 2 ^ i.val := by decide +kernel
theorem two_32 : ∀ i : Fin 6, 2 ^ i.val < 64 := by decide
theorem tb_shl {x : Int64} {i m : Nat} (hi : i < 6) (hm : m < 64) : tb (x <<< ((nI 1 <<< (nI i &&& 31)).toInt64 &&& 63)) m = (decide (2 ^ i ≤ m) && tb x (m - 2 ^ i)) := by
  have e := sh_one ⟨i, hi⟩
  have e2 := two_32 ⟨i, hi⟩
  simp only at e e2
  rw [e]
  unfold tb
  have e3 : (x <<< Int64.ofNat (2 ^ i)).toBitVec = x.toBitVec <<< (2 ^ i) := by
    rw [Int64.toBitVec_shiftLeft]
    show x.toBitVec <<< ((BitVec.ofNat 64 (2 ^ i)).smod 64) = _
    sorry
  rw [e3, BitVec.getLsbD_shiftLeft, decide_eq_true hm]
  by_cases q : m < 2 ^ i
  · rw [decide_eq_true q, decide_eq_false (show ¬2 ^ i ≤ m by omega)]; rfl
  · rw [decide_eq_false q, decide_eq_true (show 2 ^ i ≤ m by omega)]; rfl
theorem low_wI1 {V : am_M} (hI : Inv V) {k i : Nat} (hk : k ≤ 6) (hi : i < k) {v : Int64} (h : low (2 ^ k) v) : low (2 ^ k) (wI1 V i v) := by
  intro m p q
  have e3 := hI.stat.l3_eq i (by omega)
  unfold wI1
  rw [tb_or, tb_and, h m p q, Bool.false_and, Bool.false_or, tb_shl (by omega) q, tb_and]
  by_cases z : 2 ^ i ≤ m
  · rw [decide_eq_true z, Bool.true_and]
    cases hb : (m - 2 ^ i).testBit i
    · have := bit_low ⟨k, by omega⟩ ⟨i, by omega⟩ ⟨m, q⟩ hi p z hb
      rw [h (m - 2 ^ i) this (by omega), Bool.false_and]
    · have w := with_bit ⟨i, by omega⟩ ⟨m - 2 ^ i, by omega⟩
      simp only at w
      have : tb (mL V 3 i ^^^ lM 0) (m - 2 ^ i) = false := by
        unfold tb
        rw [Int64.toBitVec_xor, BitVec.getLsbD_xor]
        rw [e3]
        unfold tb at w
        rw [w, hb]
        have : (lM 0).toBitVec = BitVec.allOnes 64 := by decide
        rw [this, BitVec.getLsbD_allOnes, decide_eq_true (show m - 2 ^ i < 64 by omega)]; rfl
      rw [this, Bool.and_false]
  · rw [decide_eq_false z, Bool.false_and]
theorem low_meF {V : am_M} (hI : Inv V) {dd c s : Nat} {v : Int64} (h : low (2 ^ (KE V dd).length) v) : ∀ i, i ≤ (KE V dd).length → low (2 ^ (KE V dd).length) (meF V dd c s i v)
  | 0, _ => h
  | i + 1, hi => by
    have := low_meF hI (c := c) (s := s) h i (by omega)
    unfold meF
    split
    · exact low_wI1 hI KE_6 (by omega) this
    · exact this
theorem low_way {V : am_M} (hI : Inv V) {dd pc ps sh : Nat} : ∀ s c, c < 256 → low (2 ^ (KE V dd).length) (wayF V dd pc ps sh s c)
  | 0, c, _ => by
    show low _ (if c = nn (mI V 18 0) then lN 1 else lN 0)
    split
    · exact low_1 (pow6 KE_6).1
    · exact low_0 _
  | s + 1, c, hc => by
    have ih := low_way hI (dd := dd) (pc := pc) (ps := ps) (sh := sh) s
    show low _ (wayB V dd pc ps sh s (wayF V dd pc ps sh s) c)
    unfold wayB
    split
    · exact low_0 _
    · refine low_meF hI ?_ _ (Nat.le_refl _)
      split
      · exact low_orN ih hc 8
      · exact ih c hc
