/-! masses: numbers -/
def sumN (f : Nat → Nat) : Nat → Nat
  | 0 => 0
  | n + 1 => sumN f n + f n
theorem sumN_ext {f g : Nat → Nat} : ∀ n, (∀ c, c < n → f c = g c) → sumN f n = sumN g n
  | 0, _ => rfl
  | n + 1, h => by
    show sumN f n + f n = sumN g n + g n
    rw [sumN_ext n (fun c hc => h c (by omega)), h n (by omega)]
theorem sumN_le {f g : Nat → Nat} : ∀ n, (∀ c, c < n → f c ≤ g c) → sumN f n ≤ sumN g n
  | 0, _ => Nat.le_refl _
  | n + 1, h => by
    have := sumN_le n (fun c hc => h c (by omega))
    have := h n (by omega)
    show sumN f n + f n ≤ sumN g n + g n
    omega
theorem sumN_add {f g : Nat → Nat} : ∀ n, sumN (fun c => f c + g c) n = sumN f n + sumN g n
  | 0 => rfl
  | n + 1 => by
    show sumN (fun c => f c + g c) n + (f n + g n) = (sumN f n + f n) + (sumN g n + g n)
    rw [sumN_add n]; omega
theorem sumN_mul {f : Nat → Nat} {k : Nat} : ∀ n, sumN (fun c => f c * k) n = sumN f n * k
  | 0 => by show 0 = 0 * k; omega
  | n + 1 => by
    show sumN (fun c => f c * k) n + f n * k = (sumN f n + f n) * k
    rw [sumN_mul n, Nat.add_mul]
theorem sumN_0 : ∀ n, sumN (fun _ => 0) n = 0
  | 0 => rfl
  | n + 1 => by
    show sumN (fun _ => 0) n + 0 = 0
    rw [sumN_0 n]
theorem sumN_delta {v : Nat → Nat} {x : Nat} : ∀ n, sumN (fun t => if t = x then v t else 0) n = if x < n then v x else 0
  | 0 => rfl
  | n + 1 => by
    show sumN (fun t => if t = x then v t else 0) n + (if n = x then v n else 0) = _
    rw [sumN_delta n]
    by_cases h : n = x
    · subst h; rw [if_pos rfl, if_neg (by omega), if_pos (by omega)]; omega
    · rw [if_neg h]
      by_cases q : x < n
      · rw [if_pos q, if_pos (by omega)]; rfl
      · rw [if_neg q, if_neg (by omega)]
theorem le_sumN {f : Nat → Nat} {c : Nat} : ∀ n, c < n → f c ≤ sumN f n
  | 0, h => absurd h (by omega)
  | n + 1, h => by
    show f c ≤ sumN f n + f n
    by_cases e : c = n
    · subst e; omega
    · have := le_sumN (f := f) n (show c < n by omega)
      omega
def acN (S : Nat → Nat) (c : Nat) : Nat := (if 0 < c % 16 then S (c - 1) else 0) + S c + (if c % 16 < 15 then S (c + 1) else 0)
def arN (S : Nat → Nat) (c : Nat) : Nat := (if 16 ≤ c then acN S (c - 16) else 0) + acN S c + (if c < 240 then acN S (c + 16) else 0)
def nbT (S : Nat → Nat) (c m : Nat) : Nat := if nxF c m < 256 then S (nxF c m) else 0
def nbN (S : Nat → Nat) (c : Nat) : Nat → Nat
  | 0 => 0
  | m + 1 => nbN S c m + nbT S c (m + 1)
theorem nbT_n {S : Nat → Nat} {c m : Nat} (h : nxF c m = 256) : nbT S c m = 0 := if_neg (by omega)
theorem nbT_x {S : Nat → Nat} {c m x : Nat} (h : nxF c m = x) (hx : x < 256) : nbT S c m = S x := by rw [← h]; exact if_pos (by omega)
theorem nbN_ar {S : Nat → Nat} {c : Nat} (hc : c < 256) : arN S c = S c + nbN S c 8 := by
  have e : nbN S c 8 = 0 + nbT S c 1 + nbT S c 2 + nbT S c 3 + nbT S c 4 + nbT S c 5 + nbT S c 6 + nbT S c 7 + nbT S c 8 := rfl
  rw [e]
  unfold arN acN
  by_cases h1 : 16 ≤ c <;> by_cases h2 : c < 240 <;> by_cases h3 : 0 < c % 16 <;> by_cases h4 : c % 16 < 15
  all_goals
    have t1 : nbT S c 1 = if 16 ≤ c then S (c - 16) else 0 := by
      first
        | (rw [if_pos (by omega)]; exact nbT_x (show ite _ _ _ = _ by rw [if_pos (by omega)]) (by omega))
        | (rw [if_neg (by omega)]; exact nbT_n (show ite _ _ _ = _ by rw [if_neg (by omega)]))
    have t2 : nbT S c 2 = if 16 ≤ c ∧ c % 16 < 15 then S (c - 16 + 1) else 0 := by
      first
        | (rw [if_pos (by omega)]; exact nbT_x (show ite _ _ _ = _ by rw [if_pos (by omega)]) (by omega))
        | (rw [if_neg (by omega)]; exact nbT_n (show ite _ _ _ = _ by rw [if_neg (by omega)]))
    have t3 : nbT S c 3 = if c % 16 < 15 then S (c + 1) else 0 := by
      first
        | (rw [if_pos (by omega)]; exact nbT_x (show ite _ _ _ = _ by rw [if_pos (by omega)]) (by omega))
        | (rw [if_neg (by omega)]; exact nbT_n (show ite _ _ _ = _ by rw [if_neg (by omega)]))
    have t4 : nbT S c 4 = if c < 240 ∧ c % 16 < 15 then S (c + 16 + 1) else 0 := by
      first
        | (rw [if_pos (by omega)]; exact nbT_x (show ite _ _ _ = _ by rw [if_pos (by omega)]) (by omega))
        | (rw [if_neg (by omega)]; exact nbT_n (show ite _ _ _ = _ by rw [if_neg (by omega)]))
    have t5 : nbT S c 5 = if c < 240 then S (c + 16) else 0 := by
      first
        | (rw [if_pos (by omega)]; exact nbT_x (show ite _ _ _ = _ by rw [if_pos (by omega)]) (by omega))
        | (rw [if_neg (by omega)]; exact nbT_n (show ite _ _ _ = _ by rw [if_neg (by omega)]))
    have t6 : nbT S c 6 = if c < 240 ∧ 0 < c % 16 then S (c + 16 - 1) else 0 := by
      first
        | (rw [if_pos (by omega)]; exact nbT_x (show ite _ _ _ = _ by rw [if_pos (by omega)]) (by omega))
        | (rw [if_neg (by omega)]; exact nbT_n (show ite _ _ _ = _ by rw [if_neg (by omega)]))
    have t7 : nbT S c 7 = if 0 < c % 16 then S (c - 1) else 0 := by
      first
        | (rw [if_pos (by omega)]; exact nbT_x (show ite _ _ _ = _ by rw [if_pos (by omega)]) (by omega))
        | (rw [if_neg (by omega)]; exact nbT_n (show ite _ _ _ = _ by rw [if_neg (by omega)]))
    have t8 : nbT S c 8 = if 16 ≤ c ∧ 0 < c % 16 then S (c - 16 - 1) else 0 := by
      first
        | (rw [if_pos (by omega)]; exact nbT_x (show ite _ _ _ = _ by rw [if_pos (by omega)]) (by omega))
        | (rw [if_neg (by omega)]; exact nbT_n (show ite _ _ _ = _ by rw [if_neg (by omega)]))
    rw [t1, t2, t3, t4, t5, t6, t7, t8]
    clear t1 t2 t3 t4 t5 t6 t7 t8 e
    (repeat (first | rw [if_pos (by omega)] | rw [if_neg (by omega)]))
    try omega
/-- opposite moves -/
def eqT (k t m : Nat) : Nat := if nxF k m = t then 1 else 0
def cnN (k t : Nat) : Nat → Nat
  | 0 => 0
  | m + 1 => cnN k t m + eqT k t (m + 1)
theorem eqT_op {k t a b : Nat} (h : nxF k a = t ↔ nxF t b = k) : eqT k t a = eqT t k b := by
  unfold eqT
  by_cases q : nxF k a = t
  · rw [if_pos q, if_pos (h.mp q)]
  · rw [if_neg q, if_neg (fun z => q (h.mpr z))]
theorem op1 {k t : Nat} (hk : k < 256) (ht : t < 256) : nxF k 1 = t ↔ nxF t 5 = k := by
  show ite _ _ _ = _ ↔ ite _ _ _ = _
  split <;> split <;> omega
theorem op2 {k t : Nat} (hk : k < 256) (ht : t < 256) : nxF k 2 = t ↔ nxF t 6 = k := by
  show ite _ _ _ = _ ↔ ite _ _ _ = _
  split <;> split <;> omega
theorem op3 {k t : Nat} (hk : k < 256) (ht : t < 256) : nxF k 3 = t ↔ nxF t 7 = k := by
  show ite _ _ _ = _ ↔ ite _ _ _ = _
  split <;> split <;> omega
theorem op4 {k t : Nat} (hk : k < 256) (ht : t < 256) : nxF k 4 = t ↔ nxF t 8 = k := by
  show ite _ _ _ = _ ↔ ite _ _ _ = _
  split <;> split <;> omega
theorem cn_sym {k t : Nat} (hk : k < 256) (ht : t < 256) : cnN k t 8 = cnN t k 8 := by
  show 0 + eqT k t 1 + eqT k t 2 + eqT k t 3 + eqT k t 4 + eqT k t 5 + eqT k t 6 + eqT k t 7 + eqT k t 8 = 0 + eqT t k 1 + eqT t k 2 + eqT t k 3 + eqT t k 4 + eqT t k 5 + eqT t k 6 + eqT t k 7 + eqT t k 8
  rw [eqT_op (op1 hk ht), eqT_op (op2 hk ht), eqT_op (op3 hk ht), eqT_op (op4 hk ht), ← eqT_op (op1 ht hk), ← eqT_op (op2 ht hk), ← eqT_op (op3 ht hk), ← eqT_op (op4 ht hk)]
  omega
/-- what the first k cells give to a cell -/
def nkT (S : Nat → Nat) (t k m : Nat) : Nat := if nxF t m < k then S (nxF t m) else 0
def nkN (S : Nat → Nat) (t k : Nat) : Nat → Nat
  | 0 => 0
  | m + 1 => nkN S t k m + nkT S t k (m + 1)
theorem nkN_s {S : Nat → Nat} {t k : Nat} : ∀ m, nkN S t (k + 1) m = nkN S t k m + cnN t k m * S k
  | 0 => by show 0 = 0 + 0 * S k; omega
  | m + 1 => by
    have e : nkT S t (k + 1) (m + 1) = nkT S t k (m + 1) + eqT t k (m + 1) * S k := by
      unfold nkT eqT
      by_cases q : nxF t (m + 1) = k
      · rw [if_pos q, if_pos (by omega), if_neg (by omega), q]; omega
      · rw [if_neg q]
        by_cases z : nxF t (m + 1) < k
        · rw [if_pos z, if_pos (by omega)]; omega
        · rw [if_neg z, if_neg (by omega)]; omega
    show nkN S t (k + 1) m + nkT S t (k + 1) (m + 1) = (nkN S t k m + nkT S t k (m + 1)) + (cnN t k m + eqT t k (m + 1)) * S k
    rw [nkN_s m, e, Nat.add_mul]; omega
theorem nkN_0 {S : Nat → Nat} {t : Nat} : ∀ m, nkN S t 0 m = 0
  | 0 => rfl
  | m + 1 => by
    show nkN S t 0 m + nkT S t 0 (m + 1) = 0
    have e : nkT S t 0 (m + 1) = 0 := if_neg (Nat.not_lt_zero _)
    rw [nkN_0 m, e]
theorem nkN_nb {S : Nat → Nat} {t : Nat} : ∀ m, nkN S t 256 m = nbN S t m
  | 0 => rfl
  | m + 1 => by
    show nkN S t 256 m + nkT S t 256 (m + 1) = nbN S t m + nbT S t (m + 1)
    rw [nkN_nb m]; rfl
/-- a step's parting -/
def gN (V : am_M) (dd s c : Nat) : Nat := cond (goF V dd s c) 1 0
def wyF (V : am_M) (dd s c : Nat) : Nat := 1 + nbN (gN V dd s) c 8
def shrF (V : am_M) (dd s : Nat) (m : Nat → Nat) (c : Nat) : Nat := m c / wyF V dd s c
def keF (V : am_M) (dd s : Nat) (m : Nat → Nat) (c : Nat) : Nat := m c - shrF V dd s m c * (wyF V dd s c - 1)
def ptF (V : am_M) (dd s : Nat) (m : Nat → Nat) (c : Nat) : Nat := keF V dd s m c + (if goF V dd s c = true then nbN (shrF V dd s m) c 8 else 0)
/-- what lies where behind the first k cells' parting -/
def pkF (V : am_M) (dd s : Nat) (m : Nat → Nat) (k t : Nat) : Nat := (if t < k then keF V dd s m t else 0) + (if goF V dd s t = true then nkN (shrF V dd s m) t k 8 else 0)
theorem pkF_0 {V : am_M} {dd s : Nat} {m : Nat → Nat} {t : Nat} : pkF V dd s m 0 t = 0 := by
  unfold pkF
  rw [if_neg (by omega), nkN_0]
  split <;> rfl
theorem pkF_256 {V : am_M} {dd s : Nat} {m : Nat → Nat} {t : Nat} (ht : t < 256) : pkF V dd s m 256 t = ptF V dd s m t := by
  unfold pkF ptF
  rw [if_pos ht, nkN_nb]
theorem pkF_s {V : am_M} {dd s : Nat} {m : Nat → Nat} {k t : Nat} (hk : k < 256) (ht : t < 256) : pkF V dd s m (k + 1) t = pkF V dd s m k t + (if t = k then keF V dd s m k else 0) + (if goF V dd s t = true then cnN k t 8 * shrF V dd s m k else 0) := by
  unfold pkF
  rw [nkN_s, cn_sym hk ht]
  by_cases e : t = k
  · subst e
    rw [if_pos (show t < t + 1 by omega), if_neg (show ¬t < t by omega), if_pos rfl]
    split <;> omega
  · rw [if_neg e]
    by_cases q : t < k
    · rw [if_pos q, if_pos (show t < k + 1 by omega)]
      split <;> omega
    · rw [if_neg q, if_neg (show ¬t < k + 1 by omega)]
      split <;> omega
theorem sh_le {V : am_M} {dd s : Nat} {m : Nat → Nat} {c : Nat} : shrF V dd s m c * (wyF V dd s c - 1) ≤ m c := by
  unfold shrF
  have h := Nat.div_mul_le_self (m c) (wyF V dd s c)
  have h2 : m c / wyF V dd s c * (wyF V dd s c - 1) ≤ m c / wyF V dd s c * wyF V dd s c := Nat.mul_le_mul_left _ (Nat.sub_le _ _)
  omega
theorem cn_sum {V : am_M} {dd s k : Nat} : ∀ j, sumN (fun t => if goF V dd s t = true then cnN k t j else 0) 256 = nbN (gN V dd s) k j
  | 0 => by
    show sumN (fun t => if goF V dd s t = true then 0 else 0) 256 = 0
    rw [sumN_ext (g := fun _ => 0) 256 (fun c _ => by split <;> rfl), sumN_0]
  | j + 1 => by
    show _ = nbN (gN V dd s) k j + nbT (gN V dd s) k (j + 1)
    rw [← cn_sum j]
    have e : sumN (fun t => if t = nxF k (j + 1) then gN V dd s t else 0) 256 = nbT (gN V dd s) k (j + 1) := sumN_delta 256
    rw [← e, ← sumN_add]
    refine sumN_ext 256 (fun t _ => ?_)
    show (if goF V dd s t = true then cnN k t j + eqT k t (j + 1) else 0) = (if goF V dd s t = true then cnN k t j else 0) + (if t = nxF k (j + 1) then gN V dd s t else 0)
    unfold eqT gN
    cases goF V dd s t
    · rw [if_neg (by decide), if_neg (by decide)]
      split <;> rfl
    · rw [if_pos rfl, if_pos rfl]
      by_cases q : nxF k (j + 1) = t
      · rw [if_pos q, if_pos q.symm]; rfl
      · rw [if_neg q, if_neg (fun z => q z.symm)]
theorem pk_sum {V : am_M} {dd s : Nat} {m : Nat → Nat} : ∀ k, k ≤ 256 → sumN (pkF V dd s m k) 256 = sumN m k
  | 0, _ => by
    rw [sumN_ext (g := fun _ => 0) 256 (fun c _ => pkF_0), sumN_0]; rfl
  | k + 1, hk => by
    have e : sumN (pkF V dd s m (k + 1)) 256 = sumN (fun t => (pkF V dd s m k t + (if t = k then keF V dd s m k else 0)) + (if goF V dd s t = true then cnN k t 8 else 0) * shrF V dd s m k) 256 := by
      refine sumN_ext 256 (fun t ht => ?_)
      have e2 : (if goF V dd s t = true then cnN k t 8 * shrF V dd s m k else 0) = (if goF V dd s t = true then cnN k t 8 else 0) * shrF V dd s m k := by
        split
        · rfl
        · rw [Nat.zero_mul]
      rw [pkF_s (by omega) ht, e2]
    rw [e, sumN_add, sumN_add, pk_sum k (by omega), sumN_mul, cn_sum]
    have d : sumN (fun t => if t = k then keF V dd s m k else 0) 256 = keF V dd s m k := by
      have := sumN_delta (v := fun _ => keF V dd s m k) (x := k) 256
      rw [if_pos (by omega)] at this
      exact this
    rw [d]
    have h := sh_le (V := V) (dd := dd) (s := s) (m := m) (c := k)
    show sumN m k + keF V dd s m k + nbN (gN V dd s) k 8 * shrF V dd s m k = sumN m k + m k
    have w : wyF V dd s k - 1 = nbN (gN V dd s) k 8 := by unfold wyF; omega
    unfold keF
    rw [w] at h ⊢
    rw [Nat.mul_comm (nbN _ k 8)]
    omega
theorem pt_sum {V : am_M} {dd s : Nat} {m : Nat → Nat} : sumN (ptF V dd s m) 256 = sumN m 256 := by
  rw [← pk_sum (V := V) (dd := dd) (s := s) (m := m) 256 (Nat.le_refl _)]
  exact sumN_ext 256 (fun c hc => (pkF_256 hc).symm)
/-- a find acting -/
def leF (V : am_M) (s f : Nat) (m : Nat → Nat) (c : Nat) : Nat := if nn (mI V 77 f) = 4 then (if c = nn (mI V 78 f) then m c * (100 - nn (mI V 81 f)) / 100 else m c) else if s = nn (mI V 80 f) ∧ nearF V f c = false then m c * (100 - truF V f) / 100 else m c
def atF (V : am_M) (dd but s : Nat) (m : Nat → Nat) : Nat → Nat → Nat
  | 0 => m
  | f + 1 => if f ≠ but ∧ onF V f s = true ∧ belF V f dd = true then leF V s f (atF V dd but s m f) else atF V dd but s m f
def msF (V : am_M) (dd but : Nat) : Nat → Nat → Nat
  | 0 => fun c => if c = nn (mI V 18 0) then 1000000000 else 0
  | s + 1 => atF V dd but (s + 1) (ptF V dd (s + 1) (msF V dd but s)) (nn (mI V 19 8))
theorem hund_le {a b : Nat} : a * (100 - b) / 100 ≤ a := by
  have : a * (100 - b) ≤ a * 100 := Nat.mul_le_mul_left _ (by omega)
  omega
theorem leF_le {V : am_M} {s f : Nat} {m : Nat → Nat} {c : Nat} : leF V s f m c ≤ m c := by
  unfold leF
  split
  · split
    · exact hund_le
    · exact Nat.le_refl _
  · split
    · exact hund_le
    · exact Nat.le_refl _
theorem atF_le {V : am_M} {dd but s : Nat} {m : Nat → Nat} {c : Nat} : ∀ f, atF V dd but s m f c ≤ m c
  | 0 => Nat.le_refl _
  | f + 1 => by
    have := atF_le (V := V) (dd := dd) (but := but) (s := s) (m := m) (c := c) f
    unfold atF
    split
    · exact Nat.le_trans leF_le this
    · exact this
theorem ms_sum {V : am_M} (hI : Inv V) {dd but : Nat} : ∀ s, sumN (msF V dd but s) 256 ≤ 1000000000
  | 0 => by
    have := sumN_delta (v := fun _ => 1000000000) (x := nn (mI V 18 0)) 256
    show sumN (fun c => if c = nn (mI V 18 0) then 1000000000 else 0) 256 ≤ _
    rw [this]
    split <;> omega
  | s + 1 => by
    have h1 : sumN (msF V dd but (s + 1)) 256 ≤ sumN (ptF V dd (s + 1) (msF V dd but s)) 256 := sumN_le 256 (fun c _ => atF_le _)
    rw [pt_sum] at h1
    exact Nat.le_trans h1 (ms_sum hI s)
