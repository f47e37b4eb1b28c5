/-! the text as both sides read it: blanks, words, numbers, signs; tokens by number -/
/-- where a run ends -/
def ruE (c : Nat → Bool) (n : Nat) : Nat → Nat → Nat
  | 0, p => p
  | f + 1, p => if p < n ∧ c p = true then ruE c n f (p + 1) else p
def ru (c : Nat → Bool) (n p : Nat) : Nat := ruE c n (n - p) p
section
variable {c : Nat → Bool} {n p q : Nat}
theorem ruE_s : ∀ f p, p ≤ n → f = n - p → p ≤ ruE c n f p ∧ ruE c n f p ≤ n ∧ (∀ x, p ≤ x → x < ruE c n f p → c x = true) ∧ (ruE c n f p < n → c (ruE c n f p) = false)
  | 0, p, h, e => by
    have : p = n := by omega
    subst this
    exact ⟨Nat.le_refl _, Nat.le_refl _, fun x h1 h2 => absurd h2 (by show ¬x < p; omega), fun h2 => absurd h2 (Nat.lt_irrefl _)⟩
  | f + 1, p, h, e => by
    unfold ruE
    split
    · next z =>
      obtain ⟨h1, h2, h3, h4⟩ := ruE_s f (p + 1) (by omega) (by omega)
      refine ⟨by omega, h2, fun x hx1 hx2 => ?_, h4⟩
      by_cases y : x = p
      · rw [y]; exact z.2
      · exact h3 x (by omega) hx2
    · next z =>
      refine ⟨Nat.le_refl _, h, fun x h1 h2 => absurd h2 (by omega), fun h2 => ?_⟩
      cases y : c p with
      | false => rfl
      | true => exact absurd ⟨h2, y⟩ z
theorem ru_ge (h : p ≤ n) : p ≤ ru c n p := (ruE_s _ p h rfl).1
theorem ru_le (h : p ≤ n) : ru c n p ≤ n := (ruE_s _ p h rfl).2.1
theorem ru_in (h : p ≤ n) {x : Nat} (h1 : p ≤ x) (h2 : x < ru c n p) : c x = true := (ruE_s _ p h rfl).2.2.1 x h1 h2
theorem ru_out (h : p ≤ n) (h2 : ru c n p < n) : c (ru c n p) = false := (ruE_s _ p h rfl).2.2.2 h2
theorem ru_uni (h : p ≤ q) (hq : q ≤ n) (h1 : ∀ x, p ≤ x → x < q → c x = true) (h2 : q < n → c q = false) : ru c n p = q := by
  have a1 := ru_ge (c := c) (n := n) (p := p) (by omega)
  have a2 := ru_le (c := c) (n := n) (p := p) (by omega)
  by_cases x : ru c n p < q
  · have b1 := ru_out (c := c) (p := p) (n := n) (by omega) (by omega)
    rw [h1 _ a1 x] at b1; cases b1
  · by_cases y : q < ru c n p
    · have b1 := ru_in (c := c) (p := p) (n := n) (by omega) h y
      rw [h2 (by omega)] at b1; cases b1
    · omega
theorem ru_n : ru c n n = n := ru_uni (Nat.le_refl _) (Nat.le_refl _) (fun x h1 h2 => absurd h2 (by omega)) (fun h => absurd h (Nat.lt_irrefl _))
theorem ru_t (h : p < n) (e : c p = true) : ru c n p = ru c n (p + 1) := by
  have a1 := ru_ge (c := c) (n := n) (p := p + 1) (by omega)
  refine ru_uni (by omega) (ru_le (by omega)) (fun x h1 h2 => ?_) (fun h2 => ru_out (by omega) h2)
  by_cases y : x = p
  · rw [y]; exact e
  · exact ru_in (p := p + 1) (n := n) (by omega) (by omega) h2
theorem ru_f (h : p ≤ n) (e : p < n → c p = false) : ru c n p = p := ru_uni (Nat.le_refl _) h (fun x h1 h2 => absurd h2 (by omega)) e
theorem ru_gt (h : p < n) (e : c p = true) : p + 1 ≤ ru c n p := by
  rw [ru_t h e]; exact ru_ge (by omega)
end
section
variable (B : Nat → Int32) (n : Nat)
def blC (p : Nat) : Bool := decide ((B p).toInt = 32) || decide ((B p).toInt = 10)
def leC (p : Nat) : Bool := decide (97 ≤ (B p).toInt) && decide ((B p).toInt ≤ 122)
def diC (p : Nat) : Bool := decide (48 ≤ (B p).toInt) && decide ((B p).toInt ≤ 57)
def skT (p : Nat) : Nat := ru (blC B) n p
/-- a token's end -/
def enT (p : Nat) : Nat := if leC B p = true then ru (leC B) n p else if diC B p = true then ru (diC B) n p else p + 1
/-- the words: where each begins, how long it is -/
def wdS : List Nat := [0, 5, 10, 15, 19, 25, 30, 36, 41, 47, 53, 59, 65, 71, 77, 82, 89, 97, 100, 105, 110, 116, 120, 124, 127, 131, 134]
def wdL : List Nat := [4, 4, 4, 3, 5, 4, 5, 4, 5, 5, 5, 5, 5, 5, 4, 6, 7, 2, 4, 4, 5, 3, 3, 2, 3, 2, 3]
def wdB (k : Nat) : Nat := wdS.getD k 0
def wdN (k : Nat) : Nat := wdL.getD k 0
def wdC (i : Nat) : Int := am_txA.getD i 0
def allB (p : Nat → Bool) : Nat → Bool
  | 0 => true
  | n + 1 => allB p n && p n
/-- from p to e stands the word k -/
def spB (k p e : Nat) : Bool := decide (e - p = wdN k) && allB (fun j => decide ((B (p + j)).toInt = wdC (wdB k + j))) (wdN k)
def woT (p e : Nat) : Nat := if fsF (fun k => spB B k p e) 27 < 27 then fsF (fun k => spB B k p e) 27 else 41
def nuT (p : Nat) : Nat → Nat
  | 0 => 0
  | j + 1 => nuT p j * 10 + ((B (p + j)).toInt.toNat - 48)
def sgT (v : Int) : Nat := if v = 59 then 30 else if v = 40 then 31 else if v = 41 then 32 else if v = 60 then 33 else if v = 62 then 34 else if v = 61 then 35 else 41
def toT (p : Nat) : Nat := if p < n then (if leC B p = true then woT B p (ru (leC B) n p) else if diC B p = true then (if ru (diC B) n p - p ≤ 5 then 1000 + nuT B p (ru (diC B) n p - p) else 41) else sgT (B p).toInt) else 40
def plT' : Nat → Nat
  | 0 => skT B n 0
  | i + 1 => if plT' i < n then skT B n (enT B n (plT' i)) else n
def tkT (i : Nat) : Nat := toT B n (plT' B n i)
end
section
variable {B : Nat → Int32} {n p i k e : Nat}
theorem allB_t {p : Nat → Bool} : ∀ n, allB p n = true → ∀ j, j < n → p j = true
  | 0, _, j, h => absurd h (by omega)
  | n + 1, e, j, h => by
    rw [show allB p (n + 1) = (allB p n && p n) from rfl, Bool.and_eq_true] at e
    by_cases z : j = n
    · rw [z]; exact e.2
    · exact allB_t n e.1 j (by omega)
theorem allB_i {p : Nat → Bool} : ∀ n, (∀ j, j < n → p j = true) → allB p n = true
  | 0, _ => rfl
  | n + 1, h => by
    rw [show allB p (n + 1) = (allB p n && p n) from rfl, allB_i n (fun j hj => h j (by omega)), h n (by omega)]; rfl
theorem enT_gt (h : p < n) : p < enT B n p ∧ enT B n p ≤ n := by
  unfold enT
  split
  · next z => exact ⟨ru_gt h z, ru_le (by omega)⟩
  · split
    · next z => exact ⟨ru_gt h z, ru_le (by omega)⟩
    · omega
theorem skT_ge (h : p ≤ n) : p ≤ skT B n p := ru_ge h
theorem skT_le (h : p ≤ n) : skT B n p ≤ n := ru_le h
theorem skT_nb (h : p ≤ n) (h2 : skT B n p < n) : blC B (skT B n p) = false := ru_out h h2
theorem skT_id (h : p ≤ n) (e : p < n → blC B p = false) : skT B n p = p := ru_f h e
theorem pl_le : ∀ i, plT' B n i ≤ n
  | 0 => skT_le (Nat.zero_le _)
  | i + 1 => by
    show (if _ then _ else _) ≤ n
    split
    · next z => exact skT_le (enT_gt z).2
    · exact Nat.le_refl _
theorem pl_s (h : plT' B n i < n) : plT' B n (i + 1) = skT B n (enT B n (plT' B n i)) := if_pos h
theorem pl_n (h : ¬plT' B n i < n) : plT' B n (i + 1) = n := if_neg h
theorem pl_nb (h : plT' B n i < n) : blC B (plT' B n i) = false := by
  cases i with
  | zero => exact skT_nb (Nat.zero_le _) h
  | succ i =>
    by_cases z : plT' B n i < n
    · rw [pl_s z] at h ⊢; exact skT_nb (enT_gt z).2 h
    · rw [pl_n z] at h; exact absurd h (Nat.lt_irrefl _)
theorem pl_up (h : plT' B n i < n) : plT' B n i < plT' B n (i + 1) := by
  rw [pl_s h]
  have := enT_gt (B := B) h
  have := skT_ge (B := B) (n := n) (p := enT B n (plT' B n i)) (by omega)
  omega
theorem pl_ge : ∀ i, plT' B n i < n → i ≤ plT' B n i
  | 0, _ => Nat.zero_le _
  | i + 1, h => by
    by_cases z : plT' B n i < n
    · have := pl_ge i z; have := pl_up z; omega
    · rw [pl_n z] at h; exact absurd h (Nat.lt_irrefl _)
theorem woT_ne (p e : Nat) : woT B p e ≠ 40 := by
  unfold woT
  split <;> omega
theorem sgT_ne (v : Int) : sgT v ≠ 40 := by
  unfold sgT
  repeat' split
  all_goals omega
/-- the end's token stands at the end alone -/
theorem tk_end : tkT B n i = 40 ↔ ¬plT' B n i < n := by
  unfold tkT toT
  split
  · next z =>
    refine ⟨fun h => ?_, fun h => absurd z h⟩
    exfalso
    revert h
    split
    · exact fun h => woT_ne _ _ h
    · split
      · split
        · intro h; omega
        · intro h; omega
      · exact fun h => sgT_ne _ h
  · next z => exact ⟨fun _ => z, fun _ => rfl⟩
theorem tk_lt (h : tkT B n i ≠ 40) : plT' B n i < n := by
  by_cases z : plT' B n i < n
  · exact z
  · exact absurd (tk_end.mpr z) h
/-- tokens are no more than bytes -/
theorem tk_ix (h : tkT B n i ≠ 40) : i < n := by
  have := tk_lt h; have := pl_ge i this; omega
theorem nuT_lt : ∀ j, (∀ x, x < j → diC B (p + x) = true) → nuT B p j < 10 ^ j
  | 0, _ => by show 0 < 10 ^ 0; decide
  | j + 1, h => by
    have ih := nuT_lt j (fun x hx => h x (by omega))
    have d := h j (by omega)
    unfold diC at d
    rw [Bool.and_eq_true] at d
    have d1 := of_decide_eq_true d.1
    have d2 := of_decide_eq_true d.2
    show nuT B p j * 10 + ((B (p + j)).toInt.toNat - 48) < 10 ^ (j + 1)
    rw [Nat.pow_succ]
    omega
theorem di_run (h : p ≤ n) : ∀ x, x < ru (diC B) n p - p → diC B (p + x) = true := fun x hx => ru_in h (by omega) (by have := ru_ge (c := diC B) h; omega)
theorem nuT_100 {j : Nat} (hj : j ≤ 5) (h : ∀ x, x < j → diC B (p + x) = true) : nuT B p j < 100000 := by
  have := nuT_lt j h
  rcases (show j = 0 ∨ j = 1 ∨ j = 2 ∨ j = 3 ∨ j = 4 ∨ j = 5 by omega) with rfl | rfl | rfl | rfl | rfl | rfl <;> omega
theorem tk_max : tkT B n i < 101000 := by
  unfold tkT toT
  split
  · next z =>
    split
    · unfold woT; split <;> omega
    · split
      · split
        · next y => have := nuT_100 y (di_run (B := B) (Nat.le_of_lt z)); omega
        · omega
      · unfold sgT; repeat' split
        all_goals omega
  · omega
end
