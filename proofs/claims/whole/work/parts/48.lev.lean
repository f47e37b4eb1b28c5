/-! trip: how far a ship comes, level by level, and the search that finds it -/
/-- the move back -/
def opM (q : Nat) : Nat := (q + 4) % 8
theorem nx_back {c q : Nat} (hc : c < 256) (hq : q < 8) (h : nxF c (q + 1) < 256) : nxF (nxF c (q + 1)) (opM q + 1) = c := by
  rcases (show q = 0 ∨ q = 1 ∨ q = 2 ∨ q = 3 ∨ q = 4 ∨ q = 5 ∨ q = 6 ∨ q = 7 by omega) with rfl | rfl | rfl | rfl | rfl | rfl | rfl | rfl
  all_goals
    simp only [opM, nxF, Nat.reduceAdd, Nat.reduceMod] at h ⊢
    split at h
    · next z =>
      rw [if_pos z]
      split <;> omega
    · omega
theorem opM_lt {q : Nat} : opM q < 8 := Nat.mod_lt _ (by decide)
section
variable (op la : Nat → Bool) (h : Nat)
def srT (c : Nat) : Bool := decide (c = h) || op c
def tgT (c : Nat) : Bool := la c || op c
/-- comes to c from a cell of the level n -/
def cmT (t : Nat → Option Nat) (n c : Nat) : Bool := anyB (fun q => decide (nxF c (q + 1) < 256) && (decide (t (nxF c (q + 1)) = some n) && srT op h (nxF c (q + 1)))) 8
/-- the moves that a ship needs to c, where n are enough -/
def tT : Nat → Nat → Option Nat
  | 0, c => if c = h then some 0 else none
  | n + 1, c => match tT n c with
    | some v => some v
    | none => if (tgT op la c && cmT op h (tT n) n c) = true then some (n + 1) else none
end
theorem anyB_ex {p : Nat → Bool} : ∀ n, anyB p n = true → ∃ j, j < n ∧ p j = true
  | 0, h => Bool.noConfusion h
  | n + 1, h => by
    rw [anyB_s, Bool.or_eq_true] at h
    rcases h with h | h
    · obtain ⟨j, hj, e⟩ := anyB_ex n h; exact ⟨j, by omega, e⟩
    · exact ⟨n, by omega, h⟩
theorem anyB_in {p : Nat → Bool} : ∀ n j, j < n → p j = true → anyB p n = true
  | 0, _, h, _ => absurd h (by omega)
  | n + 1, j, h, e => by
    rw [anyB_s]
    by_cases z : j = n
    · subst z; rw [e, Bool.or_true]
    · rw [anyB_in n j (by omega) e]; rfl
section
variable {op la : Nat → Bool} {h R l head mid tail n c v : Nat} {mv : Nat → Option Nat} {qu : Nat → Nat}
theorem tT_s1 (e : tT op la h n c = some v) : tT op la h (n + 1) c = some v := by
  show (match tT op la h n c with | some v => some v | none => _) = _
  rw [e]
theorem tT_s0 (e : tT op la h n c = none) : tT op la h (n + 1) c = if (tgT op la c && cmT op h (tT op la h n) n c) = true then some (n + 1) else none := by
  show (match tT op la h n c with | some v => some v | none => _) = _
  rw [e]
theorem tT_le : ∀ n c v, tT op la h n c = some v → v ≤ n
  | 0, c, v, e => by
    unfold tT at e
    split at e
    · cases e; exact Nat.le_refl _
    · cases e
  | n + 1, c, v, e => by
    cases w : tT op la h n c with
    | some u => rw [tT_s1 w] at e; cases e; have := tT_le n c _ w; omega
    | none =>
      rw [tT_s0 w] at e
      split at e
      · cases e; exact Nat.le_refl _
      · cases e
theorem tT_h : ∀ n, tT op la h n h = some 0
  | 0 => if_pos rfl
  | n + 1 => tT_s1 (tT_h n)
theorem cmT_ex {t : Nat → Option Nat} (e : cmT op h t n c = true) : ∃ q, q < 8 ∧ nxF c (q + 1) < 256 ∧ t (nxF c (q + 1)) = some n ∧ srT op h (nxF c (q + 1)) = true := by
  obtain ⟨q, hq, e⟩ := anyB_ex 8 e
  rw [Bool.and_eq_true, Bool.and_eq_true] at e
  exact ⟨q, hq, of_decide_eq_true e.1, of_decide_eq_true e.2.1, e.2.2⟩
/-- the cells come to -/
def vcN (mv : Nat → Option Nat) : Nat → Nat
  | 0 => 0
  | n + 1 => vcN mv n + (if mv n = none then 0 else 1)
theorem vcN_le : ∀ n, vcN mv n ≤ n
  | 0 => Nat.le_refl _
  | n + 1 => by
    have := vcN_le n
    show vcN mv n + _ ≤ _
    split <;> omega
def upT (mv : Nat → Option Nat) (a v : Nat) : Nat → Option Nat := fun j => if j = a then some v else mv j
theorem vcN_up {a : Nat} (ha : mv a = none) : ∀ n, vcN (upT mv a v) n = vcN mv n + (if a < n then 1 else 0)
  | 0 => rfl
  | n + 1 => by
    show vcN (upT mv a v) n + (if upT mv a v n = none then 0 else 1) = vcN mv n + (if mv n = none then 0 else 1) + (if a < n + 1 then 1 else 0)
    rw [vcN_up ha n]
    by_cases z : n = a
    · subst z
      have e : upT mv n v n = some v := if_pos rfl
      rw [e, if_neg (Nat.lt_irrefl n), if_pos ha, if_pos (show n < n + 1 by omega)]
      simp
    · have e : upT mv a v n = mv n := if_neg z
      rw [e]
      by_cases y : a < n
      · rw [if_pos y, if_pos (show a < n + 1 by omega)]; omega
      · rw [if_neg y, if_neg (show ¬a < n + 1 by omega)]
        rfl
/-- all neighbours to which a ship comes have been come to -/
def dnT (op la : Nat → Bool) (mv : Nat → Option Nat) (k c : Nat) : Prop := ∀ q, q < k → nxF c (q + 1) < 256 → tgT op la (nxF c (q + 1)) = true → mv (nxF c (q + 1)) ≠ none
/-- the search at the level l -/
def bfT (op la : Nat → Bool) (h l head mid tail : Nat) (mv : Nat → Option Nat) (qu : Nat → Nat) : Prop :=
  (head ≤ mid) ∧
  (mid ≤ tail) ∧
  (∀ c, c < 256 → tT op la h l c = mv c ∨ (tT op la h l c = none ∧ mv c = some (l + 1) ∧ tT op la h (l + 1) c = some (l + 1))) ∧
  (∀ i, head ≤ i → i < mid → qu i < 256 ∧ mv (qu i) = some l ∧ srT op h (qu i) = true) ∧
  (∀ i, mid ≤ i → i < tail → qu i < 256 ∧ mv (qu i) = some (l + 1) ∧ srT op h (qu i) = true) ∧
  (∀ c, c < 256 → mv c = some (l + 1) → srT op h c = true → ∃ i, mid ≤ i ∧ i < tail ∧ qu i = c) ∧
  (∀ c, c < 256 → mv c = some l → srT op h c = true → (∃ i, head ≤ i ∧ i < mid ∧ qu i = c) ∨ dnT op la mv 8 c) ∧
  (tail ≤ vcN mv 256)
theorem bfT.hm (b : bfT op la h l head mid tail mv qu) : head ≤ mid := b.1
theorem bfT.mt (b : bfT op la h l head mid tail mv qu) : mid ≤ tail := b.2.1
theorem bfT.ev (b : bfT op la h l head mid tail mv qu) : ∀ c, c < 256 → tT op la h l c = mv c ∨ (tT op la h l c = none ∧ mv c = some (l + 1) ∧ tT op la h (l + 1) c = some (l + 1)) := b.2.2.1
theorem bfT.q1 (b : bfT op la h l head mid tail mv qu) : ∀ i, head ≤ i → i < mid → qu i < 256 ∧ mv (qu i) = some l ∧ srT op h (qu i) = true := b.2.2.2.1
theorem bfT.q2 (b : bfT op la h l head mid tail mv qu) : ∀ i, mid ≤ i → i < tail → qu i < 256 ∧ mv (qu i) = some (l + 1) ∧ srT op h (qu i) = true := b.2.2.2.2.1
theorem bfT.s1 (b : bfT op la h l head mid tail mv qu) : ∀ c, c < 256 → mv c = some (l + 1) → srT op h c = true → ∃ i, mid ≤ i ∧ i < tail ∧ qu i = c := b.2.2.2.2.2.1
theorem bfT.s0 (b : bfT op la h l head mid tail mv qu) : ∀ c, c < 256 → mv c = some l → srT op h c = true → (∃ i, head ≤ i ∧ i < mid ∧ qu i = c) ∨ dnT op la mv 8 c := b.2.2.2.2.2.2.1
theorem bfT.cn (b : bfT op la h l head mid tail mv qu) : tail ≤ vcN mv 256 := b.2.2.2.2.2.2.2
/-- the level is done -/
theorem bf_all (b : bfT op la h l head mid tail mv qu) (e : head = mid) (hc : c < 256) : tT op la h (l + 1) c = mv c := by
  rcases b.ev c hc with w | ⟨-, w, w2⟩
  · cases m : mv c with
    | some v => rw [m] at w; exact tT_s1 w
    | none =>
      rw [m] at w
      rw [tT_s0 w]
      refine if_neg fun z => ?_
      rw [Bool.and_eq_true] at z
      obtain ⟨q, hq, lo, to, so⟩ := cmT_ex z.2
      have mo : mv (nxF c (q + 1)) = some l := by
        rcases b.ev _ lo with y | ⟨y, -⟩
        · rw [← y]; exact to
        · rw [y] at to; cases to
      rcases b.s0 _ lo mo so with ⟨i, h1, h2, -⟩ | d
      · omega
      · have bk := nx_back hc hq lo
        have := d (opM q) opM_lt
        rw [bk] at this
        exact this hc z.1 m
  · rw [w, w2]
theorem bf_shift (b : bfT op la h l head mid tail mv qu) (e : head = mid) : bfT op la h (l + 1) head tail tail mv qu := by
  have A := fun c hc => bf_all b e (c := c) hc
  refine ⟨by have := b.mt; omega, Nat.le_refl _, fun c hc => .inl (A c hc), fun i h1 h2 => b.q2 i (by omega) h2, fun i h1 h2 => absurd h2 (by omega), fun c hc w => ?_, fun c hc w s => .inl ?_, b.cn⟩
  · have := tT_le _ _ _ ((A c hc).trans w); omega
  · obtain ⟨i, h1, h2, h3⟩ := b.s1 c hc w s; exact ⟨i, by omega, h2, h3⟩
/-- nothing left: the levels stand still -/
theorem bf_end (b : bfT op la h l head mid tail mv qu) (e : head = tail) : ∀ k c, c < 256 → tT op la h (l + 1 + k) c = mv c
  | 0, c, hc => bf_all b (by have := b.hm; have := b.mt; omega) hc
  | k + 1, c, hc => by
    have ih := bf_end b e k
    cases m : mv c with
    | some v => exact tT_s1 ((ih c hc).trans m)
    | none =>
      rw [show l + 1 + (k + 1) = (l + 1 + k) + 1 by omega, tT_s0 ((ih c hc).trans m)]
      refine if_neg fun z => ?_
      rw [Bool.and_eq_true] at z
      obtain ⟨q, hq, lo, to, so⟩ := cmT_ex z.2
      have mo := (ih _ lo).symm.trans to
      have := tT_le _ _ _ ((bf_end b e 0 _ lo).trans mo)
      have : k = 0 := by omega
      subst this
      obtain ⟨i, h1, h2, -⟩ := b.s1 _ lo mo so
      have := b.hm
      omega
/-- one cell more is come to -/
theorem bf_put (b : bfT op la h l head mid tail mv qu) (hd : head < mid) {q : Nat} (hq : q < 8) (lo : nxF (qu head) (q + 1) < 256) (m0 : mv (nxF (qu head) (q + 1)) = none) (tg : tgT op la (nxF (qu head) (q + 1)) = true) {qu' : Nat → Nat} {tail' : Nat} (hp : if op (nxF (qu head) (q + 1)) = true then tail' = tail + 1 ∧ (∀ i, i < tail → qu' i = qu i) ∧ qu' tail = nxF (qu head) (q + 1) else tail' = tail ∧ qu' = qu) : bfT op la h l head mid tail' (upT mv (nxF (qu head) (q + 1)) (l + 1)) qu' ∧ tail < 256 := by
  obtain ⟨f1, f2, f3⟩ := b.q1 head (Nat.le_refl _) hd
  have bk := nx_back f1 hq lo
  generalize hto : nxF (qu head) (q + 1) = to at *
  have up : ∀ c, c ≠ to → upT mv to (l + 1) c = mv c := fun c z => if_neg z
  have ut : upT mv to (l + 1) to = some (l + 1) := if_pos rfl
  have ne : ∀ c v, mv c = some v → c ≠ to := fun c v e z => by rw [z, m0] at e; cases e
  have t0 : tT op la h l to = none := by
    rcases b.ev to lo with w | ⟨w, -⟩
    · exact w.trans m0
    · exact w
  have tf : tT op la h l (qu head) = some l := by
    rcases b.ev _ f1 with w | ⟨-, w, -⟩
    · exact w.trans f2
    · rw [w] at f2; cases f2
  have t1 : tT op la h (l + 1) to = some (l + 1) := by
    rw [tT_s0 t0]
    refine if_pos ?_
    rw [tg, Bool.true_and]
    refine anyB_in 8 (opM q) opM_lt ?_
    show (decide (nxF to (opM q + 1) < 256) && (decide (tT op la h l (nxF to (opM q + 1)) = some l) && srT op h (nxF to (opM q + 1)))) = true
    rw [bk, decide_eq_true f1, decide_eq_true tf, f3]; rfl
  have nh : to ≠ h := by
    intro z; rw [z] at t0; rw [tT_h] at t0; cases t0
  have cn := vcN_up (v := l + 1) m0 256
  rw [if_pos lo] at cn
  have cl := vcN_le (mv := upT mv to (l + 1)) 256
  have bt := b.mt
  have bh := b.hm
  have bc := b.cn
  have dn : ∀ c, dnT op la mv 8 c → dnT op la (upT mv to (l + 1)) 8 c := by
    intro c d q' hq' l' g'
    by_cases z : nxF c (q' + 1) = to
    · rw [z, ut]; exact Option.some_ne_none _
    · rw [up _ z]; exact d q' hq' l' g'
  have old : ∀ i, i < tail → qu' i = qu i := by
    intro i hi
    split at hp
    · exact hp.2.1 i hi
    · rw [hp.2]
  have tl : tail ≤ tail' ∧ tail' ≤ tail + 1 := by
    split at hp <;> omega
  refine ⟨⟨bh, by omega, fun c hc => ?_, fun i h1 h2 => ?_, fun i h1 h2 => ?_, fun c hc w s => ?_, fun c hc w s => ?_, by omega⟩, by omega⟩
  · by_cases z : c = to
    · subst z; exact .inr ⟨t0, ut, t1⟩
    · rw [up c z]; exact b.ev c hc
  · obtain ⟨g1, g2, g3⟩ := b.q1 i h1 h2
    rw [old i (by omega), up _ (ne _ _ g2)]
    exact ⟨g1, g2, g3⟩
  · by_cases z : i < tail
    · obtain ⟨g1, g2, g3⟩ := b.q2 i h1 z
      rw [old i z, up _ (ne _ _ g2)]
      exact ⟨g1, g2, g3⟩
    · split at hp
      · next o =>
        have : i = tail := by omega
        subst this
        rw [hp.2.2, ut]
        exact ⟨lo, rfl, by unfold srT; rw [o, Bool.or_true]⟩
      · omega
  · by_cases z : c = to
    · subst z
      have o : op c = true := by
        unfold srT at s
        rwa [decide_eq_false nh, Bool.false_or] at s
      rw [if_pos o] at hp
      exact ⟨tail, by omega, by omega, hp.2.2⟩
    · rw [up c z] at w
      obtain ⟨i, h1, h2, h3⟩ := b.s1 c hc w s
      exact ⟨i, h1, by omega, by rw [old i h2]; exact h3⟩
  · by_cases z : c = to
    · rw [z, ut] at w; cases w
    · rw [up c z] at w
      rcases b.s0 c hc w s with ⟨i, h1, h2, h3⟩ | d
      · exact .inl ⟨i, h1, h2, by rw [old i (by omega)]; exact h3⟩
      · exact .inr (dn c d)
/-- the cell at the head is done -/
theorem bf_next (b : bfT op la h l head mid tail mv qu) (hd : head < mid) (d : dnT op la mv 8 (qu head)) : bfT op la h l (head + 1) mid tail mv qu := by
  refine ⟨hd, b.mt, b.ev, fun i h1 h2 => b.q1 i (by omega) h2, b.q2, b.s1, fun c hc w s => ?_, b.cn⟩
  rcases b.s0 c hc w s with ⟨i, h1, h2, h3⟩ | d'
  · by_cases z : i = head
    · subst z; subst h3; exact .inr d
    · exact .inl ⟨i, by omega, h2, h3⟩
  · exact .inr d'
end
