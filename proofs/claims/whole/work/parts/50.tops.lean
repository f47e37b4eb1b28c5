/-! best: the first cells of a ship, and rows of cells, as numbers -/
def insAt (T : Nat → Nat) (p c : Nat) : Nat → Nat := fun i => if i < p then T i else if i = p then c else T (i - 1)
/-- the place behind all that are no less than x -/
def plT (v T : Nat → Nat) (x : Nat) : Nat → Nat
  | 0 => 0
  | n + 1 => if v (T n) < x then plT v T x n else n + 1
def tpS (v : Nat → Nat) (ok : Nat → Bool) : Nat → (Nat → Nat) × Nat
  | 0 => (fun _ => 0, 0)
  | n + 1 => if ok n = true then (insAt (tpS v ok n).1 (plT v (tpS v ok n).1 (v n) (tpS v ok n).2) n, (tpS v ok n).2 + 1) else tpS v ok n
def btr (v : Nat → Nat) (a b : Nat) : Prop := v b < v a ∨ (v a = v b ∧ a < b)
def srtT (v T : Nat → Nat) (N : Nat) : Prop := ∀ i j, i < j → j < N → btr v (T i) (T j)
section
variable {v T : Nat → Nat} {ok : Nat → Bool} {x n m N c k : Nat}
theorem plT_le : ∀ n, plT v T x n ≤ n
  | 0 => Nat.le_refl _
  | n + 1 => by
    show (if _ then _ else _) ≤ _
    split
    · exact Nat.le_trans (plT_le n) (by omega)
    · exact Nat.le_refl _
theorem plT_hi : ∀ n i, plT v T x n ≤ i → i < n → v (T i) < x
  | 0, i, _, h => absurd h (by omega)
  | n + 1, i, h1, h2 => by
    unfold plT at h1
    split at h1
    · next z =>
      by_cases e : i = n
      · rw [e]; exact z
      · exact plT_hi n i h1 (by omega)
    · omega
theorem plT_lo : ∀ n, 0 < plT v T x n → x ≤ v (T (plT v T x n - 1))
  | 0, h => absurd h (by simp [plT])
  | n + 1, h => by
    by_cases z : v (T n) < x
    · have e : plT v T x (n + 1) = plT v T x n := if_pos z
      rw [e] at h ⊢; exact plT_lo n h
    · have e : plT v T x (n + 1) = n + 1 := if_neg z
      rw [e]; show x ≤ v (T n); omega
theorem srt_le (h : srtT v T N) {i j : Nat} (hij : i ≤ j) (hj : j < N) : v (T j) ≤ v (T i) := by
  by_cases e : i = j
  · rw [e]; exact Nat.le_refl _
  · rcases h i j (by omega) hj with z | z <;> omega
theorem plT_all : ∀ m, (∀ i, i < m → x ≤ v (T i)) → plT v T x m = m
  | 0, _ => rfl
  | m + 1, h => if_neg (by have := h m (by omega); omega)
theorem plT_min (h : srtT v T N) : ∀ n, n ≤ N → ∀ m, m ≤ n → plT v T x m = min m (plT v T x n)
  | 0, _, m, hm => by
    have : m = 0 := by omega
    subst this; rfl
  | n + 1, hn, m, hm => by
    by_cases z : v (T n) < x
    · have e : plT v T x (n + 1) = plT v T x n := if_pos z
      rw [e]
      by_cases y : m = n + 1
      · subst y
        rw [e]
        have := plT_le (v := v) (T := T) (x := x) n
        omega
      · exact plT_min h n (by omega) m (by omega)
    · have e : plT v T x (n + 1) = n + 1 := if_neg z
      rw [e, plT_all m (fun i hi => by have := srt_le h (show i ≤ n by omega) (by omega); omega)]
      omega
theorem tpS_t (h : ok n = true) : tpS v ok (n + 1) = (insAt (tpS v ok n).1 (plT v (tpS v ok n).1 (v n) (tpS v ok n).2) n, (tpS v ok n).2 + 1) := if_pos h
theorem tpS_f (h : ok n = false) : tpS v ok (n + 1) = tpS v ok n := if_neg (by rw [h]; decide)
theorem ins_srt (h : srtT v T N) (hb : ∀ i, i < N → T i < c) : srtT v (insAt T (plT v T (v c) N) c) (N + 1) := by
  have p1 := plT_le (v := v) (T := T) (x := v c) N
  have p2 := plT_hi (v := v) (T := T) (x := v c) N
  have p3 := plT_lo (v := v) (T := T) (x := v c) N
  generalize plT v T (v c) N = p at *
  intro i j hij hj
  unfold insAt
  by_cases a1 : j < p
  · rw [if_pos a1, if_pos (by omega)]
    exact h i j hij (by omega)
  · rw [if_neg a1]
    by_cases a2 : j = p
    · rw [if_pos a2, if_pos (by omega)]
      have q1 := p3 (by omega)
      have q2 := srt_le h (show i ≤ p - 1 by omega) (by omega)
      have q3 := hb i (by omega)
      unfold btr
      omega
    · rw [if_neg a2]
      by_cases a3 : i < p
      · rw [if_pos a3]; exact h i (j - 1) (by omega) (by omega)
      · rw [if_neg a3]
        by_cases a4 : i = p
        · rw [if_pos a4]
          have := p2 (j - 1) (by omega) (by omega)
          exact .inl this
        · rw [if_neg a4]; exact h (i - 1) (j - 1) (by omega) (by omega)
theorem tp_ok : ∀ n, (∀ i, i < (tpS v ok n).2 → (tpS v ok n).1 i < n ∧ ok ((tpS v ok n).1 i) = true) ∧ srtT v (tpS v ok n).1 (tpS v ok n).2 ∧ (∀ c, c < n → ok c = true → ∃ i, i < (tpS v ok n).2 ∧ (tpS v ok n).1 i = c)
  | 0 => ⟨fun i h => absurd h (by simp [tpS]), fun i j _ h => absurd h (by simp [tpS]), fun c h => absurd h (by omega)⟩
  | n + 1 => by
    obtain ⟨h1, h2, h3⟩ := tp_ok n
    cases e : ok n with
    | false =>
      rw [tpS_f e]
      refine ⟨fun i hi => ⟨by have := (h1 i hi).1; omega, (h1 i hi).2⟩, h2, fun c hc ho => h3 c ?_ ho⟩
      by_cases z : c = n
      · rw [z, e] at ho; cases ho
      · omega
    | true =>
      rw [tpS_t e]
      have p1 := plT_le (v := v) (T := (tpS v ok n).1) (x := v n) (tpS v ok n).2
      refine ⟨fun i hi => ?_, ins_srt h2 (fun i hi => (h1 i hi).1), fun c hc ho => ?_⟩
      · dsimp only at hi ⊢
        unfold insAt
        split
        · next z => exact ⟨by have := (h1 i (by omega)).1; omega, (h1 i (by omega)).2⟩
        · split
          · exact ⟨by omega, e⟩
          · next z y => exact ⟨by have := (h1 (i - 1) (by omega)).1; omega, (h1 (i - 1) (by omega)).2⟩
      · dsimp only
        unfold insAt
        by_cases z : c = n
        · exact ⟨plT v (tpS v ok n).1 (v n) (tpS v ok n).2, by omega, by rw [if_neg (Nat.lt_irrefl _), if_pos rfl, z]⟩
        · obtain ⟨i, hi, hc'⟩ := h3 c (by omega) ho
          by_cases y : i < plT v (tpS v ok n).1 (v n) (tpS v ok n).2
          · exact ⟨i, by omega, by rw [if_pos y, hc']⟩
          · exact ⟨i + 1, by omega, by rw [if_neg (by omega), if_neg (by omega)]; exact hc'⟩
/-- the first of the greatest -/
def bsF (v : Nat → Nat) (ok : Nat → Bool) : Nat → Option Nat
  | 0 => none
  | n + 1 => match bsF v ok n with
    | none => if ok n = true then some n else none
    | some b => if ok n = true ∧ v b < v n then some n else some b
theorem bsF_n (e : bsF v ok n = none) : bsF v ok (n + 1) = if ok n = true then some n else none := by
  show (match bsF v ok n with | none => _ | some b => _) = _
  rw [e]
theorem bsF_s {b : Nat} (e : bsF v ok n = some b) : bsF v ok (n + 1) = if ok n = true ∧ v b < v n then some n else some b := by
  show (match bsF v ok n with | none => _ | some b => _) = _
  rw [e]
theorem bs_none : ∀ n, bsF v ok n = none → ∀ c, c < n → ok c = false
  | 0, _, c, h => absurd h (by omega)
  | n + 1, e, c, h => by
    cases q : bsF v ok n with
    | none =>
      rw [bsF_n q] at e
      split at e
      · cases e
      · next z =>
        by_cases y : c = n
        · rw [y]; exact Bool.eq_false_iff.mpr z
        · exact bs_none n q c (by omega)
    | some b =>
      rw [bsF_s q] at e
      split at e <;> cases e
theorem bs_some : ∀ n b, bsF v ok n = some b → b < n ∧ ok b = true ∧ ∀ c, c < n → ok c = true → v c < v b ∨ (v c = v b ∧ b ≤ c)
  | 0, b, e => by cases e
  | n + 1, b, e => by
    cases q : bsF v ok n with
    | none =>
      rw [bsF_n q] at e
      have hn := bs_none n q
      split at e
      · next z =>
        cases e
        refine ⟨by omega, z, fun c hc ho => ?_⟩
        by_cases y : c = n
        · rw [y]; exact .inr ⟨rfl, Nat.le_refl _⟩
        · rw [hn c (by omega)] at ho; cases ho
      · cases e
    | some a =>
      rw [bsF_s q] at e
      obtain ⟨g1, g2, g3⟩ := bs_some n a q
      split at e
      · next z =>
        cases e
        refine ⟨by omega, z.1, fun c hc ho => ?_⟩
        by_cases y : c = n
        · rw [y]; exact .inr ⟨rfl, Nat.le_refl _⟩
        · have := g3 c (by omega) ho; have := z.2; exact .inl (by omega)
      · next z =>
        cases e
        refine ⟨by omega, g2, fun c hc ho => ?_⟩
        by_cases y : c = n
        · subst y
          have : ¬ v b < v c := fun w => z ⟨ho, w⟩
          omega
        · exact g3 c (by omega) ho
/-- among the first k -/
def hadB (T : Nat → Nat) (N k c : Nat) : Bool := anyB (fun i => decide (i < N) && decide (T i = c)) k
theorem had_t {i : Nat} (hi : i < k) (h1 : i < N) (h2 : T i = c) : hadB T N k c = true := anyB_in k i hi (by rw [decide_eq_true h1, decide_eq_true h2]; rfl)
theorem had_e (h : hadB T N k c = true) : ∃ i, i < k ∧ i < N ∧ T i = c := by
  obtain ⟨i, hi, e⟩ := anyB_ex k h
  rw [Bool.and_eq_true] at e
  exact ⟨i, hi, of_decide_eq_true e.1, of_decide_eq_true e.2⟩
theorem btr_irr {a b : Nat} (h : btr v a b) (h2 : v a < v b ∨ (v a = v b ∧ b ≤ a)) : False := by
  unfold btr at h; omega
theorem srt_ne (h : srtT v T N) {i j : Nat} (hij : i < j) (hj : j < N) : T i ≠ T j := by
  intro e
  have := h i j hij hj
  rw [e] at this
  unfold btr at this
  omega
theorem bs_tp (h1 : ∀ i, i < N → T i < n ∧ ok (T i) = true) (h2 : srtT v T N) (h3 : ∀ c, c < n → ok c = true → ∃ i, i < N ∧ T i = c) : bsF v (fun c => ok c && !(hadB T N k c)) n = if k < N then some (T k) else none := by
  cases e : bsF v (fun c => ok c && !(hadB T N k c)) n with
  | none =>
    have q := bs_none n e
    split
    · next z =>
      have := q (T k) (h1 k z).1
      rw [(h1 k z).2, Bool.true_and, Bool.not_eq_false'] at this
      obtain ⟨i, hi, hN, e2⟩ := had_e this
      exact absurd e2 (srt_ne h2 hi z)
    · rfl
  | some b =>
    obtain ⟨g1, g2, g3⟩ := bs_some n b e
    rw [Bool.and_eq_true, Bool.not_eq_true'] at g2
    obtain ⟨j, hj, rfl⟩ := h3 b g1 g2.1
    have hk : k ≤ j := by
      apply Nat.le_of_not_lt
      intro z
      rw [had_t z hj rfl] at g2
      cases g2.2
    rw [if_pos (by omega)]
    by_cases y : j = k
    · rw [y]
    · exfalso
      have hkN : k < N := by omega
      have nh : hadB T N k (T k) = false := by
        apply Bool.eq_false_iff.mpr
        intro z
        obtain ⟨i, hi, hN, e2⟩ := had_e z
        exact srt_ne h2 hi hkN e2
      exact btr_irr (h2 k j (by omega) hj) (g3 (T k) (h1 k hkN).1 (by rw [(h1 k hkN).2, nh]; rfl))
end
/-! rows of cells -/
def smR (v : Nat → Nat → Nat) (r : Nat → Nat) : Nat → Nat
  | 0 => 0
  | n + 1 => smR v r n + v n (r n)
def vlR (T : Nat → Nat → Nat) (N : Nat → Nat) (r : Nat → Nat) (n : Nat) : Prop := ∀ s, s < n → (∃ k, k < 4 ∧ k < N s ∧ r s = T s k) ∧ ∀ o, o < s → r o ≠ r s
def ltR (n : Nat) (r r' : Nat → Nat) : Prop := ∃ s, s < n ∧ (∀ o, o < s → r o = r' o) ∧ r s < r' s
def eqR (n : Nat) (r r' : Nat → Nat) : Prop := ∀ s, s < n → r s = r' s
def bsR (v : Nat → Nat → Nat) (T : Nat → Nat → Nat) (N : Nat → Nat) (n : Nat) (P : (Nat → Nat) → Prop) (br : Nat → Nat) : Option Nat → Prop
  | none => ∀ r, vlR T N r n → ¬P r
  | some x => vlR T N br n ∧ x = smR v br n ∧ ∀ r, vlR T N r n → P r → smR v r n < x ∨ (smR v r n = x ∧ (eqR n br r ∨ ltR n br r))
section
variable {v T : Nat → Nat → Nat} {N : Nat → Nat} {n : Nat} {P P' : (Nat → Nat) → Prop} {r r' br br' : Nat → Nat} {o o' : Option Nat}
theorem eqR_s (h : eqR n r r') : eqR n r' r := fun s hs => (h s hs).symm
theorem smR_eq : ∀ n, eqR n r r' → smR v r n = smR v r' n
  | 0, _ => rfl
  | n + 1, h => by
    show smR v r n + v n (r n) = smR v r' n + v n (r' n)
    rw [smR_eq n (fun s hs => h s (by omega)), h n (by omega)]
theorem vlR_eq (h : eqR n r r') (q : vlR T N r n) : vlR T N r' n := by
  intro s hs
  obtain ⟨⟨k, h1, h2, h3⟩, h4⟩ := q s hs
  exact ⟨⟨k, h1, h2, (h s hs).symm.trans h3⟩, fun o ho => by rw [← h o (by omega), ← h s hs]; exact h4 o ho⟩
theorem ltR_tri : ∀ n, eqR n r r' ∨ ltR n r r' ∨ ltR n r' r
  | 0 => .inl (fun s hs => absurd hs (by omega))
  | n + 1 => by
    rcases ltR_tri n with h | ⟨s, h1, h2, h3⟩ | ⟨s, h1, h2, h3⟩
    · by_cases a : r n = r' n
      · refine .inl (fun s hs => ?_)
        by_cases e : s = n
        · rw [e]; exact a
        · exact h s (by omega)
      · by_cases b : r n < r' n
        · exact .inr (.inl ⟨n, by omega, fun o ho => h o ho, b⟩)
        · exact .inr (.inr ⟨n, by omega, fun o ho => (h o ho).symm, by omega⟩)
    · exact .inr (.inl ⟨s, by omega, h2, h3⟩)
    · exact .inr (.inr ⟨s, by omega, h2, h3⟩)
theorem ltR_as (h : ltR n r r') (q : ltR n r' r) : False := by
  obtain ⟨s, h1, h2, h3⟩ := h
  obtain ⟨t, q1, q2, q3⟩ := q
  by_cases a : s < t
  · have := q2 s a; omega
  · by_cases b : t < s
    · have := h2 t b; omega
    · have : s = t := by omega
      subst this; omega
theorem ltR_tr {a b c : Nat → Nat} (h : ltR n a b) (q : ltR n b c) : ltR n a c := by
  obtain ⟨s, h1, h2, h3⟩ := h
  obtain ⟨t, q1, q2, q3⟩ := q
  by_cases x : s < t
  · exact ⟨s, h1, fun o ho => (h2 o ho).trans (q2 o (by omega)), by rw [← q2 s x]; exact h3⟩
  · by_cases y : t < s
    · exact ⟨t, q1, fun o ho => (h2 o (by omega)).trans (q2 o ho), by rw [h2 t y]; exact q3⟩
    · have : s = t := by omega
      subst this
      exact ⟨s, h1, fun o ho => (h2 o ho).trans (q2 o ho), by omega⟩
theorem ltR_er {a b c : Nat → Nat} (h : ltR n a b) (q : eqR n b c) : ltR n a c := by
  obtain ⟨s, h1, h2, h3⟩ := h
  exact ⟨s, h1, fun o ho => (h2 o ho).trans (q o (by omega)), by rw [← q s h1]; exact h3⟩
theorem ltR_el {a b c : Nat → Nat} (q : eqR n a b) (h : ltR n b c) : ltR n a c := by
  obtain ⟨s, h1, h2, h3⟩ := h
  exact ⟨s, h1, fun o ho => (q o (by omega)).trans (h2 o ho), by rw [q s h1]; exact h3⟩
theorem bsR_uni (h : bsR v T N n (fun _ => True) br o) (h' : bsR v T N n (fun _ => True) br' o') : o = o' ∧ (o ≠ none → eqR n br br') := by
  cases o with
  | none =>
    cases o' with
    | none => exact ⟨rfl, fun q => absurd rfl q⟩
    | some x' => exact absurd trivial (h br' h'.1)
  | some x =>
    cases o' with
    | none => exact absurd trivial (h' br h.1)
    | some x' =>
      obtain ⟨a1, a2, a3⟩ := h
      obtain ⟨b1, b2, b3⟩ := h'
      have c1 := a3 br' b1 trivial
      have c2 := b3 br a1 trivial
      have e : x = x' := by omega
      refine ⟨congrArg some e, fun _ => ?_⟩
      rcases c1 with c1 | ⟨-, c1 | c1⟩
      · omega
      · exact c1
      · rcases c2 with c2 | ⟨-, c2 | c2⟩
        · omega
        · exact eqR_s c2
        · exact absurd c2 (fun z => ltR_as c1 z)
theorem bsR_mono (h : bsR v T N n P br o) (q : ∀ r, vlR T N r n → P' r → P r) : bsR v T N n P' br o := by
  cases o with
  | none => exact fun r hr hp => h r hr (q r hr hp)
  | some x => exact ⟨h.1, h.2.1, fun r hr hp => h.2.2 r hr (q r hr hp)⟩
theorem bsR_take (h : bsR v T N n P br o) (hr : vlR T N r n) (hc : ∀ x, o = some x → x < smR v r n ∨ (smR v r n = x ∧ ltR n r br)) (q : ∀ r', vlR T N r' n → P' r' → P r' ∨ eqR n r r') : bsR v T N n P' r (some (smR v r n)) := by
  refine ⟨hr, rfl, fun r' hr' hp => ?_⟩
  rcases q r' hr' hp with hp | e
  · cases o with
    | none => exact absurd hp (h r' hr')
    | some x =>
      have a3 := h.2.2 r' hr' hp
      rcases hc x rfl with c | ⟨c1, c2⟩
      · exact .inl (by omega)
      · rcases a3 with a3 | ⟨a3, a4 | a4⟩
        · exact .inl (by omega)
        · exact .inr ⟨by omega, .inr (ltR_er c2 a4)⟩
        · exact .inr ⟨by omega, .inr (ltR_tr c2 a4)⟩
  · exact .inr ⟨(smR_eq n e).symm, .inl e⟩
theorem bsR_keep {x : Nat} (h : bsR v T N n P br (some x)) (h1 : ¬ x < smR v r n) (h2 : ¬(smR v r n = x ∧ ltR n r br)) (q : ∀ r', vlR T N r' n → P' r' → P r' ∨ eqR n r r') : bsR v T N n P' br (some x) := by
  refine ⟨h.1, h.2.1, fun r' hr' hp => ?_⟩
  rcases q r' hr' hp with hp | e
  · exact h.2.2 r' hr' hp
  · have es := smR_eq (v := v) n e
    by_cases z : smR v r n < x
    · exact .inl (by omega)
    · refine .inr ⟨by omega, ?_⟩
      rcases ltR_tri (r := br) (r' := r) n with t | t | t
      · exact .inl (fun s hs => (t s hs).trans (e s hs))
      · exact .inr (ltR_er t e)
      · exact absurd ⟨by omega, t⟩ h2
/-- the cells' sums are no more than all -/
theorem smR_le {f : Nat → Nat} : ∀ n (g : Nat → Nat) , (∀ s, s < n → r s < 256) → (∀ s o, o < s → s < n → r o ≠ r s) → smR (fun _ => g) r n ≤ sumN g 256
  | 0, g, _, _ => Nat.zero_le _
  | n + 1, g, h1, h2 => by
    have ih := smR_le (f := f) n (fun c => if c = r n then 0 else g c) (fun s hs => h1 s (by omega)) (fun s o ho hs => h2 s o ho (by omega))
    have e1 : ∀ k, k ≤ n → smR (fun _ => fun c => if c = r n then 0 else g c) r k = smR (fun _ => g) r k := by
      intro k
      induction k with
      | zero => intro _; rfl
      | succ k ihk =>
        intro hk
        show smR _ r k + (if r k = r n then 0 else g (r k)) = smR _ r k + g (r k)
        rw [ihk (by omega), if_neg (h2 n k (by omega) (by omega))]
    have e2 : ∀ m, sumN g m = sumN (fun c => if c = r n then 0 else g c) m + (if r n < m then g (r n) else 0) := by
      intro m
      induction m with
      | zero => rfl
      | succ m ihm =>
        show sumN g m + g m = sumN _ m + (if m = r n then 0 else g m) + (if r n < m + 1 then g (r n) else 0)
        rw [ihm]
        by_cases z : m = r n
        · subst z
          rw [if_neg (Nat.lt_irrefl _), if_pos rfl, if_pos (Nat.lt_succ_self _)]
        · rw [if_neg z]
          by_cases y : r n < m
          · rw [if_pos y, if_pos (by omega)]; omega
          · rw [if_neg y, if_neg (by omega)]; omega
    have e3 := e2 256
    rw [if_pos (h1 n (by omega))] at e3
    rw [e1 n (Nat.le_refl _)] at ih
    show smR (fun _ => g) r n + g (r n) ≤ _
    omega
theorem smR_up {w : Nat → Nat → Nat} : ∀ n, (∀ s, s < n → v s (r s) ≤ w s (r s)) → smR v r n ≤ smR w r n
  | 0, _ => Nat.le_refl _
  | n + 1, h => by
    have := smR_up n (fun s hs => h s (by omega))
    have := h n (by omega)
    show smR v r n + v n (r n) ≤ smR w r n + w n (r n)
    omega
/-- the digits of a pick -/
def dgP (p s : Nat) : Nat := p / 4 ^ s % 4
theorem dgP_lt {p s : Nat} : dgP p s < 4 := Nat.mod_lt _ (by decide)
theorem dg_ex (hn : n ≤ 4) (k : Nat → Nat) (hk : ∀ s, s < n → k s < 4) : ∃ p, p < 4 ^ n ∧ ∀ s, s < n → dgP p s = k s := by
  have k0 := hk 0
  have k1 := hk 1
  have k2 := hk 2
  have k3 := hk 3
  rcases (show n = 0 ∨ n = 1 ∨ n = 2 ∨ n = 3 ∨ n = 4 by omega) with rfl | rfl | rfl | rfl | rfl
  · exact ⟨0, by decide, fun s hs => absurd hs (by omega)⟩
  · have k0 := k0 (by omega)
    refine ⟨k 0, by simpa using k0, fun s hs => ?_⟩
    have : s = 0 := by omega
    subst this
    show k 0 / 1 % 4 = k 0
    omega
  · have k0 := k0 (by omega)
    have k1 := k1 (by omega)
    refine ⟨k 0 + 4 * k 1, by show _ < 16; omega, fun s hs => ?_⟩
    rcases (show s = 0 ∨ s = 1 by omega) with rfl | rfl
    · show _ / 1 % 4 = k 0; omega
    · show _ / 4 % 4 = k 1; omega
  · have k0 := k0 (by omega)
    have k1 := k1 (by omega)
    have k2 := k2 (by omega)
    refine ⟨k 0 + 4 * k 1 + 16 * k 2, by show _ < 64; omega, fun s hs => ?_⟩
    rcases (show s = 0 ∨ s = 1 ∨ s = 2 by omega) with rfl | rfl | rfl
    · show _ / 1 % 4 = k 0; omega
    · show _ / 4 % 4 = k 1; omega
    · show _ / 16 % 4 = k 2; omega
  · have k0 := k0 (by omega)
    have k1 := k1 (by omega)
    have k2 := k2 (by omega)
    have k3 := k3 (by omega)
    refine ⟨k 0 + 4 * k 1 + 16 * k 2 + 64 * k 3, by show _ < 256; omega, fun s hs => ?_⟩
    rcases (show s = 0 ∨ s = 1 ∨ s = 2 ∨ s = 3 by omega) with rfl | rfl | rfl | rfl
    · show _ / 1 % 4 = k 0; omega
    · show _ / 4 % 4 = k 1; omega
    · show _ / 16 % 4 = k 2; omega
    · show _ / 64 % 4 = k 3; omega
def rwP (T : Nat → Nat → Nat) (p : Nat) : Nat → Nat := fun s => T s (dgP p s)
/-- the rows of the picks before p -/
def pkR (T : Nat → Nat → Nat) (N : Nat → Nat) (n p : Nat) (r : Nat → Nat) : Prop := ∃ q, q < p ∧ (∀ s, s < n → dgP q s < N s) ∧ eqR n (rwP T q) r
theorem pk_all (hn : n ≤ 4) (hr : vlR T N r n) : pkR T N n (4 ^ n) r := by
  have : ∃ k : Nat → Nat, ∀ s, s < n → k s < 4 ∧ k s < N s ∧ r s = T s (k s) := by
    refine ⟨fun s => if h : s < n then Classical.choose (hr s h).1 else 0, fun s hs => ?_⟩
    dsimp only
    rw [dif_pos hs]
    exact Classical.choose_spec (hr s hs).1
  obtain ⟨k, hk⟩ := this
  obtain ⟨p, hp, e⟩ := dg_ex hn k (fun s hs => (hk s hs).1)
  exact ⟨p, hp, fun s hs => by rw [e s hs]; exact (hk s hs).2.1, fun s hs => by show T s (dgP p s) = _; rw [e s hs]; exact (hk s hs).2.2.symm⟩
theorem pk_s {p : Nat} (h : pkR T N n (p + 1) r) : pkR T N n p r ∨ ((∀ s, s < n → dgP p s < N s) ∧ eqR n (rwP T p) r) := by
  obtain ⟨q, h1, h2, h3⟩ := h
  by_cases e : q = p
  · subst e; exact .inr ⟨h2, h3⟩
  · exact .inl ⟨q, by omega, h2, h3⟩
end
