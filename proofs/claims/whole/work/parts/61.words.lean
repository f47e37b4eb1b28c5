/-! words packed in a number -/
def hsF (f : Nat → Nat) : Nat → Nat
  | 0 => 0
  | j + 1 => hsF f j * 256 + f j
theorem hsF_ext {f g : Nat → Nat} : ∀ m, (∀ j, j < m → f j = g j) → hsF f m = hsF g m
  | 0, _ => rfl
  | m + 1, h => by
    show hsF f m * 256 + f m = hsF g m * 256 + g m
    rw [hsF_ext m (fun j hj => h j (by omega)), h m (by omega)]
theorem hsF_inj {f g : Nat → Nat} : ∀ m m', (∀ j, j < m → 97 ≤ f j ∧ f j ≤ 122) → (∀ j, j < m' → 97 ≤ g j ∧ g j ≤ 122) → hsF f m = hsF g m' → m = m' ∧ ∀ j, j < m → f j = g j
  | 0, 0, _, _, _ => ⟨rfl, fun j h => absurd h (by omega)⟩
  | 0, m' + 1, _, h2, e => by
    have := h2 m' (by omega)
    have e : 0 = hsF g m' * 256 + g m' := e
    omega
  | m + 1, 0, h1, _, e => by
    have := h1 m (by omega)
    have e : hsF f m * 256 + f m = 0 := e
    omega
  | m + 1, m' + 1, h1, h2, e => by
    have a1 := h1 m (by omega)
    have a2 := h2 m' (by omega)
    have e : hsF f m * 256 + f m = hsF g m' * 256 + g m' := e
    obtain ⟨e1, e2⟩ := hsF_inj m m' (fun j hj => h1 j (by omega)) (fun j hj => h2 j (by omega)) (by omega)
    refine ⟨by omega, fun j hj => ?_⟩
    by_cases z : j = m
    · subst z; subst e1; omega
    · exact e2 j (by omega)
theorem hsF_lt {f : Nat → Nat} : ∀ m, (∀ j, j < m → f j < 256) → hsF f m < 256 ^ m
  | 0, _ => by show 0 < 256 ^ 0; decide
  | m + 1, h => by
    have ih := hsF_lt m (fun j hj => h j (by omega))
    have := h m (by omega)
    show hsF f m * 256 + f m < 256 ^ (m + 1)
    rw [Nat.pow_succ]
    omega
theorem fsF_z {p : Nat → Bool} : ∀ n, fsF p n = n → ∀ t, t < n → p t = false
  | 0, _, t, h => absurd h (by omega)
  | n + 1, e, t, h => by
    unfold fsF at e
    split at e
    · omega
    · next z =>
      split at e
      · omega
      · next y =>
        have := fsF_le (p := p) n
        by_cases w : t = n
        · rw [w]; exact Bool.eq_false_iff.mpr y
        · exact fsF_z n (by omega) t (by omega)
def wkT (k : Nat) : Nat := hsF (fun j => (wdC (wdB k + j)).toNat) (wdN k)
theorem wk_le : ∀ k, k < 27 → ∀ j, j < wdN k → 97 ≤ wdC (wdB k + j) ∧ wdC (wdB k + j) ≤ 122 := by decide +kernel
theorem wk_inj : ∀ k, k < 27 → ∀ k', k' < 27 → wkT k = wkT k' → k = k' := by decide +kernel
theorem wk_pos : ∀ k, k < 27 → 0 < wkT k := by decide +kernel
section
variable {B : Nat → Int32} {n p i k e : Nat}
def byN (B : Nat → Int32) (p j : Nat) : Nat := (B (p + j)).toInt.toNat
theorem le_by (h : leC B p = true) : 97 ≤ (B p).toInt ∧ (B p).toInt ≤ 122 := by
  unfold leC at h
  rw [Bool.and_eq_true] at h
  exact ⟨of_decide_eq_true h.1, of_decide_eq_true h.2⟩
theorem sp_hs (hk : k < 27) (hl : ∀ x, p ≤ x → x < e → leC B x = true) : spB B k p e = true ↔ hsF (byN B p) (e - p) = wkT k := by
  have L : ∀ j, j < e - p → 97 ≤ byN B p j ∧ byN B p j ≤ 122 := fun j hj => by
    have := le_by (hl (p + j) (by omega) (by omega))
    unfold byN; omega
  have W : ∀ j, j < wdN k → 97 ≤ (wdC (wdB k + j)).toNat ∧ (wdC (wdB k + j)).toNat ≤ 122 := fun j hj => by
    have := wk_le k hk j hj
    omega
  unfold spB
  rw [Bool.and_eq_true, decide_eq_true_iff]
  constructor
  · rintro ⟨h1, h2⟩
    have h3 := allB_t _ h2
    unfold wkT
    rw [h1]
    refine hsF_ext _ (fun j hj => ?_)
    have := of_decide_eq_true (h3 j hj)
    unfold byN
    rw [this]
  · intro h
    obtain ⟨h1, h2⟩ := hsF_inj _ _ L W h
    refine ⟨h1, allB_i _ (fun j hj => decide_eq_true ?_)⟩
    have a1 := h2 j (by omega)
    have a2 := L j (by omega)
    have a3 := wk_le k hk j hj
    unfold byN at a1 a2
    omega
theorem wo_eq (hk : k < 27) (hl : ∀ x, p ≤ x → x < e → leC B x = true) : woT B p e = k ↔ hsF (byN B p) (e - p) = wkT k := by
  rw [← sp_hs hk hl]
  constructor
  · intro h
    unfold woT at h
    split at h
    · next z => rw [← h]; exact fsF_p (p := fun k => spB B k p e) 27 z
    · omega
  · intro h
    have f1 : fsF (fun k => spB B k p e) 27 < 27 := by
      apply Nat.lt_of_not_le
      intro z
      have : fsF (fun k => spB B k p e) 27 = 27 := Nat.le_antisymm (fsF_le 27) z
      have f0 : spB B k p e = false := fsF_z (p := fun k => spB B k p e) 27 this k hk
      rw [h] at f0; cases f0
    unfold woT
    rw [if_pos f1]
    have f2 : spB B (fsF (fun k => spB B k p e) 27) p e = true := fsF_p (p := fun k => spB B k p e) 27 f1
    exact wk_inj _ f1 _ hk (((sp_hs f1 hl).mp f2).symm.trans ((sp_hs hk hl).mp h))
/-- the end of the letters from p on -/
def lwT (B : Nat → Int32) (n p : Nat) : Nat := ru (leC B) n p
def wvT (B : Nat → Int32) (n p : Nat) : Nat := if lwT B n p - p ≤ 7 then hsF (byN B p) (lwT B n p - p) else 0
theorem lw_in (h : p ≤ n) : ∀ x, p ≤ x → x < lwT B n p → leC B x = true := fun x h1 h2 => ru_in h h1 h2
theorem wdN_le : ∀ k, k < 27 → wdN k ≤ 7 := by decide +kernel
theorem wv_eq (h : p ≤ n) (hk : k < 27) : wvT B n p = wkT k ↔ toT B n p = k := by
  have kp := wk_pos k hk
  by_cases hl : p < n ∧ leC B p = true
  · have E : toT B n p = woT B p (lwT B n p) := by unfold toT; rw [if_pos hl.1, if_pos hl.2]; rfl
    rw [E, wo_eq hk (lw_in h)]
    unfold wvT
    by_cases z : lwT B n p - p ≤ 7
    · rw [if_pos z]
    · rw [if_neg z]
      refine ⟨fun q => by omega, fun q => ?_⟩
      exfalso
      have s := (sp_hs hk (lw_in h)).mpr q
      unfold spB at s
      rw [Bool.and_eq_true] at s
      have := of_decide_eq_true s.1
      have := wdN_le k hk
      omega
  · have e0 : lwT B n p = p := ru_f h (fun z => by
      cases y : leC B p with
      | false => rfl
      | true => exact absurd ⟨z, y⟩ hl)
    have v0 : wvT B n p = 0 := by unfold wvT; rw [e0, Nat.sub_self, if_pos (by omega)]; rfl
    rw [v0]
    refine ⟨fun q => by omega, fun q => ?_⟩
    exfalso
    revert q
    unfold toT
    split
    · next z =>
      rw [if_neg (fun y => hl ⟨z, y⟩)]
      split
      · split <;> omega
      · unfold sgT; repeat' split
        all_goals omega
    · omega
theorem wv_en (h : p ≤ n) (hk : k < 27) (e : toT B n p = k) : lwT B n p = enT B n p ∧ p < n := by
  by_cases hl : p < n ∧ leC B p = true
  · unfold enT; rw [if_pos hl.2]; exact ⟨rfl, hl.1⟩
  · exfalso
    revert e
    unfold toT
    split
    · next z =>
      rw [if_neg (fun y => hl ⟨z, y⟩)]
      split
      · split <;> omega
      · unfold sgT; repeat' split
        all_goals omega
    · omega
theorem wv_lt (h : p ≤ n) : wvT B n p < 72057594037927936 := by
  unfold wvT
  split
  · next z =>
    have h1 := hsF_lt (f := byN B p) (lwT B n p - p) (fun j hj => by
      have := le_by (lw_in (B := B) h (p + j) (by omega) (by omega))
      unfold byN; omega)
    exact Nat.lt_of_lt_of_le h1 (Nat.pow_le_pow_right (by omega) z)
  · omega
end
