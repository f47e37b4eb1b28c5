/-! locals -/
def am_list (G : am_G) : Nat → am_L → List (Nat × Value)
  | _, [] => []
  | k, some v :: t => (k, am_ra G v) :: am_list G (k + 1) t
  | k, none :: t => am_list G (k + 1) t
def am_okO (G : am_G) : Prop := gO G = .null ∨ ∃ a, gO G = .ref a
theorem am_ra_cat {G : am_G} (hO : am_okO G) (v : Value) : (am_ra G v).category = v.category := by
  cases v with
  | retAddr x =>
    show (gO G).category = 1
    rcases hO with h | ⟨a, h⟩ <;> rw [h] <;> rfl
  | _ => rfl
theorem am_list_ge {G : am_G} : ∀ (lv : am_L) (k : Nat) (q : Nat × Value), q ∈ am_list G k lv → k ≤ q.1 := by
  intro lv
  induction lv with
  | nil => intro k q h; simp [am_list] at h
  | cons a t ih =>
    intro k q h
    cases a with
    | none => have := ih (k + 1) q h; omega
    | some v =>
      rcases List.mem_cons.mp h with e | e
      · rw [e]; exact Nat.le_refl _
      · have := ih (k + 1) q e; omega
theorem am_list_get {G : am_G} : ∀ (lv : am_L) (k i : Nat) (v : Value), lv[i]? = some (some v) → (k + i, am_ra G v) ∈ am_list G k lv := by
  intro lv
  induction lv with
  | nil => intro k i v h; simp at h
  | cons a t ih =>
    intro k i v h
    cases i with
    | zero =>
      simp only [List.getElem?_cons_zero] at h
      cases h
      exact List.mem_cons_self
    | succ i =>
      simp only [List.getElem?_cons_succ] at h
      have h2 := ih (k + 1) i v h
      rw [show k + 1 + i = k + (i + 1) by omega] at h2
      cases a with
      | none => exact h2
      | some w => exact List.mem_cons_of_mem _ h2
theorem am_kl_some {v : Option Value} {w : Value} (h : am_kl v = some w) : v = some w ∧ w.category = 1 := by
  cases v with
  | none => simp [am_kl] at h
  | some x =>
    cases x <;> simp [am_kl] at h <;> subst h <;> exact ⟨rfl, rfl⟩
theorem am_set1_mem {G : am_G} (hO : am_okO G) : ∀ (lv : am_L) (k i : Nat) (v : Value) (q : Nat × Value), q ∈ am_list G k (am_set1 lv i v) → q = (k + i, am_ra G v) ∨ (q ∈ am_list G k lv ∧ q.1 ≠ k + i ∧ ¬ (q.1 + 1 = k + i ∧ q.2.category = 2)) := by
  intro lv
  induction lv with
  | nil => intro k i v q h; simp [am_set1, am_list] at h
  | cons a t ih =>
    intro k i v q h
    match i with
    | 0 =>
      rcases List.mem_cons.mp h with e | e
      · exact Or.inl e
      · have hge := am_list_ge t (k + 1) q e
        refine Or.inr ⟨?_, by omega, by omega⟩
        cases a with
        | none => exact e
        | some w => exact List.mem_cons_of_mem _ e
    | 1 =>
      have hrec : ∀ q, q ∈ am_list G (k + 1) (am_set1 t 0 v) → q = (k + 1, am_ra G v) ∨ (q ∈ am_list G k (a :: t) ∧ q.1 ≠ k + 1 ∧ ¬ (q.1 + 1 = k + 1 ∧ q.2.category = 2)) := by
        intro q hq
        rcases ih (k + 1) 0 v q hq with e | ⟨e1, e2, e3⟩
        · exact Or.inl e
        · refine Or.inr ⟨?_, e2, ?_⟩
          · cases a with
            | none => exact e1
            | some w => exact List.mem_cons_of_mem _ e1
          · have := am_list_ge t (k + 1) q e1
            omega
      have h' : q ∈ am_list G k (am_kl a :: am_set1 t 0 v) := h
      cases hk : am_kl a with
      | none => rw [hk] at h'; exact hrec q h'
      | some w =>
        rw [hk] at h'
        obtain ⟨e0, e1⟩ := am_kl_some hk
        rcases List.mem_cons.mp h' with e | e
        · refine Or.inr ⟨?_, ?_, ?_⟩
          · rw [e, e0]; exact List.mem_cons_self
          · rw [e]; show k ≠ k + 1; omega
          · rw [e]
            intro z
            have : (am_ra G w).category = 2 := z.2
            rw [am_ra_cat hO] at this
            omega
        · exact hrec q e
    | n + 2 =>
      have h' : q ∈ am_list G k (a :: am_set1 t (n + 1) v) := h
      have hrec : ∀ q, q ∈ am_list G (k + 1) (am_set1 t (n + 1) v) → q = (k + (n + 2), am_ra G v) ∨ (q ∈ am_list G k (a :: t) ∧ q.1 ≠ k + (n + 2) ∧ ¬ (q.1 + 1 = k + (n + 2) ∧ q.2.category = 2)) := by
        intro q hq
        rcases ih (k + 1) (n + 1) v q hq with e | ⟨e1, e2, e3⟩
        · exact Or.inl (by rw [e, show k + 1 + (n + 1) = k + (n + 2) by omega])
        · rw [show k + 1 + (n + 1) = k + (n + 2) by omega] at e2 e3
          refine Or.inr ⟨?_, e2, e3⟩
          cases a with
          | none => exact e1
          | some w => exact List.mem_cons_of_mem _ e1
      cases a with
      | none => exact hrec q h'
      | some w =>
        rcases List.mem_cons.mp h' with e | e
        · refine Or.inr ⟨by rw [e]; exact List.mem_cons_self, ?_, ?_⟩
          · rw [e]; show k ≠ k + (n + 2); omega
          · rw [e]
            intro z
            have z1 : k + 1 = k + (n + 2) := z.1
            omega
        · exact hrec q e
theorem am_set2_mem {G : am_G} (hO : am_okO G) : ∀ (lv : am_L) (k i : Nat) (v : Value) (q : Nat × Value), q ∈ am_list G k (am_set2 lv i v) → q = (k + i, am_ra G v) ∨ (q ∈ am_list G k lv ∧ q.1 ≠ k + i ∧ q.1 ≠ k + i + 1 ∧ ¬ (q.1 + 1 = k + i ∧ q.2.category = 2)) := by
  intro lv
  induction lv with
  | nil => intro k i v q h; simp [am_set2, am_list] at h
  | cons a t ih =>
    intro k i v q h
    cases t with
    | nil => cases i <;> simp [am_set2, am_list] at h
    | cons a2 t =>
    have hcons : ∀ q, q ∈ am_list G (k + 1) (a2 :: t) → q ∈ am_list G k (a :: a2 :: t) := by
      intro q hq
      cases a with
      | none => exact hq
      | some w => exact List.mem_cons_of_mem _ hq
    match i with
    | 0 =>
      have h' : q ∈ am_list G k (some v :: none :: t) := h
      rcases List.mem_cons.mp h' with e | e
      · exact Or.inl e
      · have e' : q ∈ am_list G (k + 1 + 1) t := e
        have hge := am_list_ge t (k + 1 + 1) q e'
        refine Or.inr ⟨hcons q ?_, by omega, by omega, by omega⟩
        cases a2 with
        | none => exact e'
        | some w => exact List.mem_cons_of_mem _ e'
    | 1 =>
      have h' : q ∈ am_list G k (am_kl a :: am_set2 (a2 :: t) 0 v) := h
      have hrec : ∀ q, q ∈ am_list G (k + 1) (am_set2 (a2 :: t) 0 v) → q = (k + 1, am_ra G v) ∨ (q ∈ am_list G k (a :: a2 :: t) ∧ q.1 ≠ k + 1 ∧ q.1 ≠ k + 1 + 1 ∧ ¬ (q.1 + 1 = k + 1 ∧ q.2.category = 2)) := by
        intro q hq
        rcases ih (k + 1) 0 v q hq with e | ⟨e1, e2, e3, e4⟩
        · exact Or.inl e
        · have := am_list_ge _ (k + 1) q e1
          exact Or.inr ⟨hcons q e1, by omega, by omega, by omega⟩
      cases hk : am_kl a with
      | none => rw [hk] at h'; exact hrec q h'
      | some w =>
        rw [hk] at h'
        obtain ⟨e0, e1⟩ := am_kl_some hk
        rcases List.mem_cons.mp h' with e | e
        · refine Or.inr ⟨?_, ?_, ?_, ?_⟩
          · rw [e, e0]; exact List.mem_cons_self
          · rw [e]; show k ≠ k + 1; omega
          · rw [e]; show k ≠ k + 1 + 1; omega
          · rw [e]
            intro z
            have : (am_ra G w).category = 2 := z.2
            rw [am_ra_cat hO] at this
            omega
        · exact hrec q e
    | n + 2 =>
      have h' : q ∈ am_list G k (a :: am_set2 (a2 :: t) (n + 1) v) := h
      have hrec : ∀ q, q ∈ am_list G (k + 1) (am_set2 (a2 :: t) (n + 1) v) → q = (k + (n + 2), am_ra G v) ∨ (q ∈ am_list G k (a :: a2 :: t) ∧ q.1 ≠ k + (n + 2) ∧ q.1 ≠ k + (n + 2) + 1 ∧ ¬ (q.1 + 1 = k + (n + 2) ∧ q.2.category = 2)) := by
        intro q hq
        rcases ih (k + 1) (n + 1) v q hq with e | ⟨e1, e2, e3, e4⟩
        · exact Or.inl (by rw [e, show k + 1 + (n + 1) = k + (n + 2) by omega])
        · exact Or.inr ⟨hcons q e1, by omega, by omega, by omega⟩
      cases a with
      | none => exact hrec q h'
      | some w =>
        rcases List.mem_cons.mp h' with e | e
        · refine Or.inr ⟨by rw [e]; exact List.mem_cons_self, ?_, ?_, ?_⟩
          · rw [e]; show k ≠ k + (n + 2); omega
          · rw [e]; show k ≠ k + (n + 2) + 1; omega
          · rw [e]
            intro z
            have z1 : k + 1 = k + (n + 2) := z.1
            omega
        · exact hrec q e
theorem am_set1_len : ∀ (lv : am_L) (i : Nat) (v : Value), (am_set1 lv i v).length = lv.length := by
  intro lv
  induction lv with
  | nil => intro i v; rfl
  | cons a t ih =>
    intro i v
    match i with
    | 0 => rfl
    | 1 => show (am_set1 t 0 v).length + 1 = _; rw [ih]; rfl
    | n + 2 => show (am_set1 t (n + 1) v).length + 1 = _; rw [ih]; rfl
theorem am_set2_len : ∀ (lv : am_L) (i : Nat) (v : Value), i + 1 < lv.length → (am_set2 lv i v).length = lv.length := by
  intro lv
  induction lv with
  | nil => intro i v h; simp at h
  | cons a t ih =>
    intro i v h
    cases t with
    | nil => simp at h
    | cons a2 t =>
    match i with
    | 0 => rfl
    | 1 => show (am_set2 (a2 :: t) 0 v).length + 1 = _; rw [ih _ _ (by simp at h ⊢; omega)]; rfl
    | n + 2 => show (am_set2 (a2 :: t) (n + 1) v).length + 1 = _; rw [ih _ _ (by simp at h ⊢; omega)]; rfl
def am_lvh (G : am_G) (ls : Array Slot) (nL : Nat) (lv : am_L) : Prop := lv.length = nL ∧ lv_has ls nL (am_list G 0 lv)
theorem am_lvh.at {G : am_G} {ls : Array Slot} {nL : Nat} {lv : am_L} (h : am_lvh G ls nL lv) {i : Nat} {v : Value} (hi : lv[i]? = some (some v)) : ls[i]? = some (.val (am_ra G v)) := by
  have h1 := h.2.2.2 _ (am_list_get (G := G) lv 0 i v hi)
  rw [Nat.zero_add] at h1
  exact h1
theorem am_lvh.set1 {G : am_G} (hO : am_okO G) {ls' : Array Slot} {nL i : Nat} {lv : am_L} {v : Value} (hl : lv.length = nL) (h : lv_has ls' nL ((i, am_ra G v) :: (am_list G 0 lv).filter (fun q => !(q.1 == i) && !(q.1 + 1 == i && q.2.category == 2)))) : am_lvh G ls' nL (am_set1 lv i v) := by
  refine ⟨(am_set1_len _ _ _).trans hl, h.1, h.2.1, fun q hq => h.2.2 q ?_⟩
  rcases am_set1_mem hO lv 0 i v q hq with e | ⟨e1, e2, e3⟩
  · rw [e, Nat.zero_add]; exact List.mem_cons_self
  · refine List.mem_cons_of_mem _ (List.mem_filter.mpr ⟨e1, ?_⟩)
    rw [Nat.zero_add] at e2 e3
    simp only [Bool.and_eq_true, Bool.not_eq_true', beq_eq_false_iff_ne, Bool.and_eq_false_iff, ne_eq]
    refine ⟨e2, ?_⟩
    by_cases c1 : q.1 + 1 = i
    · exact Or.inr (fun c2 => e3 ⟨c1, c2⟩)
    · exact Or.inl c1
theorem am_lvh.set2 {G : am_G} (hO : am_okO G) {ls' : Array Slot} {nL i : Nat} {lv : am_L} {v : Value} (hl : lv.length = nL) (hi : i + 1 < nL) (h : lv_has ls' nL ((i, am_ra G v) :: (am_list G 0 lv).filter (fun q => !(q.1 == i) && (!(q.1 == i + 1) && !(q.1 + 1 == i && q.2.category == 2))))) : am_lvh G ls' nL (am_set2 lv i v) := by
  refine ⟨(am_set2_len _ _ _ (by omega)).trans hl, h.1, h.2.1, fun q hq => h.2.2 q ?_⟩
  rcases am_set2_mem hO lv 0 i v q hq with e | ⟨e1, e2, e3, e4⟩
  · rw [e, Nat.zero_add]; exact List.mem_cons_self
  · refine List.mem_cons_of_mem _ (List.mem_filter.mpr ⟨e1, ?_⟩)
    rw [Nat.zero_add] at e2 e3 e4
    simp only [Bool.and_eq_true, Bool.not_eq_true', beq_eq_false_iff_ne, Bool.and_eq_false_iff, ne_eq]
    refine ⟨e2, e3, ?_⟩
    by_cases c1 : q.1 + 1 = i
    · exact Or.inr (fun c2 => e4 ⟨c1, c2⟩)
    · exact Or.inl c1
theorem am_lva_sl {G : am_G} (hO : am_okO G) : ∀ as : List Value, (lg_sl (as.map (am_ra G))).length = (am_lva as).length := by
  intro as
  induction as with
  | nil => rfl
  | cons v t ih =>
    have e : lg_sl ((v :: t).map (am_ra G)) = (if (am_ra G v).category = 2 then [.val (am_ra G v), .second] else [.val (am_ra G v)]) ++ lg_sl (t.map (am_ra G)) := by simp [lg_sl]
    rw [e, am_ra_cat hO, List.length_append, ih]
    cases v <;> simp [Value.category, am_lva] <;> omega
theorem am_lva_args {G : am_G} (hO : am_okO G) : ∀ (as : List Value) (n k : Nat) (q : Nat × Value), q ∈ am_list G k (am_lva as ++ List.replicate n none) → q ∈ lv_args k (as.map (am_ra G)) := by
  intro as
  induction as with
  | nil =>
    intro n
    induction n with
    | zero => intro k q h; simp [am_lva, am_list] at h
    | succ n ih =>
      intro k q h
      have h' : q ∈ am_list G (k + 1) (List.replicate n none) := h
      have := ih (k + 1) q h'
      simp [lv_args] at this
  | cons v t ih =>
    intro n k q h
    have hc := am_ra_cat hO v
    cases v with
    | long x =>
      rcases List.mem_cons.mp (show q ∈ (k, Value.long x) :: am_list G (k + 2) (am_lva t ++ List.replicate n none) from h) with e | e
      · rw [e]; simp [lv_args, am_ra]
      · have := ih n (k + 2) q e
        simp [lv_args, am_ra, Value.category, this]
    | double x =>
      rcases List.mem_cons.mp (show q ∈ (k, Value.double x) :: am_list G (k + 2) (am_lva t ++ List.replicate n none) from h) with e | e
      · rw [e]; simp [lv_args, am_ra]
      · have := ih n (k + 2) q e
        simp [lv_args, am_ra, Value.category, this]
    | _ =>
      rcases List.mem_cons.mp (show q ∈ (k, am_ra G _) :: am_list G (k + 1) (am_lva t ++ List.replicate n none) from h) with e | e
      · rw [e]; simp [lv_args]
      · have := ih n (k + 1) q e
        refine List.mem_cons_of_mem _ ?_
        show q ∈ lv_args (if (am_ra G _).category = 2 then k + 2 else k + 1) _
        rw [hc]
        exact this
