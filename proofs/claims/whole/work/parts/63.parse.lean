/-! the parser by tokens: whether it's good, the next token (or the faulty one), what is meant -/
abbrev semT : Type := (Nat → Int32) → Bool
def nS : semT := fun _ => false
section
variable (tk : Nat → Nat)
def pLe (i : Nat) : Bool × Nat × semT :=
  if tk i < 12 then (if 33 ≤ tk (i + 1) ∧ tk (i + 1) < 36 then (if 1000 ≤ tk (i + 2) then (true, i + 3, fun e => cmpF (e (tk i)) (tk (i + 1) - 33) (tk (i + 2) - 1000)) else (false, i + 2, nS)) else (false, i + 1, nS)) else (false, i, nS)
def pLp (sub : Nat → Bool × Nat × semT) (sep : Nat) (o : Bool → Bool → Bool) : Nat → Nat → semT → Bool × Nat × semT
  | 0, i, b => (true, i, b)
  | f + 1, i, b => if tk i = sep then (if (sub (i + 1)).1 = true then pLp sub sep o f (sub (i + 1)).2.1 (fun e => o (b e) ((sub (i + 1)).2.2 e)) else (false, (sub (i + 1)).2.1, nS)) else (true, i, b)
def pCh (sub : Nat → Bool × Nat × semT) (sep : Nat) (o : Bool → Bool → Bool) (i : Nat) : Bool × Nat × semT :=
  if (sub i).1 = true then pLp tk sub sep o 701 (sub i).2.1 (sub i).2.2 else (false, (sub i).2.1, nS)
def pAl (sub : Nat → Bool × Nat × semT) (i : Nat) : Bool × Nat × semT := pCh tk sub 24 and i
def pAn (sub : Nat → Bool × Nat × semT) (i : Nat) : Bool × Nat × semT := pCh tk (pAl tk sub) 25 or i
def pOn : Nat → Nat → Bool × Nat × semT
  | 0, i => if tk i = 26 ∨ tk i = 31 then (false, i, nS) else pLe tk i
  | f + 1, i => if tk i = 26 then (if (pOn f (i + 1)).1 = true then (true, (pOn f (i + 1)).2.1, fun e => !((pOn f (i + 1)).2.2 e)) else (false, (pOn f (i + 1)).2.1, nS))
    else if tk i = 31 then (if (pAn tk (pOn f) (i + 1)).1 = true then (if tk (pAn tk (pOn f) (i + 1)).2.1 = 32 then (true, (pAn tk (pOn f) (i + 1)).2.1 + 1, (pAn tk (pOn f) (i + 1)).2.2) else (false, (pAn tk (pOn f) (i + 1)).2.1, nS)) else (false, (pAn tk (pOn f) (i + 1)).2.1, nS))
    else pLe tk i
def okR (i : Nat) (r : Bool × Nat × semT) : Prop := i ≤ r.2.1 ∧ (r.1 = true → i < r.2.1) ∧ ∀ x, i ≤ x → x < r.2.1 → tk x ≠ 40
end
section
variable {tk : Nat → Nat} {sub : Nat → Bool × Nat × semT} {sep f i j : Nat} {o : Bool → Bool → Bool} {b b2 : semT}
theorem okR_le (i : Nat) : okR tk i (pLe tk i) := by
  have X : ∀ k, (∀ x, i ≤ x → x < i + k → tk x ≠ 40) → ∀ v s, (v = true → 0 < k) → okR tk i (v, i + k, s) := fun k h v s hv => ⟨by show i ≤ i + k; omega, fun e => by have := hv e; show i < i + k; omega, h⟩
  unfold pLe
  split
  · next h0 =>
    split
    · next h1 =>
      split
      · next h2 =>
        refine X 3 (fun x h3 h4 => ?_) _ _ (fun _ => by omega)
        have T : tkT = tkT := rfl
        rcases (show x = i ∨ x = i + 1 ∨ x = i + 2 by omega) with rfl | rfl | rfl <;> omega
      · refine X 2 (fun x h3 h4 => ?_) _ _ (fun _ => by omega)
        rcases (show x = i ∨ x = i + 1 by omega) with rfl | rfl <;> omega
    · refine X 1 (fun x h3 h4 => ?_) _ _ (fun _ => by omega)
      obtain rfl : x = i := by omega
      omega
  · exact X 0 (fun x h3 h4 => absurd h4 (by omega)) _ _ (fun e => by cases e)
theorem okR_lp (hs : ∀ i, okR tk i (sub i)) (hp : sep ≠ 40) : ∀ f i b, i ≤ (pLp tk sub sep o f i b).2.1 ∧ ∀ x, i ≤ x → x < (pLp tk sub sep o f i b).2.1 → tk x ≠ 40
  | 0, i, b => ⟨Nat.le_refl _, fun x h1 h2 => absurd h2 (by show ¬x < i; omega)⟩
  | f + 1, i, b => by
    unfold pLp
    split
    · next h0 =>
      have s := hs (i + 1)
      split
      · next h1 =>
        obtain ⟨r1, r2⟩ := okR_lp hs hp f (sub (i + 1)).2.1 (fun e => o (b e) ((sub (i + 1)).2.2 e))
        have s2 := s.1
        refine ⟨by omega, fun x h3 h4 => ?_⟩
        by_cases z : x = i
        · rw [z, h0]; exact hp
        · by_cases y : x < (sub (i + 1)).2.1
          · exact s.2.2 x (by omega) y
          · exact r2 x (by omega) h4
      · have s2 := s.1
        refine ⟨by show i ≤ (sub (i + 1)).2.1; omega, fun x h3 h4 => ?_⟩
        by_cases z : x = i
        · rw [z, h0]; exact hp
        · exact s.2.2 x (by omega) h4
    · exact ⟨Nat.le_refl _, fun x h1 h2 => absurd h2 (by show ¬x < i; omega)⟩
theorem okR_ch (hs : ∀ i, okR tk i (sub i)) (hp : sep ≠ 40) (i : Nat) : okR tk i (pCh tk sub sep o i) := by
  unfold pCh
  have s := hs i
  have s2 := s.1
  split
  · next h1 =>
    obtain ⟨r1, r2⟩ := okR_lp (o := o) hs hp 701 (sub i).2.1 (sub i).2.2
    have s3 := s.2.1 h1
    refine ⟨by omega, fun _ => by omega, fun x h3 h4 => ?_⟩
    by_cases y : x < (sub i).2.1
    · exact s.2.2 x h3 y
    · exact r2 x (by omega) h4
  · exact ⟨s2, fun e => (by cases e), s.2.2⟩
theorem okR_al (hs : ∀ i, okR tk i (sub i)) (i : Nat) : okR tk i (pAl tk sub i) := okR_ch hs (by decide) i
theorem okR_an (hs : ∀ i, okR tk i (sub i)) (i : Nat) : okR tk i (pAn tk sub i) := okR_ch (okR_al hs) (by decide) i
theorem okR_on : ∀ f i, okR tk i (pOn tk f i)
  | 0, i => by
    unfold pOn
    split
    · exact ⟨Nat.le_refl _, fun e => (by cases e), fun x h1 h2 => absurd h2 (by show ¬x < i; omega)⟩
    · exact okR_le i
  | f + 1, i => by
    unfold pOn
    split
    · next h0 =>
      have s := okR_on f (i + 1)
      have s2 := s.1
      have K : ∀ x, i ≤ x → x < (pOn tk f (i + 1)).2.1 → tk x ≠ 40 := fun x h3 h4 => by
        by_cases z : x = i
        · rw [z, h0]; decide
        · exact s.2.2 x (by omega) h4
      split
      · exact ⟨by show i ≤ (pOn tk f (i + 1)).2.1; omega, fun _ => by show i < (pOn tk f (i + 1)).2.1; omega, K⟩
      · exact ⟨by show i ≤ (pOn tk f (i + 1)).2.1; omega, fun e => (by cases e), K⟩
    · split
      · next h0 =>
        have s := okR_an (okR_on f) (i + 1)
        have s2 := s.1
        have K : ∀ x, i ≤ x → x < (pAn tk (pOn tk f) (i + 1)).2.1 → tk x ≠ 40 := fun x h3 h4 => by
          by_cases z : x = i
          · rw [z, h0]; decide
          · exact s.2.2 x (by omega) h4
        split
        · split
          · next h2 =>
            refine ⟨by show i ≤ (pAn tk (pOn tk f) (i + 1)).2.1 + 1; omega, fun _ => by show i < (pAn tk (pOn tk f) (i + 1)).2.1 + 1; omega, fun x h3 h4 => ?_⟩
            by_cases z : x = (pAn tk (pOn tk f) (i + 1)).2.1
            · rw [z, h2]; decide
            · exact K x h3 (by have h4 : x < (pAn tk (pOn tk f) (i + 1)).2.1 + 1 := h4; omega)
          · exact ⟨by show i ≤ (pAn tk (pOn tk f) (i + 1)).2.1; omega, fun e => (by cases e), K⟩
        · exact ⟨by show i ≤ (pAn tk (pOn tk f) (i + 1)).2.1; omega, fun e => (by cases e), K⟩
      · exact okR_le i
end
/-! what a code means -/
theorem px_app {cd e : Nat → Int32} : ∀ m f k T, pxT cd e f (m + k) T = match pxT cd e f m T with | none => none | some T' => pxT cd e (f + m) k T'
  | 0, f, k, T => by rw [Nat.zero_add]; rfl
  | m + 1, f, k, T => by
    rw [show m + 1 + k = (m + k) + 1 by omega]
    show (match pxS e (cd f) T with | none => none | some t' => pxT cd e (f + 1) (m + k) t') = match (match pxS e (cd f) T with | none => none | some t' => pxT cd e (f + 1) m t') with | none => none | some T' => pxT cd e (f + (m + 1)) k T'
    cases pxS e (cd f) T with
    | none => rfl
    | some t' =>
      show pxT cd e (f + 1) (m + k) t' = _
      rw [px_app m (f + 1) k t', show f + 1 + m = f + (m + 1) by omega]
theorem px_ext {cd cd' e : Nat → Int32} : ∀ m f T, (∀ j, f ≤ j → j < f + m → cd j = cd' j) → pxT cd e f m T = pxT cd' e f m T
  | 0, _, _, _ => rfl
  | m + 1, f, T, h => by
    show (match pxS e (cd f) T with | none => none | some t' => pxT cd e (f + 1) m t') = (match pxS e (cd' f) T with | none => none | some t' => pxT cd' e (f + 1) m t')
    rw [h f (Nat.le_refl _) (by omega)]
    cases pxS e (cd' f) T with
    | none => rfl
    | some t' => exact px_ext m (f + 1) t' (fun j h1 h2 => h j (by omega) (by omega))
def cdOK (cd : Nat → Int32) (f t w : Nat) (b : semT) : Prop := f < t ∧ ∀ e T, T < 2 ^ w → pxT cd e f (t - f) T = some (2 * T + (if b e = true then 1 else 0))
section
variable {cd cd' : Nat → Int32} {f t u w w' : Nat} {b b2 : semT}
theorem cd_ext (h : cdOK cd f t w b) (e : ∀ j, f ≤ j → j < t → cd' j = cd j) : cdOK cd' f t w b := by
  refine ⟨h.1, fun ev T hT => ?_⟩
  have := h.1
  rw [px_ext (cd' := cd) (t - f) f T (fun j h1 h2 => e j h1 (by omega))]
  exact h.2 ev T hT
theorem cd_w (h : cdOK cd f t w b) (e : w' ≤ w) : cdOK cd f t w' b := ⟨h.1, fun ev T hT => h.2 ev T (Nat.lt_of_lt_of_le hT (Nat.pow_le_pow_right (by omega) e))⟩
theorem px_one {cd e : Nat → Int32} {f T : Nat} : pxT cd e f 1 T = pxS e (cd f) T := by
  show (match pxS e (cd f) T with | none => none | some t' => some t') = _
  cases pxS e (cd f) T <;> rfl
theorem pow_40 (hw : w ≤ 40) {T : Nat} (h : T < 2 ^ w) : ¬2 ^ 40 ≤ T := by
  have : 2 ^ w ≤ 2 ^ 40 := Nat.pow_le_pow_right (by omega) hw
  omega
theorem cd_leaf {k s q : Nat} (hk : k < 12) (hs : s < 3) (hq : q < 100000) (hw : w ≤ 40) (h : cd f = nI ((k * 3 + s) * 100000 + q)) : cdOK cd f (f + 1) w (fun e => cmpF (e k) s q) := by
  refine ⟨by omega, fun e T hT => ?_⟩
  have hc : (nI ((k * 3 + s) * 100000 + q)).toInt = (((k * 3 + s) * 100000 + q : Nat) : Int) := nI_toInt (by omega)
  rw [show f + 1 - f = 1 by omega, px_one, h]
  unfold pxS
  rw [if_neg (pow_40 hw hT), hc, nI_clamp (by omega), if_neg (by omega), if_neg (by omega), if_neg (by omega), if_neg (by omega)]
  rw [show ((k * 3 + s) * 100000 + q) / 100000 / 3 = k by omega, show ((k * 3 + s) * 100000 + q) / 100000 % 3 = s by omega, show ((k * 3 + s) * 100000 + q) % 100000 = q by omega]
theorem cd_two (h1 : cdOK cd f t w b) (h2 : cdOK cd t u (w + 1) b2) (hw : w ≤ 38) {T : Nat} (hT : T < 2 ^ w) (e : Nat → Int32) : pxT cd e f (u - f) T = some (2 * (2 * T + (if b e = true then 1 else 0)) + (if b2 e = true then 1 else 0)) ∧ ¬2 ^ 40 ≤ 2 * (2 * T + (if b e = true then 1 else 0)) + (if b2 e = true then 1 else 0) := by
  have a1 := h1.1
  have a2 := h2.1
  have L : 2 * T + (if b e = true then 1 else 0) < 2 ^ (w + 1) := by
    rw [Nat.pow_succ]; split <;> omega
  refine ⟨?_, ?_⟩
  · rw [show u - f = (t - f) + (u - t) by omega, px_app, h1.2 e T hT]
    show pxT cd e (f + (t - f)) (u - t) _ = _
    rw [show f + (t - f) = t by omega]
    exact h2.2 e _ L
  · have P : 2 ^ (w + 1) * 2 ≤ 2 ^ 40 := by rw [← Nat.pow_succ]; exact Nat.pow_le_pow_right (by omega) (by omega)
    have Y : (if b2 e = true then 1 else 0 : Nat) ≤ 1 := by split <;> omega
    generalize (if b2 e = true then 1 else 0 : Nat) = y at *
    generalize (if b e = true then 1 else 0 : Nat) = x at *
    generalize 2 ^ (w + 1) = z at *
    omega
theorem cd_and (h1 : cdOK cd f t w b) (h2 : cdOK cd t u (w + 1) b2) (hw : w ≤ 38) (h : cd u = nM 0) : cdOK cd f (u + 1) w (fun e => and (b e) (b2 e)) := by
  have a1 := h1.1
  have a2 := h2.1
  refine ⟨by omega, fun e T hT => ?_⟩
  obtain ⟨p1, p2⟩ := cd_two h1 h2 hw hT e
  rw [show u + 1 - f = (u - f) + 1 by omega, px_app, p1]
  show pxT cd e (f + (u - f)) 1 _ = _
  rw [show f + (u - f) = u by omega, px_one, h]
  unfold pxS
  rw [if_neg p2, if_pos (show (nM 0).toInt = -1 by decide)]
  congr 1
  show _ = 2 * T + (if (b e && b2 e) = true then 1 else 0)
  generalize b e = x
  generalize b2 e = y
  cases x <;> cases y <;> simp only [Bool.and_true, Bool.and_false, Bool.true_and, Bool.false_and, Bool.false_eq_true, reduceIte] <;> split <;> omega
theorem cd_or (h1 : cdOK cd f t w b) (h2 : cdOK cd t u (w + 1) b2) (hw : w ≤ 38) (h : cd u = nM 1) : cdOK cd f (u + 1) w (fun e => or (b e) (b2 e)) := by
  have a1 := h1.1
  have a2 := h2.1
  refine ⟨by omega, fun e T hT => ?_⟩
  obtain ⟨p1, p2⟩ := cd_two h1 h2 hw hT e
  rw [show u + 1 - f = (u - f) + 1 by omega, px_app, p1]
  show pxT cd e (f + (u - f)) 1 _ = _
  rw [show f + (u - f) = u by omega, px_one, h]
  unfold pxS
  rw [if_neg p2, if_neg (show ¬(nM 1).toInt = -1 by decide), if_pos (show (nM 1).toInt = -2 by decide)]
  congr 1
  show _ = 2 * T + (if (b e || b2 e) = true then 1 else 0)
  generalize b e = x
  generalize b2 e = y
  cases x <;> cases y <;> simp only [Bool.or_true, Bool.or_false, Bool.true_or, Bool.false_or, Bool.false_eq_true, reduceIte] <;> split <;> omega
theorem cd_not (h1 : cdOK cd f t w b) (hw : w ≤ 38) (h : cd t = nM 2) : cdOK cd f (t + 1) w (fun e => !(b e)) := by
  have a1 := h1.1
  refine ⟨by omega, fun e T hT => ?_⟩
  have L : ¬2 ^ 40 ≤ 2 * T + (if b e = true then 1 else 0) := by
    have P : 2 ^ w * 2 ≤ 2 ^ 40 := by rw [← Nat.pow_succ]; exact Nat.pow_le_pow_right (by omega) (by omega)
    have X : (if b e = true then 1 else 0 : Nat) ≤ 1 := by split <;> omega
    generalize (if b e = true then 1 else 0 : Nat) = x at *
    generalize 2 ^ w = z at *
    omega
  rw [show t + 1 - f = (t - f) + 1 by omega, px_app, h1.2 e T hT]
  show pxT cd e (f + (t - f)) 1 _ = _
  rw [show f + (t - f) = t by omega, px_one, h]
  unfold pxS
  rw [if_neg L, if_neg (show ¬(nM 2).toInt = -1 by decide), if_neg (show ¬(nM 2).toInt = -2 by decide), if_pos (show (nM 2).toInt = -3 by decide)]
  congr 1
  show _ = 2 * T + (if (!(b e)) = true then 1 else 0)
  generalize b e = x
  cases x <;> simp only [Bool.not_true, Bool.not_false, Bool.false_eq_true, reduceIte] <;> split <;> omega
end
