/-! the abstract memory and the heap -/
abbrev am_G : Type := Nat × (Nat → Nat) × Value × (Nat → ClassId) × (Nat → Nat → Nat)
def gH (G : am_G) : Nat := G.1
def gS (G : am_G) : Nat → Nat := G.2.1
def gO (G : am_G) : Value := G.2.2.1
def gC (G : am_G) : Nat → ClassId := G.2.2.2.1
def gI (G : am_G) : Nat → Nat → Nat := G.2.2.2.2
def am_ad (G : am_G) (i : Nat) : Nat := if i < 9 then gS G i else gH G + (i - 9)
def am_ra (G : am_G) (v : Value) : Value := match v with
  | .ref i => .ref (am_ad G i)
  | .retAddr _ => gO G
  | x => x
def am_ty (k : Nat) : FieldType := match k with
  | 20 => .int
  | 21 => .long
  | 22 => .boolean
  | 23 => .byte
  | _ => .object "IceSearch$Rules"
/-- an element of a row -/
def am_ev (M : am_M) (i k j : Nat) : Value := match k with
  | 21 => .long (mL M i j)
  | 24 => am_rv (mA M i j)
  | _ => .int (mI M i j)
def am_fty (c k : Nat) : Nat := (am_f c k).2.2.2
def am_obj (G : am_G) (b : Bool) (M : am_M) (H : Heap) (i c : Nat) : Prop := ∃ cell : Cell, H[am_ad G i]? = some cell ∧ cell.cls = gC G c ∧ cell.vm.isStatics = false ∧ cell.vm ≠ .unknown ∧ (c < 13 → cell.vm = .none) ∧ ∀ k, k < am_nf c → cell.slots[gI G c k]? = some (am_ra G (am_fv b M i k (am_fty c k)))
def am_arr (G : am_G) (s : State) (M : am_M) (H : Heap) (i c n : Nat) : Prop := ∃ cell : Cell, H[am_ad G i]? = some cell ∧ s.isArrayOf cell (am_ty c) ∧ cell.vm ≠ .unknown ∧ n ≤ cell.slots.size ∧ cell.slots.size.toInt32 = Int32.ofNat n ∧ n < 2 ^ 31 ∧ (9 ≤ i → cell.slots.size = n ∧ cell.vm = .none ∧ s.vm.findClass ("[" ++ (am_ty c).toString) = some cell.cls) ∧ (c = 24 → ∃ kA : Class, s.vm.classes[cell.cls]? = some kA ∧ kA.kind = .array (gC G 11) (.object "IceSearch$Rules")) ∧ ∀ j, j < n → cell.slots[j]? = some (am_ra G (am_ev M i c j))
def am_cell (G : am_G) (b : Bool) (s : State) (M : am_M) (H : Heap) (i : Nat) : Prop :=
  ((am_kd b M i).1 < 14 → am_obj G b M H i (am_kd b M i).1) ∧ (20 ≤ (am_kd b M i).1 → (am_kd b M i).1 ≤ 24 → am_arr G s M H i (am_kd b M i).1 (am_kd b M i).2)
def am_stat (G : am_G) (s : State) (H : Heap) : Prop := ∀ k v, am_SV k = some v → va_Z (am_SN k).1 (am_SN k).2.1 (am_SN k).2.2 (am_ra G v) (fun q => gH G ≤ q) s H
def am_rel (G : am_G) (b : Bool) (s : State) (M : am_M) (H : Heap) : Prop :=
  9 ≤ mN M ∧ H.size = gH G + (mN M - 9) ∧ (b = true → 118 ≤ mN M ∧ ∀ i k, i < 118 → am_FA i k ≠ 0 → mA M i k = am_FA i k) ∧ (∀ i, mN M ≤ i → 118 ≤ i → mK M i = (99, 0)) ∧ (∀ i, i < 9 → gS G i < gH G) ∧ am_stat G s H ∧ ∀ i, i < mN M → am_cell G b s M H i
theorem am_up_self {α : Type} (f : Nat → α) (k : Nat) (v : α) : am_up f k v k = v := by simp [am_up]
theorem am_up_ne {α : Type} (f : Nat → α) {k j : Nat} (v : α) (h : j ≠ k) : am_up f k v j = f j := by simp [am_up, h]
theorem am_kd_lt {G : am_G} {b : Bool} {s : State} {M : am_M} {H : Heap} (h : am_rel G b s M H) {i : Nat} (hi : (am_kd b M i).1 ≠ 99) : i < mN M := by
  obtain ⟨h1, -, h3, h4, -⟩ := h
  by_cases h0 : i = 0
  · subst h0; omega
  · by_cases h1 : i < 118
    · cases b with
      | true => have := (h3 rfl).1; omega
      | false =>
        by_cases hn : i < mN M
        · exact hn
        · exfalso
          apply hi
          simp [am_kd, h0, h1, hn]
    · by_cases hn : i < mN M
      · exact hn
      · exfalso
        apply hi
        have := h4 i (by omega) (by omega)
        simp [am_kd, h0, h1, this]
theorem am_ad_ne {G : am_G} {b : Bool} {s : State} {M : am_M} {H : Heap} (h : am_rel G b s M H) {i j : Nat} (hi : 9 ≤ i) (hij : j ≠ i) : am_ad G j ≠ am_ad G i := by
  have h5 := h.2.2.2.2.1
  unfold am_ad
  by_cases hj : j < 9
  · have := h5 j hj
    rw [if_pos hj, if_neg (by omega)]
    omega
  · rw [if_neg hj, if_neg (by omega)]
    omega
theorem am_ad_ge (G : am_G) {i : Nat} (hi : 9 ≤ i) : gH G ≤ am_ad G i := by
  unfold am_ad
  rw [if_neg (by omega)]
  omega
theorem am_obj.kept {G : am_G} {b : Bool} {M M' : am_M} {H H' : Heap} {i c : Nat} (h : am_obj G b M H i c) (hH : H'[am_ad G i]? = H[am_ad G i]?) (hI : mI M' i = mI M i) (hL : mL M' i = mL M i) (hA : mA M' i = mA M i) : am_obj G b M' H' i c := by
  obtain ⟨cell, q1, q2, q3, q4, q5, q6⟩ := h
  refine ⟨cell, hH.trans q1, q2, q3, q4, q5, fun k hk => ?_⟩
  rw [q6 k hk]
  unfold am_fv
  rw [hI, hL, hA]
theorem am_arr.kept {G : am_G} {s : State} {M M' : am_M} {H H' : Heap} {i c n : Nat} (h : am_arr G s M H i c n) (hH : H'[am_ad G i]? = H[am_ad G i]?) (hI : mI M' i = mI M i) (hL : mL M' i = mL M i) (hA : mA M' i = mA M i) : am_arr G s M' H' i c n := by
  obtain ⟨cell, q1, q2, q3, q4, q5, q6, q7, q8, q9⟩ := h
  refine ⟨cell, hH.trans q1, q2, q3, q4, q5, q6, q7, q8, fun k hk => ?_⟩
  rw [q9 k hk]
  unfold am_ev
  rw [hI, hL, hA]
theorem am_cell.kept {G : am_G} {b : Bool} {s : State} {M M' : am_M} {H H' : Heap} {i : Nat} (h : am_cell G b s M H i) (hK : am_kd b M' i = am_kd b M i) (hH : H'[am_ad G i]? = H[am_ad G i]?) (hI : mI M' i = mI M i) (hL : mL M' i = mL M i) (hA : mA M' i = mA M i) : am_cell G b s M' H' i := by
  unfold am_cell
  rw [hK]
  exact ⟨fun q => (h.1 q).kept hH hI hL hA, fun q1 q2 => (h.2 q1 q2).kept hH hI hL hA⟩
/-- a row of one thing is written -/
theorem am_rel_wr {G : am_G} {b : Bool} {s : State} {M M' : am_M} {H H' : Heap} (h : am_rel G b s M H) {i : Nat} (hi : 9 ≤ i) (hN : mN M' = mN M) (hK : mK M' = mK M)
    (hI : ∀ j, j ≠ i → mI M' j = mI M j) (hL : ∀ j, j ≠ i → mL M' j = mL M j) (hA : ∀ j, j ≠ i → mA M' j = mA M j) (hF : b = true → ∀ k, i < 118 → am_FA i k ≠ 0 → mA M' i k = am_FA i k)
    (hz : H'.size = H.size) (ho : ∀ q, q ≠ am_ad G i → H'[q]? = H[q]?) (hc : am_cell G b s M' H' i) : am_rel G b s M' H' := by
  have hk : ∀ j, am_kd b M' j = am_kd b M j := fun j => by unfold am_kd; rw [hN, hK]
  have hne := fun j => am_ad_ne (j := j) h hi
  obtain ⟨h1, h2, h3, h4, h5, h6, h7⟩ := h
  refine ⟨by rw [hN]; exact h1, by rw [hz, hN]; exact h2, fun hb => ⟨by rw [hN]; exact (h3 hb).1, fun j k hj hf => ?_⟩, by rw [hN, hK]; exact h4, h5, fun k v hv => (h6 k v hv).kept (fun a ha hna => ho a ?_), fun j hj => ?_⟩
  · by_cases e : j = i
    · subst e; exact hF hb k hj hf
    · rw [hA j e]; exact (h3 hb).2 j k hj hf
  · intro e
    exact hna (by rw [e]; exact am_ad_ge G hi)
  · rw [hN] at hj
    by_cases e : j = i
    · subst e; exact hc
    · exact (h7 j hj).kept (hk j) (ho _ (hne j e)) (hI j e) (hL j e) (hA j e)
/-- a new thing -/
theorem am_rel_new {G : am_G} {b : Bool} {s : State} {M : am_M} {H H' : Heap} (h : am_rel G b s M H) {k n : Nat} {fi : Nat → Int32} (hb : 118 ≤ mN M ∨ (b = false ∧ am_KD (mN M) = (k, n)))
    (hz : H'.size = H.size + 1) (ho : ∀ q, q < H.size → H'[q]? = H[q]?) (hc : am_cell G b s (am_alloc M k n fi) H' (mN M)) : am_rel G b s (am_alloc M k n fi) H' := by
  obtain ⟨h1, h2, h3, h4, h5, h6, h7⟩ := h
  have hlt : ∀ j, j < mN M → am_ad G j < H.size := by
    intro j hj
    unfold am_ad
    by_cases e : j < 9
    · rw [if_pos e]; have := h5 j e; omega
    · rw [if_neg e]; omega
  refine ⟨by simp only [am_alloc, mN] at *; omega, ?_, fun e => ⟨?_, fun j q hj hf => ?_⟩, fun j hj hj2 => ?_, h5, fun q v hv => (h6 q v hv).kept (fun a ha _ => ho a ha), fun j hj => ?_⟩
  · show H'.size = gH G + (mN M + 1 - 9)
    omega
  · show 118 ≤ mN M + 1
    have := (h3 e).1
    omega
  · have hn := (h3 e).1
    show am_up (mA M) (mN M) (fun _ => 0) j q = _
    rw [am_up_ne _ _ (by omega)]
    exact (h3 e).2 j q hj hf
  · show am_up (mK M) (mN M) (k, n) j = _
    have hj' : mN M + 1 ≤ j := hj
    rw [am_up_ne _ _ (by omega)]
    exact h4 j (by omega) hj2
  · by_cases e : j = mN M
    · subst e; exact hc
    · have hj' : j < mN M := by
        have : j < mN M + 1 := hj
        omega
      refine (h7 j hj').kept ?_ (ho _ (hlt j hj')) ?_ ?_ ?_
      · unfold am_kd
        have e1 : mK (am_alloc M k n fi) j = mK M j := am_up_ne _ _ e
        by_cases e0 : j = 0
        · subst e0
          simp only [if_true]
          exact e1
        · have e2 : mN (am_alloc M k n fi) = mN M + 1 := rfl
          rw [if_neg e0, if_neg e0, e1, e2]
          have : decide (j < mN M + 1) = decide (j < mN M) := by simp [hj']; omega
          rw [this]
      · exact am_up_ne _ _ e
      · exact am_up_ne _ _ e
      · exact am_up_ne _ _ e
