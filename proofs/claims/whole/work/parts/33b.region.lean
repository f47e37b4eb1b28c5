/-! what a call may change: a region of slots -/
def rR (l : List Nat) (s : List (Nat × Nat)) (i k : Nat) : Bool := l.any (fun x => Nat.beq x i) || s.any (fun q => Nat.beq q.1 i && Nat.beq q.2 k)
def ch (R : Nat → Nat → Bool) (M M' : am_M) : Prop :=
  mN M' = mN M ∧ mS M' = mS M ∧ mK M' = mK M ∧ mA M' = mA M ∧ (∀ i k, R i k = false → mI M' i k = mI M i k) ∧ (∀ i k, R i k = false → mL M' i k = mL M i k)
section CH
variable {R R' : Nat → Nat → Bool} {M M' M'' : am_M}
theorem ch.N (h : ch R M M') : mN M' = mN M := h.1
theorem ch.S (h : ch R M M') : mS M' = mS M := h.2.1
theorem ch.K (h : ch R M M') : mK M' = mK M := h.2.2.1
theorem ch.A (h : ch R M M') : mA M' = mA M := h.2.2.2.1
theorem ch.I (h : ch R M M') (i k : Nat) (hr : R i k = false) : mI M' i k = mI M i k := h.2.2.2.2.1 i k hr
theorem ch.L (h : ch R M M') (i k : Nat) (hr : R i k = false) : mL M' i k = mL M i k := h.2.2.2.2.2 i k hr
theorem ch.row (h : ch R M M') (i : Nat) (hr : ∀ k, R i k = false) : mI M' i = mI M i := funext fun k => h.I i k (hr k)
theorem ch.rowL (h : ch R M M') (i : Nat) (hr : ∀ k, R i k = false) : mL M' i = mL M i := funext fun k => h.L i k (hr k)
theorem ch_refl (R : Nat → Nat → Bool) (M : am_M) : ch R M M := ⟨rfl, rfl, rfl, rfl, fun _ _ _ => rfl, fun _ _ _ => rfl⟩
theorem ch_trans (h1 : ch R M M') (h2 : ch R M' M'') : ch R M M'' := ⟨h2.N.trans h1.N, h2.S.trans h1.S, h2.K.trans h1.K, h2.A.trans h1.A, fun i k hr => (h2.I i k hr).trans (h1.I i k hr), fun i k hr => (h2.L i k hr).trans (h1.L i k hr)⟩
theorem ch_sub (h : ch R M M') (hr : ∀ i k, R' i k = false → R i k = false) : ch R' M M' := ⟨h.N, h.S, h.K, h.A, fun i k q => h.I i k (hr i k q), fun i k q => h.L i k (hr i k q)⟩
theorem ch_wI {i : Nat} {f : Nat → Int32} (h : ch R M M') (hr : ∀ k, R i k = true) : ch R M (wI M' i f) := ⟨h.N, h.S, h.K, h.A, fun j k q => by
  rw [i_ne (fun e => by rw [e, hr k] at q; cases q)]; exact h.I j k q, fun j k q => h.L j k q⟩
theorem ch_wL {i : Nat} {f : Nat → Int64} (h : ch R M M') (hr : ∀ k, R i k = true) : ch R M (wL M' i f) := ⟨h.N, h.S, h.K, h.A, fun j k q => h.I j k q, fun j k q => by
  rw [l_ne (fun e => by rw [e, hr k] at q; cases q)]; exact h.L j k q⟩
theorem ch_wS {i q : Nat} {v : Int32} (h : ch R M M') (hr : R i q = true) : ch R M (wI M' i (am_up (mI M' i) q v)) := ⟨h.N, h.S, h.K, h.A, fun j k r => by
  by_cases e : j = i
  · subst e
    rw [i_eq]
    rw [up_ne (fun e => by rw [e, hr] at r; cases r)]
    exact h.I j k r
  · rw [i_ne e]
    exact h.I j k r, fun j k r => h.L j k r⟩
theorem ch_wSL {i q : Nat} {v : Int64} (h : ch R M M') (hr : R i q = true) : ch R M (wL M' i (am_up (mL M' i) q v)) := ⟨h.N, h.S, h.K, h.A, fun j k r => h.I j k r, fun j k r => by
  by_cases e : j = i
  · subst e
    rw [l_eq]
    rw [up_ne (fun e => by rw [e, hr] at r; cases r)]
    exact h.L j k r
  · rw [l_ne e]
    exact h.L j k r⟩
theorem rR_false {l : List Nat} {s : List (Nat × Nat)} {i k : Nat} : rR l s i k = false ↔ (∀ x ∈ l, x ≠ i) ∧ (∀ q ∈ s, q ≠ (i, k)) := by
  unfold rR
  rw [Bool.or_eq_false_iff, List.any_eq_false, List.any_eq_false]
  constructor
  · rintro ⟨h1, h2⟩
    refine ⟨fun x hx e => h1 x hx (by rw [e]; exact Nat.beq_refl i), fun q hq e => h2 q hq (by rw [e]; simp [Nat.beq_eq])⟩
  · rintro ⟨h1, h2⟩
    refine ⟨fun x hx e => h1 x hx (Nat.eq_of_beq_eq_true e), fun q hq e => h2 q hq ?_⟩
    rw [Bool.and_eq_true] at e
    exact Prod.ext (Nat.eq_of_beq_eq_true e.1) (Nat.eq_of_beq_eq_true e.2)
/-- region l, s lies in l', s' -/
def rIn (l : List Nat) (s : List (Nat × Nat)) (l' : List Nat) (s' : List (Nat × Nat)) : Bool := l.all (fun x => l'.any (fun y => Nat.beq y x)) && s.all (fun q => rR l' s' q.1 q.2)
theorem rIn_ok {l l' : List Nat} {s s' : List (Nat × Nat)} (h : rIn l s l' s' = true) (i k : Nat) (hr : rR l' s' i k = false) : rR l s i k = false := by
  unfold rIn at h
  rw [Bool.and_eq_true, List.all_eq_true, List.all_eq_true] at h
  rw [rR_false]
  refine ⟨fun x hx e => ?_, fun q hq e => ?_⟩
  · have := h.1 x hx
    rw [List.any_eq_true] at this
    obtain ⟨y, hy, e2⟩ := this
    exact (rR_false.mp hr).1 y hy ((Nat.eq_of_beq_eq_true e2).trans e)
  · have := h.2 q hq
    rw [e] at this
    rw [this] at hr
    cases hr
theorem ch_in {l l' : List Nat} {s s' : List (Nat × Nat)} (h : ch (rR l s) M M') (hr : rIn l s l' s' = true) : ch (rR l' s') M M' := ch_sub h (rIn_ok hr)
/-- nothing in the region lasts -/
def rSc (l : List Nat) (s : List (Nat × Nat)) : Bool := l.all (fun x => scrT.any (fun y => Nat.beq y x)) && s.all (fun q => scsT.any (fun y => Nat.beq y.1 q.1 && Nat.beq y.2 q.2)) && l.all (fun x => Nat.ble 9 x) && s.all (fun q => Nat.ble 9 q.1)
theorem rSc_ok {l : List Nat} {s : List (Nat × Nat)} (h : rSc l s = true) (i k : Nat) (hp : per i k = true) : rR l s i k = false := by
  unfold rSc at h
  rw [Bool.and_eq_true, Bool.and_eq_true, Bool.and_eq_true, List.all_eq_true, List.all_eq_true] at h
  unfold per at hp
  rw [Bool.and_eq_true, Bool.and_eq_true, Bool.not_eq_true', Bool.not_eq_true', List.any_eq_false, List.any_eq_false] at hp
  rw [rR_false]
  refine ⟨fun x hx e => ?_, fun q hq e => ?_⟩
  · have := h.1.1.1 x hx
    rw [List.any_eq_true] at this
    obtain ⟨y, hy, e2⟩ := this
    exact hp.1.1 y hy (by rw [← e]; exact e2)
  · have := h.1.1.2 q hq
    rw [List.any_eq_true] at this
    obtain ⟨y, hy, e2⟩ := this
    exact hp.1.2 y hy (by rw [e] at e2; exact e2)
theorem rSc_lo {l : List Nat} {s : List (Nat × Nat)} (h : rSc l s = true) (i k : Nat) (hi : i < 9) : rR l s i k = false := by
  unfold rSc at h
  rw [Bool.and_eq_true, Bool.and_eq_true, Bool.and_eq_true, List.all_eq_true, List.all_eq_true, List.all_eq_true, List.all_eq_true] at h
  rw [rR_false]
  refine ⟨fun x hx e => ?_, fun q hq e => ?_⟩
  · have := Nat.le_of_ble_eq_true (h.1.2 x hx)
    omega
  · have := Nat.le_of_ble_eq_true (h.2 q hq)
    rw [e] at this
    have : 9 ≤ i := this
    omega
theorem ch_sc {l : List Nat} {s : List (Nat × Nat)} (h : ch (rR l s) M M') (hr : rSc l s = true) : sc M M' := ⟨h.N, h.S, h.K, h.A, fun j hj => h.rowL j (fun k => rSc_lo hr j k hj), fun i k hp => h.I i k (rSc_ok hr i k hp)⟩
theorem sc.ch {l : List Nat} {s : List (Nat × Nat)} {V : am_M} (h0 : sc V M) (h : ch (rR l s) M M') (hr : rSc l s = true) : sc V M' := sc_trans h0 (ch_sc h hr)
end CH
