/-! fields: their words, types and names -/
def am_layw (c k : Nat) : Cond := if (am_f c k).2.2.1 = true then .laysFinal (am_CN c) (am_CN c) (am_f c k).1 (am_f c k).2.1 else .lays (am_CN c) (am_CN c) (am_f c k).1 (am_f c k).2.1
set_option maxRecDepth 100000 in
theorem am_FP_ok : am_FP.all (fun e => am_wat e.2.2 (am_layw e.1 e.2.1)) = true := by decide +kernel
theorem am_FP_all : ∀ c, c < 13 → ∀ k, k < am_nf c → am_FP.any (fun e => e.1 == c && e.2.1 == k) = true := by decide +kernel
theorem am_lay {c k : Nat} (hc : c < 13) (hk : k < am_nf c) : am_layw c k ∈ lw_tbl := by
  obtain ⟨e, he, h⟩ := List.any_eq_true.mp (am_FP_all c hc k hk)
  simp only [Bool.and_eq_true, beq_iff_eq] at h
  have := am_wat_mem (List.all_eq_true.mp am_FP_ok e he)
  rw [h.1, h.2] at this
  exact this
def am_tyok (c k : Nat) : Bool := match parseFieldDescriptor (am_f c k).2.1 with
  | some t => match am_fty c k with
    | 0 => t == .int
    | 1 => t == .long
    | 3 => t == .boolean
    | _ => match t with
      | .object _ => true
      | .array _ => true
      | _ => false
  | none => false
theorem am_tyok_all : ∀ c, c < 13 → ∀ k, k < am_nf c → am_tyok c k = true := by decide +kernel
theorem am_nm_all : ∀ c, c < 13 → ∀ x, x < am_nf c → ∀ y, y < am_nf c → x ≠ y → (am_f c x).1 ≠ (am_f c y).1 := by decide +kernel
theorem am_CP_ok : am_CP.all (fun e => am_wat e.2.1 (.instantiable (am_CN e.1) (am_nf e.1)) && am_wat e.2.2 (.initialized (am_CN e.1))) = true := by decide +kernel
theorem am_CP_all : ∀ c, c < 13 → am_CP.any (fun e => e.1 == c) = true := by decide +kernel
