/-! what stands when the constructors are done (printed by wip/whole/gen_begin.py) -/
theorem nbeq_ne {a b : Nat} (h : a ≠ b) : Nat.beq a b = false := by
  cases e : Nat.beq a b with
  | false => rfl
  | true => exact absurd (Nat.eq_of_beq_eq_true e) h
theorem nbeq_f {a b : Nat} (h : Nat.beq a b = false) : a ≠ b := fun e => by rw [e, Nat.beq_refl] at h; cases h
def zsp (i : Nat) : Bool := Nat.beq i 9 || Nat.beq i 18 || Nat.beq i 59 || Nat.beq i 62 || Nat.beq i 67
def lkA : List (Nat × Nat × Nat) → Nat → Nat → Nat
  | [], _, _ => 0
  | e :: t, i, k => if Nat.beq e.1 i && Nat.beq e.2.1 k then e.2.2 else lkA t i k
def lkI : List (Nat × Nat × Int32) → Nat → Nat → Int32
  | [], _, _ => 0
  | e :: t, i, k => if Nat.beq e.1 i && Nat.beq e.2.1 k then e.2.2 else lkI t i k
theorem lkA_0 : ∀ (l : List (Nat × Nat × Nat)) (n k : Nat), (∀ e, e ∈ l → e.1 < n) → lkA l n k = 0
  | [], _, _, _ => rfl
  | e :: t, n, k, h => by
    unfold lkA
    rw [show Nat.beq e.1 n = false from nbeq_ne (by have := h e (List.mem_cons_self ..); omega)]
    exact lkA_0 t n k (fun e' he => h e' (List.mem_cons_of_mem _ he))
theorem lkI_0 : ∀ (l : List (Nat × Nat × Int32)) (n k : Nat), (∀ e, e ∈ l → e.1 < n) → lkI l n k = 0
  | [], _, _, _ => rfl
  | e :: t, n, k, h => by
    unfold lkI
    rw [show Nat.beq e.1 n = false from nbeq_ne (by have := h e (List.mem_cons_self ..); omega)]
    exact lkI_0 t n k (fun e' he => h e' (List.mem_cons_of_mem _ he))
/-- a memory while the constructors run -/
def cq (L : Nat) (xs : Nat → Int32) (M : am_M) (n s : Nat) (as : List (Nat × Nat × Nat)) (is : List (Nat × Nat × Int32)) : Prop :=
  9 ≤ n ∧ mN M = n ∧ mS M = s ∧ (∀ i k, 9 ≤ i → mA M i k = lkA as i k) ∧ (∀ i k, 9 ≤ i → mI M i k = lkI is i k) ∧ (∀ i, i < 9 → mA M i = am_A0 i ∧ mI M i = am_I0 xs i ∧ mL M i = am_L0 i) ∧ mK M 0 = (20, L) ∧ (∀ e, e ∈ as → e.1 < n) ∧ (∀ e, e ∈ is → e.1 < n)
theorem cq_A {L : Nat} {xs : Nat → Int32} {M : am_M} {n s i k v : Nat} {as : List (Nat × Nat × Nat)} {is : List (Nat × Nat × Int32)} (hi : 9 ≤ i ∧ i < n) (h : cq L xs M n s as is) : cq L xs (wA M i (am_up (mA M i) k v)) n s ((i, k, v) :: as) is := by
  obtain ⟨h9, a, b, c, d, e, f, g1, g2⟩ := h
  refine ⟨h9, a, b, fun j q hj => ?_, d, fun j hj => ⟨?_, (e j hj).2⟩, f, fun e' he => ?_, g2⟩
  · show am_up (mA M) i (am_up (mA M i) k v) j q = (if Nat.beq i j && Nat.beq k q then v else lkA as j q)
    by_cases ej : j = i
    · subst ej
      rw [bm_up_self]
      by_cases ek : q = k
      · subst ek
        rw [bm_up_self, show Nat.beq j j = true from Nat.beq_refl j, show Nat.beq q q = true from Nat.beq_refl q]
        rfl
      · rw [bm_up_ne _ _ ek, show Nat.beq k q = false from nbeq_ne (fun x => ek x.symm), Bool.and_false]
        exact c j q hj
    · rw [bm_up_ne _ _ ej, show Nat.beq i j = false from nbeq_ne (fun x => ej x.symm)]
      exact c j q hj
  · exact (bm_up_ne (mA M) _ (show j ≠ i by omega)).trans (e j hj).1
  · rcases List.mem_cons.mp he with rfl | he
    · exact hi.2
    · exact g1 e' he
theorem cq_I {L : Nat} {xs : Nat → Int32} {M : am_M} {n s i k : Nat} {v : Int32} {as : List (Nat × Nat × Nat)} {is : List (Nat × Nat × Int32)} (hi : 9 ≤ i ∧ i < n) (h : cq L xs M n s as is) : cq L xs (wI M i (am_up (mI M i) k v)) n s as ((i, k, v) :: is) := by
  obtain ⟨h9, a, b, c, d, e, f, g1, g2⟩ := h
  refine ⟨h9, a, b, c, fun j q hj => ?_, fun j hj => ⟨(e j hj).1, ?_, (e j hj).2.2⟩, f, g1, fun e' he => ?_⟩
  · show am_up (mI M) i (am_up (mI M i) k v) j q = (if Nat.beq i j && Nat.beq k q then v else lkI is j q)
    by_cases ej : j = i
    · subst ej
      rw [bm_up_self]
      by_cases ek : q = k
      · subst ek
        rw [bm_up_self, show Nat.beq j j = true from Nat.beq_refl j, show Nat.beq q q = true from Nat.beq_refl q]
        rfl
      · rw [bm_up_ne _ _ ek, show Nat.beq k q = false from nbeq_ne (fun x => ek x.symm), Bool.and_false]
        exact d j q hj
    · rw [bm_up_ne _ _ ej, show Nat.beq i j = false from nbeq_ne (fun x => ej x.symm)]
      exact d j q hj
  · exact (bm_up_ne (mI M) _ (show j ≠ i by omega)).trans (e j hj).2.1
  · rcases List.mem_cons.mp he with rfl | he
    · exact hi.2
    · exact g2 e' he
theorem cq_al {L : Nat} {xs : Nat → Int32} {M : am_M} {n s k m : Nat} {as : List (Nat × Nat × Nat)} {is : List (Nat × Nat × Int32)} (h : cq L xs M n s as is) : cq L xs (am_alloc M k m (fun _ => 0)) (n + 1) (s + m) as is := by
  obtain ⟨h9, a, b, c, d, e, f, g1, g2⟩ := h
  refine ⟨by omega, congrArg (· + 1) a, congrArg (· + m) b, fun j q hj => ?_, fun j q hj => ?_, fun j hj => ⟨?_, ?_, ?_⟩, ?_, fun e' he => Nat.lt_succ_of_lt (g1 e' he), fun e' he => Nat.lt_succ_of_lt (g2 e' he)⟩
  · show am_up (mA M) (mN M) _ j q = _
    rw [a]
    by_cases ej : j = n
    · subst ej; rw [bm_up_self, lkA_0 _ _ _ g1]
    · rw [bm_up_ne _ _ ej]; exact c j q hj
  · show am_up (mI M) (mN M) _ j q = _
    rw [a]
    by_cases ej : j = n
    · subst ej; rw [bm_up_self, lkI_0 _ _ _ g2]
    · rw [bm_up_ne _ _ ej]; exact d j q hj
  · exact (bm_up_ne (mA M) _ (show j ≠ mN M by omega)).trans (e j hj).1
  · exact (bm_up_ne (mI M) _ (show j ≠ mN M by omega)).trans (e j hj).2.1
  · exact (bm_up_ne (mL M) _ (show j ≠ mN M by omega)).trans (e j hj).2.2
  · exact (bm_up_ne (mK M) _ (show 0 ≠ mN M by omega)).trans f
theorem am_I0_9 (xs : Nat → Int32) {i : Nat} (h : 9 ≤ i) : am_I0 xs i = fun _ => 0 := by
  obtain ⟨j, rfl⟩ : ∃ j, i = j + 9 := ⟨i - 9, by omega⟩
  rfl
theorem am_A0_9 {i : Nat} (h : 9 ≤ i) (k : Nat) : am_A0 i k = 0 := by
  unfold am_A0
  split
  · rw [if_neg (by omega), if_neg (by omega)]
  · rfl
theorem cq_0 (L : Nat) (xs : Nat → Int32) : cq L xs (cM0 L xs) 9 0 [] [] := ⟨Nat.le_refl 9, rfl, rfl, fun i k h => am_A0_9 h k, fun i k h => congrFun (am_I0_9 xs h) k, fun i _ => ⟨rfl, rfl, rfl⟩, rfl, fun e (h : e ∈ []) => absurd h List.not_mem_nil, fun e (h : e ∈ []) => absurd h List.not_mem_nil⟩
def cla_0 : List (Nat × Nat × Nat) := []
def cli_0 : List (Nat × Nat × Int32) := []
theorem cq_1 (L : Nat) (xs : Nat → Int32) : cq L xs (cM1 L xs) 10 18 cla_0 cli_0 := cq_al (cq_0 L xs)
theorem cq_2 (L : Nat) (xs : Nat → Int32) : cq L xs (cM2 L xs) 11 28 cla_0 cli_0 := cq_al (cq_1 L xs)
theorem cq_3 (L : Nat) (xs : Nat → Int32) : cq L xs (cM3 L xs) 12 284 cla_0 cli_0 := cq_al (cq_2 L xs)
def cla_1 : List (Nat × Nat × Nat) := (10, 0, 12) :: cla_0
theorem cq_4 (L : Nat) (xs : Nat → Int32) : cq L xs (cM4 L xs) 12 284 cla_1 cli_0 := cq_A (by decide) (cq_3 L xs)
theorem cq_5 (L : Nat) (xs : Nat → Int32) : cq L xs (cM5 L xs) 13 540 cla_1 cli_0 := cq_al (cq_4 L xs)
def cla_2 : List (Nat × Nat × Nat) := (10, 1, 13) :: cla_1
theorem cq_6 (L : Nat) (xs : Nat → Int32) : cq L xs (cM6 L xs) 13 540 cla_2 cli_0 := cq_A (by decide) (cq_5 L xs)
theorem cq_7 (L : Nat) (xs : Nat → Int32) : cq L xs (cM7 L xs) 14 740 cla_2 cli_0 := cq_al (cq_6 L xs)
def cla_3 : List (Nat × Nat × Nat) := (10, 2, 14) :: cla_2
theorem cq_8 (L : Nat) (xs : Nat → Int32) : cq L xs (cM8 L xs) 14 740 cla_3 cli_0 := cq_A (by decide) (cq_7 L xs)
theorem cq_9 (L : Nat) (xs : Nat → Int32) : cq L xs (cM9 L xs) 15 940 cla_3 cli_0 := cq_al (cq_8 L xs)
def cla_4 : List (Nat × Nat × Nat) := (10, 3, 15) :: cla_3
theorem cq_10 (L : Nat) (xs : Nat → Int32) : cq L xs (cM10 L xs) 15 940 cla_4 cli_0 := cq_A (by decide) (cq_9 L xs)
theorem cq_11 (L : Nat) (xs : Nat → Int32) : cq L xs (cM11 L xs) 16 1140 cla_4 cli_0 := cq_al (cq_10 L xs)
def cla_5 : List (Nat × Nat × Nat) := (10, 4, 16) :: cla_4
theorem cq_12 (L : Nat) (xs : Nat → Int32) : cq L xs (cM12 L xs) 16 1140 cla_5 cli_0 := cq_A (by decide) (cq_11 L xs)
theorem cq_13 (L : Nat) (xs : Nat → Int32) : cq L xs (cM13 L xs) 17 1340 cla_5 cli_0 := cq_al (cq_12 L xs)
def cla_6 : List (Nat × Nat × Nat) := (10, 5, 17) :: cla_5
theorem cq_14 (L : Nat) (xs : Nat → Int32) : cq L xs (cM14 L xs) 17 1340 cla_6 cli_0 := cq_A (by decide) (cq_13 L xs)
theorem cq_15 (L : Nat) (xs : Nat → Int32) : cq L xs (cM15 L xs) 18 1596 cla_6 cli_0 := cq_al (cq_14 L xs)
def cla_7 : List (Nat × Nat × Nat) := (10, 6, 18) :: cla_6
theorem cq_16 (L : Nat) (xs : Nat → Int32) : cq L xs (cM16 L xs) 18 1596 cla_7 cli_0 := cq_A (by decide) (cq_15 L xs)
def cla_8 : List (Nat × Nat × Nat) := (9, 0, 11) :: cla_7
theorem cq_17 (L : Nat) (xs : Nat → Int32) : cq L xs (cM17 L xs) 18 1596 cla_8 cli_0 := cq_A (by decide) (cq_16 L xs)
theorem cq_18 (L : Nat) (xs : Nat → Int32) : cq L xs (cM18 L xs) 19 1600 cla_8 cli_0 := cq_al (cq_17 L xs)
def cli_1 : List (Nat × Nat × Int32) := (18, 0, (nI 0)) :: cli_0
theorem cq_19 (L : Nat) (xs : Nat → Int32) : cq L xs (cM19 L xs) 19 1600 cla_8 cli_1 := cq_I (by decide) (cq_18 L xs)
def cli_2 : List (Nat × Nat × Int32) := (18, 1, (nI 1)) :: cli_1
theorem cq_20 (L : Nat) (xs : Nat → Int32) : cq L xs (cM20 L xs) 19 1600 cla_8 cli_2 := cq_I (by decide) (cq_19 L xs)
def cli_3 : List (Nat × Nat × Int32) := (18, 2, (nI 0)) :: cli_2
theorem cq_21 (L : Nat) (xs : Nat → Int32) : cq L xs (cM21 L xs) 19 1600 cla_8 cli_3 := cq_I (by decide) (cq_20 L xs)
def cli_4 : List (Nat × Nat × Int32) := (18, 3, (nM 0)) :: cli_3
theorem cq_22 (L : Nat) (xs : Nat → Int32) : cq L xs (cM22 L xs) 19 1600 cla_8 cli_4 := cq_I (by decide) (cq_21 L xs)
def cla_9 : List (Nat × Nat × Nat) := (9, 1, 19) :: cla_8
theorem cq_23 (L : Nat) (xs : Nat → Int32) : cq L xs (cM23 L xs) 19 1600 cla_9 cli_4 := cq_A (by decide) (cq_22 L xs)
theorem cq_24 (L : Nat) (xs : Nat → Int32) : cq L xs (cM24 L xs) 20 1613 cla_9 cli_4 := cq_al (cq_23 L xs)
theorem cq_25 (L : Nat) (xs : Nat → Int32) : cq L xs (cM25 L xs) 21 1973 cla_9 cli_4 := cq_al (cq_24 L xs)
def cla_10 : List (Nat × Nat × Nat) := (19, 0, 21) :: cla_9
theorem cq_26 (L : Nat) (xs : Nat → Int32) : cq L xs (cM26 L xs) 21 1973 cla_10 cli_4 := cq_A (by decide) (cq_25 L xs)
theorem cq_27 (L : Nat) (xs : Nat → Int32) : cq L xs (cM27 L xs) 22 1983 cla_10 cli_4 := cq_al (cq_26 L xs)
def cla_11 : List (Nat × Nat × Nat) := (19, 1, 22) :: cla_10
theorem cq_28 (L : Nat) (xs : Nat → Int32) : cq L xs (cM28 L xs) 22 1983 cla_11 cli_4 := cq_A (by decide) (cq_27 L xs)
theorem cq_29 (L : Nat) (xs : Nat → Int32) : cq L xs (cM29 L xs) 23 1993 cla_11 cli_4 := cq_al (cq_28 L xs)
def cla_12 : List (Nat × Nat × Nat) := (19, 2, 23) :: cla_11
theorem cq_30 (L : Nat) (xs : Nat → Int32) : cq L xs (cM30 L xs) 23 1993 cla_12 cli_4 := cq_A (by decide) (cq_29 L xs)
theorem cq_31 (L : Nat) (xs : Nat → Int32) : cq L xs (cM31 L xs) 24 2193 cla_12 cli_4 := cq_al (cq_30 L xs)
def cla_13 : List (Nat × Nat × Nat) := (19, 3, 24) :: cla_12
theorem cq_32 (L : Nat) (xs : Nat → Int32) : cq L xs (cM32 L xs) 24 2193 cla_13 cli_4 := cq_A (by decide) (cq_31 L xs)
theorem cq_33 (L : Nat) (xs : Nat → Int32) : cq L xs (cM33 L xs) 25 2393 cla_13 cli_4 := cq_al (cq_32 L xs)
def cla_14 : List (Nat × Nat × Nat) := (19, 4, 25) :: cla_13
theorem cq_34 (L : Nat) (xs : Nat → Int32) : cq L xs (cM34 L xs) 25 2393 cla_14 cli_4 := cq_A (by decide) (cq_33 L xs)
theorem cq_35 (L : Nat) (xs : Nat → Int32) : cq L xs (cM35 L xs) 26 2593 cla_14 cli_4 := cq_al (cq_34 L xs)
def cla_15 : List (Nat × Nat × Nat) := (19, 5, 26) :: cla_14
theorem cq_36 (L : Nat) (xs : Nat → Int32) : cq L xs (cM36 L xs) 26 2593 cla_15 cli_4 := cq_A (by decide) (cq_35 L xs)
theorem cq_37 (L : Nat) (xs : Nat → Int32) : cq L xs (cM37 L xs) 27 2599 cla_15 cli_4 := cq_al (cq_36 L xs)
def cla_16 : List (Nat × Nat × Nat) := (19, 6, 27) :: cla_15
theorem cq_38 (L : Nat) (xs : Nat → Int32) : cq L xs (cM38 L xs) 27 2599 cla_16 cli_4 := cq_A (by decide) (cq_37 L xs)
theorem cq_39 (L : Nat) (xs : Nat → Int32) : cq L xs (cM39 L xs) 28 2639 cla_16 cli_4 := cq_al (cq_38 L xs)
def cla_17 : List (Nat × Nat × Nat) := (19, 7, 28) :: cla_16
theorem cq_40 (L : Nat) (xs : Nat → Int32) : cq L xs (cM40 L xs) 28 2639 cla_17 cli_4 := cq_A (by decide) (cq_39 L xs)
def cla_18 : List (Nat × Nat × Nat) := (9, 2, 20) :: cla_17
theorem cq_41 (L : Nat) (xs : Nat → Int32) : cq L xs (cM41 L xs) 28 2639 cla_18 cli_4 := cq_A (by decide) (cq_40 L xs)
theorem cq_42 (L : Nat) (xs : Nat → Int32) : cq L xs (cM42 L xs) 29 2645 cla_18 cli_4 := cq_al (cq_41 L xs)
theorem cq_43 (L : Nat) (xs : Nat → Int32) : cq L xs (cM43 L xs) 30 2764 cla_18 cli_4 := cq_al (cq_42 L xs)
def cla_19 : List (Nat × Nat × Nat) := (28, 3, 30) :: cla_18
theorem cq_44 (L : Nat) (xs : Nat → Int32) : cq L xs (cM44 L xs) 30 2764 cla_19 cli_4 := cq_A (by decide) (cq_43 L xs)
theorem cq_45 (L : Nat) (xs : Nat → Int32) : cq L xs (cM45 L xs) 31 2884 cla_19 cli_4 := cq_al (cq_44 L xs)
def cla_20 : List (Nat × Nat × Nat) := (28, 4, 31) :: cla_19
theorem cq_46 (L : Nat) (xs : Nat → Int32) : cq L xs (cM46 L xs) 31 2884 cla_20 cli_4 := cq_A (by decide) (cq_45 L xs)
def cla_21 : List (Nat × Nat × Nat) := (28, 0, 11) :: cla_20
theorem cq_47 (L : Nat) (xs : Nat → Int32) : cq L xs (cM47 L xs) 31 2884 cla_21 cli_4 := cq_A (by decide) (cq_46 L xs)
def cla_22 : List (Nat × Nat × Nat) := (28, 1, 19) :: cla_21
theorem cq_48 (L : Nat) (xs : Nat → Int32) : cq L xs (cM48 L xs) 31 2884 cla_22 cli_4 := cq_A (by decide) (cq_47 L xs)
def cla_23 : List (Nat × Nat × Nat) := (28, 2, 20) :: cla_22
theorem cq_49 (L : Nat) (xs : Nat → Int32) : cq L xs (cM49 L xs) 31 2884 cla_23 cli_4 := cq_A (by decide) (cq_48 L xs)
def cla_24 : List (Nat × Nat × Nat) := (9, 3, 29) :: cla_23
theorem cq_50 (L : Nat) (xs : Nat → Int32) : cq L xs (cM50 L xs) 31 2884 cla_24 cli_4 := cq_A (by decide) (cq_49 L xs)
theorem cq_51 (L : Nat) (xs : Nat → Int32) : cq L xs (cM51 L xs) 32 2890 cla_24 cli_4 := cq_al (cq_50 L xs)
theorem cq_52 (L : Nat) (xs : Nat → Int32) : cq L xs (cM52 L xs) 33 3146 cla_24 cli_4 := cq_al (cq_51 L xs)
def cla_25 : List (Nat × Nat × Nat) := (31, 3, 33) :: cla_24
theorem cq_53 (L : Nat) (xs : Nat → Int32) : cq L xs (cM53 L xs) 33 3146 cla_25 cli_4 := cq_A (by decide) (cq_52 L xs)
theorem cq_54 (L : Nat) (xs : Nat → Int32) : cq L xs (cM54 L xs) 34 3402 cla_25 cli_4 := cq_al (cq_53 L xs)
def cla_26 : List (Nat × Nat × Nat) := (31, 4, 34) :: cla_25
theorem cq_55 (L : Nat) (xs : Nat → Int32) : cq L xs (cM55 L xs) 34 3402 cla_26 cli_4 := cq_A (by decide) (cq_54 L xs)
theorem cq_56 (L : Nat) (xs : Nat → Int32) : cq L xs (cM56 L xs) 35 3658 cla_26 cli_4 := cq_al (cq_55 L xs)
def cla_27 : List (Nat × Nat × Nat) := (31, 5, 35) :: cla_26
theorem cq_57 (L : Nat) (xs : Nat → Int32) : cq L xs (cM57 L xs) 35 3658 cla_27 cli_4 := cq_A (by decide) (cq_56 L xs)
def cla_28 : List (Nat × Nat × Nat) := (31, 0, 11) :: cla_27
theorem cq_58 (L : Nat) (xs : Nat → Int32) : cq L xs (cM58 L xs) 35 3658 cla_28 cli_4 := cq_A (by decide) (cq_57 L xs)
def cla_29 : List (Nat × Nat × Nat) := (31, 1, 19) :: cla_28
theorem cq_59 (L : Nat) (xs : Nat → Int32) : cq L xs (cM59 L xs) 35 3658 cla_29 cli_4 := cq_A (by decide) (cq_58 L xs)
def cla_30 : List (Nat × Nat × Nat) := (31, 2, 20) :: cla_29
theorem cq_60 (L : Nat) (xs : Nat → Int32) : cq L xs (cM60 L xs) 35 3658 cla_30 cli_4 := cq_A (by decide) (cq_59 L xs)
def cla_31 : List (Nat × Nat × Nat) := (9, 4, 32) :: cla_30
theorem cq_61 (L : Nat) (xs : Nat → Int32) : cq L xs (cM61 L xs) 35 3658 cla_31 cli_4 := cq_A (by decide) (cq_60 L xs)
theorem cq_62 (L : Nat) (xs : Nat → Int32) : cq L xs (cM62 L xs) 36 3666 cla_31 cli_4 := cq_al (cq_61 L xs)
theorem cq_63 (L : Nat) (xs : Nat → Int32) : cq L xs (cM63 L xs) 37 3922 cla_31 cli_4 := cq_al (cq_62 L xs)
def cla_32 : List (Nat × Nat × Nat) := (35, 3, 37) :: cla_31
theorem cq_64 (L : Nat) (xs : Nat → Int32) : cq L xs (cM64 L xs) 37 3922 cla_32 cli_4 := cq_A (by decide) (cq_63 L xs)
theorem cq_65 (L : Nat) (xs : Nat → Int32) : cq L xs (cM65 L xs) 38 4178 cla_32 cli_4 := cq_al (cq_64 L xs)
def cla_33 : List (Nat × Nat × Nat) := (35, 4, 38) :: cla_32
theorem cq_66 (L : Nat) (xs : Nat → Int32) : cq L xs (cM66 L xs) 38 4178 cla_33 cli_4 := cq_A (by decide) (cq_65 L xs)
theorem cq_67 (L : Nat) (xs : Nat → Int32) : cq L xs (cM67 L xs) 39 4434 cla_33 cli_4 := cq_al (cq_66 L xs)
def cla_34 : List (Nat × Nat × Nat) := (35, 5, 39) :: cla_33
theorem cq_68 (L : Nat) (xs : Nat → Int32) : cq L xs (cM68 L xs) 39 4434 cla_34 cli_4 := cq_A (by decide) (cq_67 L xs)
theorem cq_69 (L : Nat) (xs : Nat → Int32) : cq L xs (cM69 L xs) 40 4690 cla_34 cli_4 := cq_al (cq_68 L xs)
def cla_35 : List (Nat × Nat × Nat) := (35, 6, 40) :: cla_34
theorem cq_70 (L : Nat) (xs : Nat → Int32) : cq L xs (cM70 L xs) 40 4690 cla_35 cli_4 := cq_A (by decide) (cq_69 L xs)
theorem cq_71 (L : Nat) (xs : Nat → Int32) : cq L xs (cM71 L xs) 41 4946 cla_35 cli_4 := cq_al (cq_70 L xs)
def cla_36 : List (Nat × Nat × Nat) := (35, 7, 41) :: cla_35
theorem cq_72 (L : Nat) (xs : Nat → Int32) : cq L xs (cM72 L xs) 41 4946 cla_36 cli_4 := cq_A (by decide) (cq_71 L xs)
def cla_37 : List (Nat × Nat × Nat) := (35, 0, 11) :: cla_36
theorem cq_73 (L : Nat) (xs : Nat → Int32) : cq L xs (cM73 L xs) 41 4946 cla_37 cli_4 := cq_A (by decide) (cq_72 L xs)
def cla_38 : List (Nat × Nat × Nat) := (35, 1, 19) :: cla_37
theorem cq_74 (L : Nat) (xs : Nat → Int32) : cq L xs (cM74 L xs) 41 4946 cla_38 cli_4 := cq_A (by decide) (cq_73 L xs)
def cla_39 : List (Nat × Nat × Nat) := (35, 2, 20) :: cla_38
theorem cq_75 (L : Nat) (xs : Nat → Int32) : cq L xs (cM75 L xs) 41 4946 cla_39 cli_4 := cq_A (by decide) (cq_74 L xs)
def cla_40 : List (Nat × Nat × Nat) := (9, 5, 36) :: cla_39
theorem cq_76 (L : Nat) (xs : Nat → Int32) : cq L xs (cM76 L xs) 41 4946 cla_40 cli_4 := cq_A (by decide) (cq_75 L xs)
theorem cq_77 (L : Nat) (xs : Nat → Int32) : cq L xs (cM77 L xs) 42 4959 cla_40 cli_4 := cq_al (cq_76 L xs)
theorem cq_78 (L : Nat) (xs : Nat → Int32) : cq L xs (cM78 L xs) 43 4963 cla_40 cli_4 := cq_al (cq_77 L xs)
def cla_41 : List (Nat × Nat × Nat) := (41, 1, 43) :: cla_40
theorem cq_79 (L : Nat) (xs : Nat → Int32) : cq L xs (cM79 L xs) 43 4963 cla_41 cli_4 := cq_A (by decide) (cq_78 L xs)
theorem cq_80 (L : Nat) (xs : Nat → Int32) : cq L xs (cM80 L xs) 44 4967 cla_41 cli_4 := cq_al (cq_79 L xs)
def cla_42 : List (Nat × Nat × Nat) := (41, 2, 44) :: cla_41
theorem cq_81 (L : Nat) (xs : Nat → Int32) : cq L xs (cM81 L xs) 44 4967 cla_42 cli_4 := cq_A (by decide) (cq_80 L xs)
theorem cq_82 (L : Nat) (xs : Nat → Int32) : cq L xs (cM82 L xs) 45 4971 cla_42 cli_4 := cq_al (cq_81 L xs)
def cla_43 : List (Nat × Nat × Nat) := (41, 3, 45) :: cla_42
theorem cq_83 (L : Nat) (xs : Nat → Int32) : cq L xs (cM83 L xs) 45 4971 cla_43 cli_4 := cq_A (by decide) (cq_82 L xs)
theorem cq_84 (L : Nat) (xs : Nat → Int32) : cq L xs (cM84 L xs) 46 5227 cla_43 cli_4 := cq_al (cq_83 L xs)
def cla_44 : List (Nat × Nat × Nat) := (41, 4, 46) :: cla_43
theorem cq_85 (L : Nat) (xs : Nat → Int32) : cq L xs (cM85 L xs) 46 5227 cla_44 cli_4 := cq_A (by decide) (cq_84 L xs)
theorem cq_86 (L : Nat) (xs : Nat → Int32) : cq L xs (cM86 L xs) 47 5483 cla_44 cli_4 := cq_al (cq_85 L xs)
def cla_45 : List (Nat × Nat × Nat) := (41, 5, 47) :: cla_44
theorem cq_87 (L : Nat) (xs : Nat → Int32) : cq L xs (cM87 L xs) 47 5483 cla_45 cli_4 := cq_A (by decide) (cq_86 L xs)
theorem cq_88 (L : Nat) (xs : Nat → Int32) : cq L xs (cM88 L xs) 48 5499 cla_45 cli_4 := cq_al (cq_87 L xs)
def cla_46 : List (Nat × Nat × Nat) := (41, 6, 48) :: cla_45
theorem cq_89 (L : Nat) (xs : Nat → Int32) : cq L xs (cM89 L xs) 48 5499 cla_46 cli_4 := cq_A (by decide) (cq_88 L xs)
theorem cq_90 (L : Nat) (xs : Nat → Int32) : cq L xs (cM90 L xs) 49 5515 cla_46 cli_4 := cq_al (cq_89 L xs)
def cla_47 : List (Nat × Nat × Nat) := (41, 7, 49) :: cla_46
theorem cq_91 (L : Nat) (xs : Nat → Int32) : cq L xs (cM91 L xs) 49 5515 cla_47 cli_4 := cq_A (by decide) (cq_90 L xs)
theorem cq_92 (L : Nat) (xs : Nat → Int32) : cq L xs (cM92 L xs) 50 5519 cla_47 cli_4 := cq_al (cq_91 L xs)
def cla_48 : List (Nat × Nat × Nat) := (41, 8, 50) :: cla_47
theorem cq_93 (L : Nat) (xs : Nat → Int32) : cq L xs (cM93 L xs) 50 5519 cla_48 cli_4 := cq_A (by decide) (cq_92 L xs)
theorem cq_94 (L : Nat) (xs : Nat → Int32) : cq L xs (cM94 L xs) 51 5523 cla_48 cli_4 := cq_al (cq_93 L xs)
def cla_49 : List (Nat × Nat × Nat) := (41, 9, 51) :: cla_48
theorem cq_95 (L : Nat) (xs : Nat → Int32) : cq L xs (cM95 L xs) 51 5523 cla_49 cli_4 := cq_A (by decide) (cq_94 L xs)
theorem cq_96 (L : Nat) (xs : Nat → Int32) : cq L xs (cM96 L xs) 52 5527 cla_49 cli_4 := cq_al (cq_95 L xs)
def cla_50 : List (Nat × Nat × Nat) := (41, 10, 52) :: cla_49
theorem cq_97 (L : Nat) (xs : Nat → Int32) : cq L xs (cM97 L xs) 52 5527 cla_50 cli_4 := cq_A (by decide) (cq_96 L xs)
def cla_51 : List (Nat × Nat × Nat) := (41, 0, 11) :: cla_50
theorem cq_98 (L : Nat) (xs : Nat → Int32) : cq L xs (cM98 L xs) 52 5527 cla_51 cli_4 := cq_A (by decide) (cq_97 L xs)
def cla_52 : List (Nat × Nat × Nat) := (9, 6, 42) :: cla_51
theorem cq_99 (L : Nat) (xs : Nat → Int32) : cq L xs (cM99 L xs) 52 5527 cla_52 cli_4 := cq_A (by decide) (cq_98 L xs)
theorem cq_100 (L : Nat) (xs : Nat → Int32) : cq L xs (cM100 L xs) 53 5536 cla_52 cli_4 := cq_al (cq_99 L xs)
theorem cq_101 (L : Nat) (xs : Nat → Int32) : cq L xs (cM101 L xs) 54 5548 cla_52 cli_4 := cq_al (cq_100 L xs)
def cla_53 : List (Nat × Nat × Nat) := (52, 2, 54) :: cla_52
theorem cq_102 (L : Nat) (xs : Nat → Int32) : cq L xs (cM102 L xs) 54 5548 cla_53 cli_4 := cq_A (by decide) (cq_101 L xs)
theorem cq_103 (L : Nat) (xs : Nat → Int32) : cq L xs (cM103 L xs) 55 5668 cla_53 cli_4 := cq_al (cq_102 L xs)
def cla_54 : List (Nat × Nat × Nat) := (52, 3, 55) :: cla_53
theorem cq_104 (L : Nat) (xs : Nat → Int32) : cq L xs (cM104 L xs) 55 5668 cla_54 cli_4 := cq_A (by decide) (cq_103 L xs)
def cla_55 : List (Nat × Nat × Nat) := (52, 0, 11) :: cla_54
theorem cq_105 (L : Nat) (xs : Nat → Int32) : cq L xs (cM105 L xs) 55 5668 cla_55 cli_4 := cq_A (by decide) (cq_104 L xs)
def cla_56 : List (Nat × Nat × Nat) := (52, 1, 19) :: cla_55
theorem cq_106 (L : Nat) (xs : Nat → Int32) : cq L xs (cM106 L xs) 55 5668 cla_56 cli_4 := cq_A (by decide) (cq_105 L xs)
def cla_57 : List (Nat × Nat × Nat) := (9, 7, 53) :: cla_56
theorem cq_107 (L : Nat) (xs : Nat → Int32) : cq L xs (cM107 L xs) 55 5668 cla_57 cli_4 := cq_A (by decide) (cq_106 L xs)
theorem cq_108 (L : Nat) (xs : Nat → Int32) : cq L xs (cM108 L xs) 56 5673 cla_57 cli_4 := cq_al (cq_107 L xs)
theorem cq_109 (L : Nat) (xs : Nat → Int32) : cq L xs (cM109 L xs) 57 6373 cla_57 cli_4 := cq_al (cq_108 L xs)
def cla_58 : List (Nat × Nat × Nat) := (55, 0, 57) :: cla_57
theorem cq_110 (L : Nat) (xs : Nat → Int32) : cq L xs (cM110 L xs) 57 6373 cla_58 cli_4 := cq_A (by decide) (cq_109 L xs)
theorem cq_111 (L : Nat) (xs : Nat → Int32) : cq L xs (cM111 L xs) 58 7074 cla_58 cli_4 := cq_al (cq_110 L xs)
def cla_59 : List (Nat × Nat × Nat) := (55, 1, 58) :: cla_58
theorem cq_112 (L : Nat) (xs : Nat → Int32) : cq L xs (cM112 L xs) 58 7074 cla_59 cli_4 := cq_A (by decide) (cq_111 L xs)
theorem cq_113 (L : Nat) (xs : Nat → Int32) : cq L xs (cM113 L xs) 59 7775 cla_59 cli_4 := cq_al (cq_112 L xs)
def cla_60 : List (Nat × Nat × Nat) := (55, 2, 59) :: cla_59
theorem cq_114 (L : Nat) (xs : Nat → Int32) : cq L xs (cM114 L xs) 59 7775 cla_60 cli_4 := cq_A (by decide) (cq_113 L xs)
def cla_61 : List (Nat × Nat × Nat) := (9, 8, 56) :: cla_60
theorem cq_115 (L : Nat) (xs : Nat → Int32) : cq L xs (cM115 L xs) 59 7775 cla_61 cli_4 := cq_A (by decide) (cq_114 L xs)
theorem cq_116 (L : Nat) (xs : Nat → Int32) : cq L xs (cM116 L xs) 60 7783 cla_61 cli_4 := cq_al (cq_115 L xs)
theorem cq_117 (L : Nat) (xs : Nat → Int32) : cq L xs (cM117 L xs) 61 7933 cla_61 cli_4 := cq_al (cq_116 L xs)
def cla_62 : List (Nat × Nat × Nat) := (59, 1, 61) :: cla_61
theorem cq_118 (L : Nat) (xs : Nat → Int32) : cq L xs (cM118 L xs) 61 7933 cla_62 cli_4 := cq_A (by decide) (cq_117 L xs)
theorem cq_119 (L : Nat) (xs : Nat → Int32) : cq L xs (cM119 L xs) 62 8633 cla_62 cli_4 := cq_al (cq_118 L xs)
def cla_63 : List (Nat × Nat × Nat) := (59, 2, 62) :: cla_62
theorem cq_120 (L : Nat) (xs : Nat → Int32) : cq L xs (cM120 L xs) 62 8633 cla_63 cli_4 := cq_A (by decide) (cq_119 L xs)
def cli_5 : List (Nat × Nat × Int32) := (59, 7, (nM 0)) :: cli_4
theorem cq_121 (L : Nat) (xs : Nat → Int32) : cq L xs (cM121 L xs) 62 8633 cla_63 cli_5 := cq_I (by decide) (cq_120 L xs)
def cla_64 : List (Nat × Nat × Nat) := (59, 0, 56) :: cla_63
theorem cq_122 (L : Nat) (xs : Nat → Int32) : cq L xs (cM122 L xs) 62 8633 cla_64 cli_5 := cq_A (by decide) (cq_121 L xs)
def cla_65 : List (Nat × Nat × Nat) := (9, 9, 60) :: cla_64
theorem cq_123 (L : Nat) (xs : Nat → Int32) : cq L xs (cM123 L xs) 62 8633 cla_65 cli_5 := cq_A (by decide) (cq_122 L xs)
theorem cq_124 (L : Nat) (xs : Nat → Int32) : cq L xs (cM124 L xs) 63 8637 cla_65 cli_5 := cq_al (cq_123 L xs)
theorem cq_125 (L : Nat) (xs : Nat → Int32) : cq L xs (cM125 L xs) 64 8637 cla_65 cli_5 := cq_al (cq_124 L xs)
theorem cq_126 (L : Nat) (xs : Nat → Int32) : cq L xs (cM126 L xs) 65 8637 cla_65 cli_5 := cq_al (cq_125 L xs)
def cli_6 : List (Nat × Nat × Int32) := (62, 0, (nI 0)) :: cli_5
theorem cq_127 (L : Nat) (xs : Nat → Int32) : cq L xs (cM127 L xs) 65 8637 cla_65 cli_6 := cq_I (by decide) (cq_126 L xs)
def cli_7 : List (Nat × Nat × Int32) := (62, 1, (nI 0)) :: cli_6
theorem cq_128 (L : Nat) (xs : Nat → Int32) : cq L xs (cM128 L xs) 65 8637 cla_65 cli_7 := cq_I (by decide) (cq_127 L xs)
def cla_66 : List (Nat × Nat × Nat) := (62, 2, 64) :: cla_65
theorem cq_129 (L : Nat) (xs : Nat → Int32) : cq L xs (cM129 L xs) 65 8637 cla_66 cli_7 := cq_A (by decide) (cq_128 L xs)
def cla_67 : List (Nat × Nat × Nat) := (62, 3, 65) :: cla_66
theorem cq_130 (L : Nat) (xs : Nat → Int32) : cq L xs (cM130 L xs) 65 8637 cla_67 cli_7 := cq_A (by decide) (cq_129 L xs)
def cla_68 : List (Nat × Nat × Nat) := (9, 10, 63) :: cla_67
theorem cq_131 (L : Nat) (xs : Nat → Int32) : cq L xs (cM131 L xs) 65 8637 cla_68 cli_7 := cq_A (by decide) (cq_130 L xs)
theorem cq_132 (L : Nat) (xs : Nat → Int32) : cq L xs (cM132 L xs) 66 8645 cla_68 cli_7 := cq_al (cq_131 L xs)
def cla_69 : List (Nat × Nat × Nat) := (9, 11, 66) :: cla_68
theorem cq_133 (L : Nat) (xs : Nat → Int32) : cq L xs (cM133 L xs) 66 8645 cla_69 cli_7 := cq_A (by decide) (cq_132 L xs)
theorem cq_134 (L : Nat) (xs : Nat → Int32) : cq L xs (cM134 L xs) 67 8657 cla_69 cli_7 := cq_al (cq_133 L xs)
def cla_70 : List (Nat × Nat × Nat) := (9, 12, 67) :: cla_69
theorem cq_135 (L : Nat) (xs : Nat → Int32) : cq L xs (cM135 L xs) 67 8657 cla_70 cli_7 := cq_A (by decide) (cq_134 L xs)
def cli_8 : List (Nat × Nat × Int32) := (9, 17, (nI 50)) :: cli_7
theorem cq_136 (L : Nat) (xs : Nat → Int32) : cq L xs (cM136 L xs) 67 8657 cla_70 cli_8 := cq_I (by decide) (cq_135 L xs)
theorem cq_137 (L : Nat) (xs : Nat → Int32) : cq L xs (cM137 L xs) 68 8738 cla_70 cli_8 := cq_al (cq_136 L xs)
def cli_9 : List (Nat × Nat × Int32) := (67, 2, (nI 1)) :: cli_8
theorem cq_138 (L : Nat) (xs : Nat → Int32) : cq L xs (cM138 L xs) 68 8738 cla_70 cli_9 := cq_I (by decide) (cq_137 L xs)
def cli_10 : List (Nat × Nat × Int32) := (67, 4, (nM 0)) :: cli_9
theorem cq_139 (L : Nat) (xs : Nat → Int32) : cq L xs (cM139 L xs) 68 8738 cla_70 cli_10 := cq_I (by decide) (cq_138 L xs)
def cli_11 : List (Nat × Nat × Int32) := (67, 6, (nI 50)) :: cli_10
theorem cq_140 (L : Nat) (xs : Nat → Int32) : cq L xs (cM140 L xs) 68 8738 cla_70 cli_11 := cq_I (by decide) (cq_139 L xs)
theorem cq_141 (L : Nat) (xs : Nat → Int32) : cq L xs (cM141 L xs) 69 8994 cla_70 cli_11 := cq_al (cq_140 L xs)
def cla_71 : List (Nat × Nat × Nat) := (67, 7, 69) :: cla_70
theorem cq_142 (L : Nat) (xs : Nat → Int32) : cq L xs (cM142 L xs) 69 8994 cla_71 cli_11 := cq_A (by decide) (cq_141 L xs)
theorem cq_143 (L : Nat) (xs : Nat → Int32) : cq L xs (cM143 L xs) 70 9250 cla_71 cli_11 := cq_al (cq_142 L xs)
def cla_72 : List (Nat × Nat × Nat) := (67, 8, 70) :: cla_71
theorem cq_144 (L : Nat) (xs : Nat → Int32) : cq L xs (cM144 L xs) 70 9250 cla_72 cli_11 := cq_A (by decide) (cq_143 L xs)
theorem cq_145 (L : Nat) (xs : Nat → Int32) : cq L xs (cM145 L xs) 71 9450 cla_72 cli_11 := cq_al (cq_144 L xs)
def cla_73 : List (Nat × Nat × Nat) := (67, 10, 71) :: cla_72
theorem cq_146 (L : Nat) (xs : Nat → Int32) : cq L xs (cM146 L xs) 71 9450 cla_73 cli_11 := cq_A (by decide) (cq_145 L xs)
theorem cq_147 (L : Nat) (xs : Nat → Int32) : cq L xs (cM147 L xs) 72 9650 cla_73 cli_11 := cq_al (cq_146 L xs)
def cla_74 : List (Nat × Nat × Nat) := (67, 11, 72) :: cla_73
theorem cq_148 (L : Nat) (xs : Nat → Int32) : cq L xs (cM148 L xs) 72 9650 cla_74 cli_11 := cq_A (by decide) (cq_147 L xs)
theorem cq_149 (L : Nat) (xs : Nat → Int32) : cq L xs (cM149 L xs) 73 9850 cla_74 cli_11 := cq_al (cq_148 L xs)
def cla_75 : List (Nat × Nat × Nat) := (67, 12, 73) :: cla_74
theorem cq_150 (L : Nat) (xs : Nat → Int32) : cq L xs (cM150 L xs) 73 9850 cla_75 cli_11 := cq_A (by decide) (cq_149 L xs)
theorem cq_151 (L : Nat) (xs : Nat → Int32) : cq L xs (cM151 L xs) 74 10050 cla_75 cli_11 := cq_al (cq_150 L xs)
def cla_76 : List (Nat × Nat × Nat) := (67, 13, 74) :: cla_75
theorem cq_152 (L : Nat) (xs : Nat → Int32) : cq L xs (cM152 L xs) 74 10050 cla_76 cli_11 := cq_A (by decide) (cq_151 L xs)
theorem cq_153 (L : Nat) (xs : Nat → Int32) : cq L xs (cM153 L xs) 75 13122 cla_76 cli_11 := cq_al (cq_152 L xs)
def cla_77 : List (Nat × Nat × Nat) := (67, 14, 75) :: cla_76
theorem cq_154 (L : Nat) (xs : Nat → Int32) : cq L xs (cM154 L xs) 75 13122 cla_77 cli_11 := cq_A (by decide) (cq_153 L xs)
theorem cq_155 (L : Nat) (xs : Nat → Int32) : cq L xs (cM155 L xs) 76 13132 cla_77 cli_11 := cq_al (cq_154 L xs)
def cla_78 : List (Nat × Nat × Nat) := (67, 18, 76) :: cla_77
theorem cq_156 (L : Nat) (xs : Nat → Int32) : cq L xs (cM156 L xs) 76 13132 cla_78 cli_11 := cq_A (by decide) (cq_155 L xs)
theorem cq_157 (L : Nat) (xs : Nat → Int32) : cq L xs (cM157 L xs) 77 13142 cla_78 cli_11 := cq_al (cq_156 L xs)
def cla_79 : List (Nat × Nat × Nat) := (67, 19, 77) :: cla_78
theorem cq_158 (L : Nat) (xs : Nat → Int32) : cq L xs (cM158 L xs) 77 13142 cla_79 cli_11 := cq_A (by decide) (cq_157 L xs)
theorem cq_159 (L : Nat) (xs : Nat → Int32) : cq L xs (cM159 L xs) 78 13182 cla_79 cli_11 := cq_al (cq_158 L xs)
def cla_80 : List (Nat × Nat × Nat) := (67, 20, 78) :: cla_79
theorem cq_160 (L : Nat) (xs : Nat → Int32) : cq L xs (cM160 L xs) 78 13182 cla_80 cli_11 := cq_A (by decide) (cq_159 L xs)
theorem cq_161 (L : Nat) (xs : Nat → Int32) : cq L xs (cM161 L xs) 79 13222 cla_80 cli_11 := cq_al (cq_160 L xs)
def cla_81 : List (Nat × Nat × Nat) := (67, 21, 79) :: cla_80
theorem cq_162 (L : Nat) (xs : Nat → Int32) : cq L xs (cM162 L xs) 79 13222 cla_81 cli_11 := cq_A (by decide) (cq_161 L xs)
theorem cq_163 (L : Nat) (xs : Nat → Int32) : cq L xs (cM163 L xs) 80 13262 cla_81 cli_11 := cq_al (cq_162 L xs)
def cla_82 : List (Nat × Nat × Nat) := (67, 22, 80) :: cla_81
theorem cq_164 (L : Nat) (xs : Nat → Int32) : cq L xs (cM164 L xs) 80 13262 cla_82 cli_11 := cq_A (by decide) (cq_163 L xs)
theorem cq_165 (L : Nat) (xs : Nat → Int32) : cq L xs (cM165 L xs) 81 13302 cla_82 cli_11 := cq_al (cq_164 L xs)
def cla_83 : List (Nat × Nat × Nat) := (67, 23, 81) :: cla_82
theorem cq_166 (L : Nat) (xs : Nat → Int32) : cq L xs (cM166 L xs) 81 13302 cla_83 cli_11 := cq_A (by decide) (cq_165 L xs)
theorem cq_167 (L : Nat) (xs : Nat → Int32) : cq L xs (cM167 L xs) 82 13342 cla_83 cli_11 := cq_al (cq_166 L xs)
def cla_84 : List (Nat × Nat × Nat) := (67, 24, 82) :: cla_83
theorem cq_168 (L : Nat) (xs : Nat → Int32) : cq L xs (cM168 L xs) 82 13342 cla_84 cli_11 := cq_A (by decide) (cq_167 L xs)
theorem cq_169 (L : Nat) (xs : Nat → Int32) : cq L xs (cM169 L xs) 83 13382 cla_84 cli_11 := cq_al (cq_168 L xs)
def cla_85 : List (Nat × Nat × Nat) := (67, 25, 83) :: cla_84
theorem cq_170 (L : Nat) (xs : Nat → Int32) : cq L xs (cM170 L xs) 83 13382 cla_85 cli_11 := cq_A (by decide) (cq_169 L xs)
theorem cq_171 (L : Nat) (xs : Nat → Int32) : cq L xs (cM171 L xs) 84 13422 cla_85 cli_11 := cq_al (cq_170 L xs)
def cla_86 : List (Nat × Nat × Nat) := (67, 26, 84) :: cla_85
theorem cq_172 (L : Nat) (xs : Nat → Int32) : cq L xs (cM172 L xs) 84 13422 cla_86 cli_11 := cq_A (by decide) (cq_171 L xs)
theorem cq_173 (L : Nat) (xs : Nat → Int32) : cq L xs (cM173 L xs) 85 13462 cla_86 cli_11 := cq_al (cq_172 L xs)
def cla_87 : List (Nat × Nat × Nat) := (67, 27, 85) :: cla_86
theorem cq_174 (L : Nat) (xs : Nat → Int32) : cq L xs (cM174 L xs) 85 13462 cla_87 cli_11 := cq_A (by decide) (cq_173 L xs)
theorem cq_175 (L : Nat) (xs : Nat → Int32) : cq L xs (cM175 L xs) 86 13662 cla_87 cli_11 := cq_al (cq_174 L xs)
def cla_88 : List (Nat × Nat × Nat) := (67, 28, 86) :: cla_87
theorem cq_176 (L : Nat) (xs : Nat → Int32) : cq L xs (cM176 L xs) 86 13662 cla_88 cli_11 := cq_A (by decide) (cq_175 L xs)
theorem cq_177 (L : Nat) (xs : Nat → Int32) : cq L xs (cM177 L xs) 87 13862 cla_88 cli_11 := cq_al (cq_176 L xs)
def cla_89 : List (Nat × Nat × Nat) := (67, 29, 87) :: cla_88
theorem cq_178 (L : Nat) (xs : Nat → Int32) : cq L xs (cM178 L xs) 87 13862 cla_89 cli_11 := cq_A (by decide) (cq_177 L xs)
theorem cq_179 (L : Nat) (xs : Nat → Int32) : cq L xs (cM179 L xs) 88 14062 cla_89 cli_11 := cq_al (cq_178 L xs)
def cla_90 : List (Nat × Nat × Nat) := (67, 30, 88) :: cla_89
theorem cq_180 (L : Nat) (xs : Nat → Int32) : cq L xs (cM180 L xs) 88 14062 cla_90 cli_11 := cq_A (by decide) (cq_179 L xs)
theorem cq_181 (L : Nat) (xs : Nat → Int32) : cq L xs (cM181 L xs) 89 14068 cla_90 cli_11 := cq_al (cq_180 L xs)
def cla_91 : List (Nat × Nat × Nat) := (67, 33, 89) :: cla_90
theorem cq_182 (L : Nat) (xs : Nat → Int32) : cq L xs (cM182 L xs) 89 14068 cla_91 cli_11 := cq_A (by decide) (cq_181 L xs)
theorem cq_183 (L : Nat) (xs : Nat → Int32) : cq L xs (cM183 L xs) 90 14108 cla_91 cli_11 := cq_al (cq_182 L xs)
def cla_92 : List (Nat × Nat × Nat) := (67, 34, 90) :: cla_91
theorem cq_184 (L : Nat) (xs : Nat → Int32) : cq L xs (cM184 L xs) 90 14108 cla_92 cli_11 := cq_A (by decide) (cq_183 L xs)
theorem cq_185 (L : Nat) (xs : Nat → Int32) : cq L xs (cM185 L xs) 91 14364 cla_92 cli_11 := cq_al (cq_184 L xs)
def cla_93 : List (Nat × Nat × Nat) := (67, 35, 91) :: cla_92
theorem cq_186 (L : Nat) (xs : Nat → Int32) : cq L xs (cM186 L xs) 91 14364 cla_93 cli_11 := cq_A (by decide) (cq_185 L xs)
theorem cq_187 (L : Nat) (xs : Nat → Int32) : cq L xs (cM187 L xs) 92 14620 cla_93 cli_11 := cq_al (cq_186 L xs)
def cla_94 : List (Nat × Nat × Nat) := (67, 36, 92) :: cla_93
theorem cq_188 (L : Nat) (xs : Nat → Int32) : cq L xs (cM188 L xs) 92 14620 cla_94 cli_11 := cq_A (by decide) (cq_187 L xs)
theorem cq_189 (L : Nat) (xs : Nat → Int32) : cq L xs (cM189 L xs) 93 14739 cla_94 cli_11 := cq_al (cq_188 L xs)
def cla_95 : List (Nat × Nat × Nat) := (67, 38, 93) :: cla_94
theorem cq_190 (L : Nat) (xs : Nat → Int32) : cq L xs (cM190 L xs) 93 14739 cla_95 cli_11 := cq_A (by decide) (cq_189 L xs)
theorem cq_191 (L : Nat) (xs : Nat → Int32) : cq L xs (cM191 L xs) 94 14995 cla_95 cli_11 := cq_al (cq_190 L xs)
def cla_96 : List (Nat × Nat × Nat) := (67, 41, 94) :: cla_95
theorem cq_192 (L : Nat) (xs : Nat → Int32) : cq L xs (cM192 L xs) 94 14995 cla_96 cli_11 := cq_A (by decide) (cq_191 L xs)
theorem cq_193 (L : Nat) (xs : Nat → Int32) : cq L xs (cM193 L xs) 95 15251 cla_96 cli_11 := cq_al (cq_192 L xs)
def cla_97 : List (Nat × Nat × Nat) := (67, 42, 95) :: cla_96
theorem cq_194 (L : Nat) (xs : Nat → Int32) : cq L xs (cM194 L xs) 95 15251 cla_97 cli_11 := cq_A (by decide) (cq_193 L xs)
theorem cq_195 (L : Nat) (xs : Nat → Int32) : cq L xs (cM195 L xs) 96 15255 cla_97 cli_11 := cq_al (cq_194 L xs)
def cla_98 : List (Nat × Nat × Nat) := (67, 44, 96) :: cla_97
theorem cq_196 (L : Nat) (xs : Nat → Int32) : cq L xs (cM196 L xs) 96 15255 cla_98 cli_11 := cq_A (by decide) (cq_195 L xs)
theorem cq_197 (L : Nat) (xs : Nat → Int32) : cq L xs (cM197 L xs) 97 15259 cla_98 cli_11 := cq_al (cq_196 L xs)
def cla_99 : List (Nat × Nat × Nat) := (67, 45, 97) :: cla_98
theorem cq_198 (L : Nat) (xs : Nat → Int32) : cq L xs (cM198 L xs) 97 15259 cla_99 cli_11 := cq_A (by decide) (cq_197 L xs)
theorem cq_199 (L : Nat) (xs : Nat → Int32) : cq L xs (cM199 L xs) 98 15263 cla_99 cli_11 := cq_al (cq_198 L xs)
def cla_100 : List (Nat × Nat × Nat) := (67, 46, 98) :: cla_99
theorem cq_200 (L : Nat) (xs : Nat → Int32) : cq L xs (cM200 L xs) 98 15263 cla_100 cli_11 := cq_A (by decide) (cq_199 L xs)
theorem cq_201 (L : Nat) (xs : Nat → Int32) : cq L xs (cM201 L xs) 99 15519 cla_100 cli_11 := cq_al (cq_200 L xs)
def cla_101 : List (Nat × Nat × Nat) := (67, 47, 99) :: cla_100
theorem cq_202 (L : Nat) (xs : Nat → Int32) : cq L xs (cM202 L xs) 99 15519 cla_101 cli_11 := cq_A (by decide) (cq_201 L xs)
theorem cq_203 (L : Nat) (xs : Nat → Int32) : cq L xs (cM203 L xs) 100 15535 cla_101 cli_11 := cq_al (cq_202 L xs)
def cla_102 : List (Nat × Nat × Nat) := (67, 48, 100) :: cla_101
theorem cq_204 (L : Nat) (xs : Nat → Int32) : cq L xs (cM204 L xs) 100 15535 cla_102 cli_11 := cq_A (by decide) (cq_203 L xs)
theorem cq_205 (L : Nat) (xs : Nat → Int32) : cq L xs (cM205 L xs) 101 15539 cla_102 cli_11 := cq_al (cq_204 L xs)
def cla_103 : List (Nat × Nat × Nat) := (67, 49, 101) :: cla_102
theorem cq_206 (L : Nat) (xs : Nat → Int32) : cq L xs (cM206 L xs) 101 15539 cla_103 cli_11 := cq_A (by decide) (cq_205 L xs)
theorem cq_207 (L : Nat) (xs : Nat → Int32) : cq L xs (cM207 L xs) 102 15543 cla_103 cli_11 := cq_al (cq_206 L xs)
def cla_104 : List (Nat × Nat × Nat) := (67, 50, 102) :: cla_103
theorem cq_208 (L : Nat) (xs : Nat → Int32) : cq L xs (cM208 L xs) 102 15543 cla_104 cli_11 := cq_A (by decide) (cq_207 L xs)
def cli_12 : List (Nat × Nat × Int32) := (67, 58, (nM 0)) :: cli_11
theorem cq_209 (L : Nat) (xs : Nat → Int32) : cq L xs (cM209 L xs) 102 15543 cla_104 cli_12 := cq_I (by decide) (cq_208 L xs)
theorem cq_210 (L : Nat) (xs : Nat → Int32) : cq L xs (cM210 L xs) 103 15553 cla_104 cli_12 := cq_al (cq_209 L xs)
def cla_105 : List (Nat × Nat × Nat) := (67, 60, 103) :: cla_104
theorem cq_211 (L : Nat) (xs : Nat → Int32) : cq L xs (cM211 L xs) 103 15553 cla_105 cli_12 := cq_A (by decide) (cq_210 L xs)
theorem cq_212 (L : Nat) (xs : Nat → Int32) : cq L xs (cM212 L xs) 104 15563 cla_105 cli_12 := cq_al (cq_211 L xs)
def cla_106 : List (Nat × Nat × Nat) := (67, 61, 104) :: cla_105
theorem cq_213 (L : Nat) (xs : Nat → Int32) : cq L xs (cM213 L xs) 104 15563 cla_106 cli_12 := cq_A (by decide) (cq_212 L xs)
theorem cq_214 (L : Nat) (xs : Nat → Int32) : cq L xs (cM214 L xs) 105 15863 cla_106 cli_12 := cq_al (cq_213 L xs)
def cla_107 : List (Nat × Nat × Nat) := (67, 62, 105) :: cla_106
theorem cq_215 (L : Nat) (xs : Nat → Int32) : cq L xs (cM215 L xs) 105 15863 cla_107 cli_12 := cq_A (by decide) (cq_214 L xs)
theorem cq_216 (L : Nat) (xs : Nat → Int32) : cq L xs (cM216 L xs) 106 16163 cla_107 cli_12 := cq_al (cq_215 L xs)
def cla_108 : List (Nat × Nat × Nat) := (67, 63, 106) :: cla_107
theorem cq_217 (L : Nat) (xs : Nat → Int32) : cq L xs (cM217 L xs) 106 16163 cla_108 cli_12 := cq_A (by decide) (cq_216 L xs)
theorem cq_218 (L : Nat) (xs : Nat → Int32) : cq L xs (cM218 L xs) 107 16463 cla_108 cli_12 := cq_al (cq_217 L xs)
def cla_109 : List (Nat × Nat × Nat) := (67, 64, 107) :: cla_108
theorem cq_219 (L : Nat) (xs : Nat → Int32) : cq L xs (cM219 L xs) 107 16463 cla_109 cli_12 := cq_A (by decide) (cq_218 L xs)
theorem cq_220 (L : Nat) (xs : Nat → Int32) : cq L xs (cM220 L xs) 108 16763 cla_109 cli_12 := cq_al (cq_219 L xs)
def cla_110 : List (Nat × Nat × Nat) := (67, 65, 108) :: cla_109
theorem cq_221 (L : Nat) (xs : Nat → Int32) : cq L xs (cM221 L xs) 108 16763 cla_110 cli_12 := cq_A (by decide) (cq_220 L xs)
theorem cq_222 (L : Nat) (xs : Nat → Int32) : cq L xs (cM222 L xs) 109 23963 cla_110 cli_12 := cq_al (cq_221 L xs)
def cla_111 : List (Nat × Nat × Nat) := (67, 66, 109) :: cla_110
theorem cq_223 (L : Nat) (xs : Nat → Int32) : cq L xs (cM223 L xs) 109 23963 cla_111 cli_12 := cq_A (by decide) (cq_222 L xs)
theorem cq_224 (L : Nat) (xs : Nat → Int32) : cq L xs (cM224 L xs) 110 31163 cla_111 cli_12 := cq_al (cq_223 L xs)
def cla_112 : List (Nat × Nat × Nat) := (67, 67, 110) :: cla_111
theorem cq_225 (L : Nat) (xs : Nat → Int32) : cq L xs (cM225 L xs) 110 31163 cla_112 cli_12 := cq_A (by decide) (cq_224 L xs)
theorem cq_226 (L : Nat) (xs : Nat → Int32) : cq L xs (cM226 L xs) 111 38363 cla_112 cli_12 := cq_al (cq_225 L xs)
def cla_113 : List (Nat × Nat × Nat) := (67, 68, 111) :: cla_112
theorem cq_227 (L : Nat) (xs : Nat → Int32) : cq L xs (cM227 L xs) 111 38363 cla_113 cli_12 := cq_A (by decide) (cq_226 L xs)
theorem cq_228 (L : Nat) (xs : Nat → Int32) : cq L xs (cM228 L xs) 112 45563 cla_113 cli_12 := cq_al (cq_227 L xs)
def cla_114 : List (Nat × Nat × Nat) := (67, 69, 112) :: cla_113
theorem cq_229 (L : Nat) (xs : Nat → Int32) : cq L xs (cM229 L xs) 112 45563 cla_114 cli_12 := cq_A (by decide) (cq_228 L xs)
theorem cq_230 (L : Nat) (xs : Nat → Int32) : cq L xs (cM230 L xs) 113 52763 cla_114 cli_12 := cq_al (cq_229 L xs)
def cla_115 : List (Nat × Nat × Nat) := (67, 70, 113) :: cla_114
theorem cq_231 (L : Nat) (xs : Nat → Int32) : cq L xs (cM231 L xs) 113 52763 cla_115 cli_12 := cq_A (by decide) (cq_230 L xs)
theorem cq_232 (L : Nat) (xs : Nat → Int32) : cq L xs (cM232 L xs) 114 59963 cla_115 cli_12 := cq_al (cq_231 L xs)
def cla_116 : List (Nat × Nat × Nat) := (67, 71, 114) :: cla_115
theorem cq_233 (L : Nat) (xs : Nat → Int32) : cq L xs (cM233 L xs) 114 59963 cla_116 cli_12 := cq_A (by decide) (cq_232 L xs)
theorem cq_234 (L : Nat) (xs : Nat → Int32) : cq L xs (cM234 L xs) 115 59975 cla_116 cli_12 := cq_al (cq_233 L xs)
def cla_117 : List (Nat × Nat × Nat) := (67, 72, 115) :: cla_116
theorem cq_235 (L : Nat) (xs : Nat → Int32) : cq L xs (cM235 L xs) 115 59975 cla_117 cli_12 := cq_A (by decide) (cq_234 L xs)
theorem cq_236 (L : Nat) (xs : Nat → Int32) : cq L xs (cM236 L xs) 116 60675 cla_117 cli_12 := cq_al (cq_235 L xs)
def cla_118 : List (Nat × Nat × Nat) := (67, 73, 116) :: cla_117
theorem cq_237 (L : Nat) (xs : Nat → Int32) : cq L xs (cM237 L xs) 116 60675 cla_118 cli_12 := cq_A (by decide) (cq_236 L xs)
theorem cq_238 (L : Nat) (xs : Nat → Int32) : cq L xs (cM238 L xs) 117 61375 cla_118 cli_12 := cq_al (cq_237 L xs)
def cla_119 : List (Nat × Nat × Nat) := (67, 74, 117) :: cla_118
theorem cq_239 (L : Nat) (xs : Nat → Int32) : cq L xs (cM239 L xs) 117 61375 cla_119 cli_12 := cq_A (by decide) (cq_238 L xs)
theorem cq_240 (L : Nat) (xs : Nat → Int32) : cq L xs (cM240 L xs) 118 61495 cla_119 cli_12 := cq_al (cq_239 L xs)
def cla_120 : List (Nat × Nat × Nat) := (67, 80, 118) :: cla_119
theorem cq_241 (L : Nat) (xs : Nat → Int32) : cq L xs (cM241 L xs) 118 61495 cla_120 cli_12 := cq_A (by decide) (cq_240 L xs)
def rowchk : List Nat → Nat → Nat → Bool
  | [], _, _ => true
  | v :: t, i, k => (Nat.beq v 0 || Nat.beq (lkA cla_120 i k) v) && rowchk t i (k + 1)
theorem rowchk_ok : ∀ (l : List Nat) (i j k : Nat), rowchk l i j = true → l.getD k 0 ≠ 0 → lkA cla_120 i (j + k) = l.getD k 0
  | [], _, _, _, _, h => absurd rfl h
  | v :: t, i, j, 0, h, h0 => by
    unfold rowchk at h
    rw [Bool.and_eq_true, Bool.or_eq_true] at h
    rcases h.1 with h1 | h1
    · exact absurd (Nat.eq_of_beq_eq_true h1) h0
    · exact Nat.eq_of_beq_eq_true h1
  | v :: t, i, j, k + 1, h, h0 => by
    unfold rowchk at h
    rw [Bool.and_eq_true] at h
    have := rowchk_ok t i (j + 1) k h.2 h0
    rw [show j + (k + 1) = j + 1 + k by omega]
    exact this
theorem cA_chk : ∀ i, i < 118 → (i < 9 ∧ i ≠ 5 ∧ i ≠ 6 ∧ am_FAT.getD i [] = []) ∨ ((i = 5 ∨ i = 6) ∧ am_FAT.getD i [] = [am_A0 i 0]) ∨ (9 ≤ i ∧ rowchk (am_FAT.getD i []) i 0 = true) := by decide +kernel
theorem c_good (L : Nat) (xs : Nat → Int32) : bm_good (cM241 L xs) := by
  obtain ⟨h9, a, b, c, d, e, f, g1, g2⟩ := cq_241 L xs
  refine ⟨by rw [a]; exact Nat.le_refl _, fun i k hi hf => ?_⟩
  rcases cA_chk i hi with ⟨_, _, _, h⟩ | ⟨h56, h⟩ | ⟨h1, h2⟩
  · unfold am_FA at hf
    rw [h] at hf
    exact absurd rfl hf
  · unfold am_FA at hf ⊢
    rw [(e i (by omega)).1]
    rw [h] at hf ⊢
    cases k with
    | zero => rfl
    | succ k => exact absurd rfl hf
  · rw [c i k h1]
    have := rowchk_ok _ i 0 k h2 hf
    rw [Nat.zero_add] at this
    exact this
theorem cntF_0 : ∀ n, cntF (fun _ => 0) n = 0 := by
  intro n
  induction n with
  | zero => rfl
  | succ n ih => unfold cntF; rw [ih]; rfl
theorem c_slots : lkI cli_12 9 14 = nI 0 ∧ lkI cli_12 9 15 = nI 0 ∧ lkI cli_12 9 16 = nI 0 ∧ lkI cli_12 9 17 = nI 50 ∧ lkI cli_12 10 7 = nI 0 ∧ lkI cli_12 10 8 = nI 0 ∧ lkI cli_12 10 9 = nI 0 ∧ lkI cli_12 18 0 = nI 0 ∧ lkI cli_12 18 1 = nI 1 ∧ lkI cli_12 18 2 = nI 0 ∧ lkI cli_12 18 3 = nM 0 ∧ lkI cli_12 19 8 = nI 0 ∧ lkI cli_12 19 9 = nI 0 ∧ lkI cli_12 19 10 = nI 0 ∧ lkI cli_12 28 5 = nI 0 ∧ lkI cli_12 41 12 = nI 0 ∧ lkI cli_12 55 4 = nI 0 ∧ lkI cli_12 59 7 = nM 0 ∧ lkI cli_12 67 0 = nI 0 ∧ lkI cli_12 67 1 = nI 0 ∧ lkI cli_12 67 2 = nI 1 ∧ lkI cli_12 67 3 = nI 0 ∧ lkI cli_12 67 4 = nM 0 ∧ lkI cli_12 67 5 = nI 0 ∧ lkI cli_12 67 6 = nI 50 ∧ lkI cli_12 67 9 = nI 0 ∧ lkI cli_12 67 15 = nI 0 ∧ lkI cli_12 67 16 = nI 0 ∧ lkI cli_12 67 17 = nI 0 ∧ lkI cli_12 67 37 = nI 0 ∧ lkI cli_12 67 43 = nI 0 ∧ lkI cli_12 67 52 = nI 0 ∧ lkI cli_12 67 54 = nI 0 ∧ lkI cli_12 67 58 = nM 0 ∧ lkI cli_12 67 59 = nI 0 := by decide +kernel
theorem c_zero : ∀ i, i < 118 → zsp i = false → lkI cli_12 i = fun _ => 0 := by
  intro i _ h
  unfold zsp at h
  simp only [Bool.or_eq_false_iff] at h
  obtain ⟨⟨⟨⟨h1, h2⟩, h3⟩, h4⟩, h5⟩ := h
  funext k
  have h1 := nbeq_f h1
  have h2 := nbeq_f h2
  have h3 := nbeq_f h3
  have h4 := nbeq_f h4
  have h5 := nbeq_f h5
  simp only [lkI, cli_0, cli_1, cli_2, cli_3, cli_4, cli_5, cli_6, cli_7, cli_8, cli_9, cli_10, cli_11, cli_12, nbeq_ne (Ne.symm h1), nbeq_ne (Ne.symm h2), nbeq_ne (Ne.symm h3), nbeq_ne (Ne.symm h4), nbeq_ne (Ne.symm h5), Bool.false_and, if_neg, Bool.false_eq_true, if_false]
theorem c_inv (L : Nat) (xs : Nat → Int32) : Inv (cM241 L xs) := by
  obtain ⟨c9, cN, cS, cA, cI, c0, cK, g1, g2⟩ := cq_241 L xs
  have cZ : ∀ i, 9 ≤ i → i < 118 → zsp i = false → mI (cM241 L xs) i = fun _ => 0 := fun i h9 h h2 => (funext fun k => cI i k h9).trans (c_zero i h h2)
  obtain ⟨s9_14, s9_15, s9_16, s9_17, s10_7, s10_8, s10_9, s18_0, s18_1, s18_2, s18_3, s19_8, s19_9, s19_10, s28_5, s41_12, s55_4, s59_7, s67_0, s67_1, s67_2, s67_3, s67_4, s67_5, s67_6, s67_9, s67_15, s67_16, s67_17, s67_37, s67_43, s67_52, s67_54, s67_58, s67_59⟩ := c_slots
  have e0 : (mI (cM241 L xs) 9 15) = nI 0 := (cI 9 15 (by decide)).trans s9_15
  have e1 : (mI (cM241 L xs) 67 0) = nI 0 := (cI 67 0 (by decide)).trans s67_0
  have e2 : (mI (cM241 L xs) 9 16) = nI 0 := (cI 9 16 (by decide)).trans s9_16
  have e3 : (mI (cM241 L xs) 67 5) = nI 0 := (cI 67 5 (by decide)).trans s67_5
  have e4 : (mI (cM241 L xs) 9 17) = nI 50 := (cI 9 17 (by decide)).trans s9_17
  have e5 : (mI (cM241 L xs) 67 6) = nI 50 := (cI 67 6 (by decide)).trans s67_6
  have e6 : (mI (cM241 L xs) 18 0) = nI 0 := (cI 18 0 (by decide)).trans s18_0
  have e7 : (mI (cM241 L xs) 67 1) = nI 0 := (cI 67 1 (by decide)).trans s67_1
  have e8 : (mI (cM241 L xs) 18 1) = nI 1 := (cI 18 1 (by decide)).trans s18_1
  have e9 : (mI (cM241 L xs) 67 2) = nI 1 := (cI 67 2 (by decide)).trans s67_2
  have e10 : (mI (cM241 L xs) 18 2) = nI 0 := (cI 18 2 (by decide)).trans s18_2
  have e11 : (mI (cM241 L xs) 67 3) = nI 0 := (cI 67 3 (by decide)).trans s67_3
  have e12 : (mI (cM241 L xs) 18 3) = nM 0 := (cI 18 3 (by decide)).trans s18_3
  have e13 : (mI (cM241 L xs) 67 4) = nM 0 := (cI 67 4 (by decide)).trans s67_4
  have e14 : (mI (cM241 L xs) 11) = (fun _ => 0) := cZ 11 (by decide) (by decide) rfl
  have e15 : (mI (cM241 L xs) 68) = (fun _ => 0) := cZ 68 (by decide) (by decide) rfl
  have e16 : (mI (cM241 L xs) 12) = (fun _ => 0) := cZ 12 (by decide) (by decide) rfl
  have e17 : (mI (cM241 L xs) 69) = (fun _ => 0) := cZ 69 (by decide) (by decide) rfl
  have e18 : (mI (cM241 L xs) 10 8) = nI 0 := (cI 10 8 (by decide)).trans s10_8
  have e19 : (mI (cM241 L xs) 10 9) = nI 0 := (cI 10 9 (by decide)).trans s10_9
  have e20 : (mI (cM241 L xs) 10 7) = nI 0 := (cI 10 7 (by decide)).trans s10_7
  have e21 : (mI (cM241 L xs) 67 9) = nI 0 := (cI 67 9 (by decide)).trans s67_9
  have e22 : (mI (cM241 L xs) 13) = (fun _ => 0) := cZ 13 (by decide) (by decide) rfl
  have e23 : (mI (cM241 L xs) 14) = (fun _ => 0) := cZ 14 (by decide) (by decide) rfl
  have e24 : (mI (cM241 L xs) 15) = (fun _ => 0) := cZ 15 (by decide) (by decide) rfl
  have e25 : (mI (cM241 L xs) 16) = (fun _ => 0) := cZ 16 (by decide) (by decide) rfl
  have e26 : (mI (cM241 L xs) 70) = (fun _ => 0) := cZ 70 (by decide) (by decide) rfl
  have e27 : (mI (cM241 L xs) 71) = (fun _ => 0) := cZ 71 (by decide) (by decide) rfl
  have e28 : (mI (cM241 L xs) 72) = (fun _ => 0) := cZ 72 (by decide) (by decide) rfl
  have e29 : (mI (cM241 L xs) 73) = (fun _ => 0) := cZ 73 (by decide) (by decide) rfl
  have e30 : (mI (cM241 L xs) 19 9) = nI 0 := (cI 19 9 (by decide)).trans s19_9
  have e31 : (mI (cM241 L xs) 67 15) = nI 0 := (cI 67 15 (by decide)).trans s67_15
  have e32 : (mI (cM241 L xs) 21) = (fun _ => 0) := cZ 21 (by decide) (by decide) rfl
  have e33 : (mI (cM241 L xs) 22) = (fun _ => 0) := cZ 22 (by decide) (by decide) rfl
  have e34 : (mI (cM241 L xs) 75) = (fun _ => 0) := cZ 75 (by decide) (by decide) rfl
  have e35 : (mI (cM241 L xs) 76) = (fun _ => 0) := cZ 76 (by decide) (by decide) rfl
  have e36 : (mI (cM241 L xs) 19 8) = nI 0 := (cI 19 8 (by decide)).trans s19_8
  have e37 : (mI (cM241 L xs) 67 16) = nI 0 := (cI 67 16 (by decide)).trans s67_16
  have e38 : (mI (cM241 L xs) 20) = (fun _ => 0) := cZ 20 (by decide) (by decide) rfl
  have e39 : (mI (cM241 L xs) 77) = (fun _ => 0) := cZ 77 (by decide) (by decide) rfl
  have e40 : (mI (cM241 L xs) 78) = (fun _ => 0) := cZ 78 (by decide) (by decide) rfl
  have e41 : (mI (cM241 L xs) 79) = (fun _ => 0) := cZ 79 (by decide) (by decide) rfl
  have e42 : (mI (cM241 L xs) 80) = (fun _ => 0) := cZ 80 (by decide) (by decide) rfl
  have e43 : (mI (cM241 L xs) 81) = (fun _ => 0) := cZ 81 (by decide) (by decide) rfl
  have e44 : (mI (cM241 L xs) 82) = (fun _ => 0) := cZ 82 (by decide) (by decide) rfl
  have e45 : (mI (cM241 L xs) 83) = (fun _ => 0) := cZ 83 (by decide) (by decide) rfl
  have e46 : (mI (cM241 L xs) 84) = (fun _ => 0) := cZ 84 (by decide) (by decide) rfl
  have e47 : (mI (cM241 L xs) 19 10) = nI 0 := (cI 19 10 (by decide)).trans s19_10
  have e48 : (mI (cM241 L xs) 67 17) = nI 0 := (cI 67 17 (by decide)).trans s67_17
  have e49 : (mI (cM241 L xs) 23) = (fun _ => 0) := cZ 23 (by decide) (by decide) rfl
  have e50 : (mI (cM241 L xs) 24) = (fun _ => 0) := cZ 24 (by decide) (by decide) rfl
  have e51 : (mI (cM241 L xs) 25) = (fun _ => 0) := cZ 25 (by decide) (by decide) rfl
  have e52 : (mI (cM241 L xs) 85) = (fun _ => 0) := cZ 85 (by decide) (by decide) rfl
  have e53 : (mI (cM241 L xs) 86) = (fun _ => 0) := cZ 86 (by decide) (by decide) rfl
  have e54 : (mI (cM241 L xs) 87) = (fun _ => 0) := cZ 87 (by decide) (by decide) rfl
  have e55 : (mI (cM241 L xs) 28 5) = nI 0 := (cI 28 5 (by decide)).trans s28_5
  have e56 : (mI (cM241 L xs) 67 37) = nI 0 := (cI 67 37 (by decide)).trans s67_37
  have e57 : (mI (cM241 L xs) 29) = (fun _ => 0) := cZ 29 (by decide) (by decide) rfl
  have e58 : (mI (cM241 L xs) 92) = (fun _ => 0) := cZ 92 (by decide) (by decide) rfl
  have e59 : (mI (cM241 L xs) 41 12) = nI 0 := (cI 41 12 (by decide)).trans s41_12
  have e60 : (mI (cM241 L xs) 67 43) = nI 0 := (cI 67 43 (by decide)).trans s67_43
  have e61 : (mI (cM241 L xs) 42) = (fun _ => 0) := cZ 42 (by decide) (by decide) rfl
  have e62 : (mI (cM241 L xs) 43) = (fun _ => 0) := cZ 43 (by decide) (by decide) rfl
  have e63 : (mI (cM241 L xs) 44) = (fun _ => 0) := cZ 44 (by decide) (by decide) rfl
  have e64 : (mI (cM241 L xs) 95) = (fun _ => 0) := cZ 95 (by decide) (by decide) rfl
  have e65 : (mI (cM241 L xs) 96) = (fun _ => 0) := cZ 96 (by decide) (by decide) rfl
  have e66 : (mI (cM241 L xs) 97) = (fun _ => 0) := cZ 97 (by decide) (by decide) rfl
  have e67 : (mI (cM241 L xs) 55 4) = nI 0 := (cI 55 4 (by decide)).trans s55_4
  have e68 : (mI (cM241 L xs) 67 54) = nI 0 := (cI 67 54 (by decide)).trans s67_54
  have e69 : (mI (cM241 L xs) 59 7) = nM 0 := (cI 59 7 (by decide)).trans s59_7
  have e70 : (mI (cM241 L xs) 67 58) = nM 0 := (cI 67 58 (by decide)).trans s67_58
  have e71 : (mI (cM241 L xs) 56) = (fun _ => 0) := cZ 56 (by decide) (by decide) rfl
  have e72 : (mI (cM241 L xs) 115) = (fun _ => 0) := cZ 115 (by decide) (by decide) rfl
  have e73 : (mI (cM241 L xs) 9 14) = nI 0 := (cI 9 14 (by decide)).trans s9_14
  have e74 : (mI (cM241 L xs) 67 52) = nI 0 := (cI 67 52 (by decide)).trans s67_52
  have e75 : (mI (cM241 L xs) 67 59) = nI 0 := (cI 67 59 (by decide)).trans s67_59
  have e76 : (mN (cM241 L xs)) = 118 := cN
  have e77 : (msk 9 (mI (cM241 L xs) 102)) = msk 9 (fun _ => 0) := by rw [cZ 102 (by decide) (by decide) rfl]
  have e78 : (msk 9 (mI (cM241 L xs) 103)) = msk 9 (fun _ => 0) := by rw [cZ 103 (by decide) (by decide) rfl]
  have e79 : (msk 270 (mI (cM241 L xs) 104)) = msk 270 (fun _ => 0) := by rw [cZ 104 (by decide) (by decide) rfl]
  have e80 : (msk 270 (mI (cM241 L xs) 105)) = msk 270 (fun _ => 0) := by rw [cZ 105 (by decide) (by decide) rfl]
  have e81 : (msk 270 (mI (cM241 L xs) 106)) = msk 270 (fun _ => 0) := by rw [cZ 106 (by decide) (by decide) rfl]
  have e82 : (msk 270 (mI (cM241 L xs) 107)) = msk 270 (fun _ => 0) := by rw [cZ 107 (by decide) (by decide) rfl]
  have e83 : (msk 6480 (mI (cM241 L xs) 108)) = msk 6480 (fun _ => 0) := by rw [cZ 108 (by decide) (by decide) rfl]
  have e84 : (msk 6480 (mI (cM241 L xs) 109)) = msk 6480 (fun _ => 0) := by rw [cZ 109 (by decide) (by decide) rfl]
  have e85 : (msk 6480 (mI (cM241 L xs) 110)) = msk 6480 (fun _ => 0) := by rw [cZ 110 (by decide) (by decide) rfl]
  have e86 : (msk 6480 (mI (cM241 L xs) 111)) = msk 6480 (fun _ => 0) := by rw [cZ 111 (by decide) (by decide) rfl]
  have e87 : (msk 6480 (mI (cM241 L xs) 112)) = msk 6480 (fun _ => 0) := by rw [cZ 112 (by decide) (by decide) rfl]
  have e88 : (msk 6480 (mI (cM241 L xs) 113)) = msk 6480 (fun _ => 0) := by rw [cZ 113 (by decide) (by decide) rfl]
  have e89 : (mI (cM241 L xs) 1) = am_I0 xs 1 := (c0 1 (by decide)).2.1
  have e90 : (mI (cM241 L xs) 2) = am_I0 xs 2 := (c0 2 (by decide)).2.1
  have e91 : (mI (cM241 L xs) 7) = am_I0 xs 7 := (c0 7 (by decide)).2.1
  have e92 : (mI (cM241 L xs) 8) = am_I0 xs 8 := (c0 8 (by decide)).2.1
  have e93 : (mI (cM241 L xs) 5) = am_I0 xs 5 := (c0 5 (by decide)).2.1
  have e94 : (mI (cM241 L xs) 6) = am_I0 xs 6 := (c0 6 (by decide)).2.1
  have e95 : (mL (cM241 L xs) 3) = am_L0 3 := (c0 3 (by decide)).2.2
  have e96 : (mL (cM241 L xs) 4) = am_L0 4 := (c0 4 (by decide)).2.2
  refine ⟨?_, ?_, ?_, ?_, ?_, ?_, ?_, ?_, ?_, ?_, ?_⟩
  · rw [e0, e1, e2, e3, e4, e5, e6, e7, e8, e9, e10, e11, e12, e13]
    exact ⟨by decide, by decide, by decide, by decide, by decide, by decide, by decide, by decide, by decide, by decide, by decide, by decide, by decide, by decide, by decide, by decide, by decide, by decide, by decide, by decide, by decide⟩
  · rw [e14, e15, e16, e17, e18, e19]
    exact ⟨rfl, rfl, fun _ => Or.inl rfl, fun _ => Or.inl rfl, by rw [cntF_0], by rw [cntF_0]⟩
  · rw [e20, e21, e22, e23, e24, e25, e26, e27, e28, e29]
    exact ⟨rfl, by decide, by decide, rfl, rfl, rfl, rfl, fun j hj => absurd (show (j : Int) < 0 from hj) (by omega)⟩
  · rw [e30, e31, e32, e33, e34, e35]
    exact ⟨rfl, by decide, by decide, rfl, rfl, fun j hj => absurd (show (j : Int) < 0 from hj) (by omega)⟩
  · rw [e36, e37, e30, e0, e32, e33, e38, e39, e40, e41, e42, e43, e44, e45, e46]
    exact ⟨rfl, by decide, by decide, fun j hj => absurd (show (j : Int) < 0 from hj) (by omega), fun j hj => absurd (show (j : Int) < 0 from hj) (by omega), fun j hj => absurd (show (j : Int) < 0 from hj) (by omega), fun j hj => absurd (show (j : Int) < 0 from hj) (by omega), fun j hj => absurd (show (j : Int) < 0 from hj) (by omega), fun j hj => absurd (show (j : Int) < 0 from hj) (by omega), fun j hj => absurd (show (j : Int) < 0 from hj) (by omega), fun j hj => absurd (show (j : Int) < 0 from hj) (by omega), fun j hj => absurd (show (j : Int) < 0 from hj) (by omega), fun j hj => absurd (show (j : Int) < 0 from hj) (by omega), fun f g _ hj => absurd (show (g : Int) < 0 from hj) (by omega)⟩
  · rw [e47, e48, e49, e50, e51, e52, e53, e54]
    exact ⟨rfl, by decide, by decide, rfl, rfl, rfl, fun j hj => absurd (show (j : Int) < 0 from hj) (by omega)⟩
  · rw [e55, e56, e57, e58]
    exact ⟨rfl, by decide, by decide, rfl, fun j hj => absurd (show (j : Int) < 0 from hj) (by omega)⟩
  · rw [e59, e60, e61, e62, e63, e64, e65, e66]
    exact ⟨rfl, by decide, by decide, rfl, rfl, rfl, fun j hj => absurd (show (j : Int) < 0 from hj) (by omega)⟩
  · rw [e67, e68, e69, e70, e71, e72]
    exact ⟨rfl, by decide, by decide, rfl, rfl, fun _ => show -128 ≤ (0 : Int32).toInt ∧ (0 : Int32).toInt ≤ 127 by decide⟩
  · rw [e73, e74, e75, e0, e76, e77, e78, e79, e80, e81, e82, e83, e84, e85, e86, e87, e88]
    refine ⟨rfl, by decide, by decide, fun j hj => absurd (show (j : Int) < 0 from hj) (by omega), Or.inl ⟨(cA 9 13 (by decide)).trans (by decide +kernel), rfl⟩, ?_⟩
    have h62 : dynI (cM241 L xs) 62 = mI (cM241 L xs) 62 := if_neg (by decide)
    rw [h62, cI 62 0 (by decide), cI 62 1 (by decide)]
    decide +kernel
  · rw [e89, e90, e91, e92, e93, e94, e95, e96, e76]
    exact ⟨Nat.le_refl _, fun _ _ => rfl, fun _ _ => rfl, fun _ _ => rfl, fun _ _ => rfl, fun _ _ => rfl, fun _ _ => rfl, by rw [(c0 5 (by decide)).1]; rfl, by rw [(c0 6 (by decide)).1]; rfl, rfl, rfl⟩
theorem ph2_of {ops : okOps Inv} (L : Nat) (xs : Nat → Int32) (hL : L ≤ 4096) : am_Run false 60 279 (am_blk 279 0) [some (.ref 0), none, none, none] [] (am_M0 L xs) (fun r M' => r = some (.int 1) ∧ mN M' ≤ 600009 ∧ mS M' ≤ 7302250) := by
  refine am_ctor 56 L xs _ ?_
  refine bm_run (c_good L xs) ?_
  obtain ⟨h9, a, b, c, d, e, f, g1, g2⟩ := cq_241 L xs
  exact law_loop ops hL (L + 8) 0 _ (by omega) (by omega) ⟨c_inv L xs, f, by omega, by omega, by omega⟩
