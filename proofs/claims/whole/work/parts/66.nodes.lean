/-! the model's nodes: what a tree of them answers, wherever it lies -/
abbrev rwT : Type := Nat → Nat → Int32
def rowG (M : am_M) : rwT := fun t j => mI M (108 + t) j
def shI (lo : Nat) (v : Int32) : Int32 := if v = nM 0 then nM 0 else v + (nI lo - nI 6480)
def agX (lo a hi x : Nat) (G R : rwT) : Prop := ∀ j, a ≤ j → j < hi → R 0 (lo + j) = G 0 (6480 + j) ∧ R 1 (lo + j) = shI lo (G 1 (6480 + j)) ∧ (j ≠ x → R 2 (lo + j) = shI lo (G 2 (6480 + j))) ∧ R 3 (lo + j) = G 3 (6480 + j) ∧ R 4 (lo + j) = G 4 (6480 + j) ∧ R 5 (lo + j) = G 5 (6480 + j)
def mAs (R : rwT) (e : Nat → Int32) (lo F : Nat) (w : Int32) : Option Bool := mAsk (R 0) (R 1) (R 2) (R 3) (R 4) (R 5) e lo F w
def nodeOK (G : rwT) (a hi F0 : Nat) (b : semT) : Prop := a < hi ∧ hi ≤ 720 ∧ ∀ lo R e F, lo + 720 ≤ 7200 → F0 ≤ F → agX lo a hi a G R → mAs R e lo F (nI (lo + a)) = some (b e)
def preOK (stop : Bool) (G : rwT) (x1 xm hi F0 m : Nat) (b : semT) : Prop := x1 ≤ xm ∧ xm < hi ∧ hi ≤ 720 ∧ m + x1 ≤ xm + 1 ∧ ∀ lo R e F, lo + 720 ≤ 7200 → F0 ≤ F → agX lo x1 hi xm G R → ∀ q, mChain (mAs R e lo F) (R 2) stop (q + m) (nI (lo + x1)) = if b e = stop then some stop else mChain (mAs R e lo F) (R 2) stop q (R 2 (lo + xm))
section
variable {G G' R : rwT} {a hi hi' x x1 xm F0 m lo k q : Nat} {b b2 : semT} {stop : Bool} {o : Bool → Bool → Bool}
theorem nI_nM {k : Nat} (h : k < 2147483648) : nI k ≠ nM 0 := fun e => by
  have := congrArg Int32.toInt e
  rw [nI_toInt h, nM_toInt (by decide)] at this
  omega
theorem sh_add {k lo : Nat} : nI (6480 + k) + (nI lo - nI 6480) = nI (lo + k) := by
  have e1 : nI (6480 + k) = nI 6480 + nI k := (nI_add 6480 k).symm
  have e2 : nI (lo + k) = nI lo + nI k := (nI_add lo k).symm
  rw [e1, e2]
  generalize nI 6480 = a
  generalize nI lo = b
  generalize nI k = c
  rw [Int32.sub_eq_add_neg, Int32.add_comm a c, Int32.add_assoc, Int32.add_comm b (-a), ← Int32.add_assoc a, Int32.add_right_neg, Int32.zero_add, Int32.add_comm]
theorem shI_no : shI lo (nM 0) = nM 0 := if_pos rfl
theorem shI_at (h : k < 7200) : shI lo (nI (6480 + k)) = nI (lo + k) := by
  unfold shI
  rw [if_neg (nI_nM (by omega)), sh_add]
theorem agX_sub (h : agX lo a hi x G R) (h1 : a ≤ x1) (h2 : hi' ≤ hi) (h3 : ∀ j, x1 ≤ j → j < hi' → j ≠ m → j ≠ x) : agX lo x1 hi' m G R := fun j j1 j2 => by
  obtain ⟨a0, a1, a2, a3, a4, a5⟩ := h j (by omega) (by omega)
  exact ⟨a0, a1, fun q => a2 (h3 j j1 j2 q), a3, a4, a5⟩
def sameG (a hi x : Nat) (G G' : rwT) : Prop := ∀ t j, t < 6 → a ≤ j → j < hi → (t = 2 → j ≠ x) → G' t (6480 + j) = G t (6480 + j)
theorem agX_ext (h : agX lo a hi x G' R) (e : sameG a hi x G G') : agX lo a hi x G R := fun j j1 j2 => by
  obtain ⟨a0, a1, a2, a3, a4, a5⟩ := h j j1 j2
  refine ⟨?_, ?_, fun q => ?_, ?_, ?_, ?_⟩
  · rw [a0, e 0 j (by omega) j1 j2 (fun q => absurd q (by decide))]
  · rw [a1, e 1 j (by omega) j1 j2 (fun q => absurd q (by decide))]
  · rw [a2 q, e 2 j (by omega) j1 j2 (fun _ => q)]
  · rw [a3, e 3 j (by omega) j1 j2 (fun q => absurd q (by decide))]
  · rw [a4, e 4 j (by omega) j1 j2 (fun q => absurd q (by decide))]
  · rw [a5, e 5 j (by omega) j1 j2 (fun q => absurd q (by decide))]
theorem node_ext (h : nodeOK G a hi F0 b) (e : sameG a hi a G G') : nodeOK G' a hi F0 b := ⟨h.1, h.2.1, fun lo R ev F h1 h2 h3 => h.2.2 lo R ev F h1 h2 (agX_ext h3 e)⟩
theorem pre_ext (h : preOK stop G x1 xm hi F0 m b) (e : sameG x1 hi xm G G') : preOK stop G' x1 xm hi F0 m b := ⟨h.1, h.2.1, h.2.2.1, h.2.2.2.1, fun lo R ev F h1 h2 h3 => h.2.2.2.2 lo R ev F h1 h2 (agX_ext h3 e)⟩
theorem mAs_in {e : Nat → Int32} {F : Nat} (h1 : lo + 720 ≤ 7200) (h2 : k < 720) : mAs R e lo (F + 1) (nI (lo + k)) = (if (R 0 (lo + k)).toInt = 0 then mChain (mAs R e lo F) (R 2) true 721 (R 1 (lo + k)) else if (R 0 (lo + k)).toInt = 1 then mChain (mAs R e lo F) (R 2) false 721 (R 1 (lo + k)) else if (R 0 (lo + k)).toInt = 2 then (mAs R e lo F (R 1 (lo + k))).map (fun b => !b) else if (R 0 (lo + k)).toInt = 3 then mLeaf (R 3) (R 4) (R 5) e (lo + k) else none) := by
  show mAsk _ _ _ _ _ _ _ _ _ _ = _
  rw [mAsk, if_pos (by rw [nI_toInt (by omega)]; omega), nI_clamp (by omega)]
  rfl
theorem node_leaf {k s q : Nat} (ha : a < 720) (hk : k < 12) (hs : s < 3) (hq : q < 100000) (g0 : G 0 (6480 + a) = nI 3) (g3 : G 3 (6480 + a) = nI k) (g4 : G 4 (6480 + a) = nI (if s = 0 then 60 else if s = 1 then 62 else 61)) (g5 : G 5 (6480 + a) = nI q) : nodeOK G a (a + 1) 1 (fun e => cmpF (e k) s q) := by
  refine ⟨by omega, by omega, fun lo R e F h1 h2 h3 => ?_⟩
  obtain ⟨a0, a1, a2, a3, a4, a5⟩ := h3 a (Nat.le_refl _) (by omega)
  obtain ⟨F, rfl⟩ : ∃ F', F = F' + 1 := ⟨F - 1, by omega⟩
  rw [mAs_in h1 ha, a0, g0]
  rw [if_neg (by decide), if_neg (by decide), if_neg (by decide), if_pos (by decide)]
  unfold mLeaf
  rw [a3, a4, a5, g3, g4, g5]
  rw [if_pos (by rw [nI_toInt (by omega), nI_toInt (by omega)]; omega), nI_clamp (by omega), nI_clamp (by omega)]
  rcases (show s = 0 ∨ s = 1 ∨ s = 2 by omega) with rfl | rfl | rfl
  · rw [if_pos (by decide)]
  · rw [if_neg (by decide), if_pos (by decide)]
  · rw [if_neg (by decide), if_neg (by decide), if_pos (by decide)]
theorem node_not (g0 : G 0 (6480 + a) = nI 2) (g1 : G 1 (6480 + a) = nI (6480 + (a + 1))) (h : nodeOK G (a + 1) hi F0 b) : nodeOK G a hi (F0 + 1) (fun e => !(b e)) := by
  have h0 := h.1
  have h9 := h.2.1
  refine ⟨by omega, h.2.1, fun lo R e F h1 h2 h3 => ?_⟩
  obtain ⟨a0, a1, a2, a3, a4, a5⟩ := h3 a (Nat.le_refl _) (by omega)
  obtain ⟨F, rfl⟩ : ∃ F', F = F' + 1 := ⟨F - 1, by omega⟩
  rw [mAs_in h1 (by omega), a0, g0]
  rw [if_neg (by decide), if_neg (by decide), if_pos (by decide), a1, g1, shI_at (by omega)]
  rw [h.2.2 lo R e F h1 (by omega) (agX_sub h3 (by omega) (Nat.le_refl _) (fun j j1 j2 j3 => by omega))]
  rfl
theorem pre_one (h : nodeOK G x1 hi F0 b) : preOK stop G x1 x1 hi F0 1 b := by
  have h0 := h.1
  have h9 := h.2.1
  refine ⟨Nat.le_refl _, h.1, h.2.1, by omega, fun lo R e F h1 h2 h3 q => ?_⟩
  rw [mChain, if_neg (nI_nM (by omega)), h.2.2 lo R e F h1 h2 h3, nI_clamp (by omega)]
theorem pre_step (ho : ∀ u v, o u v = stop ↔ (u = stop ∨ v = stop)) (h : preOK stop G x1 xm hi F0 m b) (g : G 2 (6480 + xm) = nI (6480 + hi)) (h' : nodeOK G hi hi' F0 b2) : preOK stop G x1 hi hi' F0 (m + 1) (fun e => o (b e) (b2 e)) := by
  obtain ⟨p1, p2, p3, p4, p5⟩ := h
  obtain ⟨n1, n2, n3⟩ := h'
  refine ⟨by omega, n1, n2, by omega, fun lo R e F h1 h2 h3 q => ?_⟩
  have L := (h3 xm (by omega) (by omega)).2.2.1 (by omega)
  rw [g, shI_at (by omega)] at L
  rw [show q + (m + 1) = (q + 1) + m by omega, p5 lo R e F h1 h2 (agX_sub h3 (Nat.le_refl _) (by omega) (fun j j1 j2 j3 => by omega)) (q + 1), L]
  have N := n3 lo R e F h1 h2 (agX_sub h3 (by omega) (Nat.le_refl _) (fun j j1 j2 j3 => j3))
  rw [mChain, if_neg (nI_nM (by omega)), N, nI_clamp (by omega)]
  by_cases z : b e = stop
  · rw [if_pos z, if_pos ((ho _ _).mpr (Or.inl z))]
  · rw [if_neg z]
    show (if b2 e = stop then some stop else _) = _
    by_cases y : b2 e = stop
    · rw [if_pos y, if_pos ((ho _ _).mpr (Or.inr y))]
    · rw [if_neg y, if_neg (fun q => ((ho _ _).mp q).elim z y)]
theorem node_chain (hb : stop = true ∧ G 0 (6480 + a) = nI 0 ∨ stop = false ∧ G 0 (6480 + a) = nI 1) (g1 : G 1 (6480 + a) = nI (6480 + (a + 1))) (h : preOK stop G (a + 1) xm hi F0 m b) (g2 : G 2 (6480 + xm) = nM 0) : nodeOK G a hi (F0 + 1) b := by
  obtain ⟨p1, p2, p3, p4, p5⟩ := h
  refine ⟨by omega, p3, fun lo R e F h1 h2 h3 => ?_⟩
  obtain ⟨a0, a1, a2, a3, a4, a5⟩ := h3 a (Nat.le_refl _) (by omega)
  obtain ⟨F, rfl⟩ : ∃ F', F = F' + 1 := ⟨F - 1, by omega⟩
  have L := (h3 xm (by omega) (by omega)).2.2.1 (by omega)
  rw [g2, shI_no] at L
  have C := p5 lo R e F h1 (by omega) (agX_sub h3 (by omega) (Nat.le_refl _) (fun j j1 j2 j3 => by omega)) (721 - m)
  rw [show 721 - m + m = 721 by omega, L] at C
  obtain ⟨q, hq⟩ : ∃ q, 721 - m = q + 1 := ⟨720 - m, by omega⟩
  have C0 : mChain (mAs R e lo F) (R 2) stop (q + 1) (nM 0) = some (!stop) := by rw [mChain, if_pos rfl]
  rw [hq, C0] at C
  rw [mAs_in h1 (by omega), a0, a1, g1, shI_at (by omega)]
  rcases hb with ⟨rfl, g0⟩ | ⟨rfl, g0⟩
  · rw [g0, if_pos (by decide), C]
    cases b e <;> rfl
  · rw [g0, if_neg (by decide), if_pos (by decide), C]
    cases b e <;> rfl
end
