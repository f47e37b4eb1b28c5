/-! sets of rules: what is kept, what is new -/
section
variable {nk nf nn nw ns nu nk' nf' nn' nw' ns' nu' env : Nat → Int32} {lo : Nat}
theorem mChain_ext {ask ask' : Int32 → Option Bool} {gn gn' : Nat → Int32} {stop : Bool} (h1 : ∀ k, ask k = ask' k) (h2 : ∀ k b, ask k = some b → gn k.toNatClampNeg = gn' k.toNatClampNeg) : ∀ f k, mChain ask gn stop f k = mChain ask' gn' stop f k
  | 0, _ => rfl
  | f + 1, k => by
    rw [mChain, mChain, ← h1 k]
    by_cases z : k = nM 0
    · rw [if_pos z, if_pos z]
    · rw [if_neg z, if_neg z]
      cases e : ask k with
      | none => rfl
      | some b =>
        show (if b = stop then some stop else _) = if b = stop then some stop else _
        rw [← h2 k b e, mChain_ext h1 h2 f]
theorem mAsk_ext (h : ∀ j, lo ≤ j → j < lo + 720 → nk' j = nk j ∧ nf' j = nf j ∧ nn' j = nn j ∧ nw' j = nw j ∧ ns' j = ns j ∧ nu' j = nu j) : ∀ d k, mAsk nk nf nn nw ns nu env lo d k = mAsk nk' nf' nn' nw' ns' nu' env lo d k
  | 0, _ => rfl
  | d + 1, k => by
    have I : mAsk nk nf nn nw ns nu env lo d = mAsk nk' nf' nn' nw' ns' nu' env lo d := funext (mAsk_ext h d)
    have N : ∀ w b, mAsk nk nf nn nw ns nu env lo d w = some b → nn w.toNatClampNeg = nn' w.toNatClampNeg := by
      intro w b e
      cases d with
      | zero => cases e
      | succ d =>
        rw [mAsk] at e
        by_cases z : (lo : Int) ≤ w.toInt ∧ w.toInt < lo + 720
        · have c : w.toNatClampNeg = w.toInt.toNat := rfl
          exact (h w.toNatClampNeg (by omega) (by omega)).2.2.1.symm
        · rw [if_neg z] at e; cases e
    rw [mAsk, mAsk]
    by_cases z : (lo : Int) ≤ k.toInt ∧ k.toInt < lo + 720
    · have c : k.toNatClampNeg = k.toInt.toNat := rfl
      obtain ⟨a0, a1, a2, a3, a4, a5⟩ := h k.toNatClampNeg (by omega) (by omega)
      have C : ∀ stop f v, mChain (mAsk nk nf nn nw ns nu env lo d) nn stop f v = mChain (mAsk nk nf nn nw ns nu env lo d) nn' stop f v := fun stop => mChain_ext (fun _ => rfl) N
      rw [if_pos z, if_pos z, a0, a1, C, C, ← I]
      have L : mLeaf nw' ns' nu' env k.toNatClampNeg = mLeaf nw ns nu env k.toNatClampNeg := by
        unfold mLeaf
        rw [a3, a4, a5]
      rw [L]
    · rw [if_neg z, if_neg z]
end
section
variable {A A' : Nat → Nat → Nat} {D D' : Nat → Nat → Int32} {K K' : Nat → Nat × Nat} {N N' r k : Nat} {st tk so of_ co wh nk nf nn nw ns nu st' tk' so' of' co' wh' nk' nf' nn' nw' ns' nu' : Nat → Int32}
theorem set_keep (h : setOK A D K N st tk so of_ co wh nk nf nn nw ns nu r k) (hA : ∀ i, i < N → ∀ j, 118 ≤ i → A' i j = A i j) (hr : 118 ≤ r) (hD : ∀ i, i < N → 118 ≤ i → D' i = D i) (hK : ∀ i, i < N → K' i = K i) (hN : N ≤ N') (h1 : st' k = st k) (h2 : tk' k = tk k) (h3 : ∀ i, i < 30 → so' (30 * k + i) = so (30 * k + i) ∧ of' (30 * k + i) = of_ (30 * k + i) ∧ co' (30 * k + i) = co (30 * k + i) ∧ wh' (30 * k + i) = wh (30 * k + i)) (h4 : ∀ j, 720 * k ≤ j → j < 720 * k + 720 → nk' j = nk j ∧ nf' j = nf j ∧ nn' j = nn j ∧ nw' j = nw j ∧ ns' j = ns j ∧ nu' j = nu j) : setOK A' D' K' N' st' tk' so' of' co' wh' nk' nf' nn' nw' ns' nu' r k := by
  obtain ⟨ln, cd, n, cl, a1, a2, a3, a4, a5, a6, a7, a8, a9, a10, a11, a12, a13, a14, a15, a16⟩ := h
  refine ⟨ln, cd, n, cl, ?_, ?_, a3, a4, by omega, by omega, by omega, ?_, ?_, ?_, a11, a12, ?_, ?_, ?_, fun i hi => ?_⟩
  · rw [hA r a5 2 hr]; exact a1
  · rw [hA r a5 3 hr]; exact a2
  · rw [hK r a5]; exact a8
  · rw [hK ln a6]; exact a9
  · rw [hK cd a7]; exact a10
  · rw [hD r a5 hr, h2]; exact a13
  · rw [hD r a5 hr]; exact a14
  · rw [h1]; exact a15
  · obtain ⟨b1, b2⟩ := a16 i hi
    obtain ⟨c1, c2, c3, c4⟩ := h3 i (by omega)
    have E : (fun env : Nat → Int32 => mAsk nk' nf' nn' nw' ns' nu' (msk 12 env) (720 * k) 40 (wh (30 * k + i))) = (fun env => mAsk nk nf nn nw ns nu (msk 12 env) (720 * k) 40 (wh (30 * k + i))) := funext fun env => (mAsk_ext h4 40 _).symm
    rw [c1, c2, c3, c4, hD ln a6 a3, hD cd a7 a4, E]
    exact ⟨b1, b2⟩
/-- the statement of a line, on both sides -/
theorem rule_new {B : Nat → Int32} {n i q : Nat} {M : am_M} {l : Nat → Int32} {s o c : Int32} (hp : (pRu (tkT B n) i).1 = true) (h : ruleM B n i q M) (e1 : s = mI M 104 q) (e2 : o = mI M 105 q) (e3 : c = mI M 106 q) (l0 : l 0 = nI (tkT B n i)) (l1 : l 1 = rAim (tkT B n) i) (l2 : l 2 = nI (rSum (tkT B n) i)) : ruleOK l s o c := by
  obtain ⟨r17, r18, r19, r20, r21⟩ := h
  rw [e1, e2, e3]
  unfold ruleOK
  rw [l0, l1, l2]
  unfold rAim rSum
  unfold pRu at hp
  by_cases z1 : tkT B n i = 17 ∨ tkT B n i = 18
  · rw [if_pos z1] at hp ⊢
    by_cases z2 : 4 ≤ tkT B n (i + 1) ∧ tkT B n (i + 1) < 8
    · rcases z1 with z1 | z1
      · obtain ⟨p1, p2⟩ := r17 z1
        exact Or.inl ⟨by rw [z1], p1, tkT B n (i + 1) - 4, by omega, rfl, p2⟩
      · obtain ⟨p1, p2⟩ := r18 z1
        exact Or.inr (Or.inl ⟨by rw [z1], p1, tkT B n (i + 1) - 4, by omega, rfl, p2⟩)
    · rw [if_neg z2] at hp; cases hp
  · rw [if_neg z1] at hp ⊢
    by_cases z2 : tkT B n i = 21
    · rw [if_pos z2] at hp ⊢
      obtain ⟨p1, p2, p3⟩ := r21 z2
      by_cases z3 : 1000 ≤ tkT B n (i + 1)
      · rw [if_pos z3] at hp
        by_cases z4 : tkT B n (i + 2) = 22
        · rw [if_pos z4] at hp
          by_cases z5 : 12 ≤ tkT B n (i + 3) ∧ tkT B n (i + 3) < 17
          · exact Or.inr (Or.inr (Or.inr (Or.inr ⟨by rw [z2], p1, ⟨tkT B n (i + 3) - 12, by omega, rfl, p2⟩, by rw [if_pos z2, p3]⟩)))
          · rw [if_neg z5] at hp; cases hp
        · rw [if_neg z4] at hp; cases hp
      · rw [if_neg z3] at hp; cases hp
    · rw [if_neg z2] at hp
      by_cases z3 : tkT B n i = 19 ∨ tkT B n i = 20
      · rcases z3 with z3 | z3
        · exact Or.inr (Or.inr (Or.inl ⟨by rw [z3], r19 z3⟩))
        · exact Or.inr (Or.inr (Or.inr (Or.inl ⟨by rw [z3], r20 z3⟩)))
      · rw [if_neg z3] at hp; cases hp
theorem pLi_pRu {tk : Nat → Nat} {i : Nat} (h : (pLi tk i).1 = true) : (pRu tk i).1 = true := by
  cases e : (pRu tk i).1 with
  | true => rfl
  | false =>
    rw [pLi_r0 e] at h
    cases h
end
