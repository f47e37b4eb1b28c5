/-! a field is written -/
section PUT
variable {p : Program} {l : Launch} {e : Env} {R : Room} {s : State} {m : MethodId} {args : Array Value} {below : List Frame} {meth : Method} {c : Code} {H : Heap} {locs : List Loc} {cells slots : Nat} {Q : State → Prop}
variable {G : am_G} {z : Nat} {b : Bool} {M : am_M} {pc : Nat} {ls : Array Slot} {rest : List Value}
theorem am_layB (C : am_ctx G z p s m args meth c) {a k : Nat} (ha : a < 13) (hk : k < am_nf a) :
    (Cond.lays (am_CN a) (am_CN a) (am_f a k).1 (am_f a k).2.1).before args s = true ∨ (Cond.laysFinal (am_CN a) (am_CN a) (am_f a k).1 (am_f a k).2.1).before args s = true := by
  have h := am_lay ha hk
  unfold am_layw at h
  split at h
  · exact Or.inr (am_word C h rfl)
  · exact Or.inl (am_word C h rfl)
theorem am_apart (C : am_ctx G z p s m args meth c) {a : Nat} (ha : a < 13) : ∀ x y, x < am_nf a → y < am_nf a → x ≠ y → gI G a x ≠ gI G a y := by
  intro x y hx hy hne
  have hK := C.2.2.2.2.2.1
  obtain ⟨-, hf⟩ := hK.2.1 a (by omega)
  obtain ⟨_, _, _, fa, hia, -, ea⟩ := hf x hx
  obtain ⟨_, _, _, fb, hib, -, eb⟩ := hf y hy
  rw [← ea, ← eb]
  refine u_apart (am_layB C ha hx) (am_layB C ha hy) hia hib ?_
  have tx := am_tyok_all a ha x hx
  have ty := am_tyok_all a ha y hy
  unfold am_tyok at tx ty
  split at tx
  · next hpx =>
    split at ty
    · next hpy =>
      rw [(State.fieldFound?_type hia hpx).1, (State.fieldFound?_type hib hpy).1]
      exact am_nm_all a ha x hx y hy hne
    · simp at ty
  · simp at tx
/-- the value that is stored is one of the field's type -/
def am_vok (a k : Nat) (v : Value) : Prop := ∃ t, parseFieldDescriptor (am_f a k).2.1 = some t ∧ narrow t v = v ∧ fits t v = true
theorem am_vok_int {a k : Nat} (ha : a < 13) (hk : k < am_nf a) (ht : am_fty a k = 0) (x : Int32) : am_vok a k (.int x) := by
  have h := am_tyok_all a ha k hk
  unfold am_tyok at h
  split at h
  · next t hp =>
    rw [ht] at h
    have ht : t = .int := by simpa using h
    subst ht
    exact ⟨_, hp, rfl, rfl⟩
  · simp at h
theorem am_vok_bool {a k : Nat} (ha : a < 13) (hk : k < am_nf a) (ht : am_fty a k = 3) {x : Int32} (hx : x = 0 ∨ x = 1) : am_vok a k (.int x) := by
  have h := am_tyok_all a ha k hk
  unfold am_tyok at h
  split at h
  · next t hp =>
    rw [ht] at h
    have ht : t = .boolean := by simpa using h
    subst ht
    rcases hx with rfl | rfl
    · exact ⟨_, hp, by decide, by decide⟩
    · exact ⟨_, hp, by decide, by decide⟩
  · simp at h
theorem am_vok_long {a k : Nat} (ha : a < 13) (hk : k < am_nf a) (ht : am_fty a k = 1) (x : Int64) : am_vok a k (.long x) := by
  have h := am_tyok_all a ha k hk
  unfold am_tyok at h
  split at h
  · next t hp =>
    rw [ht] at h
    have ht : t = .long := by simpa using h
    subst ht
    exact ⟨_, hp, rfl, rfl⟩
  · simp at h
theorem am_vok_ref {a k : Nat} (ha : a < 13) (hk : k < am_nf a) (ht : am_fty a k = 2) {v : Value} (hv : v = .null ∨ ∃ r, v = .ref r) : am_vok a k v := by
  have h := am_tyok_all a ha k hk
  unfold am_tyok at h
  split at h
  · next t hp =>
    rw [ht] at h
    cases t with
    | object n => rcases hv with rfl | ⟨r, rfl⟩ <;> exact ⟨_, hp, rfl, rfl⟩
    | array n => rcases hv with rfl | ⟨r, rfl⟩ <;> exact ⟨_, hp, rfl, rfl⟩
    | _ => exact absurd h (by simp)
  · simp at h
theorem am_s_putV (C : am_ctx G z p s m args meth c) (hR : am_rel G b s M H) (hL : ∀ q ∈ locs, gH G ≤ q.base) {M' : am_M} {fid i idx a k ty : Nat} {fin : Bool} {v : Value} (hidx : idx ∈ am_fl z fid) (hfd : am_fd fid = (a, k, ty, fin))
    (hi9 : 9 ≤ i) (hkd : (am_kd b M i).1 = a) (hk : k < am_nf a) (ha : a < 13) (hfin : am_fin z a fin = true) (hvo : am_vok a k (am_ra G v))
    (hN : mN M' = mN M) (hKM : mK M' = mK M) (hI : ∀ j, j ≠ i → mI M' j = mI M j) (hLL : ∀ j, j ≠ i → mL M' j = mL M j) (hA : ∀ j, j ≠ i → mA M' j = mA M j) (hF : b = true → ∀ k, i < 118 → am_FA i k ≠ 0 → mA M' i k = am_FA i k)
    (hv : ∀ j, j < am_nf a → am_fv b M' i j (am_fty a j) = if j = k then v else am_fv b M i j (am_fty a j)) (hdg : decode (am_by z) pc = .ok (.putfield idx, 3))
    (kk : ∀ (H' : Heap) (locs' : List Loc), am_rel G b s M' H' → (∀ q ∈ locs', gH G ≤ q.base) → W p l e R s m args below meth c H' locs' cells slots Q (F0 m (pc + 3) ls rest)) : W p l e R s m args below meth c H locs cells slots Q (F0 m pc ls (am_ra G v :: .ref (am_ad G i) :: rest)) := by
  have hlk := am_flink C hidx
  have hap := am_apart C ha
  have hlayB := am_layB C ha hk
  have hlay := am_lay ha hk
  have C' := C
  obtain ⟨hx, hb, -, hown, -, hK, hinit, -⟩ := C
  rw [hfd] at hlk
  dsimp only at hlk
  obtain ⟨t1, t2⟩ := am_fd_spec hfd (by omega)
  have hlt := am_kd_lt hR (i := i) (by rw [hkd]; omega)
  obtain ⟨cell, q1, q2, q3, q4, q5, q6⟩ := (hR.2.2.2.2.2.2 i hlt).1 (by rw [hkd]; omega)
  rw [hkd] at q2 q5 q6
  obtain ⟨hfc, hf⟩ := hK.2.1 a (by omega)
  obtain ⟨cf, kf, fi, fd, hi, hst, hsl⟩ := hf k hk
  obtain ⟨kC, hkC, hkind⟩ := hK.2.2.1 a ha
  obtain ⟨t, hp, hn, hfit⟩ := hvo
  have hvm := q5 ha
  have hslot : fd.slot < cell.slots.size := by rw [hsl]; exact k2_hasslot (q6 k hk)
  have fin2 : ∀ (H' : Heap) (e1 : H'[am_ad G i]? = some (cell.setSlot fd.slot (am_ra G v))) (e2 : H'.size = H.size) (e3 : ∀ q, q ≠ am_ad G i → H'[q]? = H[q]?), W p l e R s m args below meth c H' (locs ++ [⟨am_ad G i, fd.slot⟩]) cells slots Q (F0 m (pc + 3) ls rest) := by
    intro H' e1 e2 e3
    rw [hsl] at e1
    refine kk H' _ ?_ ?_
    · refine am_rel_wr hR hi9 hN hKM hI hLL hA hF e2 e3 ?_
      have hk0 : am_kd b M' i = am_kd b M i := by unfold am_kd; rw [hN, hKM]
      unfold am_cell
      rw [hk0, hkd]
      refine ⟨fun _ => ⟨_, e1, q2, q3, q4, fun _ => hvm, fun j hj => ?_⟩, fun h20 => by omega⟩
      rw [t_set (V := fun j => am_ra G (am_fv b M i j (am_fty a j))) q6 hap hk (am_ra G v) j hj, hv j hj]
      unfold updV
      by_cases e : j = k
      · rw [if_pos e, if_pos e]
      · rw [if_neg e, if_neg e]
    · intro q hq
      rcases List.mem_append.mp hq with h | h
      · exact hL q h
      · rw [List.mem_singleton.mp h]
        exact am_ad_ge G hi9
  unfold am_layw at hlay
  by_cases hff : (am_f a k).2.2.1 = true
  · rw [if_pos hff] at hlay
    have hlayw := am_word C' hlay rfl
    have hmf := hfin
    unfold am_fin at hmf
    rw [t2, hff] at hmf
    simp only [Bool.not_true, Bool.false_or, Bool.and_eq_true, beq_iff_eq] at hmf
    have hcf : m.cls = cf := by
      obtain ⟨_, _, c', _, _, _, -, -, hf', -, -, -, hown2, -⟩ := Cond.laysFinal_spec hlayw
      have e1 : c' = cf := by have := hi.symm.trans hf'; simp at this; exact this.1.symm
      rw [← e1]
      rw [hmf.2] at hown
      exact Option.some.inj (hown.symm.trans hown2)
    have h6 := u_fits hfc hkC hkind (Or.inr hlayw) hi hp hn hfit
    rcases hlk with hlk | hlk
    · exact W.putFinK hx hb hown hlk hi hst hcf (hinit hmf.1) (by rw [q2]; exact h6) q1 hvm hslot rfl rfl hdg fin2
    · have ha : am_ad G i < H.size := (Array.getElem?_eq_some_iff.mp q1).1
      refine va_Wputf hx hb hown hlk hi hst (Or.inr ⟨hcf, hinit hmf.1⟩) q1 q4 hslot h6.1 (by rw [q2, hvm]; exact h6.2) rfl rfl hdg (fin2 _ ?_ ?_ ?_)
      · simp [Array.getElem?_setIfInBounds, ha]
      · simp
      · intro q hq
        simp [Array.getElem?_setIfInBounds, Ne.symm hq]
  · rw [if_neg hff] at hlay
    have hlayw := am_word C' hlay rfl
    have h6 := u_store hfc hkC hkind hlayw hi hp hn hfit
    rcases hlk with hlk | hlk
    · exact W.putK hx hb (f := fd) ⟨hown, hlk, ⟨cf, kf, fi, hi⟩, hst⟩ (by rw [q2]; exact h6) q1 hvm hslot rfl rfl hdg fin2
    · exact va_WputK hx hb (f := fd) hown hlk hi hst (by rw [q2]; exact h6) q1 hvm hslot rfl rfl hdg fin2
theorem am_s_put (C : am_ctx G z p s m args meth c) (hR : am_rel G b s M H) (hL : ∀ q ∈ locs, gH G ≤ q.base) {M' : am_M} {fid i idx : Nat} {v : Value} (hidx : idx ∈ am_fl z fid) (hp : am_put b z fid v i M = some M') (hdg : decode (am_by z) pc = .ok (.putfield idx, 3))
    (kk : ∀ (H' : Heap) (locs' : List Loc), am_rel G b s M' H' → (∀ q ∈ locs', gH G ≤ q.base) → W p l e R s m args below meth c H' locs' cells slots Q (F0 m (pc + 3) ls rest)) : W p l e R s m args below meth c H locs cells slots Q (F0 m pc ls (am_ra G v :: .ref (am_ad G i) :: rest)) := by
  unfold am_put at hp
  rcases hfd : am_fd fid with ⟨a, k, ty, fin⟩
  rw [hfd] at hp
  dsimp only at hp
  split at hp
  · next hc =>
    obtain ⟨c1, c2, c3, c4, c5⟩ := hc
    have t1 := (am_fd_spec hfd (by omega)).1
    have hFA : b = true → ∀ k, i < 118 → am_FA i k ≠ 0 → mA M i k = am_FA i k := fun hb k h1 h2 => (hR.2.2.1 hb).2 i k h1 h2
    split at hp
    · next x =>
      cases hp
      refine am_s_putV (M' := wI M i (am_up (mI M i) k x)) (v := .int x) C hR hL hidx hfd c1 c2 c3 c4 c5 (am_vok_int c4 c3 t1.symm x) rfl rfl (fun j hj => am_up_ne _ _ hj) (fun j hj => rfl) (fun j hj => rfl) hFA ?_ hdg kk
      intro j hj
      by_cases e : j = k
      · subst e
        rw [if_pos rfl, ← t1]
        show Value.int (am_up (mI M) i _ i j) = _
        rw [am_up_self, am_up_self]
      · rw [if_neg e]
        unfold am_fv
        show (match am_fty a j with | 1 => Value.long (mL M i j) | 2 => _ | _ => Value.int (am_up (mI M) i _ i j)) = _
        rw [am_up_self, am_up_ne _ _ e]
        rfl
    · next x =>
      split at hp
      · next hx01 =>
        cases hp
        refine am_s_putV (M' := wI M i (am_up (mI M i) k x)) (v := .int x) C hR hL hidx hfd c1 c2 c3 c4 c5 (am_vok_bool c4 c3 t1.symm hx01) rfl rfl (fun j hj => am_up_ne _ _ hj) (fun j hj => rfl) (fun j hj => rfl) hFA ?_ hdg kk
        intro j hj
        by_cases e : j = k
        · subst e
          rw [if_pos rfl, ← t1]
          show Value.int (am_up (mI M) i _ i j) = _
          rw [am_up_self, am_up_self]
        · rw [if_neg e]
          unfold am_fv
          show (match am_fty a j with | 1 => Value.long (mL M i j) | 2 => _ | _ => Value.int (am_up (mI M) i _ i j)) = _
          rw [am_up_self, am_up_ne _ _ e]
          rfl
      · cases hp
    · next x =>
      cases hp
      refine am_s_putV (M' := wL M i (am_up (mL M i) k x)) (v := .long x) C hR hL hidx hfd c1 c2 c3 c4 c5 (am_vok_long c4 c3 t1.symm x) rfl rfl (fun j hj => rfl) (fun j hj => am_up_ne _ _ hj) (fun j hj => rfl) hFA ?_ hdg kk
      intro j hj
      by_cases e : j = k
      · subst e
        rw [if_pos rfl, ← t1]
        show Value.long (am_up (mL M) i _ i j) = _
        rw [am_up_self, am_up_self]
      · rw [if_neg e]
        unfold am_fv
        show (match am_fty a j with | 1 => Value.long (am_up (mL M) i _ i j) | 2 => _ | _ => Value.int (mI M i j)) = _
        rw [am_up_self, am_up_ne _ _ e]
        rfl
    · split at hp
      · cases hp
      · next hna =>
        cases hp
        refine am_s_putV (M' := wA M i (am_up (mA M i) k 0)) (v := .null) C hR hL hidx hfd c1 c2 c3 c4 c5 (am_vok_ref c4 c3 t1.symm (Or.inl rfl)) rfl rfl (fun j hj => rfl) (fun j hj => rfl) (fun j hj => am_up_ne _ _ hj) ?_ ?_ hdg kk
        · intro hb k' h1 h2
          show am_up (mA M) i _ i k' = _
          rw [am_up_self]
          by_cases e : k' = k
          · subst e; exact absurd ⟨hb, h1, h2⟩ hna
          · rw [am_up_ne _ _ e]; exact hFA hb k' h1 h2
        · intro j hj
          by_cases e : j = k
          · subst e
            rw [if_pos rfl, ← t1]
            unfold am_fv
            show (match (if b && decide (i < 118) then am_FA i j else 0) with | 0 => am_rv (am_up (mA M) i _ i j) | n + 1 => Value.ref n) = _
            rw [am_up_self, am_up_self]
            have h0 : (if (b && decide (i < 118)) = true then am_FA i j else 0) = 0 := by
              split
              · next h => simp only [Bool.and_eq_true, decide_eq_true_eq] at h; exact Classical.byContradiction fun q => hna ⟨h.1, h.2, q⟩
              · rfl
            rw [h0]
            rfl
          · rw [if_neg e]
            unfold am_fv
            show (match am_fty a j with | 1 => Value.long (mL M i j) | 2 => (match (if b && decide (i < 118) then am_FA i j else 0) with | 0 => am_rv (am_up (mA M) i _ i j) | n + 1 => Value.ref n) | _ => Value.int (mI M i j)) = _
            rw [am_up_self, am_up_ne _ _ e]
            rfl
    · next r =>
      split at hp
      · cases hp
      · next hna =>
        cases hp
        refine am_s_putV (M' := wA M i (am_up (mA M i) k (r + 1))) (v := .ref r) C hR hL hidx hfd c1 c2 c3 c4 c5 (am_vok_ref c4 c3 t1.symm (Or.inr ⟨_, rfl⟩)) rfl rfl (fun j hj => rfl) (fun j hj => rfl) (fun j hj => am_up_ne _ _ hj) ?_ ?_ hdg kk
        · intro hb k' h1 h2
          show am_up (mA M) i _ i k' = _
          rw [am_up_self]
          by_cases e : k' = k
          · subst e; exact absurd ⟨hb, h1, h2⟩ hna
          · rw [am_up_ne _ _ e]; exact hFA hb k' h1 h2
        · intro j hj
          by_cases e : j = k
          · subst e
            rw [if_pos rfl, ← t1]
            unfold am_fv
            show (match (if b && decide (i < 118) then am_FA i j else 0) with | 0 => am_rv (am_up (mA M) i _ i j) | n + 1 => Value.ref n) = _
            rw [am_up_self, am_up_self]
            have h0 : (if (b && decide (i < 118)) = true then am_FA i j else 0) = 0 := by
              split
              · next h => simp only [Bool.and_eq_true, decide_eq_true_eq] at h; exact Classical.byContradiction fun q => hna ⟨h.1, h.2, q⟩
              · rfl
            rw [h0]
            rfl
          · rw [if_neg e]
            unfold am_fv
            show (match am_fty a j with | 1 => Value.long (mL M i j) | 2 => (match (if b && decide (i < 118) then am_FA i j else 0) with | 0 => am_rv (am_up (mA M) i _ i j) | n + 1 => Value.ref n) | _ => Value.int (mI M i j)) = _
            rw [am_up_self, am_up_ne _ _ e]
            rfl
    · cases hp
  · cases hp
end PUT
