/-! what a method's body knows of the machine -/
def am_t72 : String := "year step food men north east south west afoot reach trust first paper grave told bought nothing go walk stay leave pay for if and or not "
def am_t64 : String := ";()<>="
def am_K (G : am_G) (s : State) : Prop :=
  (∀ w ∈ lw_tbl, am_nst w = true → va_Nw w s) ∧
  (∀ c, c < 14 → s.vm.findClass (am_CN c) = some (gC G c) ∧ ∀ k, k < am_nf c → ∃ cf kf fi fd, s.fieldFound? (am_CN c) (am_f c k).1 (am_f c k).2.1 = some (cf, kf, fi, fd) ∧ fd.isStatic = false ∧ fd.slot = gI G c k) ∧
  (∀ c, c < 13 → ∃ kC : Class, s.vm.classes[gC G c]? = some kC ∧ kC.kind = .ordinary) ∧
  vk_R "IceSearch$Tape" 72 am_t72 (gS G 5) s ∧ vk_R "IceSearch$Tape" 64 am_t64 (gS G 6) s ∧ va_Nw (.castable "[I" "java/lang/Cloneable") s ∧ va_AO "IceSearch$Rules" s
theorem am_K.warm {G : am_G} {s U : State} (hW : s.WarmedH U.vm) (h : am_K G s) : am_K G U := by
  obtain ⟨h1, h2, h3, h4, h5, h6, h7⟩ := h
  have hal := hW.alike
  refine ⟨fun w hw hn => ?_, fun c hc => ?_, fun c hc => ?_, h4.warm hW, h5.warm hW, ?_, h7.moved hal⟩
  · have := h1 w hw hn
    cases w with
    | fieldLinkNest a i b n d h => exact this.warmF hW
    | methodLinkNest a i x h => exact this.warmM hW
    | _ => simp [am_nst] at hn
  · obtain ⟨q1, q2⟩ := h2 c hc
    refine ⟨by rw [hal.findClass]; exact q1, fun k hk => ?_⟩
    obtain ⟨cf, kf, fi, fd, hi, e1, e2⟩ := q2 k hk
    obtain ⟨kf', hi', -⟩ := State.fieldFound?_setVm (s := s) hal hi
    exact ⟨cf, kf', fi, fd, by simpa only [State.fieldFound?, State.vm_setVm] using hi', e1, e2⟩
  · obtain ⟨kC, q1, q2⟩ := h3 c hc
    obtain ⟨k', hk', he⟩ := hal.2.2 _ _ q1
    exact ⟨k', hk', by rw [he]; exact q2⟩
  · have e := Cond.castable_setVm (args := #[]) (s := s) hal "[I" "java/lang/Cloneable"
    exact va_tabs rfl (rfl : (s.setVm U.vm).vm = U.vm) (by rw [Cond.castable_setVm hal]; exact h6)
def am_ctx (G : am_G) (z : Nat) (p : Program) (s : State) (m : MethodId) (args : Array Value) (meth : Method) (c : Code) : Prop :=
  p.tables.exec = Jvm.exec ∧ c.code = am_by z ∧ c.maxLocals = am_ml z ∧ s.vm.findClass (am_CN (am_own z)) = some m.cls ∧ (∀ w ∈ am_good, w.before args s = true) ∧ am_K G s ∧ ((am_yn z).name = "<init>" → meth.name = "<init>") ∧ am_okO G
theorem am_any_fm {α : Type} {L : List α} {P : α → Prop} [DecidablePred P] {f : α → Nat} {i : Nat} (h : i ∈ L.filterMap (fun e => if P e then some (f e) else none)) : ∃ e ∈ L, P e ∧ f e = i := by
  obtain ⟨e, he, hi⟩ := List.mem_filterMap.mp h
  by_cases hp : P e
  · rw [if_pos hp] at hi
    exact ⟨e, he, hp, Option.some.inj hi⟩
  · rw [if_neg hp] at hi
    cases hi
section CTX
variable {G : am_G} {z : Nat} {p : Program} {s : State} {m : MethodId} {args : Array Value} {meth : Method} {c : Code}
theorem am_word (C : am_ctx G z p s m args meth c) {w : Cond} (h : w ∈ lw_tbl) (hg : goodWord w = true) : w.before args s = true := C.2.2.2.2.1 w (am_good_mem h hg)
theorem am_flink (C : am_ctx G z p s m args meth c) {fid idx : Nat} (h : idx ∈ am_fl z fid) :
    (Cond.fieldLink (am_CN (am_own z)) idx (am_CN (am_fd fid).1) (am_f (am_fd fid).1 (am_fd fid).2.1).1 (am_f (am_fd fid).1 (am_fd fid).2.1).2.1).before args s = true ∨ (Cond.fieldLinkNest (am_CN (am_own z)) idx (am_CN (am_fd fid).1) (am_f (am_fd fid).1 (am_fd fid).2.1).1 (am_f (am_fd fid).1 (am_fd fid).2.1).2.1 "IceSearch").before args s = true := by
  obtain ⟨e, he, ⟨e1, e2⟩, e3⟩ := am_any_fm h
  have hw := am_wat_mem (List.all_eq_true.mp am_FL_ok e he)
  unfold am_flw at hw
  rw [e1, e2, e3] at hw
  by_cases hn : e.2.2.2.1 = true
  · rw [if_pos hn] at hw
    exact Or.inr (va_Nw.use rfl (C.2.2.2.2.2.1.1 _ hw rfl))
  · rw [if_neg hn] at hw
    exact Or.inl (am_word C hw rfl)
theorem am_fd_ok : ∀ fid, fid < 1400 → (am_fd fid).1 < 14 → (am_fd fid).2.2.1 = am_fty (am_fd fid).1 (am_fd fid).2.1 ∧ (am_fd fid).2.2.2 = (am_f (am_fd fid).1 (am_fd fid).2.1).2.2.1 := by decide +kernel
theorem am_fd_big (fid : Nat) (h : 1400 ≤ fid) : (am_fd fid).1 = 99 := by
  have h1 : 14 ≤ fid / 100 := by omega
  have h2 : am_FDT.length = 14 := by decide +kernel
  unfold am_fd
  rw [show am_FDT.getD (fid / 100) [] = [] from by
    rw [List.getD_eq_getElem?_getD, List.getElem?_eq_none (by omega)]; rfl]
  rfl
theorem am_fd_spec {fid a k ty : Nat} {fin : Bool} (h : am_fd fid = (a, k, ty, fin)) (ha : a < 14) : ty = am_fty a k ∧ fin = (am_f a k).2.2.1 := by
  have h1 : fid < 1400 := by
    by_cases q : fid < 1400
    · exact q
    · have := am_fd_big fid (by omega)
      rw [h] at this
      simp at this
      omega
  have := am_fd_ok fid h1 (by rw [h]; exact ha)
  rw [h] at this
  exact this
end CTX
section SND
variable {p : Program} {l : Launch} {e : Env} {R : Room} {s : State} {m : MethodId} {args : Array Value} {below : List Frame} {meth : Method} {c : Code} {H : Heap} {locs : List Loc} {cells slots : Nat} {Q : State → Prop}
variable {G : am_G} {z : Nat} {b : Bool} {M : am_M} {pc : Nat} {ls : Array Slot} {rest : List Value}
theorem am_s_get (C : am_ctx G z p s m args meth c) (hR : am_rel G b s M H) {fid i idx : Nat} {v : Value} (hidx : idx ∈ am_fl z fid) (hg : am_get b fid i M = some v) (hdg : decode (am_by z) pc = .ok (.getfield idx, 3))
    (kk : W p l e R s m args below meth c H locs cells slots Q (F0 m (pc + 3) ls (am_ra G v :: rest))) : W p l e R s m args below meth c H locs cells slots Q (F0 m pc ls (.ref (am_ad G i) :: rest)) := by
  have hlk := am_flink C hidx
  obtain ⟨hx, hb, -, hown, -, hK, -⟩ := C
  unfold am_get at hg
  rcases hfd : am_fd fid with ⟨a, k, ty, fin⟩
  rw [hfd] at hg hlk
  dsimp only at hg hlk
  split at hg
  · next hc =>
    obtain ⟨c1, c2, c3⟩ := hc
    cases hg
    obtain ⟨t1, t2⟩ := am_fd_spec hfd c3
    have hlt := am_kd_lt hR (i := i) (by rw [c1]; omega)
    obtain ⟨cell, q1, q2, q3, q4, q5, q6⟩ := (hR.2.2.2.2.2.2 i hlt).1 (by rw [c1]; exact c3)
    rw [c1] at q2 q5 q6
    obtain ⟨-, hf⟩ := hK.2.1 a c3
    obtain ⟨cf, kf, fi, fd, hi, hst, hsl⟩ := hf k c2
    have hv : cell.slots[fd.slot]? = some (am_ra G (am_fv b M i k ty)) := by rw [hsl, t1]; exact q6 k c2
    rcases hlk with hlk | hlk
    · exact W.getf hx hb hown hlk hi hst q1 q4 hv rfl rfl hdg kk
    · exact va_Wgetf hx hb hown hlk hi hst q1 q4 hv rfl rfl hdg kk
  · cases hg
end SND
