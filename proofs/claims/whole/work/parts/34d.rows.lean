/-! rows for numbers that are Nat -/
section
variable {b : Bool} {d z : Nat} {rest : List Instr} {lv : am_L} {st : List Value} {M : am_M} {Q : Option Value → am_M → Prop} {i n k q a c x : Nat}
theorem ridivN (ha : a < 2147483648) (h0 : 0 < c) (hc : c < 2147483648) (kk : am_Run b d z rest lv (.int (nI (a / c)) :: st) M Q) : am_Run b d z (.idiv :: rest) lv (.int (nI c) :: .int (nI a) :: st) M Q := by
  refine ridiv (nI_ne0 h0 hc) ?_
  rw [pk_div ha h0 hc]; exact kk
theorem riremN (ha : a < 2147483648) (h0 : 0 < c) (hc : c < 2147483648) (kk : am_Run b d z rest lv (.int (nI (a % c)) :: st) M Q) : am_Run b d z (.irem :: rest) lv (.int (nI c) :: .int (nI a) :: st) M Q := by
  refine rirem (nI_ne0 h0 hc) ?_
  rw [pk_rem ha h0 hc]; exact kk
theorem ri2lN (ha : a < 2147483648) (kk : am_Run b d z rest lv (.long (lN a) :: st) M Q) : am_Run b d z (.i2l :: rest) lv (.int (nI a) :: st) M Q := by
  rw [← nI_l ha] at kk
  exact r1 rfl kk
theorem rl2iN (kk : am_Run b d z rest lv (.int (nI a) :: st) M Q) : am_Run b d z (.l2i :: rest) lv (.long (lN a) :: st) M Q := by
  rw [← lN_i a] at kk
  exact r1 rfl kk
theorem rlmulN (kk : am_Run b d z rest lv (.long (lN (a * c)) :: st) M Q) : am_Run b d z (.lmul :: rest) lv (.long (lN c) :: .long (lN a) :: st) M Q := by
  rw [← lN_mul] at kk
  exact r1 rfl kk
theorem rladdN (kk : am_Run b d z rest lv (.long (lN (a + c)) :: st) M Q) : am_Run b d z (.ladd :: rest) lv (.long (lN c) :: .long (lN a) :: st) M Q := by
  rw [← lN_add] at kk
  exact r1 rfl kk
theorem rlsubN (h : c ≤ a) (kk : am_Run b d z rest lv (.long (lN (a - c)) :: st) M Q) : am_Run b d z (.lsub :: rest) lv (.long (lN c) :: .long (lN a) :: st) M Q := by
  rw [← lN_sub h] at kk
  exact r1 rfl kk
theorem lN_ne0 (h0 : 0 < c) (hc : c < 9223372036854775808) : lN c ≠ 0 := by
  intro h
  have := congrArg Int64.toInt h
  rw [pk_lT hc] at this
  simp at this
  omega
theorem rldivN (ha : a < 9223372036854775808) (h0 : 0 < c) (hc : c < 9223372036854775808) (kk : am_Run b d z rest lv (.long (lN (a / c)) :: st) M Q) : am_Run b d z (.ldiv :: rest) lv (.long (lN c) :: .long (lN a) :: st) M Q := by
  refine rldiv (lN_ne0 h0 hc) ?_
  rw [pk_lDiv ha h0 hc]; exact kk
theorem rialdN (h : am_kd b M i = (20, n)) (hk : k < n) (hn : n ≤ 2147483648) (hx : mI M i k = nI x) (kk : am_Run b d z rest lv (.int (nI x) :: st) M Q) : am_Run b d z (.iaload :: rest) lv (.int (nI k) :: .ref i :: st) M Q := riald h hk hn (hx ▸ kk)
theorem rzaldB {B : Bool} (h : am_kd b M i = (22, n)) (hk : k < n) (hn : n ≤ 2147483648) (hx : mI M i k = bI B) (kk : am_Run b d z rest lv (.int (bI B) :: st) M Q) : am_Run b d z (.baload :: rest) lv (.int (nI k) :: .ref i :: st) M Q := rzald h hk hn (hx ▸ kk)
theorem riconst {v : Nat} (kk : am_Run b d z rest lv (.int (nI (@OfNat.ofNat Nat v (instOfNatNat v))) :: st) M Q) : am_Run b d z (.iconst (@OfNat.ofNat Int v (@instOfNat v)) :: rest) lv st M Q := r1 rfl kk
theorem rlconst {v : Nat} (kk : am_Run b d z rest lv (.long (lN (@OfNat.ofNat Nat v (instOfNatNat v))) :: st) M Q) : am_Run b d z (.jsr (@OfNat.ofNat Int v (@instOfNat v)) :: rest) lv st M Q := r1 rfl kk
theorem rtsw {d0 lo hi : Int} {offs : Array Int} {x : Int32} {t : Nat} {code : List Instr} (h : am_tsw d0 lo hi offs x = t) (hc : am_blk z t = code) (kk : am_Run b d z code lv st M Q) : am_Run b d z (.tableswitch d0 lo hi offs :: rest) lv (.int x :: st) M Q := by
  subst h; subst hc
  exact rj rfl kk
theorem nI_xdiv {a c : Nat} (ha : a < 2147483648) (h0 : 0 < c) (hc : c < 2147483648) : nI a / nI c = nI (a / c) := pk_div ha h0 hc
end
