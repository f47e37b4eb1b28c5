/-! the invariant (printed by wip/whole/gen_inv.py) -/
def scrT : List Nat := [17, 26, 27, 30, 32, 33, 34, 36, 37, 38, 39, 40, 45, 46, 47, 48, 49, 50, 51, 53, 54, 57, 58, 60, 61, 66, 74, 88, 89, 90, 91, 93, 94, 98, 99, 100, 101, 114, 116, 117]
def scsT : List (Nat × Nat) := [(19, 11), (19, 12), (41, 11), (52, 4), (52, 5), (52, 6), (52, 7), (52, 8), (55, 3), (59, 3), (59, 4), (59, 5), (59, 6), (67, 31), (67, 32), (67, 39), (67, 40), (67, 51), (67, 53), (67, 55), (67, 56), (67, 57), (67, 75), (67, 76), (67, 77), (67, 78), (67, 79)]
def limT : List (Nat × Nat) := [(102, 9), (103, 9), (104, 270), (105, 270), (106, 270), (107, 270), (108, 6480), (109, 6480), (110, 6480), (111, 6480), (112, 6480), (113, 6480)]
/-- what lasts: slot k of the thing i -/
def per (i k : Nat) : Bool := !(scrT.any (fun q => Nat.beq q i)) && !(scsT.any (fun q => Nat.beq q.1 i && Nat.beq q.2 k)) && limT.all (fun q => !(Nat.beq q.1 i) || Nat.blt k q.2)
def msk (n : Nat) (f : Nat → Int32) : Nat → Int32 := fun k => if k < n then f k else 0
/-- of all things of no static number, and of the rules that are none, the rows -/
def dynI (M : am_M) : Nat → Nat → Int32 := fun i => if i < 118 ∧ i ≠ 62 then fun _ => 0 else mI M i
/-- how many ones among the first n -/
def cntF (f : Nat → Int32) : Nat → Nat
  | 0 => 0
  | n + 1 => cntF f n + (if f n = nI 1 then 1 else 0)
def chF (T B : Nat → Int32) : Nat → Nat → Int32 → Nat
  | 0, a, _ => a
  | n + 1, a, b => if b.toInt < 0 then a else chF T B n (a * (T b.toNatClampNeg).toNatClampNeg / 100) (B b.toNatClampNeg)
/-- what is left of a hundred through a teller -/
def trF (T B : Nat → Int32) (t : Int32) : Nat := if t.toInt < 0 then 100 else chF T B 10 (T t.toNatClampNeg).toNatClampNeg (B t.toNatClampNeg)
/-- a comparison as both sides make it: 0 less, 1 more, else alike -/
def cmpF (v : Int32) (s n : Nat) : Bool := if s = 0 then decide (v.toInt < n) else if s = 1 then decide ((n : Int) < v.toInt) else decide (v.toInt = n)
/-- one code on the truths -/
def pxS (env : Nat → Int32) (c : Int32) (t : Nat) : Option Nat :=
  if 2 ^ 40 ≤ t then none
  else if c.toInt = -1 then some (if t % 2 = 1 then t / 2 else t / 2 - t / 2 % 2)
  else if c.toInt = -2 then some (if t % 2 = 1 then t / 2 - t / 2 % 2 + 1 else t / 2)
  else if c.toInt = -3 then some (if t % 2 = 1 then t - 1 else t + 1)
  else if c.toInt < 0 ∨ 3600000 ≤ c.toInt then none
  else some (2 * t + (if cmpF (env (c.toNatClampNeg / 100000 / 3)) (c.toNatClampNeg / 100000 % 3) (c.toNatClampNeg % 100000) then 1 else 0))
def pxT (cd env : Nat → Int32) : Nat → Nat → Nat → Option Nat
  | _, 0, t => some t
  | i, n + 1, t => match pxS env (cd i) t with
    | none => none
    | some t' => pxT cd env (i + 1) n t'
def mChain (ask : Int32 → Option Bool) (nn : Nat → Int32) (stop : Bool) : Nat → Int32 → Option Bool
  | 0, _ => none
  | n + 1, k => if k = nM 0 then some (!stop) else match ask k with
    | none => none
    | some b => if b = stop then some stop else mChain ask nn stop n (nn k.toNatClampNeg)
def mLeaf (nw ns nu env : Nat → Int32) (k : Nat) : Option Bool :=
  if 0 ≤ (nw k).toInt ∧ (nw k).toInt < 12 ∧ 0 ≤ (nu k).toInt then
    (if (ns k).toInt = 60 then some (cmpF (env (nw k).toNatClampNeg) 0 (nu k).toNatClampNeg)
     else if (ns k).toInt = 62 then some (cmpF (env (nw k).toNatClampNeg) 1 (nu k).toNatClampNeg)
     else if (ns k).toInt = 61 then some (cmpF (env (nw k).toNatClampNeg) 2 (nu k).toNatClampNeg)
     else none)
  else none
def mAsk (nk nf nn nw ns nu env : Nat → Int32) (lo : Nat) : Nat → Int32 → Option Bool
  | 0, _ => none
  | d + 1, k => if (lo : Int) ≤ k.toInt ∧ k.toInt < lo + 720 then
      (if (nk k.toNatClampNeg).toInt = 0 then mChain (mAsk nk nf nn nw ns nu env lo d) nn true 721 (nf k.toNatClampNeg)
       else if (nk k.toNatClampNeg).toInt = 1 then mChain (mAsk nk nf nn nw ns nu env lo d) nn false 721 (nf k.toNatClampNeg)
       else if (nk k.toNatClampNeg).toInt = 2 then (mAsk nk nf nn nw ns nu env lo d (nf k.toNatClampNeg)).map (fun b => !b)
       else if (nk k.toNatClampNeg).toInt = 3 then mLeaf nw ns nu env k.toNatClampNeg else none)
    else none
/-- what a statement is on both sides -/
def ruleOK (l : Nat → Int32) (s o c : Int32) : Prop :=
  (l 0 = nI 17 ∧ s = nI 0 ∧ ∃ q, q < 4 ∧ l 1 = nI q ∧ o = nI (1 + 2 * q)) ∨ (l 0 = nI 18 ∧ s = nI 1 ∧ ∃ q, q < 4 ∧ l 1 = nI q ∧ o = nI (1 + 2 * q)) ∨
  (l 0 = nI 19 ∧ s = nI 2) ∨ (l 0 = nI 20 ∧ s = nI 3) ∨ (l 0 = nI 21 ∧ s = nI 4 ∧ (∃ q, q < 5 ∧ l 1 = nI q ∧ o = nI q) ∧ l 2 = c)
def condOK (cd : Nat → Int32) (ask : (Nat → Int32) → Option Bool) (cl : Nat) (l3 l4 w : Int32) : Prop :=
  ∃ f t : Nat, l3 = nI f ∧ l4 = nI t ∧ f ≤ t ∧ t ≤ cl ∧ ((f = t ∧ w = nM 0) ∨ (f < t ∧ w ≠ nM 0 ∧ ∀ env, ∃ b T, ask env = some b ∧ pxT cd (msk 12 env) f (t - f) 0 = some T ∧ decide (T % 2 = 1) = b))
def setOK (A : Nat → Nat → Nat) (D : Nat → Nat → Int32) (K : Nat → Nat × Nat) (N : Nat) (st tk so of_ co wh nk nf nn nw ns nu : Nat → Int32) (r k : Nat) : Prop :=
  ∃ ln cd n cl : Nat, A r 2 = ln + 1 ∧ A r 3 = cd + 1 ∧ 118 ≤ ln ∧ 118 ≤ cd ∧ r < N ∧ ln < N ∧ cd < N ∧ K r = (11, 4) ∧ K ln = (20, 5 * n) ∧ K cd = (20, cl) ∧ n ≤ 30 ∧ cl ≤ 700 ∧ D r 0 = tk k ∧ D r 1 = nI n ∧ st k = nI n ∧
    ∀ i, i < n → ruleOK (fun j => D ln (5 * i + j)) (so (30 * k + i)) (of_ (30 * k + i)) (co (30 * k + i)) ∧ condOK (D cd) (fun env => mAsk nk nf nn nw ns nu (msk 12 env) (720 * k) 40 (wh (30 * k + i))) cl (D ln (5 * i + 3)) (D ln (5 * i + 4)) (wh (30 * k + i))
def IMisc (td : Int32) (td2 : Int32) (la : Int32) (la2 : Int32) (ho : Int32) (ho2 : Int32) (ce : Int32) (ce2 : Int32) (me : Int32) (me2 : Int32) (fo : Int32) (fo2 : Int32) (as_ : Int32) (as2 : Int32) : Prop :=
  (td2 = td) ∧
  (0 ≤ td.toInt) ∧
  (td.toInt ≤ 999) ∧
  (la2 = la) ∧
  (0 ≤ la.toInt) ∧
  (la.toInt ≤ 119) ∧
  (ho2 = ho) ∧
  (0 ≤ ho.toInt) ∧
  (ho.toInt ≤ 100) ∧
  (ce2 = ce) ∧
  (0 ≤ ce.toInt) ∧
  (ce.toInt ≤ 255) ∧
  (me2 = me) ∧
  (1 ≤ me.toInt) ∧
  (me.toInt ≤ 200) ∧
  (fo2 = fo) ∧
  (0 ≤ fo.toInt) ∧
  (fo.toInt ≤ 99999) ∧
  (as2 = as_) ∧
  (-1 ≤ as_.toInt) ∧
  (as_.toInt ≤ 119)
theorem IMisc.td_eq {td : Int32} {td2 : Int32} {la : Int32} {la2 : Int32} {ho : Int32} {ho2 : Int32} {ce : Int32} {ce2 : Int32} {me : Int32} {me2 : Int32} {fo : Int32} {fo2 : Int32} {as_ : Int32} {as2 : Int32} (h : IMisc td td2 la la2 ho ho2 ce ce2 me me2 fo fo2 as_ as2) : td2 = td := h.1
theorem IMisc.td_lo {td : Int32} {td2 : Int32} {la : Int32} {la2 : Int32} {ho : Int32} {ho2 : Int32} {ce : Int32} {ce2 : Int32} {me : Int32} {me2 : Int32} {fo : Int32} {fo2 : Int32} {as_ : Int32} {as2 : Int32} (h : IMisc td td2 la la2 ho ho2 ce ce2 me me2 fo fo2 as_ as2) : 0 ≤ td.toInt := h.2.1
theorem IMisc.td_hi {td : Int32} {td2 : Int32} {la : Int32} {la2 : Int32} {ho : Int32} {ho2 : Int32} {ce : Int32} {ce2 : Int32} {me : Int32} {me2 : Int32} {fo : Int32} {fo2 : Int32} {as_ : Int32} {as2 : Int32} (h : IMisc td td2 la la2 ho ho2 ce ce2 me me2 fo fo2 as_ as2) : td.toInt ≤ 999 := h.2.2.1
theorem IMisc.la_eq {td : Int32} {td2 : Int32} {la : Int32} {la2 : Int32} {ho : Int32} {ho2 : Int32} {ce : Int32} {ce2 : Int32} {me : Int32} {me2 : Int32} {fo : Int32} {fo2 : Int32} {as_ : Int32} {as2 : Int32} (h : IMisc td td2 la la2 ho ho2 ce ce2 me me2 fo fo2 as_ as2) : la2 = la := h.2.2.2.1
theorem IMisc.la_lo {td : Int32} {td2 : Int32} {la : Int32} {la2 : Int32} {ho : Int32} {ho2 : Int32} {ce : Int32} {ce2 : Int32} {me : Int32} {me2 : Int32} {fo : Int32} {fo2 : Int32} {as_ : Int32} {as2 : Int32} (h : IMisc td td2 la la2 ho ho2 ce ce2 me me2 fo fo2 as_ as2) : 0 ≤ la.toInt := h.2.2.2.2.1
theorem IMisc.la_hi {td : Int32} {td2 : Int32} {la : Int32} {la2 : Int32} {ho : Int32} {ho2 : Int32} {ce : Int32} {ce2 : Int32} {me : Int32} {me2 : Int32} {fo : Int32} {fo2 : Int32} {as_ : Int32} {as2 : Int32} (h : IMisc td td2 la la2 ho ho2 ce ce2 me me2 fo fo2 as_ as2) : la.toInt ≤ 119 := h.2.2.2.2.2.1
theorem IMisc.ho_eq {td : Int32} {td2 : Int32} {la : Int32} {la2 : Int32} {ho : Int32} {ho2 : Int32} {ce : Int32} {ce2 : Int32} {me : Int32} {me2 : Int32} {fo : Int32} {fo2 : Int32} {as_ : Int32} {as2 : Int32} (h : IMisc td td2 la la2 ho ho2 ce ce2 me me2 fo fo2 as_ as2) : ho2 = ho := h.2.2.2.2.2.2.1
theorem IMisc.ho_lo {td : Int32} {td2 : Int32} {la : Int32} {la2 : Int32} {ho : Int32} {ho2 : Int32} {ce : Int32} {ce2 : Int32} {me : Int32} {me2 : Int32} {fo : Int32} {fo2 : Int32} {as_ : Int32} {as2 : Int32} (h : IMisc td td2 la la2 ho ho2 ce ce2 me me2 fo fo2 as_ as2) : 0 ≤ ho.toInt := h.2.2.2.2.2.2.2.1
theorem IMisc.ho_hi {td : Int32} {td2 : Int32} {la : Int32} {la2 : Int32} {ho : Int32} {ho2 : Int32} {ce : Int32} {ce2 : Int32} {me : Int32} {me2 : Int32} {fo : Int32} {fo2 : Int32} {as_ : Int32} {as2 : Int32} (h : IMisc td td2 la la2 ho ho2 ce ce2 me me2 fo fo2 as_ as2) : ho.toInt ≤ 100 := h.2.2.2.2.2.2.2.2.1
theorem IMisc.ce_eq {td : Int32} {td2 : Int32} {la : Int32} {la2 : Int32} {ho : Int32} {ho2 : Int32} {ce : Int32} {ce2 : Int32} {me : Int32} {me2 : Int32} {fo : Int32} {fo2 : Int32} {as_ : Int32} {as2 : Int32} (h : IMisc td td2 la la2 ho ho2 ce ce2 me me2 fo fo2 as_ as2) : ce2 = ce := h.2.2.2.2.2.2.2.2.2.1
theorem IMisc.ce_lo {td : Int32} {td2 : Int32} {la : Int32} {la2 : Int32} {ho : Int32} {ho2 : Int32} {ce : Int32} {ce2 : Int32} {me : Int32} {me2 : Int32} {fo : Int32} {fo2 : Int32} {as_ : Int32} {as2 : Int32} (h : IMisc td td2 la la2 ho ho2 ce ce2 me me2 fo fo2 as_ as2) : 0 ≤ ce.toInt := h.2.2.2.2.2.2.2.2.2.2.1
theorem IMisc.ce_hi {td : Int32} {td2 : Int32} {la : Int32} {la2 : Int32} {ho : Int32} {ho2 : Int32} {ce : Int32} {ce2 : Int32} {me : Int32} {me2 : Int32} {fo : Int32} {fo2 : Int32} {as_ : Int32} {as2 : Int32} (h : IMisc td td2 la la2 ho ho2 ce ce2 me me2 fo fo2 as_ as2) : ce.toInt ≤ 255 := h.2.2.2.2.2.2.2.2.2.2.2.1
theorem IMisc.me_eq {td : Int32} {td2 : Int32} {la : Int32} {la2 : Int32} {ho : Int32} {ho2 : Int32} {ce : Int32} {ce2 : Int32} {me : Int32} {me2 : Int32} {fo : Int32} {fo2 : Int32} {as_ : Int32} {as2 : Int32} (h : IMisc td td2 la la2 ho ho2 ce ce2 me me2 fo fo2 as_ as2) : me2 = me := h.2.2.2.2.2.2.2.2.2.2.2.2.1
theorem IMisc.me_lo {td : Int32} {td2 : Int32} {la : Int32} {la2 : Int32} {ho : Int32} {ho2 : Int32} {ce : Int32} {ce2 : Int32} {me : Int32} {me2 : Int32} {fo : Int32} {fo2 : Int32} {as_ : Int32} {as2 : Int32} (h : IMisc td td2 la la2 ho ho2 ce ce2 me me2 fo fo2 as_ as2) : 1 ≤ me.toInt := h.2.2.2.2.2.2.2.2.2.2.2.2.2.1
theorem IMisc.me_hi {td : Int32} {td2 : Int32} {la : Int32} {la2 : Int32} {ho : Int32} {ho2 : Int32} {ce : Int32} {ce2 : Int32} {me : Int32} {me2 : Int32} {fo : Int32} {fo2 : Int32} {as_ : Int32} {as2 : Int32} (h : IMisc td td2 la la2 ho ho2 ce ce2 me me2 fo fo2 as_ as2) : me.toInt ≤ 200 := h.2.2.2.2.2.2.2.2.2.2.2.2.2.2.1
theorem IMisc.fo_eq {td : Int32} {td2 : Int32} {la : Int32} {la2 : Int32} {ho : Int32} {ho2 : Int32} {ce : Int32} {ce2 : Int32} {me : Int32} {me2 : Int32} {fo : Int32} {fo2 : Int32} {as_ : Int32} {as2 : Int32} (h : IMisc td td2 la la2 ho ho2 ce ce2 me me2 fo fo2 as_ as2) : fo2 = fo := h.2.2.2.2.2.2.2.2.2.2.2.2.2.2.2.1
theorem IMisc.fo_lo {td : Int32} {td2 : Int32} {la : Int32} {la2 : Int32} {ho : Int32} {ho2 : Int32} {ce : Int32} {ce2 : Int32} {me : Int32} {me2 : Int32} {fo : Int32} {fo2 : Int32} {as_ : Int32} {as2 : Int32} (h : IMisc td td2 la la2 ho ho2 ce ce2 me me2 fo fo2 as_ as2) : 0 ≤ fo.toInt := h.2.2.2.2.2.2.2.2.2.2.2.2.2.2.2.2.1
theorem IMisc.fo_hi {td : Int32} {td2 : Int32} {la : Int32} {la2 : Int32} {ho : Int32} {ho2 : Int32} {ce : Int32} {ce2 : Int32} {me : Int32} {me2 : Int32} {fo : Int32} {fo2 : Int32} {as_ : Int32} {as2 : Int32} (h : IMisc td td2 la la2 ho ho2 ce ce2 me me2 fo fo2 as_ as2) : fo.toInt ≤ 99999 := h.2.2.2.2.2.2.2.2.2.2.2.2.2.2.2.2.2.1
theorem IMisc.as_eq {td : Int32} {td2 : Int32} {la : Int32} {la2 : Int32} {ho : Int32} {ho2 : Int32} {ce : Int32} {ce2 : Int32} {me : Int32} {me2 : Int32} {fo : Int32} {fo2 : Int32} {as_ : Int32} {as2 : Int32} (h : IMisc td td2 la la2 ho ho2 ce ce2 me me2 fo fo2 as_ as2) : as2 = as_ := h.2.2.2.2.2.2.2.2.2.2.2.2.2.2.2.2.2.2.1
theorem IMisc.as_lo {td : Int32} {td2 : Int32} {la : Int32} {la2 : Int32} {ho : Int32} {ho2 : Int32} {ce : Int32} {ce2 : Int32} {me : Int32} {me2 : Int32} {fo : Int32} {fo2 : Int32} {as_ : Int32} {as2 : Int32} (h : IMisc td td2 la la2 ho ho2 ce ce2 me me2 fo fo2 as_ as2) : -1 ≤ as_.toInt := h.2.2.2.2.2.2.2.2.2.2.2.2.2.2.2.2.2.2.2.1
theorem IMisc.as_hi {td : Int32} {td2 : Int32} {la : Int32} {la2 : Int32} {ho : Int32} {ho2 : Int32} {ce : Int32} {ce2 : Int32} {me : Int32} {me2 : Int32} {fo : Int32} {fo2 : Int32} {as_ : Int32} {as2 : Int32} (h : IMisc td td2 la la2 ho ho2 ce ce2 me me2 fo fo2 as_ as2) : as_.toInt ≤ 119 := h.2.2.2.2.2.2.2.2.2.2.2.2.2.2.2.2.2.2.2.2
def ILand (la : Nat → Int32) (la2 : Nat → Int32) (ho : Nat → Int32) (ho2 : Nat → Int32) (lc : Int32) (hc : Int32) : Prop :=
  (la2 = la) ∧
  (ho2 = ho) ∧
  (∀ j, la j = nI 0 ∨ la j = nI 1) ∧
  (∀ j, ho j = nI 0 ∨ ho j = nI 1) ∧
  (lc = nI (cntF la 256)) ∧
  (hc = nI (cntF ho 256))
theorem ILand.la_eq {la : Nat → Int32} {la2 : Nat → Int32} {ho : Nat → Int32} {ho2 : Nat → Int32} {lc : Int32} {hc : Int32} (h : ILand la la2 ho ho2 lc hc) : la2 = la := h.1
theorem ILand.ho_eq {la : Nat → Int32} {la2 : Nat → Int32} {ho : Nat → Int32} {ho2 : Nat → Int32} {lc : Int32} {hc : Int32} (h : ILand la la2 ho ho2 lc hc) : ho2 = ho := h.2.1
theorem ILand.la_b {la : Nat → Int32} {la2 : Nat → Int32} {ho : Nat → Int32} {ho2 : Nat → Int32} {lc : Int32} {hc : Int32} (h : ILand la la2 ho ho2 lc hc) : ∀ j, la j = nI 0 ∨ la j = nI 1 := h.2.2.1
theorem ILand.ho_b {la : Nat → Int32} {la2 : Nat → Int32} {ho : Nat → Int32} {ho2 : Nat → Int32} {lc : Int32} {hc : Int32} (h : ILand la la2 ho ho2 lc hc) : ∀ j, ho j = nI 0 ∨ ho j = nI 1 := h.2.2.2.1
theorem ILand.lc_eq {la : Nat → Int32} {la2 : Nat → Int32} {ho : Nat → Int32} {ho2 : Nat → Int32} {lc : Int32} {hc : Int32} (h : ILand la la2 ho ho2 lc hc) : lc = nI (cntF la 256) := h.2.2.2.2.1
theorem ILand.hc_eq {la : Nat → Int32} {la2 : Nat → Int32} {ho : Nat → Int32} {ho2 : Nat → Int32} {lc : Int32} {hc : Int32} (h : ILand la la2 ho ho2 lc hc) : hc = nI (cntF ho 256) := h.2.2.2.2.2
def IIce (n : Int32) (n2 : Int32) (ce : Nat → Int32) (ye : Nat → Int32) (da : Nat → Int32) (is : Nat → Int32) (ce2 : Nat → Int32) (ye2 : Nat → Int32) (da2 : Nat → Int32) (is2 : Nat → Int32) : Prop :=
  (n2 = n) ∧
  (0 ≤ n.toInt) ∧
  (n.toInt ≤ 200) ∧
  (ce2 = ce) ∧
  (ye2 = ye) ∧
  (da2 = da) ∧
  (is2 = is) ∧
  (∀ j : Nat, (j : Int) < n.toInt → 0 ≤ (ce j).toInt ∧ (ce j).toInt ≤ 255 ∧ 0 ≤ (ye j).toInt ∧ (ye j).toInt ≤ 11 ∧ (is j = nI 0 ∨ is j = nI 1))
theorem IIce.n_eq {n : Int32} {n2 : Int32} {ce : Nat → Int32} {ye : Nat → Int32} {da : Nat → Int32} {is : Nat → Int32} {ce2 : Nat → Int32} {ye2 : Nat → Int32} {da2 : Nat → Int32} {is2 : Nat → Int32} (h : IIce n n2 ce ye da is ce2 ye2 da2 is2) : n2 = n := h.1
theorem IIce.n_lo {n : Int32} {n2 : Int32} {ce : Nat → Int32} {ye : Nat → Int32} {da : Nat → Int32} {is : Nat → Int32} {ce2 : Nat → Int32} {ye2 : Nat → Int32} {da2 : Nat → Int32} {is2 : Nat → Int32} (h : IIce n n2 ce ye da is ce2 ye2 da2 is2) : 0 ≤ n.toInt := h.2.1
theorem IIce.n_hi {n : Int32} {n2 : Int32} {ce : Nat → Int32} {ye : Nat → Int32} {da : Nat → Int32} {is : Nat → Int32} {ce2 : Nat → Int32} {ye2 : Nat → Int32} {da2 : Nat → Int32} {is2 : Nat → Int32} (h : IIce n n2 ce ye da is ce2 ye2 da2 is2) : n.toInt ≤ 200 := h.2.2.1
theorem IIce.ce_eq {n : Int32} {n2 : Int32} {ce : Nat → Int32} {ye : Nat → Int32} {da : Nat → Int32} {is : Nat → Int32} {ce2 : Nat → Int32} {ye2 : Nat → Int32} {da2 : Nat → Int32} {is2 : Nat → Int32} (h : IIce n n2 ce ye da is ce2 ye2 da2 is2) : ce2 = ce := h.2.2.2.1
theorem IIce.ye_eq {n : Int32} {n2 : Int32} {ce : Nat → Int32} {ye : Nat → Int32} {da : Nat → Int32} {is : Nat → Int32} {ce2 : Nat → Int32} {ye2 : Nat → Int32} {da2 : Nat → Int32} {is2 : Nat → Int32} (h : IIce n n2 ce ye da is ce2 ye2 da2 is2) : ye2 = ye := h.2.2.2.2.1
theorem IIce.da_eq {n : Int32} {n2 : Int32} {ce : Nat → Int32} {ye : Nat → Int32} {da : Nat → Int32} {is : Nat → Int32} {ce2 : Nat → Int32} {ye2 : Nat → Int32} {da2 : Nat → Int32} {is2 : Nat → Int32} (h : IIce n n2 ce ye da is ce2 ye2 da2 is2) : da2 = da := h.2.2.2.2.2.1
theorem IIce.is_eq {n : Int32} {n2 : Int32} {ce : Nat → Int32} {ye : Nat → Int32} {da : Nat → Int32} {is : Nat → Int32} {ce2 : Nat → Int32} {ye2 : Nat → Int32} {da2 : Nat → Int32} {is2 : Nat → Int32} (h : IIce n n2 ce ye da is ce2 ye2 da2 is2) : is2 = is := h.2.2.2.2.2.2.1
theorem IIce.ok {n : Int32} {n2 : Int32} {ce : Nat → Int32} {ye : Nat → Int32} {da : Nat → Int32} {is : Nat → Int32} {ce2 : Nat → Int32} {ye2 : Nat → Int32} {da2 : Nat → Int32} {is2 : Nat → Int32} (h : IIce n n2 ce ye da is ce2 ye2 da2 is2) : ∀ j : Nat, (j : Int) < n.toInt → 0 ≤ (ce j).toInt ∧ (ce j).toInt ≤ 255 ∧ 0 ≤ (ye j).toInt ∧ (ye j).toInt ≤ 11 ∧ (is j = nI 0 ∨ is j = nI 1) := h.2.2.2.2.2.2.2
def ITel (n : Int32) (n2 : Int32) (tr : Nat → Int32) (by_ : Nat → Int32) (tr2 : Nat → Int32) (by2 : Nat → Int32) : Prop :=
  (n2 = n) ∧
  (0 ≤ n.toInt) ∧
  (n.toInt ≤ 10) ∧
  (tr2 = tr) ∧
  (by2 = by_) ∧
  (∀ j : Nat, (j : Int) < n.toInt → 0 ≤ (tr j).toInt ∧ (tr j).toInt ≤ 100 ∧ -1 ≤ (by_ j).toInt ∧ (by_ j).toInt < j)
theorem ITel.n_eq {n : Int32} {n2 : Int32} {tr : Nat → Int32} {by_ : Nat → Int32} {tr2 : Nat → Int32} {by2 : Nat → Int32} (h : ITel n n2 tr by_ tr2 by2) : n2 = n := h.1
theorem ITel.n_lo {n : Int32} {n2 : Int32} {tr : Nat → Int32} {by_ : Nat → Int32} {tr2 : Nat → Int32} {by2 : Nat → Int32} (h : ITel n n2 tr by_ tr2 by2) : 0 ≤ n.toInt := h.2.1
theorem ITel.n_hi {n : Int32} {n2 : Int32} {tr : Nat → Int32} {by_ : Nat → Int32} {tr2 : Nat → Int32} {by2 : Nat → Int32} (h : ITel n n2 tr by_ tr2 by2) : n.toInt ≤ 10 := h.2.2.1
theorem ITel.tr_eq {n : Int32} {n2 : Int32} {tr : Nat → Int32} {by_ : Nat → Int32} {tr2 : Nat → Int32} {by2 : Nat → Int32} (h : ITel n n2 tr by_ tr2 by2) : tr2 = tr := h.2.2.2.1
theorem ITel.by_eq {n : Int32} {n2 : Int32} {tr : Nat → Int32} {by_ : Nat → Int32} {tr2 : Nat → Int32} {by2 : Nat → Int32} (h : ITel n n2 tr by_ tr2 by2) : by2 = by_ := h.2.2.2.2.1
theorem ITel.ok {n : Int32} {n2 : Int32} {tr : Nat → Int32} {by_ : Nat → Int32} {tr2 : Nat → Int32} {by2 : Nat → Int32} (h : ITel n n2 tr by_ tr2 by2) : ∀ j : Nat, (j : Int) < n.toInt → 0 ≤ (tr j).toInt ∧ (tr j).toInt ≤ 100 ∧ -1 ≤ (by_ j).toInt ∧ (by_ j).toInt < j := h.2.2.2.2.2
def IFind (n : Int32) (n2 : Int32) (tn : Int32) (td : Int32) (tr : Nat → Int32) (by_ : Nat → Int32) (fa : Nat → Int32) (ki : Nat → Int32) (pl : Nat → Int32) (fi : Nat → Int32) (la : Nat → Int32) (re : Nat → Int32) (te : Nat → Int32) (fr_ : Nat → Int32) (to : Nat → Int32) : Prop :=
  (n2 = n) ∧
  (0 ≤ n.toInt) ∧
  (n.toInt ≤ 40) ∧
  (∀ f : Nat, (f : Int) < n.toInt → fa (9 * f + 0) = ki f) ∧
  (∀ f : Nat, (f : Int) < n.toInt → fa (9 * f + 1) = pl f) ∧
  (∀ f : Nat, (f : Int) < n.toInt → fa (9 * f + 2) = fi f) ∧
  (∀ f : Nat, (f : Int) < n.toInt → fa (9 * f + 3) = la f) ∧
  (∀ f : Nat, (f : Int) < n.toInt → fa (9 * f + 4) = re f) ∧
  (∀ f : Nat, (f : Int) < n.toInt → fa (9 * f + 5) = te f) ∧
  (∀ f : Nat, (f : Int) < n.toInt → fa (9 * f + 6) = fr_ f) ∧
  (∀ f : Nat, (f : Int) < n.toInt → fa (9 * f + 7) = nI (trF tr by_ (te f))) ∧
  (∀ f : Nat, (f : Int) < n.toInt → fa (9 * f + 8) = to f) ∧
  (∀ f : Nat, (f : Int) < n.toInt → 0 ≤ (ki f).toInt ∧ (ki f).toInt ≤ 4 ∧ 0 ≤ (pl f).toInt ∧ (pl f).toInt ≤ 255 ∧ 0 ≤ (fi f).toInt ∧ (fi f).toInt ≤ (la f).toInt ∧ (la f).toInt ≤ 119 ∧ 0 ≤ (re f).toInt ∧ (re f).toInt ≤ 100 ∧ -1 ≤ (te f).toInt ∧ (te f).toInt < tn.toInt ∧ 0 ≤ (fr_ f).toInt ∧ (fr_ f).toInt ≤ 9 ∧ 0 ≤ (to f).toInt ∧ (to f).toInt ≤ td.toInt) ∧
  (∀ f g : Nat, f ≤ g → (g : Int) < n.toInt → (to f).toInt ≤ (to g).toInt)
theorem IFind.n_eq {n : Int32} {n2 : Int32} {tn : Int32} {td : Int32} {tr : Nat → Int32} {by_ : Nat → Int32} {fa : Nat → Int32} {ki : Nat → Int32} {pl : Nat → Int32} {fi : Nat → Int32} {la : Nat → Int32} {re : Nat → Int32} {te : Nat → Int32} {fr_ : Nat → Int32} {to : Nat → Int32} (h : IFind n n2 tn td tr by_ fa ki pl fi la re te fr_ to) : n2 = n := h.1
theorem IFind.n_lo {n : Int32} {n2 : Int32} {tn : Int32} {td : Int32} {tr : Nat → Int32} {by_ : Nat → Int32} {fa : Nat → Int32} {ki : Nat → Int32} {pl : Nat → Int32} {fi : Nat → Int32} {la : Nat → Int32} {re : Nat → Int32} {te : Nat → Int32} {fr_ : Nat → Int32} {to : Nat → Int32} (h : IFind n n2 tn td tr by_ fa ki pl fi la re te fr_ to) : 0 ≤ n.toInt := h.2.1
theorem IFind.n_hi {n : Int32} {n2 : Int32} {tn : Int32} {td : Int32} {tr : Nat → Int32} {by_ : Nat → Int32} {fa : Nat → Int32} {ki : Nat → Int32} {pl : Nat → Int32} {fi : Nat → Int32} {la : Nat → Int32} {re : Nat → Int32} {te : Nat → Int32} {fr_ : Nat → Int32} {to : Nat → Int32} (h : IFind n n2 tn td tr by_ fa ki pl fi la re te fr_ to) : n.toInt ≤ 40 := h.2.2.1
theorem IFind.f0 {n : Int32} {n2 : Int32} {tn : Int32} {td : Int32} {tr : Nat → Int32} {by_ : Nat → Int32} {fa : Nat → Int32} {ki : Nat → Int32} {pl : Nat → Int32} {fi : Nat → Int32} {la : Nat → Int32} {re : Nat → Int32} {te : Nat → Int32} {fr_ : Nat → Int32} {to : Nat → Int32} (h : IFind n n2 tn td tr by_ fa ki pl fi la re te fr_ to) : ∀ f : Nat, (f : Int) < n.toInt → fa (9 * f + 0) = ki f := h.2.2.2.1
theorem IFind.f1 {n : Int32} {n2 : Int32} {tn : Int32} {td : Int32} {tr : Nat → Int32} {by_ : Nat → Int32} {fa : Nat → Int32} {ki : Nat → Int32} {pl : Nat → Int32} {fi : Nat → Int32} {la : Nat → Int32} {re : Nat → Int32} {te : Nat → Int32} {fr_ : Nat → Int32} {to : Nat → Int32} (h : IFind n n2 tn td tr by_ fa ki pl fi la re te fr_ to) : ∀ f : Nat, (f : Int) < n.toInt → fa (9 * f + 1) = pl f := h.2.2.2.2.1
theorem IFind.f2 {n : Int32} {n2 : Int32} {tn : Int32} {td : Int32} {tr : Nat → Int32} {by_ : Nat → Int32} {fa : Nat → Int32} {ki : Nat → Int32} {pl : Nat → Int32} {fi : Nat → Int32} {la : Nat → Int32} {re : Nat → Int32} {te : Nat → Int32} {fr_ : Nat → Int32} {to : Nat → Int32} (h : IFind n n2 tn td tr by_ fa ki pl fi la re te fr_ to) : ∀ f : Nat, (f : Int) < n.toInt → fa (9 * f + 2) = fi f := h.2.2.2.2.2.1
theorem IFind.f3 {n : Int32} {n2 : Int32} {tn : Int32} {td : Int32} {tr : Nat → Int32} {by_ : Nat → Int32} {fa : Nat → Int32} {ki : Nat → Int32} {pl : Nat → Int32} {fi : Nat → Int32} {la : Nat → Int32} {re : Nat → Int32} {te : Nat → Int32} {fr_ : Nat → Int32} {to : Nat → Int32} (h : IFind n n2 tn td tr by_ fa ki pl fi la re te fr_ to) : ∀ f : Nat, (f : Int) < n.toInt → fa (9 * f + 3) = la f := h.2.2.2.2.2.2.1
theorem IFind.f4 {n : Int32} {n2 : Int32} {tn : Int32} {td : Int32} {tr : Nat → Int32} {by_ : Nat → Int32} {fa : Nat → Int32} {ki : Nat → Int32} {pl : Nat → Int32} {fi : Nat → Int32} {la : Nat → Int32} {re : Nat → Int32} {te : Nat → Int32} {fr_ : Nat → Int32} {to : Nat → Int32} (h : IFind n n2 tn td tr by_ fa ki pl fi la re te fr_ to) : ∀ f : Nat, (f : Int) < n.toInt → fa (9 * f + 4) = re f := h.2.2.2.2.2.2.2.1
theorem IFind.f5 {n : Int32} {n2 : Int32} {tn : Int32} {td : Int32} {tr : Nat → Int32} {by_ : Nat → Int32} {fa : Nat → Int32} {ki : Nat → Int32} {pl : Nat → Int32} {fi : Nat → Int32} {la : Nat → Int32} {re : Nat → Int32} {te : Nat → Int32} {fr_ : Nat → Int32} {to : Nat → Int32} (h : IFind n n2 tn td tr by_ fa ki pl fi la re te fr_ to) : ∀ f : Nat, (f : Int) < n.toInt → fa (9 * f + 5) = te f := h.2.2.2.2.2.2.2.2.1
theorem IFind.f6 {n : Int32} {n2 : Int32} {tn : Int32} {td : Int32} {tr : Nat → Int32} {by_ : Nat → Int32} {fa : Nat → Int32} {ki : Nat → Int32} {pl : Nat → Int32} {fi : Nat → Int32} {la : Nat → Int32} {re : Nat → Int32} {te : Nat → Int32} {fr_ : Nat → Int32} {to : Nat → Int32} (h : IFind n n2 tn td tr by_ fa ki pl fi la re te fr_ to) : ∀ f : Nat, (f : Int) < n.toInt → fa (9 * f + 6) = fr_ f := h.2.2.2.2.2.2.2.2.2.1
theorem IFind.f7 {n : Int32} {n2 : Int32} {tn : Int32} {td : Int32} {tr : Nat → Int32} {by_ : Nat → Int32} {fa : Nat → Int32} {ki : Nat → Int32} {pl : Nat → Int32} {fi : Nat → Int32} {la : Nat → Int32} {re : Nat → Int32} {te : Nat → Int32} {fr_ : Nat → Int32} {to : Nat → Int32} (h : IFind n n2 tn td tr by_ fa ki pl fi la re te fr_ to) : ∀ f : Nat, (f : Int) < n.toInt → fa (9 * f + 7) = nI (trF tr by_ (te f)) := h.2.2.2.2.2.2.2.2.2.2.1
theorem IFind.f8 {n : Int32} {n2 : Int32} {tn : Int32} {td : Int32} {tr : Nat → Int32} {by_ : Nat → Int32} {fa : Nat → Int32} {ki : Nat → Int32} {pl : Nat → Int32} {fi : Nat → Int32} {la : Nat → Int32} {re : Nat → Int32} {te : Nat → Int32} {fr_ : Nat → Int32} {to : Nat → Int32} (h : IFind n n2 tn td tr by_ fa ki pl fi la re te fr_ to) : ∀ f : Nat, (f : Int) < n.toInt → fa (9 * f + 8) = to f := h.2.2.2.2.2.2.2.2.2.2.2.1
theorem IFind.ok {n : Int32} {n2 : Int32} {tn : Int32} {td : Int32} {tr : Nat → Int32} {by_ : Nat → Int32} {fa : Nat → Int32} {ki : Nat → Int32} {pl : Nat → Int32} {fi : Nat → Int32} {la : Nat → Int32} {re : Nat → Int32} {te : Nat → Int32} {fr_ : Nat → Int32} {to : Nat → Int32} (h : IFind n n2 tn td tr by_ fa ki pl fi la re te fr_ to) : ∀ f : Nat, (f : Int) < n.toInt → 0 ≤ (ki f).toInt ∧ (ki f).toInt ≤ 4 ∧ 0 ≤ (pl f).toInt ∧ (pl f).toInt ≤ 255 ∧ 0 ≤ (fi f).toInt ∧ (fi f).toInt ≤ (la f).toInt ∧ (la f).toInt ≤ 119 ∧ 0 ≤ (re f).toInt ∧ (re f).toInt ≤ 100 ∧ -1 ≤ (te f).toInt ∧ (te f).toInt < tn.toInt ∧ 0 ≤ (fr_ f).toInt ∧ (fr_ f).toInt ≤ 9 ∧ 0 ≤ (to f).toInt ∧ (to f).toInt ≤ td.toInt := h.2.2.2.2.2.2.2.2.2.2.2.2.1
theorem IFind.mo {n : Int32} {n2 : Int32} {tn : Int32} {td : Int32} {tr : Nat → Int32} {by_ : Nat → Int32} {fa : Nat → Int32} {ki : Nat → Int32} {pl : Nat → Int32} {fi : Nat → Int32} {la : Nat → Int32} {re : Nat → Int32} {te : Nat → Int32} {fr_ : Nat → Int32} {to : Nat → Int32} (h : IFind n n2 tn td tr by_ fa ki pl fi la re te fr_ to) : ∀ f g : Nat, f ≤ g → (g : Int) < n.toInt → (to f).toInt ≤ (to g).toInt := h.2.2.2.2.2.2.2.2.2.2.2.2.2
def IDoubt (n : Int32) (n2 : Int32) (fi : Nat → Int32) (da : Nat → Int32) (is : Nat → Int32) (fi2 : Nat → Int32) (da2 : Nat → Int32) (is2 : Nat → Int32) : Prop :=
  (n2 = n) ∧
  (0 ≤ n.toInt) ∧
  (n.toInt ≤ 200) ∧
  (fi2 = fi) ∧
  (da2 = da) ∧
  (is2 = is) ∧
  (∀ j : Nat, (j : Int) < n.toInt → (is j = nI 0 ∨ is j = nI 1))
theorem IDoubt.n_eq {n : Int32} {n2 : Int32} {fi : Nat → Int32} {da : Nat → Int32} {is : Nat → Int32} {fi2 : Nat → Int32} {da2 : Nat → Int32} {is2 : Nat → Int32} (h : IDoubt n n2 fi da is fi2 da2 is2) : n2 = n := h.1
theorem IDoubt.n_lo {n : Int32} {n2 : Int32} {fi : Nat → Int32} {da : Nat → Int32} {is : Nat → Int32} {fi2 : Nat → Int32} {da2 : Nat → Int32} {is2 : Nat → Int32} (h : IDoubt n n2 fi da is fi2 da2 is2) : 0 ≤ n.toInt := h.2.1
theorem IDoubt.n_hi {n : Int32} {n2 : Int32} {fi : Nat → Int32} {da : Nat → Int32} {is : Nat → Int32} {fi2 : Nat → Int32} {da2 : Nat → Int32} {is2 : Nat → Int32} (h : IDoubt n n2 fi da is fi2 da2 is2) : n.toInt ≤ 200 := h.2.2.1
theorem IDoubt.fi_eq {n : Int32} {n2 : Int32} {fi : Nat → Int32} {da : Nat → Int32} {is : Nat → Int32} {fi2 : Nat → Int32} {da2 : Nat → Int32} {is2 : Nat → Int32} (h : IDoubt n n2 fi da is fi2 da2 is2) : fi2 = fi := h.2.2.2.1
theorem IDoubt.da_eq {n : Int32} {n2 : Int32} {fi : Nat → Int32} {da : Nat → Int32} {is : Nat → Int32} {fi2 : Nat → Int32} {da2 : Nat → Int32} {is2 : Nat → Int32} (h : IDoubt n n2 fi da is fi2 da2 is2) : da2 = da := h.2.2.2.2.1
theorem IDoubt.is_eq {n : Int32} {n2 : Int32} {fi : Nat → Int32} {da : Nat → Int32} {is : Nat → Int32} {fi2 : Nat → Int32} {da2 : Nat → Int32} {is2 : Nat → Int32} (h : IDoubt n n2 fi da is fi2 da2 is2) : is2 = is := h.2.2.2.2.2.1
theorem IDoubt.ok {n : Int32} {n2 : Int32} {fi : Nat → Int32} {da : Nat → Int32} {is : Nat → Int32} {fi2 : Nat → Int32} {da2 : Nat → Int32} {is2 : Nat → Int32} (h : IDoubt n n2 fi da is fi2 da2 is2) : ∀ j : Nat, (j : Int) < n.toInt → (is j = nI 0 ∨ is j = nI 1) := h.2.2.2.2.2.2
def IRow (n : Int32) (n2 : Int32) (mo : Nat → Int32) (mo2 : Nat → Int32) : Prop :=
  (n2 = n) ∧
  (0 ≤ n.toInt) ∧
  (n.toInt ≤ 119) ∧
  (mo2 = mo) ∧
  (∀ j : Nat, (j : Int) < n.toInt → 0 ≤ (mo j).toInt ∧ (mo j).toInt ≤ 8)
theorem IRow.n_eq {n : Int32} {n2 : Int32} {mo : Nat → Int32} {mo2 : Nat → Int32} (h : IRow n n2 mo mo2) : n2 = n := h.1
theorem IRow.n_lo {n : Int32} {n2 : Int32} {mo : Nat → Int32} {mo2 : Nat → Int32} (h : IRow n n2 mo mo2) : 0 ≤ n.toInt := h.2.1
theorem IRow.n_hi {n : Int32} {n2 : Int32} {mo : Nat → Int32} {mo2 : Nat → Int32} (h : IRow n n2 mo mo2) : n.toInt ≤ 119 := h.2.2.1
theorem IRow.mo_eq {n : Int32} {n2 : Int32} {mo : Nat → Int32} {mo2 : Nat → Int32} (h : IRow n n2 mo mo2) : mo2 = mo := h.2.2.2.1
theorem IRow.ok {n : Int32} {n2 : Int32} {mo : Nat → Int32} {mo2 : Nat → Int32} (h : IRow n n2 mo mo2) : ∀ j : Nat, (j : Int) < n.toInt → 0 ≤ (mo j).toInt ∧ (mo j).toInt ≤ 8 := h.2.2.2.2
def IShip (n : Int32) (n2 : Int32) (ha : Nat → Int32) (ra : Nat → Int32) (we : Nat → Int32) (ha2 : Nat → Int32) (ra2 : Nat → Int32) (we2 : Nat → Int32) : Prop :=
  (n2 = n) ∧
  (0 ≤ n.toInt) ∧
  (n.toInt ≤ 4) ∧
  (ha2 = ha) ∧
  (ra2 = ra) ∧
  (we2 = we) ∧
  (∀ j : Nat, (j : Int) < n.toInt → 0 ≤ (ha j).toInt ∧ (ha j).toInt ≤ 255 ∧ 0 ≤ (ra j).toInt ∧ (ra j).toInt ≤ 20 ∧ 1 ≤ (we j).toInt ∧ (we j).toInt ≤ 100)
theorem IShip.n_eq {n : Int32} {n2 : Int32} {ha : Nat → Int32} {ra : Nat → Int32} {we : Nat → Int32} {ha2 : Nat → Int32} {ra2 : Nat → Int32} {we2 : Nat → Int32} (h : IShip n n2 ha ra we ha2 ra2 we2) : n2 = n := h.1
theorem IShip.n_lo {n : Int32} {n2 : Int32} {ha : Nat → Int32} {ra : Nat → Int32} {we : Nat → Int32} {ha2 : Nat → Int32} {ra2 : Nat → Int32} {we2 : Nat → Int32} (h : IShip n n2 ha ra we ha2 ra2 we2) : 0 ≤ n.toInt := h.2.1
theorem IShip.n_hi {n : Int32} {n2 : Int32} {ha : Nat → Int32} {ra : Nat → Int32} {we : Nat → Int32} {ha2 : Nat → Int32} {ra2 : Nat → Int32} {we2 : Nat → Int32} (h : IShip n n2 ha ra we ha2 ra2 we2) : n.toInt ≤ 4 := h.2.2.1
theorem IShip.ha_eq {n : Int32} {n2 : Int32} {ha : Nat → Int32} {ra : Nat → Int32} {we : Nat → Int32} {ha2 : Nat → Int32} {ra2 : Nat → Int32} {we2 : Nat → Int32} (h : IShip n n2 ha ra we ha2 ra2 we2) : ha2 = ha := h.2.2.2.1
theorem IShip.ra_eq {n : Int32} {n2 : Int32} {ha : Nat → Int32} {ra : Nat → Int32} {we : Nat → Int32} {ha2 : Nat → Int32} {ra2 : Nat → Int32} {we2 : Nat → Int32} (h : IShip n n2 ha ra we ha2 ra2 we2) : ra2 = ra := h.2.2.2.2.1
theorem IShip.we_eq {n : Int32} {n2 : Int32} {ha : Nat → Int32} {ra : Nat → Int32} {we : Nat → Int32} {ha2 : Nat → Int32} {ra2 : Nat → Int32} {we2 : Nat → Int32} (h : IShip n n2 ha ra we ha2 ra2 we2) : we2 = we := h.2.2.2.2.2.1
theorem IShip.ok {n : Int32} {n2 : Int32} {ha : Nat → Int32} {ra : Nat → Int32} {we : Nat → Int32} {ha2 : Nat → Int32} {ra2 : Nat → Int32} {we2 : Nat → Int32} (h : IShip n n2 ha ra we ha2 ra2 we2) : ∀ j : Nat, (j : Int) < n.toInt → 0 ≤ (ha j).toInt ∧ (ha j).toInt ≤ 255 ∧ 0 ≤ (ra j).toInt ∧ (ra j).toInt ≤ 20 ∧ 1 ≤ (we j).toInt ∧ (we j).toInt ≤ 100 := h.2.2.2.2.2.2
def ITape (n : Int32) (n2 : Int32) (ft : Int32) (ft2 : Int32) (by_ : Nat → Int32) (by2 : Nat → Int32) : Prop :=
  (n2 = n) ∧
  (0 ≤ n.toInt) ∧
  (n.toInt ≤ 700) ∧
  (ft2 = ft) ∧
  (by2 = by_) ∧
  (∀ j : Nat, -128 ≤ (by_ j).toInt ∧ (by_ j).toInt ≤ 127)
theorem ITape.n_eq {n : Int32} {n2 : Int32} {ft : Int32} {ft2 : Int32} {by_ : Nat → Int32} {by2 : Nat → Int32} (h : ITape n n2 ft ft2 by_ by2) : n2 = n := h.1
theorem ITape.n_lo {n : Int32} {n2 : Int32} {ft : Int32} {ft2 : Int32} {by_ : Nat → Int32} {by2 : Nat → Int32} (h : ITape n n2 ft ft2 by_ by2) : 0 ≤ n.toInt := h.2.1
theorem ITape.n_hi {n : Int32} {n2 : Int32} {ft : Int32} {ft2 : Int32} {by_ : Nat → Int32} {by2 : Nat → Int32} (h : ITape n n2 ft ft2 by_ by2) : n.toInt ≤ 700 := h.2.2.1
theorem ITape.ft_eq {n : Int32} {n2 : Int32} {ft : Int32} {ft2 : Int32} {by_ : Nat → Int32} {by2 : Nat → Int32} (h : ITape n n2 ft ft2 by_ by2) : ft2 = ft := h.2.2.2.1
theorem ITape.by_eq {n : Int32} {n2 : Int32} {ft : Int32} {ft2 : Int32} {by_ : Nat → Int32} {by2 : Nat → Int32} (h : ITape n n2 ft ft2 by_ by2) : by2 = by_ := h.2.2.2.2.1
theorem ITape.ok {n : Int32} {n2 : Int32} {ft : Int32} {ft2 : Int32} {by_ : Nat → Int32} {by2 : Nat → Int32} (h : ITape n n2 ft ft2 by_ by2) : ∀ j : Nat, -128 ≤ (by_ j).toInt ∧ (by_ j).toInt ≤ 127 := h.2.2.2.2.2
def IRule (n : Int32) (n2 : Int32) (hb : Int32) (td : Int32) (A : Nat → Nat → Nat) (D : Nat → Nat → Int32) (K : Nat → Nat × Nat) (N : Nat) (st : Nat → Int32) (tk : Nat → Int32) (so : Nat → Int32) (of_ : Nat → Int32) (co : Nat → Int32) (wh : Nat → Int32) (nk : Nat → Int32) (nf : Nat → Int32) (nn : Nat → Int32) (nw : Nat → Int32) (ns : Nat → Int32) (nu : Nat → Int32) : Prop :=
  (n2 = n) ∧
  (0 ≤ n.toInt) ∧
  (n.toInt ≤ 8) ∧
  (∀ k : Nat, (k : Int) < n.toInt → ∃ r, A 65 k = r + 1 ∧ 118 ≤ r ∧ setOK A D K N st tk so of_ co wh nk nf nn nw ns nu r k ∧ (tk k).toInt ≤ td.toInt) ∧
  ((A 9 13 = 0 ∧ hb = nI 0) ∨ (hb = nI 1 ∧ ∃ r, A 9 13 = r + 1 ∧ 118 ≤ r ∧ setOK A D K N st tk so of_ co wh nk nf nn nw ns nu r 8)) ∧
  (D 62 0 = nI 0 ∧ D 62 1 = nI 0)
theorem IRule.n_eq {n : Int32} {n2 : Int32} {hb : Int32} {td : Int32} {A : Nat → Nat → Nat} {D : Nat → Nat → Int32} {K : Nat → Nat × Nat} {N : Nat} {st : Nat → Int32} {tk : Nat → Int32} {so : Nat → Int32} {of_ : Nat → Int32} {co : Nat → Int32} {wh : Nat → Int32} {nk : Nat → Int32} {nf : Nat → Int32} {nn : Nat → Int32} {nw : Nat → Int32} {ns : Nat → Int32} {nu : Nat → Int32} (h : IRule n n2 hb td A D K N st tk so of_ co wh nk nf nn nw ns nu) : n2 = n := h.1
theorem IRule.n_lo {n : Int32} {n2 : Int32} {hb : Int32} {td : Int32} {A : Nat → Nat → Nat} {D : Nat → Nat → Int32} {K : Nat → Nat × Nat} {N : Nat} {st : Nat → Int32} {tk : Nat → Int32} {so : Nat → Int32} {of_ : Nat → Int32} {co : Nat → Int32} {wh : Nat → Int32} {nk : Nat → Int32} {nf : Nat → Int32} {nn : Nat → Int32} {nw : Nat → Int32} {ns : Nat → Int32} {nu : Nat → Int32} (h : IRule n n2 hb td A D K N st tk so of_ co wh nk nf nn nw ns nu) : 0 ≤ n.toInt := h.2.1
theorem IRule.n_hi {n : Int32} {n2 : Int32} {hb : Int32} {td : Int32} {A : Nat → Nat → Nat} {D : Nat → Nat → Int32} {K : Nat → Nat × Nat} {N : Nat} {st : Nat → Int32} {tk : Nat → Int32} {so : Nat → Int32} {of_ : Nat → Int32} {co : Nat → Int32} {wh : Nat → Int32} {nk : Nat → Int32} {nf : Nat → Int32} {nn : Nat → Int32} {nw : Nat → Int32} {ns : Nat → Int32} {nu : Nat → Int32} (h : IRule n n2 hb td A D K N st tk so of_ co wh nk nf nn nw ns nu) : n.toInt ≤ 8 := h.2.2.1
theorem IRule.each {n : Int32} {n2 : Int32} {hb : Int32} {td : Int32} {A : Nat → Nat → Nat} {D : Nat → Nat → Int32} {K : Nat → Nat × Nat} {N : Nat} {st : Nat → Int32} {tk : Nat → Int32} {so : Nat → Int32} {of_ : Nat → Int32} {co : Nat → Int32} {wh : Nat → Int32} {nk : Nat → Int32} {nf : Nat → Int32} {nn : Nat → Int32} {nw : Nat → Int32} {ns : Nat → Int32} {nu : Nat → Int32} (h : IRule n n2 hb td A D K N st tk so of_ co wh nk nf nn nw ns nu) : ∀ k : Nat, (k : Int) < n.toInt → ∃ r, A 65 k = r + 1 ∧ 118 ≤ r ∧ setOK A D K N st tk so of_ co wh nk nf nn nw ns nu r k ∧ (tk k).toInt ≤ td.toInt := h.2.2.2.1
theorem IRule.bes {n : Int32} {n2 : Int32} {hb : Int32} {td : Int32} {A : Nat → Nat → Nat} {D : Nat → Nat → Int32} {K : Nat → Nat × Nat} {N : Nat} {st : Nat → Int32} {tk : Nat → Int32} {so : Nat → Int32} {of_ : Nat → Int32} {co : Nat → Int32} {wh : Nat → Int32} {nk : Nat → Int32} {nf : Nat → Int32} {nn : Nat → Int32} {nw : Nat → Int32} {ns : Nat → Int32} {nu : Nat → Int32} (h : IRule n n2 hb td A D K N st tk so of_ co wh nk nf nn nw ns nu) : (A 9 13 = 0 ∧ hb = nI 0) ∨ (hb = nI 1 ∧ ∃ r, A 9 13 = r + 1 ∧ 118 ≤ r ∧ setOK A D K N st tk so of_ co wh nk nf nn nw ns nu r 8) := h.2.2.2.2.1
theorem IRule.nor {n : Int32} {n2 : Int32} {hb : Int32} {td : Int32} {A : Nat → Nat → Nat} {D : Nat → Nat → Int32} {K : Nat → Nat × Nat} {N : Nat} {st : Nat → Int32} {tk : Nat → Int32} {so : Nat → Int32} {of_ : Nat → Int32} {co : Nat → Int32} {wh : Nat → Int32} {nk : Nat → Int32} {nf : Nat → Int32} {nn : Nat → Int32} {nw : Nat → Int32} {ns : Nat → Int32} {nu : Nat → Int32} (h : IRule n n2 hb td A D K N st tk so of_ co wh nk nf nn nw ns nu) : D 62 0 = nI 0 ∧ D 62 1 = nI 0 := h.2.2.2.2.2
def IStat (r1 : Nat → Int32) (r2 : Nat → Int32) (r7 : Nat → Int32) (r8 : Nat → Int32) (r5 : Nat → Int32) (r6 : Nat → Int32) (l3 : Nat → Int64) (l4 : Nat → Int64) (A : Nat → Nat → Nat) (N : Nat) : Prop :=
  (118 ≤ N) ∧
  (∀ j, j < 9 → r1 j = Int32.ofInt (am_rows.getD j 0)) ∧
  (∀ j, j < 9 → r2 j = Int32.ofInt (am_cols.getD j 0)) ∧
  (∀ j, j < 138 → r7 j = Int32.ofInt (am_txA.getD j 0)) ∧
  (∀ j, j < 6 → r8 j = Int32.ofInt (am_txB.getD j 0)) ∧
  (∀ j, j < 6 → l3 j = Int64.ofInt (am_swith.getD j 0)) ∧
  (∀ j, j < 6 → l4 j = Int64.ofInt (am_swout.getD j 0)) ∧
  (A 5 0 = 8) ∧
  (A 6 0 = 9) ∧
  (r5 1 = nI 0) ∧
  (r6 1 = nI 0)
theorem IStat.N_lo {r1 : Nat → Int32} {r2 : Nat → Int32} {r7 : Nat → Int32} {r8 : Nat → Int32} {r5 : Nat → Int32} {r6 : Nat → Int32} {l3 : Nat → Int64} {l4 : Nat → Int64} {A : Nat → Nat → Nat} {N : Nat} (h : IStat r1 r2 r7 r8 r5 r6 l3 l4 A N) : 118 ≤ N := h.1
theorem IStat.r1_eq {r1 : Nat → Int32} {r2 : Nat → Int32} {r7 : Nat → Int32} {r8 : Nat → Int32} {r5 : Nat → Int32} {r6 : Nat → Int32} {l3 : Nat → Int64} {l4 : Nat → Int64} {A : Nat → Nat → Nat} {N : Nat} (h : IStat r1 r2 r7 r8 r5 r6 l3 l4 A N) : ∀ j, j < 9 → r1 j = Int32.ofInt (am_rows.getD j 0) := h.2.1
theorem IStat.r2_eq {r1 : Nat → Int32} {r2 : Nat → Int32} {r7 : Nat → Int32} {r8 : Nat → Int32} {r5 : Nat → Int32} {r6 : Nat → Int32} {l3 : Nat → Int64} {l4 : Nat → Int64} {A : Nat → Nat → Nat} {N : Nat} (h : IStat r1 r2 r7 r8 r5 r6 l3 l4 A N) : ∀ j, j < 9 → r2 j = Int32.ofInt (am_cols.getD j 0) := h.2.2.1
theorem IStat.r7_eq {r1 : Nat → Int32} {r2 : Nat → Int32} {r7 : Nat → Int32} {r8 : Nat → Int32} {r5 : Nat → Int32} {r6 : Nat → Int32} {l3 : Nat → Int64} {l4 : Nat → Int64} {A : Nat → Nat → Nat} {N : Nat} (h : IStat r1 r2 r7 r8 r5 r6 l3 l4 A N) : ∀ j, j < 138 → r7 j = Int32.ofInt (am_txA.getD j 0) := h.2.2.2.1
theorem IStat.r8_eq {r1 : Nat → Int32} {r2 : Nat → Int32} {r7 : Nat → Int32} {r8 : Nat → Int32} {r5 : Nat → Int32} {r6 : Nat → Int32} {l3 : Nat → Int64} {l4 : Nat → Int64} {A : Nat → Nat → Nat} {N : Nat} (h : IStat r1 r2 r7 r8 r5 r6 l3 l4 A N) : ∀ j, j < 6 → r8 j = Int32.ofInt (am_txB.getD j 0) := h.2.2.2.2.1
theorem IStat.l3_eq {r1 : Nat → Int32} {r2 : Nat → Int32} {r7 : Nat → Int32} {r8 : Nat → Int32} {r5 : Nat → Int32} {r6 : Nat → Int32} {l3 : Nat → Int64} {l4 : Nat → Int64} {A : Nat → Nat → Nat} {N : Nat} (h : IStat r1 r2 r7 r8 r5 r6 l3 l4 A N) : ∀ j, j < 6 → l3 j = Int64.ofInt (am_swith.getD j 0) := h.2.2.2.2.2.1
theorem IStat.l4_eq {r1 : Nat → Int32} {r2 : Nat → Int32} {r7 : Nat → Int32} {r8 : Nat → Int32} {r5 : Nat → Int32} {r6 : Nat → Int32} {l3 : Nat → Int64} {l4 : Nat → Int64} {A : Nat → Nat → Nat} {N : Nat} (h : IStat r1 r2 r7 r8 r5 r6 l3 l4 A N) : ∀ j, j < 6 → l4 j = Int64.ofInt (am_swout.getD j 0) := h.2.2.2.2.2.2.1
theorem IStat.a5 {r1 : Nat → Int32} {r2 : Nat → Int32} {r7 : Nat → Int32} {r8 : Nat → Int32} {r5 : Nat → Int32} {r6 : Nat → Int32} {l3 : Nat → Int64} {l4 : Nat → Int64} {A : Nat → Nat → Nat} {N : Nat} (h : IStat r1 r2 r7 r8 r5 r6 l3 l4 A N) : A 5 0 = 8 := h.2.2.2.2.2.2.2.1
theorem IStat.a6 {r1 : Nat → Int32} {r2 : Nat → Int32} {r7 : Nat → Int32} {r8 : Nat → Int32} {r5 : Nat → Int32} {r6 : Nat → Int32} {l3 : Nat → Int64} {l4 : Nat → Int64} {A : Nat → Nat → Nat} {N : Nat} (h : IStat r1 r2 r7 r8 r5 r6 l3 l4 A N) : A 6 0 = 9 := h.2.2.2.2.2.2.2.2.1
theorem IStat.c5 {r1 : Nat → Int32} {r2 : Nat → Int32} {r7 : Nat → Int32} {r8 : Nat → Int32} {r5 : Nat → Int32} {r6 : Nat → Int32} {l3 : Nat → Int64} {l4 : Nat → Int64} {A : Nat → Nat → Nat} {N : Nat} (h : IStat r1 r2 r7 r8 r5 r6 l3 l4 A N) : r5 1 = nI 0 := h.2.2.2.2.2.2.2.2.2.1
theorem IStat.c6 {r1 : Nat → Int32} {r2 : Nat → Int32} {r7 : Nat → Int32} {r8 : Nat → Int32} {r5 : Nat → Int32} {r6 : Nat → Int32} {l3 : Nat → Int64} {l4 : Nat → Int64} {A : Nat → Nat → Nat} {N : Nat} (h : IStat r1 r2 r7 r8 r5 r6 l3 l4 A N) : r6 1 = nI 0 := h.2.2.2.2.2.2.2.2.2.2
def Inv (M : am_M) : Prop :=
  (IMisc (mI M 9 15) (mI M 67 0) (mI M 9 16) (mI M 67 5) (mI M 9 17) (mI M 67 6) (mI M 18 0) (mI M 67 1) (mI M 18 1) (mI M 67 2) (mI M 18 2) (mI M 67 3) (mI M 18 3) (mI M 67 4)) ∧
  (ILand (mI M 11) (mI M 68) (mI M 12) (mI M 69) (mI M 10 8) (mI M 10 9)) ∧
  (IIce (mI M 10 7) (mI M 67 9) (mI M 13) (mI M 14) (mI M 15) (mI M 16) (mI M 70) (mI M 71) (mI M 72) (mI M 73)) ∧
  (ITel (mI M 19 9) (mI M 67 15) (mI M 21) (mI M 22) (mI M 75) (mI M 76)) ∧
  (IFind (mI M 19 8) (mI M 67 16) (mI M 19 9) (mI M 9 15) (mI M 21) (mI M 22) (mI M 20) (mI M 77) (mI M 78) (mI M 79) (mI M 80) (mI M 81) (mI M 82) (mI M 83) (mI M 84)) ∧
  (IDoubt (mI M 19 10) (mI M 67 17) (mI M 23) (mI M 24) (mI M 25) (mI M 85) (mI M 86) (mI M 87)) ∧
  (IRow (mI M 28 5) (mI M 67 37) (mI M 29) (mI M 92)) ∧
  (IShip (mI M 41 12) (mI M 67 43) (mI M 42) (mI M 43) (mI M 44) (mI M 95) (mI M 96) (mI M 97)) ∧
  (ITape (mI M 55 4) (mI M 67 54) (mI M 59 7) (mI M 67 58) (mI M 56) (mI M 115)) ∧
  (IRule (mI M 9 14) (mI M 67 52) (mI M 67 59) (mI M 9 15) (mA M) (dynI M) (mK M) (mN M) (msk 9 (mI M 102)) (msk 9 (mI M 103)) (msk 270 (mI M 104)) (msk 270 (mI M 105)) (msk 270 (mI M 106)) (msk 270 (mI M 107)) (msk 6480 (mI M 108)) (msk 6480 (mI M 109)) (msk 6480 (mI M 110)) (msk 6480 (mI M 111)) (msk 6480 (mI M 112)) (msk 6480 (mI M 113))) ∧
  (IStat (mI M 1) (mI M 2) (mI M 7) (mI M 8) (mI M 5) (mI M 6) (mL M 3) (mL M 4) (mA M) (mN M))
theorem Inv.misc {M : am_M} (h : Inv M) : IMisc (mI M 9 15) (mI M 67 0) (mI M 9 16) (mI M 67 5) (mI M 9 17) (mI M 67 6) (mI M 18 0) (mI M 67 1) (mI M 18 1) (mI M 67 2) (mI M 18 2) (mI M 67 3) (mI M 18 3) (mI M 67 4) := h.1
theorem Inv.land {M : am_M} (h : Inv M) : ILand (mI M 11) (mI M 68) (mI M 12) (mI M 69) (mI M 10 8) (mI M 10 9) := h.2.1
theorem Inv.ice {M : am_M} (h : Inv M) : IIce (mI M 10 7) (mI M 67 9) (mI M 13) (mI M 14) (mI M 15) (mI M 16) (mI M 70) (mI M 71) (mI M 72) (mI M 73) := h.2.2.1
theorem Inv.tel {M : am_M} (h : Inv M) : ITel (mI M 19 9) (mI M 67 15) (mI M 21) (mI M 22) (mI M 75) (mI M 76) := h.2.2.2.1
theorem Inv.find {M : am_M} (h : Inv M) : IFind (mI M 19 8) (mI M 67 16) (mI M 19 9) (mI M 9 15) (mI M 21) (mI M 22) (mI M 20) (mI M 77) (mI M 78) (mI M 79) (mI M 80) (mI M 81) (mI M 82) (mI M 83) (mI M 84) := h.2.2.2.2.1
theorem Inv.doubt {M : am_M} (h : Inv M) : IDoubt (mI M 19 10) (mI M 67 17) (mI M 23) (mI M 24) (mI M 25) (mI M 85) (mI M 86) (mI M 87) := h.2.2.2.2.2.1
theorem Inv.row {M : am_M} (h : Inv M) : IRow (mI M 28 5) (mI M 67 37) (mI M 29) (mI M 92) := h.2.2.2.2.2.2.1
theorem Inv.ship {M : am_M} (h : Inv M) : IShip (mI M 41 12) (mI M 67 43) (mI M 42) (mI M 43) (mI M 44) (mI M 95) (mI M 96) (mI M 97) := h.2.2.2.2.2.2.2.1
theorem Inv.tape {M : am_M} (h : Inv M) : ITape (mI M 55 4) (mI M 67 54) (mI M 59 7) (mI M 67 58) (mI M 56) (mI M 115) := h.2.2.2.2.2.2.2.2.1
theorem Inv.rule {M : am_M} (h : Inv M) : IRule (mI M 9 14) (mI M 67 52) (mI M 67 59) (mI M 9 15) (mA M) (dynI M) (mK M) (mN M) (msk 9 (mI M 102)) (msk 9 (mI M 103)) (msk 270 (mI M 104)) (msk 270 (mI M 105)) (msk 270 (mI M 106)) (msk 270 (mI M 107)) (msk 6480 (mI M 108)) (msk 6480 (mI M 109)) (msk 6480 (mI M 110)) (msk 6480 (mI M 111)) (msk 6480 (mI M 112)) (msk 6480 (mI M 113)) := h.2.2.2.2.2.2.2.2.2.1
theorem Inv.stat {M : am_M} (h : Inv M) : IStat (mI M 1) (mI M 2) (mI M 7) (mI M 8) (mI M 5) (mI M 6) (mL M 3) (mL M 4) (mA M) (mN M) := h.2.2.2.2.2.2.2.2.2.2
def sc (M M' : am_M) : Prop :=
  (mN M' = mN M) ∧
  (mS M' = mS M) ∧
  (mK M' = mK M) ∧
  (mA M' = mA M) ∧
  (∀ j, j < 9 → mL M' j = mL M j) ∧
  (∀ i k, per i k = true → mI M' i k = mI M i k)
theorem sc.N {M M' : am_M} (h : sc M M') : mN M' = mN M := h.1
theorem sc.S {M M' : am_M} (h : sc M M') : mS M' = mS M := h.2.1
theorem sc.K {M M' : am_M} (h : sc M M') : mK M' = mK M := h.2.2.1
theorem sc.A {M M' : am_M} (h : sc M M') : mA M' = mA M := h.2.2.2.1
theorem sc.L {M M' : am_M} (h : sc M M') : ∀ j, j < 9 → mL M' j = mL M j := h.2.2.2.2.1
theorem sc.I {M M' : am_M} (h : sc M M') : ∀ i k, per i k = true → mI M' i k = mI M i k := h.2.2.2.2.2
theorem sc_refl (M : am_M) : sc M M := ⟨rfl, rfl, rfl, rfl, fun _ _ => rfl, fun _ _ _ => rfl⟩
theorem sc_trans {M1 M2 M3 : am_M} (h1 : sc M1 M2) (h2 : sc M2 M3) : sc M1 M3 := ⟨h2.N.trans h1.N, h2.S.trans h1.S, h2.K.trans h1.K, h2.A.trans h1.A, fun j hj => (h2.L j hj).trans (h1.L j hj), fun i k h => (h2.I i k h).trans (h1.I i k h)⟩
theorem sc_R {M M' : am_M} {i : Nat} {f : Nat → Int32} (h : ∀ k, per i k = false) (h1 : sc M M') : sc M (wI M' i f) := sc_trans h1 ⟨rfl, rfl, rfl, rfl, fun _ _ => rfl, fun j k hj => congrFun (bm_up_ne (mI M') f (k := i) (j := j) (fun e => by rw [e, h k] at hj; cases hj)) k⟩
theorem sc_S {M M' : am_M} {i k : Nat} {v : Int32} (h : per i k = false) (h1 : sc M M') : sc M (wI M' i (am_up (mI M' i) k v)) := sc_trans h1 ⟨rfl, rfl, rfl, rfl, fun _ _ => rfl, fun j q hj => by
  show am_up (mI M') i (am_up (mI M' i) k v) j q = _
  by_cases e : j = i
  · subst e
    rw [bm_up_self]
    exact bm_up_ne _ _ (fun e => by rw [e, h] at hj; cases hj)
  · rw [bm_up_ne _ _ e]⟩
theorem sc_L {M M' : am_M} {i : Nat} {f : Nat → Int64} (h : 9 ≤ i) (h1 : sc M M') : sc M (wL M' i f) := sc_trans h1 ⟨rfl, rfl, rfl, rfl, fun j hj => bm_up_ne _ _ (by omega), fun _ _ _ => rfl⟩
theorem sc_row {M M' : am_M} (h : sc M M') (i : Nat) (hp : ∀ k, per i k = true) : mI M' i = mI M i := funext fun k => h.I i k (hp k)
theorem sc_msk {M M' : am_M} (h : sc M M') (n i : Nat) (hp : ∀ k, k < n → per i k = true) : msk n (mI M' i) = msk n (mI M i) := by
  funext k
  unfold msk
  split
  · next hk => exact h.I i k (hp k hk)
  · rfl
theorem per_lim {i n : Nat} (hl : ∀ k, per i k = (Nat.blt k n && true)) : ∀ k, k < n → per i k = true := fun k hk => by rw [hl k, show Nat.blt k n = true from Nat.ble_eq.mpr hk]; rfl
theorem per_hi {i : Nat} (h : 118 ≤ i) (k : Nat) : per i k = true := by
  obtain ⟨j, rfl⟩ : ∃ j, i = j + 118 := ⟨i - 118, by omega⟩
  rfl
theorem per_62 (k : Nat) : per 62 k = true := rfl
theorem sc_dyn {M M' : am_M} (h : sc M M') : dynI M' = dynI M := by
  funext i
  unfold dynI
  split
  · rfl
  · next hi =>
    by_cases e : i = 62
    · subst e; exact funext fun k => h.I 62 k (per_62 k)
    · exact sc_row h i (per_hi (by omega))
theorem dyn_wI {M : am_M} {i : Nat} {f : Nat → Int32} (h : i < 118) (h2 : i ≠ 62) : dynI (wI M i f) = dynI M := by
  funext j
  unfold dynI
  by_cases e : j = i
  · subst e; rw [if_pos ⟨h, h2⟩, if_pos ⟨h, h2⟩]
  · rw [show mI (wI M i f) j = mI M j from bm_up_ne _ _ e]
theorem Inv_sc {M M' : am_M} (h : Inv M) (s : sc M M') : Inv M' := by
  have e0 : (mI M' 9 15) = (mI M 9 15) := s.I 9 15 rfl
  have e1 : (mI M' 67 0) = (mI M 67 0) := s.I 67 0 rfl
  have e2 : (mI M' 9 16) = (mI M 9 16) := s.I 9 16 rfl
  have e3 : (mI M' 67 5) = (mI M 67 5) := s.I 67 5 rfl
  have e4 : (mI M' 9 17) = (mI M 9 17) := s.I 9 17 rfl
  have e5 : (mI M' 67 6) = (mI M 67 6) := s.I 67 6 rfl
  have e6 : (mI M' 18 0) = (mI M 18 0) := s.I 18 0 rfl
  have e7 : (mI M' 67 1) = (mI M 67 1) := s.I 67 1 rfl
  have e8 : (mI M' 18 1) = (mI M 18 1) := s.I 18 1 rfl
  have e9 : (mI M' 67 2) = (mI M 67 2) := s.I 67 2 rfl
  have e10 : (mI M' 18 2) = (mI M 18 2) := s.I 18 2 rfl
  have e11 : (mI M' 67 3) = (mI M 67 3) := s.I 67 3 rfl
  have e12 : (mI M' 18 3) = (mI M 18 3) := s.I 18 3 rfl
  have e13 : (mI M' 67 4) = (mI M 67 4) := s.I 67 4 rfl
  have e14 : (mI M' 11) = (mI M 11) := sc_row s 11 (fun _ => rfl)
  have e15 : (mI M' 68) = (mI M 68) := sc_row s 68 (fun _ => rfl)
  have e16 : (mI M' 12) = (mI M 12) := sc_row s 12 (fun _ => rfl)
  have e17 : (mI M' 69) = (mI M 69) := sc_row s 69 (fun _ => rfl)
  have e18 : (mI M' 10 8) = (mI M 10 8) := s.I 10 8 rfl
  have e19 : (mI M' 10 9) = (mI M 10 9) := s.I 10 9 rfl
  have e20 : (mI M' 10 7) = (mI M 10 7) := s.I 10 7 rfl
  have e21 : (mI M' 67 9) = (mI M 67 9) := s.I 67 9 rfl
  have e22 : (mI M' 13) = (mI M 13) := sc_row s 13 (fun _ => rfl)
  have e23 : (mI M' 14) = (mI M 14) := sc_row s 14 (fun _ => rfl)
  have e24 : (mI M' 15) = (mI M 15) := sc_row s 15 (fun _ => rfl)
  have e25 : (mI M' 16) = (mI M 16) := sc_row s 16 (fun _ => rfl)
  have e26 : (mI M' 70) = (mI M 70) := sc_row s 70 (fun _ => rfl)
  have e27 : (mI M' 71) = (mI M 71) := sc_row s 71 (fun _ => rfl)
  have e28 : (mI M' 72) = (mI M 72) := sc_row s 72 (fun _ => rfl)
  have e29 : (mI M' 73) = (mI M 73) := sc_row s 73 (fun _ => rfl)
  have e30 : (mI M' 19 9) = (mI M 19 9) := s.I 19 9 rfl
  have e31 : (mI M' 67 15) = (mI M 67 15) := s.I 67 15 rfl
  have e32 : (mI M' 21) = (mI M 21) := sc_row s 21 (fun _ => rfl)
  have e33 : (mI M' 22) = (mI M 22) := sc_row s 22 (fun _ => rfl)
  have e34 : (mI M' 75) = (mI M 75) := sc_row s 75 (fun _ => rfl)
  have e35 : (mI M' 76) = (mI M 76) := sc_row s 76 (fun _ => rfl)
  have e36 : (mI M' 19 8) = (mI M 19 8) := s.I 19 8 rfl
  have e37 : (mI M' 67 16) = (mI M 67 16) := s.I 67 16 rfl
  have e38 : (mI M' 20) = (mI M 20) := sc_row s 20 (fun _ => rfl)
  have e39 : (mI M' 77) = (mI M 77) := sc_row s 77 (fun _ => rfl)
  have e40 : (mI M' 78) = (mI M 78) := sc_row s 78 (fun _ => rfl)
  have e41 : (mI M' 79) = (mI M 79) := sc_row s 79 (fun _ => rfl)
  have e42 : (mI M' 80) = (mI M 80) := sc_row s 80 (fun _ => rfl)
  have e43 : (mI M' 81) = (mI M 81) := sc_row s 81 (fun _ => rfl)
  have e44 : (mI M' 82) = (mI M 82) := sc_row s 82 (fun _ => rfl)
  have e45 : (mI M' 83) = (mI M 83) := sc_row s 83 (fun _ => rfl)
  have e46 : (mI M' 84) = (mI M 84) := sc_row s 84 (fun _ => rfl)
  have e47 : (mI M' 19 10) = (mI M 19 10) := s.I 19 10 rfl
  have e48 : (mI M' 67 17) = (mI M 67 17) := s.I 67 17 rfl
  have e49 : (mI M' 23) = (mI M 23) := sc_row s 23 (fun _ => rfl)
  have e50 : (mI M' 24) = (mI M 24) := sc_row s 24 (fun _ => rfl)
  have e51 : (mI M' 25) = (mI M 25) := sc_row s 25 (fun _ => rfl)
  have e52 : (mI M' 85) = (mI M 85) := sc_row s 85 (fun _ => rfl)
  have e53 : (mI M' 86) = (mI M 86) := sc_row s 86 (fun _ => rfl)
  have e54 : (mI M' 87) = (mI M 87) := sc_row s 87 (fun _ => rfl)
  have e55 : (mI M' 28 5) = (mI M 28 5) := s.I 28 5 rfl
  have e56 : (mI M' 67 37) = (mI M 67 37) := s.I 67 37 rfl
  have e57 : (mI M' 29) = (mI M 29) := sc_row s 29 (fun _ => rfl)
  have e58 : (mI M' 92) = (mI M 92) := sc_row s 92 (fun _ => rfl)
  have e59 : (mI M' 41 12) = (mI M 41 12) := s.I 41 12 rfl
  have e60 : (mI M' 67 43) = (mI M 67 43) := s.I 67 43 rfl
  have e61 : (mI M' 42) = (mI M 42) := sc_row s 42 (fun _ => rfl)
  have e62 : (mI M' 43) = (mI M 43) := sc_row s 43 (fun _ => rfl)
  have e63 : (mI M' 44) = (mI M 44) := sc_row s 44 (fun _ => rfl)
  have e64 : (mI M' 95) = (mI M 95) := sc_row s 95 (fun _ => rfl)
  have e65 : (mI M' 96) = (mI M 96) := sc_row s 96 (fun _ => rfl)
  have e66 : (mI M' 97) = (mI M 97) := sc_row s 97 (fun _ => rfl)
  have e67 : (mI M' 55 4) = (mI M 55 4) := s.I 55 4 rfl
  have e68 : (mI M' 67 54) = (mI M 67 54) := s.I 67 54 rfl
  have e69 : (mI M' 59 7) = (mI M 59 7) := s.I 59 7 rfl
  have e70 : (mI M' 67 58) = (mI M 67 58) := s.I 67 58 rfl
  have e71 : (mI M' 56) = (mI M 56) := sc_row s 56 (fun _ => rfl)
  have e72 : (mI M' 115) = (mI M 115) := sc_row s 115 (fun _ => rfl)
  have e73 : (mI M' 9 14) = (mI M 9 14) := s.I 9 14 rfl
  have e74 : (mI M' 67 52) = (mI M 67 52) := s.I 67 52 rfl
  have e75 : (mI M' 67 59) = (mI M 67 59) := s.I 67 59 rfl
  have e76 : (mA M') = (mA M) := s.A
  have e77 : (dynI M') = (dynI M) := sc_dyn s
  have e78 : (mK M') = (mK M) := s.K
  have e79 : (mN M') = (mN M) := s.N
  have e80 : (msk 9 (mI M' 102)) = (msk 9 (mI M 102)) := sc_msk s 9 102 (per_lim (fun _ => rfl))
  have e81 : (msk 9 (mI M' 103)) = (msk 9 (mI M 103)) := sc_msk s 9 103 (per_lim (fun _ => rfl))
  have e82 : (msk 270 (mI M' 104)) = (msk 270 (mI M 104)) := sc_msk s 270 104 (per_lim (fun _ => rfl))
  have e83 : (msk 270 (mI M' 105)) = (msk 270 (mI M 105)) := sc_msk s 270 105 (per_lim (fun _ => rfl))
  have e84 : (msk 270 (mI M' 106)) = (msk 270 (mI M 106)) := sc_msk s 270 106 (per_lim (fun _ => rfl))
  have e85 : (msk 270 (mI M' 107)) = (msk 270 (mI M 107)) := sc_msk s 270 107 (per_lim (fun _ => rfl))
  have e86 : (msk 6480 (mI M' 108)) = (msk 6480 (mI M 108)) := sc_msk s 6480 108 (per_lim (fun _ => rfl))
  have e87 : (msk 6480 (mI M' 109)) = (msk 6480 (mI M 109)) := sc_msk s 6480 109 (per_lim (fun _ => rfl))
  have e88 : (msk 6480 (mI M' 110)) = (msk 6480 (mI M 110)) := sc_msk s 6480 110 (per_lim (fun _ => rfl))
  have e89 : (msk 6480 (mI M' 111)) = (msk 6480 (mI M 111)) := sc_msk s 6480 111 (per_lim (fun _ => rfl))
  have e90 : (msk 6480 (mI M' 112)) = (msk 6480 (mI M 112)) := sc_msk s 6480 112 (per_lim (fun _ => rfl))
  have e91 : (msk 6480 (mI M' 113)) = (msk 6480 (mI M 113)) := sc_msk s 6480 113 (per_lim (fun _ => rfl))
  have e92 : (mI M' 1) = (mI M 1) := sc_row s 1 (fun _ => rfl)
  have e93 : (mI M' 2) = (mI M 2) := sc_row s 2 (fun _ => rfl)
  have e94 : (mI M' 7) = (mI M 7) := sc_row s 7 (fun _ => rfl)
  have e95 : (mI M' 8) = (mI M 8) := sc_row s 8 (fun _ => rfl)
  have e96 : (mI M' 5) = (mI M 5) := sc_row s 5 (fun _ => rfl)
  have e97 : (mI M' 6) = (mI M 6) := sc_row s 6 (fun _ => rfl)
  have e98 : (mL M' 3) = (mL M 3) := s.L 3 (by omega)
  have e99 : (mL M' 4) = (mL M 4) := s.L 4 (by omega)
  refine ⟨?_, ?_, ?_, ?_, ?_, ?_, ?_, ?_, ?_, ?_, ?_⟩
  · rw [e0, e1, e2, e3, e4, e5, e6, e7, e8, e9, e10, e11, e12, e13]; exact h.misc
  · rw [e14, e15, e16, e17, e18, e19]; exact h.land
  · rw [e20, e21, e22, e23, e24, e25, e26, e27, e28, e29]; exact h.ice
  · rw [e30, e31, e32, e33, e34, e35]; exact h.tel
  · rw [e36, e37, e30, e0, e32, e33, e38, e39, e40, e41, e42, e43, e44, e45, e46]; exact h.find
  · rw [e47, e48, e49, e50, e51, e52, e53, e54]; exact h.doubt
  · rw [e55, e56, e57, e58]; exact h.row
  · rw [e59, e60, e61, e62, e63, e64, e65, e66]; exact h.ship
  · rw [e67, e68, e69, e70, e71, e72]; exact h.tape
  · rw [e73, e74, e75, e0, e76, e77, e78, e79, e80, e81, e82, e83, e84, e85, e86, e87, e88, e89, e90, e91]; exact h.rule
  · rw [e92, e93, e94, e95, e96, e97, e98, e99, e76, e79]; exact h.stat
