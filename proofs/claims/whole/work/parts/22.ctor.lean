/-! the constructors, walked (printed by wip/whole/gen_ctor.py) -/
def cM0 (L : Nat) (xs : Nat → Int32) : am_M := am_M0 L xs
def cM1 (L : Nat) (xs : Nat → Int32) : am_M := am_alloc (cM0 L xs) 0 18 (fun _ => 0)
def cM2 (L : Nat) (xs : Nat → Int32) : am_M := am_alloc (cM1 L xs) 1 10 (fun _ => 0)
def cM3 (L : Nat) (xs : Nat → Int32) : am_M := am_alloc (cM2 L xs) 22 256 (fun _ => 0)
def cM4 (L : Nat) (xs : Nat → Int32) : am_M := wA (cM3 L xs) 10 (am_up (mA (cM3 L xs) 10) 0 12)
def cM5 (L : Nat) (xs : Nat → Int32) : am_M := am_alloc (cM4 L xs) 22 256 (fun _ => 0)
def cM6 (L : Nat) (xs : Nat → Int32) : am_M := wA (cM5 L xs) 10 (am_up (mA (cM5 L xs) 10) 1 13)
def cM7 (L : Nat) (xs : Nat → Int32) : am_M := am_alloc (cM6 L xs) 20 200 (fun _ => 0)
def cM8 (L : Nat) (xs : Nat → Int32) : am_M := wA (cM7 L xs) 10 (am_up (mA (cM7 L xs) 10) 2 14)
def cM9 (L : Nat) (xs : Nat → Int32) : am_M := am_alloc (cM8 L xs) 20 200 (fun _ => 0)
def cM10 (L : Nat) (xs : Nat → Int32) : am_M := wA (cM9 L xs) 10 (am_up (mA (cM9 L xs) 10) 3 15)
def cM11 (L : Nat) (xs : Nat → Int32) : am_M := am_alloc (cM10 L xs) 20 200 (fun _ => 0)
def cM12 (L : Nat) (xs : Nat → Int32) : am_M := wA (cM11 L xs) 10 (am_up (mA (cM11 L xs) 10) 4 16)
def cM13 (L : Nat) (xs : Nat → Int32) : am_M := am_alloc (cM12 L xs) 22 200 (fun _ => 0)
def cM14 (L : Nat) (xs : Nat → Int32) : am_M := wA (cM13 L xs) 10 (am_up (mA (cM13 L xs) 10) 5 17)
def cM15 (L : Nat) (xs : Nat → Int32) : am_M := am_alloc (cM14 L xs) 20 256 (fun _ => 0)
def cM16 (L : Nat) (xs : Nat → Int32) : am_M := wA (cM15 L xs) 10 (am_up (mA (cM15 L xs) 10) 6 18)
def cM17 (L : Nat) (xs : Nat → Int32) : am_M := wA (cM16 L xs) 9 (am_up (mA (cM16 L xs) 9) 0 11)
def cM18 (L : Nat) (xs : Nat → Int32) : am_M := am_alloc (cM17 L xs) 2 4 (fun _ => 0)
def cM19 (L : Nat) (xs : Nat → Int32) : am_M := wI (cM18 L xs) 18 (am_up (mI (cM18 L xs) 18) 0 (nI 0))
def cM20 (L : Nat) (xs : Nat → Int32) : am_M := wI (cM19 L xs) 18 (am_up (mI (cM19 L xs) 18) 1 (nI 1))
def cM21 (L : Nat) (xs : Nat → Int32) : am_M := wI (cM20 L xs) 18 (am_up (mI (cM20 L xs) 18) 2 (nI 0))
def cM22 (L : Nat) (xs : Nat → Int32) : am_M := wI (cM21 L xs) 18 (am_up (mI (cM21 L xs) 18) 3 (nM 0))
def cM23 (L : Nat) (xs : Nat → Int32) : am_M := wA (cM22 L xs) 9 (am_up (mA (cM22 L xs) 9) 1 19)
def cM24 (L : Nat) (xs : Nat → Int32) : am_M := am_alloc (cM23 L xs) 3 13 (fun _ => 0)
def cM25 (L : Nat) (xs : Nat → Int32) : am_M := am_alloc (cM24 L xs) 20 360 (fun _ => 0)
def cM26 (L : Nat) (xs : Nat → Int32) : am_M := wA (cM25 L xs) 19 (am_up (mA (cM25 L xs) 19) 0 21)
def cM27 (L : Nat) (xs : Nat → Int32) : am_M := am_alloc (cM26 L xs) 20 10 (fun _ => 0)
def cM28 (L : Nat) (xs : Nat → Int32) : am_M := wA (cM27 L xs) 19 (am_up (mA (cM27 L xs) 19) 1 22)
def cM29 (L : Nat) (xs : Nat → Int32) : am_M := am_alloc (cM28 L xs) 20 10 (fun _ => 0)
def cM30 (L : Nat) (xs : Nat → Int32) : am_M := wA (cM29 L xs) 19 (am_up (mA (cM29 L xs) 19) 2 23)
def cM31 (L : Nat) (xs : Nat → Int32) : am_M := am_alloc (cM30 L xs) 20 200 (fun _ => 0)
def cM32 (L : Nat) (xs : Nat → Int32) : am_M := wA (cM31 L xs) 19 (am_up (mA (cM31 L xs) 19) 3 24)
def cM33 (L : Nat) (xs : Nat → Int32) : am_M := am_alloc (cM32 L xs) 20 200 (fun _ => 0)
def cM34 (L : Nat) (xs : Nat → Int32) : am_M := wA (cM33 L xs) 19 (am_up (mA (cM33 L xs) 19) 4 25)
def cM35 (L : Nat) (xs : Nat → Int32) : am_M := am_alloc (cM34 L xs) 22 200 (fun _ => 0)
def cM36 (L : Nat) (xs : Nat → Int32) : am_M := wA (cM35 L xs) 19 (am_up (mA (cM35 L xs) 19) 5 26)
def cM37 (L : Nat) (xs : Nat → Int32) : am_M := am_alloc (cM36 L xs) 20 6 (fun _ => 0)
def cM38 (L : Nat) (xs : Nat → Int32) : am_M := wA (cM37 L xs) 19 (am_up (mA (cM37 L xs) 19) 6 27)
def cM39 (L : Nat) (xs : Nat → Int32) : am_M := am_alloc (cM38 L xs) 20 40 (fun _ => 0)
def cM40 (L : Nat) (xs : Nat → Int32) : am_M := wA (cM39 L xs) 19 (am_up (mA (cM39 L xs) 19) 7 28)
def cM41 (L : Nat) (xs : Nat → Int32) : am_M := wA (cM40 L xs) 9 (am_up (mA (cM40 L xs) 9) 2 20)
def cM42 (L : Nat) (xs : Nat → Int32) : am_M := am_alloc (cM41 L xs) 4 6 (fun _ => 0)
def cM43 (L : Nat) (xs : Nat → Int32) : am_M := am_alloc (cM42 L xs) 20 119 (fun _ => 0)
def cM44 (L : Nat) (xs : Nat → Int32) : am_M := wA (cM43 L xs) 28 (am_up (mA (cM43 L xs) 28) 3 30)
def cM45 (L : Nat) (xs : Nat → Int32) : am_M := am_alloc (cM44 L xs) 20 120 (fun _ => 0)
def cM46 (L : Nat) (xs : Nat → Int32) : am_M := wA (cM45 L xs) 28 (am_up (mA (cM45 L xs) 28) 4 31)
def cM47 (L : Nat) (xs : Nat → Int32) : am_M := wA (cM46 L xs) 28 (am_up (mA (cM46 L xs) 28) 0 11)
def cM48 (L : Nat) (xs : Nat → Int32) : am_M := wA (cM47 L xs) 28 (am_up (mA (cM47 L xs) 28) 1 19)
def cM49 (L : Nat) (xs : Nat → Int32) : am_M := wA (cM48 L xs) 28 (am_up (mA (cM48 L xs) 28) 2 20)
def cM50 (L : Nat) (xs : Nat → Int32) : am_M := wA (cM49 L xs) 9 (am_up (mA (cM49 L xs) 9) 3 29)
def cM51 (L : Nat) (xs : Nat → Int32) : am_M := am_alloc (cM50 L xs) 5 6 (fun _ => 0)
def cM52 (L : Nat) (xs : Nat → Int32) : am_M := am_alloc (cM51 L xs) 21 256 (fun _ => 0)
def cM53 (L : Nat) (xs : Nat → Int32) : am_M := wA (cM52 L xs) 31 (am_up (mA (cM52 L xs) 31) 3 33)
def cM54 (L : Nat) (xs : Nat → Int32) : am_M := am_alloc (cM53 L xs) 21 256 (fun _ => 0)
def cM55 (L : Nat) (xs : Nat → Int32) : am_M := wA (cM54 L xs) 31 (am_up (mA (cM54 L xs) 31) 4 34)
def cM56 (L : Nat) (xs : Nat → Int32) : am_M := am_alloc (cM55 L xs) 20 256 (fun _ => 0)
def cM57 (L : Nat) (xs : Nat → Int32) : am_M := wA (cM56 L xs) 31 (am_up (mA (cM56 L xs) 31) 5 35)
def cM58 (L : Nat) (xs : Nat → Int32) : am_M := wA (cM57 L xs) 31 (am_up (mA (cM57 L xs) 31) 0 11)
def cM59 (L : Nat) (xs : Nat → Int32) : am_M := wA (cM58 L xs) 31 (am_up (mA (cM58 L xs) 31) 1 19)
def cM60 (L : Nat) (xs : Nat → Int32) : am_M := wA (cM59 L xs) 31 (am_up (mA (cM59 L xs) 31) 2 20)
def cM61 (L : Nat) (xs : Nat → Int32) : am_M := wA (cM60 L xs) 9 (am_up (mA (cM60 L xs) 9) 4 32)
def cM62 (L : Nat) (xs : Nat → Int32) : am_M := am_alloc (cM61 L xs) 6 8 (fun _ => 0)
def cM63 (L : Nat) (xs : Nat → Int32) : am_M := am_alloc (cM62 L xs) 20 256 (fun _ => 0)
def cM64 (L : Nat) (xs : Nat → Int32) : am_M := wA (cM63 L xs) 35 (am_up (mA (cM63 L xs) 35) 3 37)
def cM65 (L : Nat) (xs : Nat → Int32) : am_M := am_alloc (cM64 L xs) 20 256 (fun _ => 0)
def cM66 (L : Nat) (xs : Nat → Int32) : am_M := wA (cM65 L xs) 35 (am_up (mA (cM65 L xs) 35) 4 38)
def cM67 (L : Nat) (xs : Nat → Int32) : am_M := am_alloc (cM66 L xs) 20 256 (fun _ => 0)
def cM68 (L : Nat) (xs : Nat → Int32) : am_M := wA (cM67 L xs) 35 (am_up (mA (cM67 L xs) 35) 5 39)
def cM69 (L : Nat) (xs : Nat → Int32) : am_M := am_alloc (cM68 L xs) 20 256 (fun _ => 0)
def cM70 (L : Nat) (xs : Nat → Int32) : am_M := wA (cM69 L xs) 35 (am_up (mA (cM69 L xs) 35) 6 40)
def cM71 (L : Nat) (xs : Nat → Int32) : am_M := am_alloc (cM70 L xs) 20 256 (fun _ => 0)
def cM72 (L : Nat) (xs : Nat → Int32) : am_M := wA (cM71 L xs) 35 (am_up (mA (cM71 L xs) 35) 7 41)
def cM73 (L : Nat) (xs : Nat → Int32) : am_M := wA (cM72 L xs) 35 (am_up (mA (cM72 L xs) 35) 0 11)
def cM74 (L : Nat) (xs : Nat → Int32) : am_M := wA (cM73 L xs) 35 (am_up (mA (cM73 L xs) 35) 1 19)
def cM75 (L : Nat) (xs : Nat → Int32) : am_M := wA (cM74 L xs) 35 (am_up (mA (cM74 L xs) 35) 2 20)
def cM76 (L : Nat) (xs : Nat → Int32) : am_M := wA (cM75 L xs) 9 (am_up (mA (cM75 L xs) 9) 5 36)
def cM77 (L : Nat) (xs : Nat → Int32) : am_M := am_alloc (cM76 L xs) 7 13 (fun _ => 0)
def cM78 (L : Nat) (xs : Nat → Int32) : am_M := am_alloc (cM77 L xs) 20 4 (fun _ => 0)
def cM79 (L : Nat) (xs : Nat → Int32) : am_M := wA (cM78 L xs) 41 (am_up (mA (cM78 L xs) 41) 1 43)
def cM80 (L : Nat) (xs : Nat → Int32) : am_M := am_alloc (cM79 L xs) 20 4 (fun _ => 0)
def cM81 (L : Nat) (xs : Nat → Int32) : am_M := wA (cM80 L xs) 41 (am_up (mA (cM80 L xs) 41) 2 44)
def cM82 (L : Nat) (xs : Nat → Int32) : am_M := am_alloc (cM81 L xs) 20 4 (fun _ => 0)
def cM83 (L : Nat) (xs : Nat → Int32) : am_M := wA (cM82 L xs) 41 (am_up (mA (cM82 L xs) 41) 3 45)
def cM84 (L : Nat) (xs : Nat → Int32) : am_M := am_alloc (cM83 L xs) 20 256 (fun _ => 0)
def cM85 (L : Nat) (xs : Nat → Int32) : am_M := wA (cM84 L xs) 41 (am_up (mA (cM84 L xs) 41) 4 46)
def cM86 (L : Nat) (xs : Nat → Int32) : am_M := am_alloc (cM85 L xs) 20 256 (fun _ => 0)
def cM87 (L : Nat) (xs : Nat → Int32) : am_M := wA (cM86 L xs) 41 (am_up (mA (cM86 L xs) 41) 5 47)
def cM88 (L : Nat) (xs : Nat → Int32) : am_M := am_alloc (cM87 L xs) 20 16 (fun _ => 0)
def cM89 (L : Nat) (xs : Nat → Int32) : am_M := wA (cM88 L xs) 41 (am_up (mA (cM88 L xs) 41) 6 48)
def cM90 (L : Nat) (xs : Nat → Int32) : am_M := am_alloc (cM89 L xs) 20 16 (fun _ => 0)
def cM91 (L : Nat) (xs : Nat → Int32) : am_M := wA (cM90 L xs) 41 (am_up (mA (cM90 L xs) 41) 7 49)
def cM92 (L : Nat) (xs : Nat → Int32) : am_M := am_alloc (cM91 L xs) 20 4 (fun _ => 0)
def cM93 (L : Nat) (xs : Nat → Int32) : am_M := wA (cM92 L xs) 41 (am_up (mA (cM92 L xs) 41) 8 50)
def cM94 (L : Nat) (xs : Nat → Int32) : am_M := am_alloc (cM93 L xs) 20 4 (fun _ => 0)
def cM95 (L : Nat) (xs : Nat → Int32) : am_M := wA (cM94 L xs) 41 (am_up (mA (cM94 L xs) 41) 9 51)
def cM96 (L : Nat) (xs : Nat → Int32) : am_M := am_alloc (cM95 L xs) 20 4 (fun _ => 0)
def cM97 (L : Nat) (xs : Nat → Int32) : am_M := wA (cM96 L xs) 41 (am_up (mA (cM96 L xs) 41) 10 52)
def cM98 (L : Nat) (xs : Nat → Int32) : am_M := wA (cM97 L xs) 41 (am_up (mA (cM97 L xs) 41) 0 11)
def cM99 (L : Nat) (xs : Nat → Int32) : am_M := wA (cM98 L xs) 9 (am_up (mA (cM98 L xs) 9) 6 42)
def cM100 (L : Nat) (xs : Nat → Int32) : am_M := am_alloc (cM99 L xs) 8 9 (fun _ => 0)
def cM101 (L : Nat) (xs : Nat → Int32) : am_M := am_alloc (cM100 L xs) 20 12 (fun _ => 0)
def cM102 (L : Nat) (xs : Nat → Int32) : am_M := wA (cM101 L xs) 52 (am_up (mA (cM101 L xs) 52) 2 54)
def cM103 (L : Nat) (xs : Nat → Int32) : am_M := am_alloc (cM102 L xs) 20 120 (fun _ => 0)
def cM104 (L : Nat) (xs : Nat → Int32) : am_M := wA (cM103 L xs) 52 (am_up (mA (cM103 L xs) 52) 3 55)
def cM105 (L : Nat) (xs : Nat → Int32) : am_M := wA (cM104 L xs) 52 (am_up (mA (cM104 L xs) 52) 0 11)
def cM106 (L : Nat) (xs : Nat → Int32) : am_M := wA (cM105 L xs) 52 (am_up (mA (cM105 L xs) 52) 1 19)
def cM107 (L : Nat) (xs : Nat → Int32) : am_M := wA (cM106 L xs) 9 (am_up (mA (cM106 L xs) 9) 7 53)
def cM108 (L : Nat) (xs : Nat → Int32) : am_M := am_alloc (cM107 L xs) 9 5 (fun _ => 0)
def cM109 (L : Nat) (xs : Nat → Int32) : am_M := am_alloc (cM108 L xs) 23 700 (fun _ => 0)
def cM110 (L : Nat) (xs : Nat → Int32) : am_M := wA (cM109 L xs) 55 (am_up (mA (cM109 L xs) 55) 0 57)
def cM111 (L : Nat) (xs : Nat → Int32) : am_M := am_alloc (cM110 L xs) 20 701 (fun _ => 0)
def cM112 (L : Nat) (xs : Nat → Int32) : am_M := wA (cM111 L xs) 55 (am_up (mA (cM111 L xs) 55) 1 58)
def cM113 (L : Nat) (xs : Nat → Int32) : am_M := am_alloc (cM112 L xs) 20 701 (fun _ => 0)
def cM114 (L : Nat) (xs : Nat → Int32) : am_M := wA (cM113 L xs) 55 (am_up (mA (cM113 L xs) 55) 2 59)
def cM115 (L : Nat) (xs : Nat → Int32) : am_M := wA (cM114 L xs) 9 (am_up (mA (cM114 L xs) 9) 8 56)
def cM116 (L : Nat) (xs : Nat → Int32) : am_M := am_alloc (cM115 L xs) 10 8 (fun _ => 0)
def cM117 (L : Nat) (xs : Nat → Int32) : am_M := am_alloc (cM116 L xs) 20 150 (fun _ => 0)
def cM118 (L : Nat) (xs : Nat → Int32) : am_M := wA (cM117 L xs) 59 (am_up (mA (cM117 L xs) 59) 1 61)
def cM119 (L : Nat) (xs : Nat → Int32) : am_M := am_alloc (cM118 L xs) 20 700 (fun _ => 0)
def cM120 (L : Nat) (xs : Nat → Int32) : am_M := wA (cM119 L xs) 59 (am_up (mA (cM119 L xs) 59) 2 62)
def cM121 (L : Nat) (xs : Nat → Int32) : am_M := wI (cM120 L xs) 59 (am_up (mI (cM120 L xs) 59) 7 (nM 0))
def cM122 (L : Nat) (xs : Nat → Int32) : am_M := wA (cM121 L xs) 59 (am_up (mA (cM121 L xs) 59) 0 56)
def cM123 (L : Nat) (xs : Nat → Int32) : am_M := wA (cM122 L xs) 9 (am_up (mA (cM122 L xs) 9) 9 60)
def cM124 (L : Nat) (xs : Nat → Int32) : am_M := am_alloc (cM123 L xs) 11 4 (fun _ => 0)
def cM125 (L : Nat) (xs : Nat → Int32) : am_M := am_alloc (cM124 L xs) 20 0 (fun _ => 0)
def cM126 (L : Nat) (xs : Nat → Int32) : am_M := am_alloc (cM125 L xs) 20 0 (fun _ => 0)
def cM127 (L : Nat) (xs : Nat → Int32) : am_M := wI (cM126 L xs) 62 (am_up (mI (cM126 L xs) 62) 0 (nI 0))
def cM128 (L : Nat) (xs : Nat → Int32) : am_M := wI (cM127 L xs) 62 (am_up (mI (cM127 L xs) 62) 1 (nI 0))
def cM129 (L : Nat) (xs : Nat → Int32) : am_M := wA (cM128 L xs) 62 (am_up (mA (cM128 L xs) 62) 2 64)
def cM130 (L : Nat) (xs : Nat → Int32) : am_M := wA (cM129 L xs) 62 (am_up (mA (cM129 L xs) 62) 3 65)
def cM131 (L : Nat) (xs : Nat → Int32) : am_M := wA (cM130 L xs) 9 (am_up (mA (cM130 L xs) 9) 10 63)
def cM132 (L : Nat) (xs : Nat → Int32) : am_M := am_alloc (cM131 L xs) 24 8 (fun _ => 0)
def cM133 (L : Nat) (xs : Nat → Int32) : am_M := wA (cM132 L xs) 9 (am_up (mA (cM132 L xs) 9) 11 66)
def cM134 (L : Nat) (xs : Nat → Int32) : am_M := am_alloc (cM133 L xs) 20 12 (fun _ => 0)
def cM135 (L : Nat) (xs : Nat → Int32) : am_M := wA (cM134 L xs) 9 (am_up (mA (cM134 L xs) 9) 12 67)
def cM136 (L : Nat) (xs : Nat → Int32) : am_M := wI (cM135 L xs) 9 (am_up (mI (cM135 L xs) 9) 17 (nI 50))
def cM137 (L : Nat) (xs : Nat → Int32) : am_M := am_alloc (cM136 L xs) 12 81 (fun _ => 0)
def cM138 (L : Nat) (xs : Nat → Int32) : am_M := wI (cM137 L xs) 67 (am_up (mI (cM137 L xs) 67) 2 (nI 1))
def cM139 (L : Nat) (xs : Nat → Int32) : am_M := wI (cM138 L xs) 67 (am_up (mI (cM138 L xs) 67) 4 (nM 0))
def cM140 (L : Nat) (xs : Nat → Int32) : am_M := wI (cM139 L xs) 67 (am_up (mI (cM139 L xs) 67) 6 (nI 50))
def cM141 (L : Nat) (xs : Nat → Int32) : am_M := am_alloc (cM140 L xs) 22 256 (fun _ => 0)
def cM142 (L : Nat) (xs : Nat → Int32) : am_M := wA (cM141 L xs) 67 (am_up (mA (cM141 L xs) 67) 7 69)
def cM143 (L : Nat) (xs : Nat → Int32) : am_M := am_alloc (cM142 L xs) 22 256 (fun _ => 0)
def cM144 (L : Nat) (xs : Nat → Int32) : am_M := wA (cM143 L xs) 67 (am_up (mA (cM143 L xs) 67) 8 70)
def cM145 (L : Nat) (xs : Nat → Int32) : am_M := am_alloc (cM144 L xs) 20 200 (fun _ => 0)
def cM146 (L : Nat) (xs : Nat → Int32) : am_M := wA (cM145 L xs) 67 (am_up (mA (cM145 L xs) 67) 10 71)
def cM147 (L : Nat) (xs : Nat → Int32) : am_M := am_alloc (cM146 L xs) 20 200 (fun _ => 0)
def cM148 (L : Nat) (xs : Nat → Int32) : am_M := wA (cM147 L xs) 67 (am_up (mA (cM147 L xs) 67) 11 72)
def cM149 (L : Nat) (xs : Nat → Int32) : am_M := am_alloc (cM148 L xs) 20 200 (fun _ => 0)
def cM150 (L : Nat) (xs : Nat → Int32) : am_M := wA (cM149 L xs) 67 (am_up (mA (cM149 L xs) 67) 12 73)
def cM151 (L : Nat) (xs : Nat → Int32) : am_M := am_alloc (cM150 L xs) 22 200 (fun _ => 0)
def cM152 (L : Nat) (xs : Nat → Int32) : am_M := wA (cM151 L xs) 67 (am_up (mA (cM151 L xs) 67) 13 74)
def cM153 (L : Nat) (xs : Nat → Int32) : am_M := am_alloc (cM152 L xs) 22 3072 (fun _ => 0)
def cM154 (L : Nat) (xs : Nat → Int32) : am_M := wA (cM153 L xs) 67 (am_up (mA (cM153 L xs) 67) 14 75)
def cM155 (L : Nat) (xs : Nat → Int32) : am_M := am_alloc (cM154 L xs) 20 10 (fun _ => 0)
def cM156 (L : Nat) (xs : Nat → Int32) : am_M := wA (cM155 L xs) 67 (am_up (mA (cM155 L xs) 67) 18 76)
def cM157 (L : Nat) (xs : Nat → Int32) : am_M := am_alloc (cM156 L xs) 20 10 (fun _ => 0)
def cM158 (L : Nat) (xs : Nat → Int32) : am_M := wA (cM157 L xs) 67 (am_up (mA (cM157 L xs) 67) 19 77)
def cM159 (L : Nat) (xs : Nat → Int32) : am_M := am_alloc (cM158 L xs) 20 40 (fun _ => 0)
def cM160 (L : Nat) (xs : Nat → Int32) : am_M := wA (cM159 L xs) 67 (am_up (mA (cM159 L xs) 67) 20 78)
def cM161 (L : Nat) (xs : Nat → Int32) : am_M := am_alloc (cM160 L xs) 20 40 (fun _ => 0)
def cM162 (L : Nat) (xs : Nat → Int32) : am_M := wA (cM161 L xs) 67 (am_up (mA (cM161 L xs) 67) 21 79)
def cM163 (L : Nat) (xs : Nat → Int32) : am_M := am_alloc (cM162 L xs) 20 40 (fun _ => 0)
def cM164 (L : Nat) (xs : Nat → Int32) : am_M := wA (cM163 L xs) 67 (am_up (mA (cM163 L xs) 67) 22 80)
def cM165 (L : Nat) (xs : Nat → Int32) : am_M := am_alloc (cM164 L xs) 20 40 (fun _ => 0)
def cM166 (L : Nat) (xs : Nat → Int32) : am_M := wA (cM165 L xs) 67 (am_up (mA (cM165 L xs) 67) 23 81)
def cM167 (L : Nat) (xs : Nat → Int32) : am_M := am_alloc (cM166 L xs) 20 40 (fun _ => 0)
def cM168 (L : Nat) (xs : Nat → Int32) : am_M := wA (cM167 L xs) 67 (am_up (mA (cM167 L xs) 67) 24 82)
def cM169 (L : Nat) (xs : Nat → Int32) : am_M := am_alloc (cM168 L xs) 20 40 (fun _ => 0)
def cM170 (L : Nat) (xs : Nat → Int32) : am_M := wA (cM169 L xs) 67 (am_up (mA (cM169 L xs) 67) 25 83)
def cM171 (L : Nat) (xs : Nat → Int32) : am_M := am_alloc (cM170 L xs) 20 40 (fun _ => 0)
def cM172 (L : Nat) (xs : Nat → Int32) : am_M := wA (cM171 L xs) 67 (am_up (mA (cM171 L xs) 67) 26 84)
def cM173 (L : Nat) (xs : Nat → Int32) : am_M := am_alloc (cM172 L xs) 20 40 (fun _ => 0)
def cM174 (L : Nat) (xs : Nat → Int32) : am_M := wA (cM173 L xs) 67 (am_up (mA (cM173 L xs) 67) 27 85)
def cM175 (L : Nat) (xs : Nat → Int32) : am_M := am_alloc (cM174 L xs) 20 200 (fun _ => 0)
def cM176 (L : Nat) (xs : Nat → Int32) : am_M := wA (cM175 L xs) 67 (am_up (mA (cM175 L xs) 67) 28 86)
def cM177 (L : Nat) (xs : Nat → Int32) : am_M := am_alloc (cM176 L xs) 20 200 (fun _ => 0)
def cM178 (L : Nat) (xs : Nat → Int32) : am_M := wA (cM177 L xs) 67 (am_up (mA (cM177 L xs) 67) 29 87)
def cM179 (L : Nat) (xs : Nat → Int32) : am_M := am_alloc (cM178 L xs) 22 200 (fun _ => 0)
def cM180 (L : Nat) (xs : Nat → Int32) : am_M := wA (cM179 L xs) 67 (am_up (mA (cM179 L xs) 67) 30 88)
def cM181 (L : Nat) (xs : Nat → Int32) : am_M := am_alloc (cM180 L xs) 20 6 (fun _ => 0)
def cM182 (L : Nat) (xs : Nat → Int32) : am_M := wA (cM181 L xs) 67 (am_up (mA (cM181 L xs) 67) 33 89)
def cM183 (L : Nat) (xs : Nat → Int32) : am_M := am_alloc (cM182 L xs) 20 40 (fun _ => 0)
def cM184 (L : Nat) (xs : Nat → Int32) : am_M := wA (cM183 L xs) 67 (am_up (mA (cM183 L xs) 67) 34 90)
def cM185 (L : Nat) (xs : Nat → Int32) : am_M := am_alloc (cM184 L xs) 21 256 (fun _ => 0)
def cM186 (L : Nat) (xs : Nat → Int32) : am_M := wA (cM185 L xs) 67 (am_up (mA (cM185 L xs) 67) 35 91)
def cM187 (L : Nat) (xs : Nat → Int32) : am_M := am_alloc (cM186 L xs) 21 256 (fun _ => 0)
def cM188 (L : Nat) (xs : Nat → Int32) : am_M := wA (cM187 L xs) 67 (am_up (mA (cM187 L xs) 67) 36 92)
def cM189 (L : Nat) (xs : Nat → Int32) : am_M := am_alloc (cM188 L xs) 20 119 (fun _ => 0)
def cM190 (L : Nat) (xs : Nat → Int32) : am_M := wA (cM189 L xs) 67 (am_up (mA (cM189 L xs) 67) 38 93)
def cM191 (L : Nat) (xs : Nat → Int32) : am_M := am_alloc (cM190 L xs) 21 256 (fun _ => 0)
def cM192 (L : Nat) (xs : Nat → Int32) : am_M := wA (cM191 L xs) 67 (am_up (mA (cM191 L xs) 67) 41 94)
def cM193 (L : Nat) (xs : Nat → Int32) : am_M := am_alloc (cM192 L xs) 21 256 (fun _ => 0)
def cM194 (L : Nat) (xs : Nat → Int32) : am_M := wA (cM193 L xs) 67 (am_up (mA (cM193 L xs) 67) 42 95)
def cM195 (L : Nat) (xs : Nat → Int32) : am_M := am_alloc (cM194 L xs) 20 4 (fun _ => 0)
def cM196 (L : Nat) (xs : Nat → Int32) : am_M := wA (cM195 L xs) 67 (am_up (mA (cM195 L xs) 67) 44 96)
def cM197 (L : Nat) (xs : Nat → Int32) : am_M := am_alloc (cM196 L xs) 20 4 (fun _ => 0)
def cM198 (L : Nat) (xs : Nat → Int32) : am_M := wA (cM197 L xs) 67 (am_up (mA (cM197 L xs) 67) 45 97)
def cM199 (L : Nat) (xs : Nat → Int32) : am_M := am_alloc (cM198 L xs) 20 4 (fun _ => 0)
def cM200 (L : Nat) (xs : Nat → Int32) : am_M := wA (cM199 L xs) 67 (am_up (mA (cM199 L xs) 67) 46 98)
def cM201 (L : Nat) (xs : Nat → Int32) : am_M := am_alloc (cM200 L xs) 20 256 (fun _ => 0)
def cM202 (L : Nat) (xs : Nat → Int32) : am_M := wA (cM201 L xs) 67 (am_up (mA (cM201 L xs) 67) 47 99)
def cM203 (L : Nat) (xs : Nat → Int32) : am_M := am_alloc (cM202 L xs) 20 16 (fun _ => 0)
def cM204 (L : Nat) (xs : Nat → Int32) : am_M := wA (cM203 L xs) 67 (am_up (mA (cM203 L xs) 67) 48 100)
def cM205 (L : Nat) (xs : Nat → Int32) : am_M := am_alloc (cM204 L xs) 20 4 (fun _ => 0)
def cM206 (L : Nat) (xs : Nat → Int32) : am_M := wA (cM205 L xs) 67 (am_up (mA (cM205 L xs) 67) 49 101)
def cM207 (L : Nat) (xs : Nat → Int32) : am_M := am_alloc (cM206 L xs) 20 4 (fun _ => 0)
def cM208 (L : Nat) (xs : Nat → Int32) : am_M := wA (cM207 L xs) 67 (am_up (mA (cM207 L xs) 67) 50 102)
def cM209 (L : Nat) (xs : Nat → Int32) : am_M := wI (cM208 L xs) 67 (am_up (mI (cM208 L xs) 67) 58 (nM 0))
def cM210 (L : Nat) (xs : Nat → Int32) : am_M := am_alloc (cM209 L xs) 20 10 (fun _ => 0)
def cM211 (L : Nat) (xs : Nat → Int32) : am_M := wA (cM210 L xs) 67 (am_up (mA (cM210 L xs) 67) 60 103)
def cM212 (L : Nat) (xs : Nat → Int32) : am_M := am_alloc (cM211 L xs) 20 10 (fun _ => 0)
def cM213 (L : Nat) (xs : Nat → Int32) : am_M := wA (cM212 L xs) 67 (am_up (mA (cM212 L xs) 67) 61 104)
def cM214 (L : Nat) (xs : Nat → Int32) : am_M := am_alloc (cM213 L xs) 20 300 (fun _ => 0)
def cM215 (L : Nat) (xs : Nat → Int32) : am_M := wA (cM214 L xs) 67 (am_up (mA (cM214 L xs) 67) 62 105)
def cM216 (L : Nat) (xs : Nat → Int32) : am_M := am_alloc (cM215 L xs) 20 300 (fun _ => 0)
def cM217 (L : Nat) (xs : Nat → Int32) : am_M := wA (cM216 L xs) 67 (am_up (mA (cM216 L xs) 67) 63 106)
def cM218 (L : Nat) (xs : Nat → Int32) : am_M := am_alloc (cM217 L xs) 20 300 (fun _ => 0)
def cM219 (L : Nat) (xs : Nat → Int32) : am_M := wA (cM218 L xs) 67 (am_up (mA (cM218 L xs) 67) 64 107)
def cM220 (L : Nat) (xs : Nat → Int32) : am_M := am_alloc (cM219 L xs) 20 300 (fun _ => 0)
def cM221 (L : Nat) (xs : Nat → Int32) : am_M := wA (cM220 L xs) 67 (am_up (mA (cM220 L xs) 67) 65 108)
def cM222 (L : Nat) (xs : Nat → Int32) : am_M := am_alloc (cM221 L xs) 20 7200 (fun _ => 0)
def cM223 (L : Nat) (xs : Nat → Int32) : am_M := wA (cM222 L xs) 67 (am_up (mA (cM222 L xs) 67) 66 109)
def cM224 (L : Nat) (xs : Nat → Int32) : am_M := am_alloc (cM223 L xs) 20 7200 (fun _ => 0)
def cM225 (L : Nat) (xs : Nat → Int32) : am_M := wA (cM224 L xs) 67 (am_up (mA (cM224 L xs) 67) 67 110)
def cM226 (L : Nat) (xs : Nat → Int32) : am_M := am_alloc (cM225 L xs) 20 7200 (fun _ => 0)
def cM227 (L : Nat) (xs : Nat → Int32) : am_M := wA (cM226 L xs) 67 (am_up (mA (cM226 L xs) 67) 68 111)
def cM228 (L : Nat) (xs : Nat → Int32) : am_M := am_alloc (cM227 L xs) 20 7200 (fun _ => 0)
def cM229 (L : Nat) (xs : Nat → Int32) : am_M := wA (cM228 L xs) 67 (am_up (mA (cM228 L xs) 67) 69 112)
def cM230 (L : Nat) (xs : Nat → Int32) : am_M := am_alloc (cM229 L xs) 20 7200 (fun _ => 0)
def cM231 (L : Nat) (xs : Nat → Int32) : am_M := wA (cM230 L xs) 67 (am_up (mA (cM230 L xs) 67) 70 113)
def cM232 (L : Nat) (xs : Nat → Int32) : am_M := am_alloc (cM231 L xs) 20 7200 (fun _ => 0)
def cM233 (L : Nat) (xs : Nat → Int32) : am_M := wA (cM232 L xs) 67 (am_up (mA (cM232 L xs) 67) 71 114)
def cM234 (L : Nat) (xs : Nat → Int32) : am_M := am_alloc (cM233 L xs) 20 12 (fun _ => 0)
def cM235 (L : Nat) (xs : Nat → Int32) : am_M := wA (cM234 L xs) 67 (am_up (mA (cM234 L xs) 67) 72 115)
def cM236 (L : Nat) (xs : Nat → Int32) : am_M := am_alloc (cM235 L xs) 23 700 (fun _ => 0)
def cM237 (L : Nat) (xs : Nat → Int32) : am_M := wA (cM236 L xs) 67 (am_up (mA (cM236 L xs) 67) 73 116)
def cM238 (L : Nat) (xs : Nat → Int32) : am_M := am_alloc (cM237 L xs) 23 700 (fun _ => 0)
def cM239 (L : Nat) (xs : Nat → Int32) : am_M := wA (cM238 L xs) 67 (am_up (mA (cM238 L xs) 67) 74 117)
def cM240 (L : Nat) (xs : Nat → Int32) : am_M := am_alloc (cM239 L xs) 20 120 (fun _ => 0)
def cM241 (L : Nat) (xs : Nat → Int32) : am_M := wA (cM240 L xs) 67 (am_up (mA (cM240 L xs) 67) 80 118)
set_option maxHeartbeats 4000000 in
set_option maxRecDepth 100000 in
theorem am_ctor (d L : Nat) (xs : Nat → Int32) (Q : Option Value → am_M → Prop) (h : am_Run false (d + 4) 279 (am_blk 279 1) [some (.ref 0), some (.ref 9), some (.ref 67), some (.int (nI 0))] [] (cM241 L xs) Q) : am_Run false (d + 4) 279 (am_blk 279 0) [some (.ref 0), none, none, none] [] (am_M0 L xs) Q := by
  show am_Run false (d + 4) 279 [.new 0, .dup, .invokespecial 0, .astore 1, .new 12, .dup, .invokespecial 187, .astore 2, .iconst 0, .istore 3, .ret 1] [some (.ref 0), none, none, none] [] (cM0 L xs) Q
  refine r1 (M' := cM1 L xs) rfl ?_
  refine r1 rfl ?_
  refine rin rfl rfl rfl rfl rfl ?_
  refine r1 rfl ?_
  refine r1 rfl ?_
  refine r1 rfl ?_
  refine r1 (M' := cM2 L xs) rfl ?_
  refine r1 rfl ?_
  refine rin rfl rfl rfl rfl rfl ?_
  refine r1 rfl ?_
  refine r1 rfl ?_
  refine r1 rfl ?_
  refine r1 rfl ?_
  refine r1 (M' := cM3 L xs) rfl ?_
  refine r1 (M' := cM4 L xs) rfl ?_
  refine r1 rfl ?_
  refine r1 rfl ?_
  refine r1 (M' := cM5 L xs) rfl ?_
  refine r1 (M' := cM6 L xs) rfl ?_
  refine r1 rfl ?_
  refine r1 rfl ?_
  refine r1 (M' := cM7 L xs) rfl ?_
  refine r1 (M' := cM8 L xs) rfl ?_
  refine r1 rfl ?_
  refine r1 rfl ?_
  refine r1 (M' := cM9 L xs) rfl ?_
  refine r1 (M' := cM10 L xs) rfl ?_
  refine r1 rfl ?_
  refine r1 rfl ?_
  refine r1 (M' := cM11 L xs) rfl ?_
  refine r1 (M' := cM12 L xs) rfl ?_
  refine r1 rfl ?_
  refine r1 rfl ?_
  refine r1 (M' := cM13 L xs) rfl ?_
  refine r1 (M' := cM14 L xs) rfl ?_
  refine r1 rfl ?_
  refine r1 rfl ?_
  refine r1 (M' := cM15 L xs) rfl ?_
  refine r1 (M' := cM16 L xs) rfl ?_
  refine rend rfl rfl ?_
  refine r1 (M' := cM17 L xs) rfl ?_
  refine r1 rfl ?_
  refine r1 (M' := cM18 L xs) rfl ?_
  refine r1 rfl ?_
  refine rin rfl rfl rfl rfl rfl ?_
  refine r1 rfl ?_
  refine r1 rfl ?_
  refine r1 rfl ?_
  refine r1 rfl ?_
  refine r1 (M' := cM19 L xs) rfl ?_
  refine r1 rfl ?_
  refine r1 rfl ?_
  refine r1 (M' := cM20 L xs) rfl ?_
  refine r1 rfl ?_
  refine r1 rfl ?_
  refine r1 (M' := cM21 L xs) rfl ?_
  refine r1 rfl ?_
  refine r1 rfl ?_
  refine r1 (M' := cM22 L xs) rfl ?_
  refine rend rfl rfl ?_
  refine r1 (M' := cM23 L xs) rfl ?_
  refine r1 rfl ?_
  refine r1 (M' := cM24 L xs) rfl ?_
  refine r1 rfl ?_
  refine rin rfl rfl rfl rfl rfl ?_
  refine r1 rfl ?_
  refine r1 rfl ?_
  refine r1 rfl ?_
  refine r1 rfl ?_
  refine r1 (M' := cM25 L xs) rfl ?_
  refine r1 (M' := cM26 L xs) rfl ?_
  refine r1 rfl ?_
  refine r1 rfl ?_
  refine r1 (M' := cM27 L xs) rfl ?_
  refine r1 (M' := cM28 L xs) rfl ?_
  refine r1 rfl ?_
  refine r1 rfl ?_
  refine r1 (M' := cM29 L xs) rfl ?_
  refine r1 (M' := cM30 L xs) rfl ?_
  refine r1 rfl ?_
  refine r1 rfl ?_
  refine r1 (M' := cM31 L xs) rfl ?_
  refine r1 (M' := cM32 L xs) rfl ?_
  refine r1 rfl ?_
  refine r1 rfl ?_
  refine r1 (M' := cM33 L xs) rfl ?_
  refine r1 (M' := cM34 L xs) rfl ?_
  refine r1 rfl ?_
  refine r1 rfl ?_
  refine r1 (M' := cM35 L xs) rfl ?_
  refine r1 (M' := cM36 L xs) rfl ?_
  refine r1 rfl ?_
  refine r1 rfl ?_
  refine r1 (M' := cM37 L xs) rfl ?_
  refine r1 (M' := cM38 L xs) rfl ?_
  refine r1 rfl ?_
  refine r1 rfl ?_
  refine r1 (M' := cM39 L xs) rfl ?_
  refine r1 (M' := cM40 L xs) rfl ?_
  refine rend rfl rfl ?_
  refine r1 (M' := cM41 L xs) rfl ?_
  refine r1 rfl ?_
  refine r1 (M' := cM42 L xs) rfl ?_
  refine r1 rfl ?_
  refine r1 rfl ?_
  refine r1 rfl ?_
  refine r1 rfl ?_
  refine r1 rfl ?_
  refine r1 rfl ?_
  refine r1 rfl ?_
  refine rin rfl rfl rfl rfl rfl ?_
  refine r1 rfl ?_
  refine r1 rfl ?_
  refine r1 rfl ?_
  refine r1 rfl ?_
  refine r1 (M' := cM43 L xs) rfl ?_
  refine r1 (M' := cM44 L xs) rfl ?_
  refine r1 rfl ?_
  refine r1 rfl ?_
  refine r1 (M' := cM45 L xs) rfl ?_
  refine r1 (M' := cM46 L xs) rfl ?_
  refine r1 rfl ?_
  refine r1 rfl ?_
  refine r1 (M' := cM47 L xs) rfl ?_
  refine r1 rfl ?_
  refine r1 rfl ?_
  refine r1 (M' := cM48 L xs) rfl ?_
  refine r1 rfl ?_
  refine r1 rfl ?_
  refine r1 (M' := cM49 L xs) rfl ?_
  refine rend rfl rfl ?_
  refine r1 (M' := cM50 L xs) rfl ?_
  refine r1 rfl ?_
  refine r1 (M' := cM51 L xs) rfl ?_
  refine r1 rfl ?_
  refine r1 rfl ?_
  refine r1 rfl ?_
  refine r1 rfl ?_
  refine r1 rfl ?_
  refine r1 rfl ?_
  refine r1 rfl ?_
  refine rin rfl rfl rfl rfl rfl ?_
  refine r1 rfl ?_
  refine r1 rfl ?_
  refine r1 rfl ?_
  refine r1 rfl ?_
  refine r1 (M' := cM52 L xs) rfl ?_
  refine r1 (M' := cM53 L xs) rfl ?_
  refine r1 rfl ?_
  refine r1 rfl ?_
  refine r1 (M' := cM54 L xs) rfl ?_
  refine r1 (M' := cM55 L xs) rfl ?_
  refine r1 rfl ?_
  refine r1 rfl ?_
  refine r1 (M' := cM56 L xs) rfl ?_
  refine r1 (M' := cM57 L xs) rfl ?_
  refine r1 rfl ?_
  refine r1 rfl ?_
  refine r1 (M' := cM58 L xs) rfl ?_
  refine r1 rfl ?_
  refine r1 rfl ?_
  refine r1 (M' := cM59 L xs) rfl ?_
  refine r1 rfl ?_
  refine r1 rfl ?_
  refine r1 (M' := cM60 L xs) rfl ?_
  refine rend rfl rfl ?_
  refine r1 (M' := cM61 L xs) rfl ?_
  refine r1 rfl ?_
  refine r1 (M' := cM62 L xs) rfl ?_
  refine r1 rfl ?_
  refine r1 rfl ?_
  refine r1 rfl ?_
  refine r1 rfl ?_
  refine r1 rfl ?_
  refine r1 rfl ?_
  refine r1 rfl ?_
  refine rin rfl rfl rfl rfl rfl ?_
  refine r1 rfl ?_
  refine r1 rfl ?_
  refine r1 rfl ?_
  refine r1 rfl ?_
  refine r1 (M' := cM63 L xs) rfl ?_
  refine r1 (M' := cM64 L xs) rfl ?_
  refine r1 rfl ?_
  refine r1 rfl ?_
  refine r1 (M' := cM65 L xs) rfl ?_
  refine r1 (M' := cM66 L xs) rfl ?_
  refine r1 rfl ?_
  refine r1 rfl ?_
  refine r1 (M' := cM67 L xs) rfl ?_
  refine r1 (M' := cM68 L xs) rfl ?_
  refine r1 rfl ?_
  refine r1 rfl ?_
  refine r1 (M' := cM69 L xs) rfl ?_
  refine r1 (M' := cM70 L xs) rfl ?_
  refine r1 rfl ?_
  refine r1 rfl ?_
  refine r1 (M' := cM71 L xs) rfl ?_
  refine r1 (M' := cM72 L xs) rfl ?_
  refine r1 rfl ?_
  refine r1 rfl ?_
  refine r1 (M' := cM73 L xs) rfl ?_
  refine r1 rfl ?_
  refine r1 rfl ?_
  refine r1 (M' := cM74 L xs) rfl ?_
  refine r1 rfl ?_
  refine r1 rfl ?_
  refine r1 (M' := cM75 L xs) rfl ?_
  refine rend rfl rfl ?_
  refine r1 (M' := cM76 L xs) rfl ?_
  refine r1 rfl ?_
  refine r1 (M' := cM77 L xs) rfl ?_
  refine r1 rfl ?_
  refine r1 rfl ?_
  refine r1 rfl ?_
  refine rin rfl rfl rfl rfl rfl ?_
  refine r1 rfl ?_
  refine r1 rfl ?_
  refine r1 rfl ?_
  refine r1 rfl ?_
  refine r1 (M' := cM78 L xs) rfl ?_
  refine r1 (M' := cM79 L xs) rfl ?_
  refine r1 rfl ?_
  refine r1 rfl ?_
  refine r1 (M' := cM80 L xs) rfl ?_
  refine r1 (M' := cM81 L xs) rfl ?_
  refine r1 rfl ?_
  refine r1 rfl ?_
  refine r1 (M' := cM82 L xs) rfl ?_
  refine r1 (M' := cM83 L xs) rfl ?_
  refine r1 rfl ?_
  refine r1 rfl ?_
  refine r1 (M' := cM84 L xs) rfl ?_
  refine r1 (M' := cM85 L xs) rfl ?_
  refine r1 rfl ?_
  refine r1 rfl ?_
  refine r1 (M' := cM86 L xs) rfl ?_
  refine r1 (M' := cM87 L xs) rfl ?_
  refine r1 rfl ?_
  refine r1 rfl ?_
  refine r1 (M' := cM88 L xs) rfl ?_
  refine r1 (M' := cM89 L xs) rfl ?_
  refine r1 rfl ?_
  refine r1 rfl ?_
  refine r1 (M' := cM90 L xs) rfl ?_
  refine r1 (M' := cM91 L xs) rfl ?_
  refine r1 rfl ?_
  refine r1 rfl ?_
  refine r1 (M' := cM92 L xs) rfl ?_
  refine r1 (M' := cM93 L xs) rfl ?_
  refine r1 rfl ?_
  refine r1 rfl ?_
  refine r1 (M' := cM94 L xs) rfl ?_
  refine r1 (M' := cM95 L xs) rfl ?_
  refine r1 rfl ?_
  refine r1 rfl ?_
  refine r1 (M' := cM96 L xs) rfl ?_
  refine r1 (M' := cM97 L xs) rfl ?_
  refine r1 rfl ?_
  refine r1 rfl ?_
  refine r1 (M' := cM98 L xs) rfl ?_
  refine rend rfl rfl ?_
  refine r1 (M' := cM99 L xs) rfl ?_
  refine r1 rfl ?_
  refine r1 (M' := cM100 L xs) rfl ?_
  refine r1 rfl ?_
  refine r1 rfl ?_
  refine r1 rfl ?_
  refine r1 rfl ?_
  refine r1 rfl ?_
  refine rin rfl rfl rfl rfl rfl ?_
  refine r1 rfl ?_
  refine r1 rfl ?_
  refine r1 rfl ?_
  refine r1 rfl ?_
  refine r1 (M' := cM101 L xs) rfl ?_
  refine r1 (M' := cM102 L xs) rfl ?_
  refine r1 rfl ?_
  refine r1 rfl ?_
  refine r1 (M' := cM103 L xs) rfl ?_
  refine r1 (M' := cM104 L xs) rfl ?_
  refine r1 rfl ?_
  refine r1 rfl ?_
  refine r1 (M' := cM105 L xs) rfl ?_
  refine r1 rfl ?_
  refine r1 rfl ?_
  refine r1 (M' := cM106 L xs) rfl ?_
  refine rend rfl rfl ?_
  refine r1 (M' := cM107 L xs) rfl ?_
  refine r1 rfl ?_
  refine r1 (M' := cM108 L xs) rfl ?_
  refine r1 rfl ?_
  refine rin rfl rfl rfl rfl rfl ?_
  refine r1 rfl ?_
  refine r1 rfl ?_
  refine r1 rfl ?_
  refine r1 rfl ?_
  refine r1 (M' := cM109 L xs) rfl ?_
  refine r1 (M' := cM110 L xs) rfl ?_
  refine r1 rfl ?_
  refine r1 rfl ?_
  refine r1 (M' := cM111 L xs) rfl ?_
  refine r1 (M' := cM112 L xs) rfl ?_
  refine r1 rfl ?_
  refine r1 rfl ?_
  refine r1 (M' := cM113 L xs) rfl ?_
  refine r1 (M' := cM114 L xs) rfl ?_
  refine rend rfl rfl ?_
  refine r1 (M' := cM115 L xs) rfl ?_
  refine r1 rfl ?_
  refine r1 (M' := cM116 L xs) rfl ?_
  refine r1 rfl ?_
  refine r1 rfl ?_
  refine r1 rfl ?_
  refine rin rfl rfl rfl rfl rfl ?_
  refine r1 rfl ?_
  refine r1 rfl ?_
  refine r1 rfl ?_
  refine r1 rfl ?_
  refine r1 (M' := cM117 L xs) rfl ?_
  refine r1 (M' := cM118 L xs) rfl ?_
  refine r1 rfl ?_
  refine r1 rfl ?_
  refine r1 (M' := cM119 L xs) rfl ?_
  refine r1 (M' := cM120 L xs) rfl ?_
  refine r1 rfl ?_
  refine r1 rfl ?_
  refine r1 (M' := cM121 L xs) rfl ?_
  refine r1 rfl ?_
  refine r1 rfl ?_
  refine r1 (M' := cM122 L xs) rfl ?_
  refine rend rfl rfl ?_
  refine r1 (M' := cM123 L xs) rfl ?_
  refine r1 rfl ?_
  refine r1 (M' := cM124 L xs) rfl ?_
  refine r1 rfl ?_
  refine r1 rfl ?_
  refine r1 rfl ?_
  refine r1 rfl ?_
  refine r1 (M' := cM125 L xs) rfl ?_
  refine r1 rfl ?_
  refine r1 (M' := cM126 L xs) rfl ?_
  refine rin rfl rfl rfl rfl rfl ?_
  refine r1 rfl ?_
  refine r1 rfl ?_
  refine r1 rfl ?_
  refine r1 rfl ?_
  refine r1 (M' := cM127 L xs) rfl ?_
  refine r1 rfl ?_
  refine r1 rfl ?_
  refine r1 (M' := cM128 L xs) rfl ?_
  refine r1 rfl ?_
  refine r1 rfl ?_
  refine r1 (M' := cM129 L xs) rfl ?_
  refine r1 rfl ?_
  refine r1 rfl ?_
  refine r1 (M' := cM130 L xs) rfl ?_
  refine rend rfl rfl ?_
  refine r1 (M' := cM131 L xs) rfl ?_
  refine r1 rfl ?_
  refine r1 rfl ?_
  refine r1 (M' := cM132 L xs) rfl ?_
  refine r1 (M' := cM133 L xs) rfl ?_
  refine r1 rfl ?_
  refine r1 rfl ?_
  refine r1 (M' := cM134 L xs) rfl ?_
  refine r1 (M' := cM135 L xs) rfl ?_
  refine r1 rfl ?_
  refine r1 rfl ?_
  refine r1 (M' := cM136 L xs) rfl ?_
  refine rend rfl rfl ?_
  refine r1 rfl ?_
  refine r1 (M' := cM137 L xs) rfl ?_
  refine r1 rfl ?_
  refine rin rfl rfl rfl rfl rfl ?_
  refine r1 rfl ?_
  refine r1 rfl ?_
  refine r1 rfl ?_
  refine r1 rfl ?_
  refine r1 (M' := cM138 L xs) rfl ?_
  refine r1 rfl ?_
  refine r1 rfl ?_
  refine r1 (M' := cM139 L xs) rfl ?_
  refine r1 rfl ?_
  refine r1 rfl ?_
  refine r1 (M' := cM140 L xs) rfl ?_
  refine r1 rfl ?_
  refine r1 rfl ?_
  refine r1 (M' := cM141 L xs) rfl ?_
  refine r1 (M' := cM142 L xs) rfl ?_
  refine r1 rfl ?_
  refine r1 rfl ?_
  refine r1 (M' := cM143 L xs) rfl ?_
  refine r1 (M' := cM144 L xs) rfl ?_
  refine r1 rfl ?_
  refine r1 rfl ?_
  refine r1 (M' := cM145 L xs) rfl ?_
  refine r1 (M' := cM146 L xs) rfl ?_
  refine r1 rfl ?_
  refine r1 rfl ?_
  refine r1 (M' := cM147 L xs) rfl ?_
  refine r1 (M' := cM148 L xs) rfl ?_
  refine r1 rfl ?_
  refine r1 rfl ?_
  refine r1 (M' := cM149 L xs) rfl ?_
  refine r1 (M' := cM150 L xs) rfl ?_
  refine r1 rfl ?_
  refine r1 rfl ?_
  refine r1 (M' := cM151 L xs) rfl ?_
  refine r1 (M' := cM152 L xs) rfl ?_
  refine r1 rfl ?_
  refine r1 rfl ?_
  refine r1 (M' := cM153 L xs) rfl ?_
  refine r1 (M' := cM154 L xs) rfl ?_
  refine r1 rfl ?_
  refine r1 rfl ?_
  refine r1 (M' := cM155 L xs) rfl ?_
  refine r1 (M' := cM156 L xs) rfl ?_
  refine r1 rfl ?_
  refine r1 rfl ?_
  refine r1 (M' := cM157 L xs) rfl ?_
  refine r1 (M' := cM158 L xs) rfl ?_
  refine r1 rfl ?_
  refine r1 rfl ?_
  refine r1 (M' := cM159 L xs) rfl ?_
  refine r1 (M' := cM160 L xs) rfl ?_
  refine r1 rfl ?_
  refine r1 rfl ?_
  refine r1 (M' := cM161 L xs) rfl ?_
  refine r1 (M' := cM162 L xs) rfl ?_
  refine r1 rfl ?_
  refine r1 rfl ?_
  refine r1 (M' := cM163 L xs) rfl ?_
  refine r1 (M' := cM164 L xs) rfl ?_
  refine r1 rfl ?_
  refine r1 rfl ?_
  refine r1 (M' := cM165 L xs) rfl ?_
  refine r1 (M' := cM166 L xs) rfl ?_
  refine r1 rfl ?_
  refine r1 rfl ?_
  refine r1 (M' := cM167 L xs) rfl ?_
  refine r1 (M' := cM168 L xs) rfl ?_
  refine r1 rfl ?_
  refine r1 rfl ?_
  refine r1 (M' := cM169 L xs) rfl ?_
  refine r1 (M' := cM170 L xs) rfl ?_
  refine r1 rfl ?_
  refine r1 rfl ?_
  refine r1 (M' := cM171 L xs) rfl ?_
  refine r1 (M' := cM172 L xs) rfl ?_
  refine r1 rfl ?_
  refine r1 rfl ?_
  refine r1 (M' := cM173 L xs) rfl ?_
  refine r1 (M' := cM174 L xs) rfl ?_
  refine r1 rfl ?_
  refine r1 rfl ?_
  refine r1 (M' := cM175 L xs) rfl ?_
  refine r1 (M' := cM176 L xs) rfl ?_
  refine r1 rfl ?_
  refine r1 rfl ?_
  refine r1 (M' := cM177 L xs) rfl ?_
  refine r1 (M' := cM178 L xs) rfl ?_
  refine r1 rfl ?_
  refine r1 rfl ?_
  refine r1 (M' := cM179 L xs) rfl ?_
  refine r1 (M' := cM180 L xs) rfl ?_
  refine r1 rfl ?_
  refine r1 rfl ?_
  refine r1 (M' := cM181 L xs) rfl ?_
  refine r1 (M' := cM182 L xs) rfl ?_
  refine r1 rfl ?_
  refine r1 rfl ?_
  refine r1 (M' := cM183 L xs) rfl ?_
  refine r1 (M' := cM184 L xs) rfl ?_
  refine r1 rfl ?_
  refine r1 rfl ?_
  refine r1 (M' := cM185 L xs) rfl ?_
  refine r1 (M' := cM186 L xs) rfl ?_
  refine r1 rfl ?_
  refine r1 rfl ?_
  refine r1 (M' := cM187 L xs) rfl ?_
  refine r1 (M' := cM188 L xs) rfl ?_
  refine r1 rfl ?_
  refine r1 rfl ?_
  refine r1 (M' := cM189 L xs) rfl ?_
  refine r1 (M' := cM190 L xs) rfl ?_
  refine r1 rfl ?_
  refine r1 rfl ?_
  refine r1 (M' := cM191 L xs) rfl ?_
  refine r1 (M' := cM192 L xs) rfl ?_
  refine r1 rfl ?_
  refine r1 rfl ?_
  refine r1 (M' := cM193 L xs) rfl ?_
  refine r1 (M' := cM194 L xs) rfl ?_
  refine r1 rfl ?_
  refine r1 rfl ?_
  refine r1 (M' := cM195 L xs) rfl ?_
  refine r1 (M' := cM196 L xs) rfl ?_
  refine r1 rfl ?_
  refine r1 rfl ?_
  refine r1 (M' := cM197 L xs) rfl ?_
  refine r1 (M' := cM198 L xs) rfl ?_
  refine r1 rfl ?_
  refine r1 rfl ?_
  refine r1 (M' := cM199 L xs) rfl ?_
  refine r1 (M' := cM200 L xs) rfl ?_
  refine r1 rfl ?_
  refine r1 rfl ?_
  refine r1 (M' := cM201 L xs) rfl ?_
  refine r1 (M' := cM202 L xs) rfl ?_
  refine r1 rfl ?_
  refine r1 rfl ?_
  refine r1 (M' := cM203 L xs) rfl ?_
  refine r1 (M' := cM204 L xs) rfl ?_
  refine r1 rfl ?_
  refine r1 rfl ?_
  refine r1 (M' := cM205 L xs) rfl ?_
  refine r1 (M' := cM206 L xs) rfl ?_
  refine r1 rfl ?_
  refine r1 rfl ?_
  refine r1 (M' := cM207 L xs) rfl ?_
  refine r1 (M' := cM208 L xs) rfl ?_
  refine r1 rfl ?_
  refine r1 rfl ?_
  refine r1 (M' := cM209 L xs) rfl ?_
  refine r1 rfl ?_
  refine r1 rfl ?_
  refine r1 (M' := cM210 L xs) rfl ?_
  refine r1 (M' := cM211 L xs) rfl ?_
  refine r1 rfl ?_
  refine r1 rfl ?_
  refine r1 (M' := cM212 L xs) rfl ?_
  refine r1 (M' := cM213 L xs) rfl ?_
  refine r1 rfl ?_
  refine r1 rfl ?_
  refine r1 (M' := cM214 L xs) rfl ?_
  refine r1 (M' := cM215 L xs) rfl ?_
  refine r1 rfl ?_
  refine r1 rfl ?_
  refine r1 (M' := cM216 L xs) rfl ?_
  refine r1 (M' := cM217 L xs) rfl ?_
  refine r1 rfl ?_
  refine r1 rfl ?_
  refine r1 (M' := cM218 L xs) rfl ?_
  refine r1 (M' := cM219 L xs) rfl ?_
  refine r1 rfl ?_
  refine r1 rfl ?_
  refine r1 (M' := cM220 L xs) rfl ?_
  refine r1 (M' := cM221 L xs) rfl ?_
  refine r1 rfl ?_
  refine r1 rfl ?_
  refine r1 (M' := cM222 L xs) rfl ?_
  refine r1 (M' := cM223 L xs) rfl ?_
  refine r1 rfl ?_
  refine r1 rfl ?_
  refine r1 (M' := cM224 L xs) rfl ?_
  refine r1 (M' := cM225 L xs) rfl ?_
  refine r1 rfl ?_
  refine r1 rfl ?_
  refine r1 (M' := cM226 L xs) rfl ?_
  refine r1 (M' := cM227 L xs) rfl ?_
  refine r1 rfl ?_
  refine r1 rfl ?_
  refine r1 (M' := cM228 L xs) rfl ?_
  refine r1 (M' := cM229 L xs) rfl ?_
  refine r1 rfl ?_
  refine r1 rfl ?_
  refine r1 (M' := cM230 L xs) rfl ?_
  refine r1 (M' := cM231 L xs) rfl ?_
  refine r1 rfl ?_
  refine r1 rfl ?_
  refine r1 (M' := cM232 L xs) rfl ?_
  refine r1 (M' := cM233 L xs) rfl ?_
  refine r1 rfl ?_
  refine r1 rfl ?_
  refine r1 (M' := cM234 L xs) rfl ?_
  refine r1 (M' := cM235 L xs) rfl ?_
  refine r1 rfl ?_
  refine r1 rfl ?_
  refine r1 (M' := cM236 L xs) rfl ?_
  refine r1 (M' := cM237 L xs) rfl ?_
  refine r1 rfl ?_
  refine r1 rfl ?_
  refine r1 (M' := cM238 L xs) rfl ?_
  refine r1 (M' := cM239 L xs) rfl ?_
  refine r1 rfl ?_
  refine r1 rfl ?_
  refine r1 (M' := cM240 L xs) rfl ?_
  refine r1 (M' := cM241 L xs) rfl ?_
  refine rend rfl rfl ?_
  refine r1 rfl ?_
  refine r1 rfl ?_
  refine r1 rfl ?_
  refine rhead ?_
  exact h
