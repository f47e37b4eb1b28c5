theorem am_ok_all (z : Nat) (h : z < 280) : am_okz z = true := sorry
