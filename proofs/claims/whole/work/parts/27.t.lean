theorem tt {L i : Nat} {M : am_M} {Q : Option Value → am_M → Prop} (hk : am_kd true M 0 = (20, L)) (hL : i + 8 ≤ L) (hL2 : L ≤ 4096) : am_Run true 60 279 [.iaload] [some (.ref 0), some (.ref 9), some (.ref 67), some (.int (nI i))] [.int (nI (i + 1)), .ref 0, .ref 9] M Q := by
  refine riald hk (by omega) (by omega) ?_
  done
