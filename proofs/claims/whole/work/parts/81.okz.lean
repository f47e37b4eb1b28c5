/-! the check of all blocks, by the kernel -/
theorem am_okr {a n z : Nat} (h : (List.range' a n).all am_okz = true) (h1 : a ≤ z) (h2 : z < a + n) : am_okz z = true := List.all_eq_true.mp h z (List.mem_range'_1.mpr ⟨h1, h2⟩)
theorem am_all8 {α : Type} (L : List α) (f : α → Bool) (n : Nat) (hn : L.length ≤ 8 * n) (h : ∀ k, k < n → ((L.drop (8 * k)).take 8).all f = true) : L.all f = true := by
  refine List.all_eq_true.mpr fun q hq => ?_
  obtain ⟨i, hi⟩ := List.getElem?_of_mem hq
  have hl := (List.getElem?_eq_some_iff.mp hi).1
  refine List.all_eq_true.mp (h (i / 8) (by omega)) q (List.mem_of_getElem? (i := i % 8) ?_)
  rw [List.getElem?_take, if_pos (by omega), List.getElem?_drop, show 8 * (i / 8) + i % 8 = i by omega]
  exact hi
set_option maxRecDepth 100000 in
theorem am_okg0 : (List.range' 0 30).all am_okz = true := by decide +kernel
set_option maxRecDepth 100000 in
theorem am_okg1 : (List.range' 30 20).all am_okz = true := by decide +kernel
set_option maxRecDepth 100000 in
theorem am_okg2 : (List.range' 50 22).all am_okz = true := by decide +kernel
set_option maxRecDepth 100000 in
theorem am_okg3 : (List.range' 72 23).all am_okz = true := by decide +kernel
set_option maxRecDepth 100000 in
theorem am_okg4 : (List.range' 95 14).all am_okz = true := by decide +kernel
set_option maxRecDepth 100000 in
theorem am_okg5 : (List.range' 109 14).all am_okz = true := by decide +kernel
set_option maxRecDepth 100000 in
theorem am_okg6 : (List.range' 123 31).all am_okz = true := by decide +kernel
set_option maxRecDepth 100000 in
theorem am_okg7 : (List.range' 154 25).all am_okz = true := by decide +kernel
set_option maxRecDepth 100000 in
theorem am_okg8 : (List.range' 179 8).all am_okz = true := by decide +kernel
set_option maxRecDepth 100000 in
theorem am_okg9 : (List.range' 187 1).all am_okz = true := by decide +kernel
set_option maxRecDepth 100000 in
theorem am_okg10 : (List.range' 188 18).all am_okz = true := by decide +kernel
set_option maxRecDepth 100000 in
theorem am_okg11 : (List.range' 206 8).all am_okz = true := by decide +kernel
set_option maxRecDepth 100000 in
theorem am_okg12 : (List.range' 214 14).all am_okz = true := by decide +kernel
set_option maxRecDepth 100000 in
theorem am_okg13 : (List.range' 228 5).all am_okz = true := by decide +kernel
set_option maxRecDepth 100000 in
theorem am_okg14 : (List.range' 233 6).all am_okz = true := by decide +kernel
set_option maxRecDepth 100000 in
theorem am_okg15 : (List.range' 239 4).all am_okz = true := by decide +kernel
set_option maxRecDepth 100000 in
theorem am_okg16 : (List.range' 243 10).all am_okz = true := by decide +kernel
set_option maxRecDepth 100000 in
theorem am_okg17 : (List.range' 253 7).all am_okz = true := by decide +kernel
set_option maxRecDepth 100000 in
theorem am_okg18 : (List.range' 260 2).all am_okz = true := by decide +kernel
set_option maxRecDepth 100000 in
theorem am_okg19 : (List.range' 262 1).all am_okz = true := by decide +kernel
set_option maxRecDepth 100000 in
theorem am_okg20 : (List.range' 263 3).all am_okz = true := by decide +kernel
set_option maxRecDepth 100000 in
theorem am_okg21 : (List.range' 266 4).all am_okz = true := by decide +kernel
set_option maxRecDepth 100000 in
theorem am_okg22 : (List.range' 270 3).all am_okz = true := by decide +kernel
set_option maxRecDepth 100000 in
theorem am_okg23 : (List.range' 273 5).all am_okz = true := by decide +kernel
set_option maxRecDepth 100000 in
theorem am_okg24 : (List.range' 278 1).all am_okz = true := by decide +kernel
set_option maxRecDepth 100000 in
theorem am_okl0 : (((am_bt 279).drop (8 * 0)).take 8).all (fun q => am_ok 279 q.1 q.2) = true := by decide +kernel
set_option maxRecDepth 100000 in
theorem am_okl1 : (((am_bt 279).drop (8 * 1)).take 8).all (fun q => am_ok 279 q.1 q.2) = true := by decide +kernel
set_option maxRecDepth 100000 in
theorem am_okl2 : (((am_bt 279).drop (8 * 2)).take 8).all (fun q => am_ok 279 q.1 q.2) = true := by decide +kernel
set_option maxRecDepth 100000 in
theorem am_okl3 : (((am_bt 279).drop (8 * 3)).take 8).all (fun q => am_ok 279 q.1 q.2) = true := by decide +kernel
set_option maxRecDepth 100000 in
theorem am_okl4 : (((am_bt 279).drop (8 * 4)).take 8).all (fun q => am_ok 279 q.1 q.2) = true := by decide +kernel
set_option maxRecDepth 100000 in
theorem am_okl5 : (((am_bt 279).drop (8 * 5)).take 8).all (fun q => am_ok 279 q.1 q.2) = true := by decide +kernel
set_option maxRecDepth 100000 in
theorem am_okl6 : (((am_bt 279).drop (8 * 6)).take 8).all (fun q => am_ok 279 q.1 q.2) = true := by decide +kernel
set_option maxRecDepth 100000 in
theorem am_okl7 : (((am_bt 279).drop (8 * 7)).take 8).all (fun q => am_ok 279 q.1 q.2) = true := by decide +kernel
set_option maxRecDepth 100000 in
theorem am_okl8 : (((am_bt 279).drop (8 * 8)).take 8).all (fun q => am_ok 279 q.1 q.2) = true := by decide +kernel
set_option maxRecDepth 100000 in
theorem am_okl9 : (((am_bt 279).drop (8 * 9)).take 8).all (fun q => am_ok 279 q.1 q.2) = true := by decide +kernel
set_option maxRecDepth 100000 in
theorem am_okl10 : (((am_bt 279).drop (8 * 10)).take 8).all (fun q => am_ok 279 q.1 q.2) = true := by decide +kernel
set_option maxRecDepth 100000 in
theorem am_okl11 : (((am_bt 279).drop (8 * 11)).take 8).all (fun q => am_ok 279 q.1 q.2) = true := by decide +kernel
set_option maxRecDepth 100000 in
theorem am_okl12 : (((am_bt 279).drop (8 * 12)).take 8).all (fun q => am_ok 279 q.1 q.2) = true := by decide +kernel
theorem am_ok279 : am_okz 279 = true := by
  refine am_all8 _ _ 13 (by decide +kernel) fun k hk => ?_
  match k, hk with
  | 0, _ => exact am_okl0
  | 1, _ => exact am_okl1
  | 2, _ => exact am_okl2
  | 3, _ => exact am_okl3
  | 4, _ => exact am_okl4
  | 5, _ => exact am_okl5
  | 6, _ => exact am_okl6
  | 7, _ => exact am_okl7
  | 8, _ => exact am_okl8
  | 9, _ => exact am_okl9
  | 10, _ => exact am_okl10
  | 11, _ => exact am_okl11
  | 12, _ => exact am_okl12
  | k + 13, hk => omega
theorem am_ok_all (z : Nat) (h : z < 280) : am_okz z = true := by
  by_cases h0 : z < 30
  · exact am_okr am_okg0 (by omega) (by omega)
  by_cases h1 : z < 50
  · exact am_okr am_okg1 (by omega) (by omega)
  by_cases h2 : z < 72
  · exact am_okr am_okg2 (by omega) (by omega)
  by_cases h3 : z < 95
  · exact am_okr am_okg3 (by omega) (by omega)
  by_cases h4 : z < 109
  · exact am_okr am_okg4 (by omega) (by omega)
  by_cases h5 : z < 123
  · exact am_okr am_okg5 (by omega) (by omega)
  by_cases h6 : z < 154
  · exact am_okr am_okg6 (by omega) (by omega)
  by_cases h7 : z < 179
  · exact am_okr am_okg7 (by omega) (by omega)
  by_cases h8 : z < 187
  · exact am_okr am_okg8 (by omega) (by omega)
  by_cases h9 : z < 188
  · exact am_okr am_okg9 (by omega) (by omega)
  by_cases h10 : z < 206
  · exact am_okr am_okg10 (by omega) (by omega)
  by_cases h11 : z < 214
  · exact am_okr am_okg11 (by omega) (by omega)
  by_cases h12 : z < 228
  · exact am_okr am_okg12 (by omega) (by omega)
  by_cases h13 : z < 233
  · exact am_okr am_okg13 (by omega) (by omega)
  by_cases h14 : z < 239
  · exact am_okr am_okg14 (by omega) (by omega)
  by_cases h15 : z < 243
  · exact am_okr am_okg15 (by omega) (by omega)
  by_cases h16 : z < 253
  · exact am_okr am_okg16 (by omega) (by omega)
  by_cases h17 : z < 260
  · exact am_okr am_okg17 (by omega) (by omega)
  by_cases h18 : z < 262
  · exact am_okr am_okg18 (by omega) (by omega)
  by_cases h19 : z < 263
  · exact am_okr am_okg19 (by omega) (by omega)
  by_cases h20 : z < 266
  · exact am_okr am_okg20 (by omega) (by omega)
  by_cases h21 : z < 270
  · exact am_okr am_okg21 (by omega) (by omega)
  by_cases h22 : z < 273
  · exact am_okr am_okg22 (by omega) (by omega)
  by_cases h23 : z < 278
  · exact am_okr am_okg23 (by omega) (by omega)
  by_cases h24 : z < 279
  · exact am_okr am_okg24 (by omega) (by omega)
  rw [show z = 279 by omega]
  exact am_ok279
