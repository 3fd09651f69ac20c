/-! THE LAW'S LOOP. -/
section ZLW
variable {S : Zs} {w u r : Zw} {B B' n v : Nat} {L : Nat} {xs : Nat → Int32} {k : Zlr → Option Zlr}
theorem law_step (hF : zFLT) (hD : zFLD) (hL : zLay S) {x5 : Int32} (hlt : ¬ (Int32.ofNat L) - (4 : Int32) < x5) (z0 : zin x5 L = true) (z1 : zin (x5 + 1) L = true) (z2 : zin (x5 + 2) L = true) (z3 : zin (x5 + 3) L = true) (hB : B + 100 ≤ B') (hB9 : B < 999900) (h : INV B w) : ∃ cl cd w2, f_law_b S L xs 0 1 255 267 268 k x5 w = k (x5 + 4, cl, cd, w2) ∧ INV B' w2 := by
  unfold f_law_b
  rw [if_neg hlt, if_pos z0]
  by_cases h0 : ((xs (zix x5)) &&& (31 : Int32)) = (0 : Int32)
  · rw [if_pos h0, if_pos z1, if_pos z2]
    exact L_store hL z1 z2 z3 hB hB9 h
  rw [if_neg h0]
  by_cases h1 : ((xs (zix x5)) &&& (31 : Int32)) = (1 : Int32)
  · rw [if_pos h1, if_pos z1]
    exact L_retrieve hL z1 z2 z3 hB hB9 h
  rw [if_neg h1]
  by_cases h2 : ((xs (zix x5)) &&& (31 : Int32)) = (2 : Int32)
  · rw [if_pos h2, if_pos z1, if_pos z2]
    exact L_book hL z1 z2 z3 hB hB9 h
  rw [if_neg h2]
  by_cases h3 : ((xs (zix x5)) &&& (31 : Int32)) = (3 : Int32)
  · rw [if_pos h3, if_pos z1, if_pos z2]
    exact L_car hL z1 z2 z3 hB hB9 h
  rw [if_neg h3]
  by_cases h4 : ((xs (zix x5)) &&& (31 : Int32)) = (4 : Int32)
  · rw [if_pos h4, if_pos z1]
    exact L_due hL z1 z2 z3 hB hB9 h
  rw [if_neg h4]
  by_cases h5 : ((xs (zix x5)) &&& (31 : Int32)) = (5 : Int32)
  · rw [if_pos h5, if_pos z1, if_pos z2]
    by_cases e : (xs (zix (x5 + 2))) = 0
    · rw [if_pos e]
      exact L_setClosed hL z1 z2 z3 hB hB9 h (by rw [if_pos e])
    · rw [if_neg e]
      exact L_setClosed hL z1 z2 z3 hB hB9 h (by rw [if_neg e])
  rw [if_neg h5]
  by_cases h6 : ((xs (zix x5)) &&& (31 : Int32)) = (6 : Int32)
  · rw [if_pos h6, if_pos z1, if_pos z2]
    exact L_bay hL z1 z2 z3 hB hB9 h
  rw [if_neg h6]
  by_cases h7 : ((xs (zix x5)) &&& (31 : Int32)) = (7 : Int32)
  · rw [if_pos h7, if_pos z1, if_pos z2]
    exact L_choice hL z1 z2 z3 hB hB9 h
  rw [if_neg h7]
  by_cases h8 : ((xs (zix x5)) &&& (31 : Int32)) = (8 : Int32)
  · rw [if_pos h8, if_pos z1]
    exact L_refuge hL z1 z2 z3 hB hB9 h
  rw [if_neg h8]
  by_cases h9 : ((xs (zix x5)) &&& (31 : Int32)) = (9 : Int32)
  · rw [if_pos h9, if_pos z1]
    exact L_bays hL z1 z2 z3 hB hB9 h
  rw [if_neg h9]
  by_cases h10 : ((xs (zix x5)) &&& (31 : Int32)) = (10 : Int32)
  · rw [if_pos h10, if_pos z1, if_pos z2]
    exact L_bestMoves hL z1 z2 z3 hB hB9 h
  rw [if_neg h10]
  by_cases h11 : ((xs (zix x5)) &&& (31 : Int32)) = (11 : Int32)
  · rw [if_pos h11, if_pos z1, if_pos z2]
    exact L_bestEnd hL z1 z2 z3 hB hB9 h
  rw [if_neg h11]
  by_cases h12 : ((xs (zix x5)) &&& (31 : Int32)) = (12 : Int32)
  · rw [if_pos h12, if_pos z1, if_pos z2, if_pos z3]
    exact L_bestCar hL z1 z2 z3 hB hB9 h
  rw [if_neg h12]
  by_cases h13 : ((xs (zix x5)) &&& (31 : Int32)) = (13 : Int32)
  · rw [if_pos h13, if_pos z1, if_pos z2]
    exact L_plainMoves hL z1 z2 z3 hB hB9 h
  rw [if_neg h13]
  by_cases h14 : ((xs (zix x5)) &&& (31 : Int32)) = (14 : Int32)
  · rw [if_pos h14, if_pos z1, if_pos z2]
    exact L_retrieveAll hL z1 z2 z3 hB hB9 h
  rw [if_neg h14]
  by_cases h15 : ((xs (zix x5)) &&& (31 : Int32)) = (15 : Int32)
  · rw [if_pos h15]
    obtain ⟨x, w1, w2, a, b, c⟩ := P_tidy (S := S) (w := w) (B := B) (B' := B') hL (by omega) (by omega) h
    refine ⟨S.cl, S.cd, w2, ?_, c⟩
    rw [a, zbs]
    dsimp only
    rw [b, zbs, if_pos rfl]
  rw [if_neg h15]
  by_cases h16 : ((xs (zix x5)) &&& (31 : Int32)) = (16 : Int32)
  · rw [if_pos h16, if_pos z1]
    exact L_pass hL z1 z2 z3 hB hB9 h
  rw [if_neg h16]
  by_cases h17 : ((xs (zix x5)) &&& (31 : Int32)) = (17 : Int32)
  · rw [if_pos h17, if_pos z1, if_pos z2]
    exact L_machine hL z1 z2 z3 hB hB9 h
  rw [if_neg h17]
  by_cases h18 : ((xs (zix x5)) &&& (31 : Int32)) = (18 : Int32)
  · rw [if_pos h18]
    exact ⟨S.cl, S.cd, w, by rw [P_jobs hL h, zbs, if_pos rfl], INV_le (by omega) h⟩
  rw [if_neg h18]
  by_cases h19 : ((xs (zix x5)) &&& (31 : Int32)) = (19 : Int32)
  · rw [if_pos h19, if_pos z1, if_pos z2]
    exact L_job hL z1 z2 z3 hB hB9 h
  rw [if_neg h19]
  by_cases h20 : ((xs (zix x5)) &&& (31 : Int32)) = (20 : Int32)
  · rw [if_pos h20, if_pos z1]
    exact L_account hL z1 z2 z3 hB hB9 h
  rw [if_neg h20]
  by_cases h21 : ((xs (zix x5)) &&& (31 : Int32)) = (21 : Int32)
  · rw [if_pos h21, if_pos z1]
    exact L_load hF hD hL z1 z2 z3 hB hB9 h
  rw [if_neg h21]
  by_cases h22 : ((xs (zix x5)) &&& (31 : Int32)) = (22 : Int32)
  · rw [if_pos h22]
    exact L_meanJob hF hD hL z1 z2 z3 hB hB9 h
  rw [if_neg h22]
  by_cases h23 : ((xs (zix x5)) &&& (31 : Int32)) = (23 : Int32)
  · rw [if_pos h23, if_pos z1, if_pos z2]
    exact L_report hL z1 z2 z3 hB hB9 h
  rw [if_neg h23]
  by_cases h24 : ((xs (zix x5)) &&& (31 : Int32)) = (24 : Int32)
  · rw [if_pos h24, if_pos z1]
    exact L_feed hL z1 z2 z3 hB hB9 h
  rw [if_neg h24]
  by_cases h25 : ((xs (zix x5)) &&& (31 : Int32)) = (25 : Int32)
  · rw [if_pos h25]
    exact L_perform hL z1 z2 z3 hB hB9 h
  rw [if_neg h25]
  by_cases h26 : ((xs (zix x5)) &&& (31 : Int32)) = (26 : Int32)
  · rw [if_pos h26]
    exact L_undo hL z1 z2 z3 hB hB9 h
  rw [if_neg h26]
  by_cases h27 : ((xs (zix x5)) &&& (31 : Int32)) = (27 : Int32)
  · rw [if_pos h27]
    obtain ⟨x, w1, w2, a, b, c⟩ := P_save (S := S) (w := w) (B := B) (B' := B') hL (by omega) h
    refine ⟨S.cl, S.cd, w2, ?_, c⟩
    rw [a, zbs]
    dsimp only
    rw [b, zbs, if_pos rfl]
  rw [if_neg h27]
  by_cases h28 : ((xs (zix x5)) &&& (31 : Int32)) = (28 : Int32)
  · rw [if_pos h28]
    exact L_restore hL z1 z2 z3 hB hB9 h
  rw [if_neg h28]
  exact ⟨S.cl, S.cd, w, rfl, INV_le (by omega) h⟩
theorem ofL_lt (hL : L ≤ 2048) (q : Nat) (hq : q ≤ 4000) : ((Int32.ofNat L) - (4 : Int32) < ii q) ↔ L < q + 4 := by
  have e : (Int32.ofNat L) - (4 : Int32) = ii L - ii 4 := rfl
  rw [e]
  by_cases h : 4 ≤ L
  · have e2 : ii L - ii 4 = ii (L - 4) := by
      have : ii L = ii (L - 4) + ii 4 := by rw [ii_add]; congr 1; omega
      rw [this]
      grind
    rw [e2, ii_lt (by omega) (by omega)]
    omega
  · have hq0 := ii_nn (b := q) (by omega)
    have hn : ii L - ii 4 < 0 := by
      rcases (show L = 0 ∨ L = 1 ∨ L = 2 ∨ L = 3 by omega) with rfl | rfl | rfl | rfl <;> decide
    constructor
    · intro _
      omega
    · intro _
      grind
theorem law_loop (hF : zFLT) (hD : zFLD) (hL : zLay S) (hL2 : L ≤ 2048) (m : Nat) : ∀ (c : Nat) (cl : Nat → Nat → Int64) (cd : Nat → Nat → UInt64) (w : Zw), c + m = L / 4 → INV (100 * c) w → ∀ N, m < N → ∃ cl' cd' w', f_law S L xs 0 1 255 267 268 N (ii (4 * c), cl, cd, w) = some (1, cl', cd', w') := by
  induction m with
  | zero =>
    intro c cl cd w hc h N hN
    obtain ⟨N, rfl⟩ : ∃ N', N = N' + 1 := ⟨N - 1, by omega⟩
    refine ⟨cl, cd, w, ?_⟩
    show f_law_b (zSc S cl cd) L xs 0 1 255 267 268 _ (ii (4 * c)) w = _
    unfold f_law_b
    rw [if_pos ((ofL_lt hL2 (4 * c) (by omega)).mpr (by omega))]
    rfl
  | succ m ih =>
    intro c cl cd w hc h N hN
    obtain ⟨N, rfl⟩ : ∃ N', N = N' + 1 := ⟨N - 1, by omega⟩
    have e4 : ii (4 * c) + 4 = ii (4 * (c + 1)) := by rw [show (4 : Int32) = ii 4 from rfl, ii_add]; congr 1
    have e1 : ii (4 * c) + 1 = ii (4 * c + 1) := ii_add (4 * c) 1
    have e2 : ii (4 * c) + 2 = ii (4 * c + 2) := ii_add (4 * c) 2
    have e3 : ii (4 * c) + 3 = ii (4 * c + 3) := ii_add (4 * c) 3
    obtain ⟨cl2, cd2, w2, a, b⟩ := law_step (S := zSc S cl cd) (w := w) (L := L) (xs := xs) (B := 100 * c) (B' := 100 * (c + 1)) (k := fun a => f_law S L xs 0 1 255 267 268 N a) hF hD hL (x5 := ii (4 * c)) (fun q => by have := (ofL_lt hL2 (4 * c) (by omega)).mp q; omega) (zin_t (by omega) (by omega)) (by rw [e1]; exact zin_t (by omega) (by omega)) (by rw [e2]; exact zin_t (by omega) (by omega)) (by rw [e3]; exact zin_t (by omega) (by omega)) (by omega) (by omega) h
    obtain ⟨cl3, cd3, w3, g⟩ := ih (c + 1) cl2 cd2 w2 (by omega) b N (by omega)
    refine ⟨cl3, cd3, w3, ?_⟩
    have hF1 : f_law S L xs 0 1 255 267 268 (N + 1) (ii (4 * c), cl, cd, w) = f_law_b (zSc S cl cd) L xs 0 1 255 267 268 (fun a => f_law S L xs 0 1 255 267 268 N a) (ii (4 * c)) w := rfl
    rw [hF1, a, e4]
    exact g
end ZLW
