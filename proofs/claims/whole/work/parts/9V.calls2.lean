/-! THE CALLS of the law, the others. -/
section ZCC
variable {S : Zs} {w u r : Zw} {B B' n k v : Nat} {L : Nat} {xs : Nat → Int32} {x5 : Int32} {k : Zlr → Option Zlr}
theorem L_feed (hL : zLay S) (z1 : zin (x5 + 1) L = true) (z2 : zin (x5 + 2) L = true) (z3 : zin (x5 + 3) L = true) (hB : B + 100 ≤ B') (hB9 : B < 999900) (h : INV B w) : ∃ cl cd w2, ((f_L_feed S w 1 (zi2c (xs (zix (x5 + 1)))) 267).bind fun r6 => f_L_law_j1779 (zSc S r6.2.1 r6.2.2.1) L xs r6.2.2.2 0 1 255 267 268 x5 r6.1 k) = k (x5 + 4, cl, cd, w2) ∧ INV B' w2 := by
  obtain ⟨x, hx, e⟩ := zi2c_ii (xs (zix (x5 + 1)))
  refine call_ok (J := fun S' w' y => f_L_law_j1779 S' L xs w' 0 1 255 267 268 x5 y k) hL (Pair_le (show B ≤ B' by omega) (P_feed hL h hx)) (fun e cc hm => ?_) (by rw [e]; rfl) (fun cl cd w1 y => ?_)
  · simp only [List.mem_cons, List.not_mem_nil, or_false, Prod.mk.injEq] at hm
    obtain ⟨rfl, rfl⟩ := hm
    exact ⟨by decide, fun w => rfl⟩
  · unfold f_L_law_j1779
    rw [if_pos z1, zsc_feed, e]
    rfl
theorem L_load (hF : zFLT) (hD : zFLD) (hL : zLay S) (z1 : zin (x5 + 1) L = true) (z2 : zin (x5 + 2) L = true) (z3 : zin (x5 + 3) L = true) (hB : B + 100 ≤ B') (hB9 : B < 999900) (h : INV B w) : ∃ cl cd w2, ((f_L_load S w 1 (xs (zix (x5 + 1))) 268).bind fun r6 => f_L_law_j1568 (zSc S r6.2.1 r6.2.2.1) L xs r6.2.2.2 0 1 255 267 268 x5 r6.1 k) = k (x5 + 4, cl, cd, w2) ∧ INV B' w2 := by
  obtain ⟨hP, hN⟩ := P_load (S := S) (w := w) (B := B) hF hL h (xs (zix (x5 + 1)))
  have hz : zin (0 : Int32) (zlen S 268) = true := by rw [ztl268 hL]; decide
  refine callD_ok (c := FP.f2d) (J := fun S' w' y => f_L_law_j1568 S' L xs w' 0 1 255 267 268 x5 y k) (H := fun e w9 => if e = "java/lang/IndexOutOfBoundsException" then some ((1 : Int32), S.cl, S.cd, w9) else if e = "java/lang/ArithmeticException" then some ((2 : Int32), S.cl, S.cd, w9) else none) (Pair_le (show B ≤ B' by omega) hP) hN hD (fun e cc hm => ?_) (fun v w1 h7 hd => ?_) (fun e w1 h7 => ?_) (fun cl cd w1 y r h8 h0 hy => ?_)
  · simp only [List.mem_cons, List.not_mem_nil, or_false, Prod.mk.injEq] at hm
    rcases hm with ⟨rfl, rfl⟩ | ⟨rfl, rfl⟩ <;> exact ⟨by decide, fun w => rfl⟩
  · unfold f_L_load
    rw [h7, zbx_inl, if_pos hd, if_pos hz]
  · unfold f_L_load
    rw [h7, zbx_inr]
  · have hz' : zin (0 : Int32) (zlen (zSc S cl cd) 268) = true := hz
    have h0' : f_X8_thrown (zSc S cl cd) r.2 255 = y := h0
    show f_L_law_j1568 (zSc S cl cd) L xs w1 0 1 255 267 268 x5 y k = _
    unfold f_L_law_j1568
    rw [if_pos z1, zsc_load, h8, zbs, if_pos h0']
    by_cases e : y = 0
    · obtain ⟨y1, y2⟩ := hy e
      have y2' : (Op.cmpValue (FP.dcmp ((zSc S cl cd).cd 268 (zix (0 : Int32))) (FP.f2d r.1)) .l) = 0 := y2
      rw [if_pos e, if_pos hz', if_pos y1, if_pos y2']
      rfl
    · rw [if_neg e]
      rfl
theorem L_meanJob (hF : zFLT) (hD : zFLD) (hL : zLay S) (z1 : zin (x5 + 1) L = true) (z2 : zin (x5 + 2) L = true) (z3 : zin (x5 + 3) L = true) (hB : B + 100 ≤ B') (hB9 : B < 999900) (h : INV B w) : ∃ cl cd w2, ((f_L_meanJob S w 1 268).bind fun r6 => f_L_law_j1640 (zSc S r6.2.1 r6.2.2.1) L xs r6.2.2.2 0 1 255 267 268 x5 r6.1 k) = k (x5 + 4, cl, cd, w2) ∧ INV B' w2 := by
  obtain ⟨hP, hN⟩ := P_meanJob (S := S) (w := w) (B := B) hF hL h
  have hz : zin (0 : Int32) (zlen S 268) = true := by rw [ztl268 hL]; decide
  refine callD_ok (c := fun x => x) (J := fun S' w' y => f_L_law_j1640 S' L xs w' 0 1 255 267 268 x5 y k) (H := fun e w9 => if e = "java/lang/ArithmeticException" then some ((1 : Int32), S.cl, S.cd, w9) else none) (Pair_le (show B ≤ B' by omega) hP) hN hD (fun e cc hm => ?_) (fun v w1 h7 hd => ?_) (fun e w1 h7 => ?_) (fun cl cd w1 y r h8 h0 hy => ?_)
  · simp only [List.mem_cons, List.not_mem_nil, or_false, Prod.mk.injEq] at hm
    obtain ⟨rfl, rfl⟩ := hm
    exact ⟨by decide, fun w => rfl⟩
  · unfold f_L_meanJob
    rw [h7, zbx_inl, if_pos hz]
  · unfold f_L_meanJob
    rw [h7, zbx_inr]
  · have hz' : zin (0 : Int32) (zlen (zSc S cl cd) 268) = true := hz
    have h0' : f_X8_thrown (zSc S cl cd) r.2 255 = y := h0
    show f_L_law_j1640 (zSc S cl cd) L xs w1 0 1 255 267 268 x5 y k = _
    unfold f_L_law_j1640
    rw [zsc_meanJob, h8, zbs, if_pos h0']
    by_cases e : y = 0
    · obtain ⟨y1, y2⟩ := hy e
      have y2' : (Op.cmpValue (FP.dcmp ((zSc S cl cd).cd 268 (zix (0 : Int32))) r.1) .l) = 0 := y2
      rw [if_pos e, if_pos hz', if_pos y2']
      rfl
    · rw [if_neg e]
      rfl
theorem L_setClosed (hL : zLay S) (z1 : zin (x5 + 1) L = true) (z2 : zin (x5 + 2) L = true) (z3 : zin (x5 + 3) L = true) (hB : B + 100 ≤ B') (hB9 : B < 999900) (h : INV B w) {x : Int32} (hx : x = if (xs (zix (x5 + 2))) = 0 then 0 else 1) : ∃ cl cd w2, f_L_law_j512 S L xs w 0 1 255 267 268 x5 x (xs (zix (x5 + 1))) 1 k = k (x5 + 4, cl, cd, w2) ∧ INV B' w2 := by
  have hx01 : x = 0 ∨ x = 1 := by
    rw [hx]
    split
    · exact Or.inl rfl
    · exact Or.inr rfl
  have hz : zin (0 : Int32) (zlen S 267) = true := by rw [ztl267 hL]; decide
  unfold f_L_law_j512
  refine call_ok (c := fun v => if v = 0 then (0 : Int64) else 1) (J := fun S' w' y => f_L_law_j516 S' L xs w' 0 1 255 267 268 x5 y k) (H := fun e w9 => if e = "java/lang/IndexOutOfBoundsException" then some ((1 : Int32), S.cl, S.cd, w9) else none) hL (P_setClosed hL (by omega) h (xs (zix (x5 + 1))) x hx01) (fun e cc hm => ?_) ?_ (fun cl cd w1 y => ?_)
  · simp only [List.mem_cons, List.not_mem_nil, or_false, Prod.mk.injEq] at hm
    obtain ⟨rfl, rfl⟩ := hm
    exact ⟨by decide, fun w => rfl⟩
  · unfold f_L_setClosed
    congr 1
    funext v w2
    by_cases e : v = 0
    · rw [if_pos e, if_pos e]
    · rw [if_neg e, if_neg e]
  · have hj : f_L_law_j516 (zSc S cl cd) L xs w1 0 1 255 267 268 x5 y k = f_L_law_j539 (zSc S cl cd) L xs w1 0 1 255 267 268 x5 y x (xs (zix (x5 + 1))) 255 k := by
      unfold f_L_law_j516
      rw [if_pos z1, if_pos z2, hx]
      split
      · rfl
      · rfl
    rw [hj]
    unfold f_L_law_j539 f_L_law_j573
    rw [zsc_setClosed]
    congr 1
    funext r
    by_cases e : r.1 = 0
    · rw [if_pos e, if_pos e]
      rfl
    · rw [if_neg e, if_neg e]
      rfl
end ZCC
