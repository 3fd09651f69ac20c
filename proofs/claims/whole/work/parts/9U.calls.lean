/-! THE CALLS of the law one by one. -/
section ZCB
variable {S : Zs} {w u r : Zw} {B B' n k v : Nat} {L : Nat} {xs : Nat → Int32} {x5 : Int32} {k : Zlr → Option Zlr}
theorem zi2c_ii (y : Int32) : ∃ x, x < 65536 ∧ zi2c y = ii x := by
  refine ⟨(y.toUInt32 % 65536).toNat, ?_, ?_⟩
  · rw [UInt32.toNat_mod]
    exact Nat.mod_lt _ (by decide)
  · show (y.toUInt32 % 65536).toInt32 = Int32.ofNat (y.toUInt32 % 65536).toNat
    have key : ∀ m : UInt32, m.toInt32 = Int32.ofNat m.toNat := by
      intro m
      have e : m = UInt32.ofNat m.toNat := UInt32.ofNat_toNat.symm
      have e2 : (UInt32.ofNat m.toNat).toInt32 = Int32.ofNat m.toNat := rfl
      rw [← e2, ← e]
    exact key _
theorem L_store (hL : zLay S) (z1 : zin (x5 + 1) L = true) (z2 : zin (x5 + 2) L = true) (z3 : zin (x5 + 3) L = true) (hB : B + 100 ≤ B') (hB9 : B < 999900) (h : INV B w) : ∃ cl cd w2, ((f_L_store S w 1 (xs (zix (x5 + 1))) (xs (zix (x5 + 2))) 267).bind fun r6 => f_L_law_j193 (zSc S r6.2.1 r6.2.2.1) L xs r6.2.2.2 0 1 255 267 268 x5 r6.1 k) = k (x5 + 4, cl, cd, w2) ∧ INV B' w2 := by
  refine call_ok (J := fun S' w' y => f_L_law_j193 S' L xs w' 0 1 255 267 268 x5 y k) hL (P_store hL (by omega) h _ _) (fun e cc hm => ?_) rfl (fun cl cd w1 y => ?_)
  · simp only [tabS, List.mem_cons, List.not_mem_nil, or_false, Prod.mk.injEq] at hm
    rcases hm with ⟨rfl, rfl⟩ | ⟨rfl, rfl⟩ | ⟨rfl, rfl⟩ <;> exact ⟨by decide, fun w => rfl⟩
  · unfold f_L_law_j193
    rw [if_pos z1, if_pos z2, zsc_store]
    rfl
theorem L_retrieve (hL : zLay S) (z1 : zin (x5 + 1) L = true) (z2 : zin (x5 + 2) L = true) (z3 : zin (x5 + 3) L = true) (hB : B + 100 ≤ B') (hB9 : B < 999900) (h : INV B w) : ∃ cl cd w2, ((f_L_retrieve S w 1 (xs (zix (x5 + 1))) 267).bind fun r6 => f_L_law_j255 (zSc S r6.2.1 r6.2.2.1) L xs r6.2.2.2 0 1 255 267 268 x5 r6.1 k) = k (x5 + 4, cl, cd, w2) ∧ INV B' w2 := by
  refine call_ok (J := fun S' w' y => f_L_law_j255 S' L xs w' 0 1 255 267 268 x5 y k) hL (P_retrieve hL (by omega) (by omega) h _) (fun e cc hm => ?_) rfl (fun cl cd w1 y => ?_)
  · simp only [List.mem_cons, List.not_mem_nil, or_false, Prod.mk.injEq] at hm
    rcases hm with ⟨rfl, rfl⟩ | ⟨rfl, rfl⟩ <;> exact ⟨by decide, fun w => rfl⟩
  · unfold f_L_law_j255
    rw [if_pos z1, zsc_retrieve]
    rfl
theorem L_book (hL : zLay S) (z1 : zin (x5 + 1) L = true) (z2 : zin (x5 + 2) L = true) (z3 : zin (x5 + 3) L = true) (hB : B + 100 ≤ B') (hB9 : B < 999900) (h : INV B w) : ∃ cl cd w2, ((f_L_book S w 1 (xs (zix (x5 + 1))) (xs (zix (x5 + 2))) 267).bind fun r6 => f_L_law_j317 (zSc S r6.2.1 r6.2.2.1) L xs r6.2.2.2 0 1 255 267 268 x5 r6.1 k) = k (x5 + 4, cl, cd, w2) ∧ INV B' w2 := by
  refine call_ok (J := fun S' w' y => f_L_law_j317 S' L xs w' 0 1 255 267 268 x5 y k) hL (P_book hL (by omega) h _ _) (fun e cc hm => ?_) rfl (fun cl cd w1 y => ?_)
  · simp only [List.mem_cons, List.not_mem_nil, or_false, Prod.mk.injEq] at hm
    rcases hm with ⟨rfl, rfl⟩ | ⟨rfl, rfl⟩ <;> exact ⟨by decide, fun w => rfl⟩
  · unfold f_L_law_j317
    rw [if_pos z1, if_pos z2, zsc_book]
    rfl
theorem L_car (hL : zLay S) (z1 : zin (x5 + 1) L = true) (z2 : zin (x5 + 2) L = true) (z3 : zin (x5 + 3) L = true) (hB : B + 100 ≤ B') (hB9 : B < 999900) (h : INV B w) : ∃ cl cd w2, ((f_L_car S w 1 (xs (zix (x5 + 1))) (xs (zix (x5 + 2))) 267).bind fun r6 => f_L_law_j385 (zSc S r6.2.1 r6.2.2.1) L xs r6.2.2.2 0 1 255 267 268 x5 r6.1 k) = k (x5 + 4, cl, cd, w2) ∧ INV B' w2 := by
  refine call_ok (J := fun S' w' y => f_L_law_j385 S' L xs w' 0 1 255 267 268 x5 y k) hL (Pair_le (show B ≤ B' by omega) (P_car hL h _ _)) (fun e cc hm => ?_) rfl (fun cl cd w1 y => ?_)
  · simp only [List.mem_cons, List.not_mem_nil, or_false, Prod.mk.injEq] at hm
    rcases hm with ⟨rfl, rfl⟩ | ⟨rfl, rfl⟩ <;> exact ⟨by decide, fun w => rfl⟩
  · unfold f_L_law_j385
    rw [if_pos z1, if_pos z2, zsc_car]
    rfl
theorem L_due (hL : zLay S) (z1 : zin (x5 + 1) L = true) (z2 : zin (x5 + 2) L = true) (z3 : zin (x5 + 3) L = true) (hB : B + 100 ≤ B') (hB9 : B < 999900) (h : INV B w) : ∃ cl cd w2, ((f_L_due S w 1 (xs (zix (x5 + 1))) 267).bind fun r6 => f_L_law_j447 (zSc S r6.2.1 r6.2.2.1) L xs r6.2.2.2 0 1 255 267 268 x5 r6.1 k) = k (x5 + 4, cl, cd, w2) ∧ INV B' w2 := by
  refine call_ok (J := fun S' w' y => f_L_law_j447 S' L xs w' 0 1 255 267 268 x5 y k) hL (Pair_le (show B ≤ B' by omega) (P_due hL h _)) (fun e cc hm => ?_) rfl (fun cl cd w1 y => ?_)
  · simp only [List.mem_cons, List.not_mem_nil, or_false, Prod.mk.injEq] at hm
    obtain ⟨rfl, rfl⟩ := hm
    exact ⟨by decide, fun w => rfl⟩
  · unfold f_L_law_j447
    rw [if_pos z1, zsc_due]
    rfl
theorem L_bay (hL : zLay S) (z1 : zin (x5 + 1) L = true) (z2 : zin (x5 + 2) L = true) (z3 : zin (x5 + 3) L = true) (hB : B + 100 ≤ B') (hB9 : B < 999900) (h : INV B w) : ∃ cl cd w2, ((f_L_bay S w 1 (xs (zix (x5 + 1))) (xs (zix (x5 + 2))) 267).bind fun r6 => f_L_law_j599 (zSc S r6.2.1 r6.2.2.1) L xs r6.2.2.2 0 1 255 267 268 x5 r6.1 k) = k (x5 + 4, cl, cd, w2) ∧ INV B' w2 := by
  refine call_ok (J := fun S' w' y => f_L_law_j599 S' L xs w' 0 1 255 267 268 x5 y k) hL (Pair_le (show B ≤ B' by omega) (P_bay hL h _ _)) (fun e cc hm => ?_) rfl (fun cl cd w1 y => ?_)
  · simp only [List.mem_cons, List.not_mem_nil, or_false, Prod.mk.injEq] at hm
    rcases hm with ⟨rfl, rfl⟩ | ⟨rfl, rfl⟩ <;> exact ⟨by decide, fun w => rfl⟩
  · unfold f_L_law_j599
    rw [if_pos z1, if_pos z2, zsc_bay]
    rfl
theorem L_choice (hL : zLay S) (z1 : zin (x5 + 1) L = true) (z2 : zin (x5 + 2) L = true) (z3 : zin (x5 + 3) L = true) (hB : B + 100 ≤ B') (hB9 : B < 999900) (h : INV B w) : ∃ cl cd w2, ((f_L_choice S w 1 (xs (zix (x5 + 1))) (xs (zix (x5 + 2))) 267).bind fun r6 => f_L_law_j667 (zSc S r6.2.1 r6.2.2.1) L xs r6.2.2.2 0 1 255 267 268 x5 r6.1 k) = k (x5 + 4, cl, cd, w2) ∧ INV B' w2 := by
  refine call_ok (J := fun S' w' y => f_L_law_j667 S' L xs w' 0 1 255 267 268 x5 y k) hL (Pair_le (show B ≤ B' by omega) (P_choice hL h _ _)) (fun e cc hm => ?_) rfl (fun cl cd w1 y => ?_)
  · simp only [List.mem_cons, List.not_mem_nil, or_false, Prod.mk.injEq] at hm
    rcases hm with ⟨rfl, rfl⟩ | ⟨rfl, rfl⟩ <;> exact ⟨by decide, fun w => rfl⟩
  · unfold f_L_law_j667
    rw [if_pos z1, if_pos z2, zsc_choice]
    rfl
theorem L_refuge (hL : zLay S) (z1 : zin (x5 + 1) L = true) (z2 : zin (x5 + 2) L = true) (z3 : zin (x5 + 3) L = true) (hB : B + 100 ≤ B') (hB9 : B < 999900) (h : INV B w) : ∃ cl cd w2, ((f_L_refuge S w 1 (xs (zix (x5 + 1))) 267).bind fun r6 => f_L_law_j729 (zSc S r6.2.1 r6.2.2.1) L xs r6.2.2.2 0 1 255 267 268 x5 r6.1 k) = k (x5 + 4, cl, cd, w2) ∧ INV B' w2 := by
  refine call_ok (J := fun S' w' y => f_L_law_j729 S' L xs w' 0 1 255 267 268 x5 y k) hL (Pair_le (show B ≤ B' by omega) (P_refuge hL h _)) (fun e cc hm => ?_) rfl (fun cl cd w1 y => ?_)
  · simp only [List.mem_cons, List.not_mem_nil, or_false, Prod.mk.injEq] at hm
    rcases hm with ⟨rfl, rfl⟩ | ⟨rfl, rfl⟩ <;> exact ⟨by decide, fun w => rfl⟩
  · unfold f_L_law_j729
    rw [if_pos z1, zsc_refuge]
    rfl
theorem L_bays (hL : zLay S) (z1 : zin (x5 + 1) L = true) (z2 : zin (x5 + 2) L = true) (z3 : zin (x5 + 3) L = true) (hB : B + 100 ≤ B') (hB9 : B < 999900) (h : INV B w) : ∃ cl cd w2, ((f_L_bays S w 1 (xs (zix (x5 + 1))) 267).bind fun r6 => f_L_law_j785 (zSc S r6.2.1 r6.2.2.1) L xs r6.2.2.2 0 1 255 267 268 x5 r6.1 k) = k (x5 + 4, cl, cd, w2) ∧ INV B' w2 := by
  refine call_ok (J := fun S' w' y => f_L_law_j785 S' L xs w' 0 1 255 267 268 x5 y k) hL (Pair_le (show B ≤ B' by omega) (P_bays hL h _)) (fun e cc hm => ?_) rfl (fun cl cd w1 y => ?_)
  · simp only [List.mem_cons, List.not_mem_nil, or_false, Prod.mk.injEq] at hm
    obtain ⟨rfl, rfl⟩ := hm
    exact ⟨by decide, fun w => rfl⟩
  · unfold f_L_law_j785
    rw [if_pos z1, zsc_bays]
    rfl
theorem L_bestMoves (hL : zLay S) (z1 : zin (x5 + 1) L = true) (z2 : zin (x5 + 2) L = true) (z3 : zin (x5 + 3) L = true) (hB : B + 100 ≤ B') (hB9 : B < 999900) (h : INV B w) : ∃ cl cd w2, ((f_L_bestMoves S w 1 ((zlshl ((xs (zix (x5 + 1))).toInt64) (32 : Int32)) ||| ((xs (zix (x5 + 2))).toInt64 &&& (4294967295 : Int64))) 267).bind fun r6 => f_L_law_j857 (zSc S r6.2.1 r6.2.2.1) L xs r6.2.2.2 0 1 255 267 268 x5 r6.1 k) = k (x5 + 4, cl, cd, w2) ∧ INV B' w2 := by
  refine call_ok (J := fun S' w' y => f_L_law_j857 S' L xs w' 0 1 255 267 268 x5 y k) hL (Pair_le (show B ≤ B' by omega) (P_bestMoves hL (by omega) h _)) (fun e cc hm => ?_) rfl (fun cl cd w1 y => ?_)
  · simp only [tabS, List.mem_cons, List.not_mem_nil, or_false, Prod.mk.injEq] at hm
    rcases hm with ⟨rfl, rfl⟩ | ⟨rfl, rfl⟩ | ⟨rfl, rfl⟩ <;> exact ⟨by decide, fun w => rfl⟩
  · unfold f_L_law_j857
    rw [if_pos z1, if_pos z2, zsc_bestMoves]
    rfl
theorem L_bestEnd (hL : zLay S) (z1 : zin (x5 + 1) L = true) (z2 : zin (x5 + 2) L = true) (z3 : zin (x5 + 3) L = true) (hB : B + 100 ≤ B') (hB9 : B < 999900) (h : INV B w) : ∃ cl cd w2, ((f_L_bestEnd S w 1 ((zlshl ((xs (zix (x5 + 1))).toInt64) (32 : Int32)) ||| ((xs (zix (x5 + 2))).toInt64 &&& (4294967295 : Int64))) 267).bind fun r6 => f_L_law_j945 (zSc S r6.2.1 r6.2.2.1) L xs r6.2.2.2 0 1 255 267 268 x5 r6.1 k) = k (x5 + 4, cl, cd, w2) ∧ INV B' w2 := by
  refine call_ok (J := fun S' w' y => f_L_law_j945 S' L xs w' 0 1 255 267 268 x5 y k) hL (Pair_le (show B ≤ B' by omega) (P_bestEnd hL (by omega) h _)) (fun e cc hm => ?_) rfl (fun cl cd w1 y => ?_)
  · simp only [tabS, List.mem_cons, List.not_mem_nil, or_false, Prod.mk.injEq] at hm
    rcases hm with ⟨rfl, rfl⟩ | ⟨rfl, rfl⟩ | ⟨rfl, rfl⟩ <;> exact ⟨by decide, fun w => rfl⟩
  · unfold f_L_law_j945
    rw [if_pos z1, if_pos z2, zsc_bestEnd]
    rfl
theorem L_bestCar (hL : zLay S) (z1 : zin (x5 + 1) L = true) (z2 : zin (x5 + 2) L = true) (z3 : zin (x5 + 3) L = true) (hB : B + 100 ≤ B') (hB9 : B < 999900) (h : INV B w) : ∃ cl cd w2, ((f_L_bestCar S w 1 ((zlshl ((xs (zix (x5 + 1))).toInt64) (32 : Int32)) ||| ((xs (zix (x5 + 2))).toInt64 &&& (4294967295 : Int64))) (xs (zix (x5 + 3))) 267).bind fun r6 => f_L_law_j1039 (zSc S r6.2.1 r6.2.2.1) L xs r6.2.2.2 0 1 255 267 268 x5 r6.1 k) = k (x5 + 4, cl, cd, w2) ∧ INV B' w2 := by
  refine call_ok (J := fun S' w' y => f_L_law_j1039 S' L xs w' 0 1 255 267 268 x5 y k) hL (Pair_le (show B ≤ B' by omega) (P_bestCar hL (by omega) h _ _)) (fun e cc hm => ?_) rfl (fun cl cd w1 y => ?_)
  · simp only [tabS, List.mem_cons, List.not_mem_nil, or_false, Prod.mk.injEq] at hm
    rcases hm with ⟨rfl, rfl⟩ | ⟨rfl, rfl⟩ | ⟨rfl, rfl⟩ <;> exact ⟨by decide, fun w => rfl⟩
  · unfold f_L_law_j1039
    rw [if_pos z1, if_pos z2, if_pos z3, zsc_bestCar]
    rfl
theorem L_plainMoves (hL : zLay S) (z1 : zin (x5 + 1) L = true) (z2 : zin (x5 + 2) L = true) (z3 : zin (x5 + 3) L = true) (hB : B + 100 ≤ B') (hB9 : B < 999900) (h : INV B w) : ∃ cl cd w2, ((f_L_plainMoves S w 1 ((zlshl ((xs (zix (x5 + 1))).toInt64) (32 : Int32)) ||| ((xs (zix (x5 + 2))).toInt64 &&& (4294967295 : Int64))) 267).bind fun r6 => f_L_law_j1133 (zSc S r6.2.1 r6.2.2.1) L xs r6.2.2.2 0 1 255 267 268 x5 r6.1 k) = k (x5 + 4, cl, cd, w2) ∧ INV B' w2 := by
  refine call_ok (J := fun S' w' y => f_L_law_j1133 S' L xs w' 0 1 255 267 268 x5 y k) hL (Pair_le (show B ≤ B' by omega) (P_plainMoves hL (by omega) h _)) (fun e cc hm => ?_) rfl (fun cl cd w1 y => ?_)
  · simp only [tabS, List.mem_cons, List.not_mem_nil, or_false, Prod.mk.injEq] at hm
    rcases hm with ⟨rfl, rfl⟩ | ⟨rfl, rfl⟩ | ⟨rfl, rfl⟩ <;> exact ⟨by decide, fun w => rfl⟩
  · unfold f_L_law_j1133
    rw [if_pos z1, if_pos z2, zsc_plainMoves]
    rfl
theorem L_retrieveAll (hL : zLay S) (z1 : zin (x5 + 1) L = true) (z2 : zin (x5 + 2) L = true) (z3 : zin (x5 + 3) L = true) (hB : B + 100 ≤ B') (hB9 : B < 999900) (h : INV B w) : ∃ cl cd w2, ((f_L_retrieveAll S w 1 ((zlshl ((xs (zix (x5 + 1))).toInt64) (32 : Int32)) ||| ((xs (zix (x5 + 2))).toInt64 &&& (4294967295 : Int64))) 267).bind fun r6 => f_L_law_j1221 (zSc S r6.2.1 r6.2.2.1) L xs r6.2.2.2 0 1 255 267 268 x5 r6.1 k) = k (x5 + 4, cl, cd, w2) ∧ INV B' w2 := by
  refine call_ok (J := fun S' w' y => f_L_law_j1221 S' L xs w' 0 1 255 267 268 x5 y k) hL (P_retrieveAll hL (by omega) (by omega) h _) (fun e cc hm => ?_) rfl (fun cl cd w1 y => ?_)
  · simp only [tabS, List.mem_cons, List.not_mem_nil, or_false, Prod.mk.injEq] at hm
    rcases hm with ⟨rfl, rfl⟩ | ⟨rfl, rfl⟩ | ⟨rfl, rfl⟩ <;> exact ⟨by decide, fun w => rfl⟩
  · unfold f_L_law_j1221
    rw [if_pos z1, if_pos z2, zsc_retrieveAll]
    rfl
theorem L_pass (hL : zLay S) (z1 : zin (x5 + 1) L = true) (z2 : zin (x5 + 2) L = true) (z3 : zin (x5 + 3) L = true) (hB : B + 100 ≤ B') (hB9 : B < 999900) (h : INV B w) : ∃ cl cd w2, ((f_L_pass S w 1 (xs (zix (x5 + 1))) 267).bind fun r6 => f_L_law_j1306 (zSc S r6.2.1 r6.2.2.1) L xs r6.2.2.2 0 1 255 267 268 x5 r6.1 k) = k (x5 + 4, cl, cd, w2) ∧ INV B' w2 := by
  refine call_ok (J := fun S' w' y => f_L_law_j1306 S' L xs w' 0 1 255 267 268 x5 y k) hL (P_pass hL (by omega) h _) (fun e cc hm => ?_) rfl (fun cl cd w1 y => ?_)
  · simp only [List.mem_cons, List.not_mem_nil, or_false, Prod.mk.injEq] at hm
    rcases hm with ⟨rfl, rfl⟩ | ⟨rfl, rfl⟩ <;> exact ⟨by decide, fun w => rfl⟩
  · unfold f_L_law_j1306
    rw [if_pos z1, zsc_pass]
    rfl
theorem L_machine (hL : zLay S) (z1 : zin (x5 + 1) L = true) (z2 : zin (x5 + 2) L = true) (z3 : zin (x5 + 3) L = true) (hB : B + 100 ≤ B') (hB9 : B < 999900) (h : INV B w) : ∃ cl cd w2, ((f_L_machine S w 1 (xs (zix (x5 + 1))) (xs (zix (x5 + 2))) 267).bind fun r6 => f_L_law_j1368 (zSc S r6.2.1 r6.2.2.1) L xs r6.2.2.2 0 1 255 267 268 x5 r6.1 k) = k (x5 + 4, cl, cd, w2) ∧ INV B' w2 := by
  refine call_ok (J := fun S' w' y => f_L_law_j1368 S' L xs w' 0 1 255 267 268 x5 y k) hL (Pair_le (show B ≤ B' by omega) (P_machine hL h _ _)) (fun e cc hm => ?_) rfl (fun cl cd w1 y => ?_)
  · simp only [List.mem_cons, List.not_mem_nil, or_false, Prod.mk.injEq] at hm
    rcases hm with ⟨rfl, rfl⟩ | ⟨rfl, rfl⟩ <;> exact ⟨by decide, fun w => rfl⟩
  · unfold f_L_law_j1368
    rw [if_pos z1, if_pos z2, zsc_machine]
    rfl
theorem L_job (hL : zLay S) (z1 : zin (x5 + 1) L = true) (z2 : zin (x5 + 2) L = true) (z3 : zin (x5 + 3) L = true) (hB : B + 100 ≤ B') (hB9 : B < 999900) (h : INV B w) : ∃ cl cd w2, ((f_L_job S w 1 (xs (zix (x5 + 1))) (xs (zix (x5 + 2))) 267).bind fun r6 => f_L_law_j1449 (zSc S r6.2.1 r6.2.2.1) L xs r6.2.2.2 0 1 255 267 268 x5 r6.1 k) = k (x5 + 4, cl, cd, w2) ∧ INV B' w2 := by
  refine call_ok (J := fun S' w' y => f_L_law_j1449 S' L xs w' 0 1 255 267 268 x5 y k) hL (Pair_le (show B ≤ B' by omega) (P_job hL h _ _)) (fun e cc hm => ?_) rfl (fun cl cd w1 y => ?_)
  · simp only [List.mem_cons, List.not_mem_nil, or_false, Prod.mk.injEq] at hm
    rcases hm with ⟨rfl, rfl⟩ | ⟨rfl, rfl⟩ <;> exact ⟨by decide, fun w => rfl⟩
  · unfold f_L_law_j1449
    rw [if_pos z1, if_pos z2, zsc_job]
    rfl
theorem L_account (hL : zLay S) (z1 : zin (x5 + 1) L = true) (z2 : zin (x5 + 2) L = true) (z3 : zin (x5 + 3) L = true) (hB : B + 100 ≤ B') (hB9 : B < 999900) (h : INV B w) : ∃ cl cd w2, ((f_L_account S w 1 (xs (zix (x5 + 1))) 267).bind fun r6 => f_L_law_j1511 (zSc S r6.2.1 r6.2.2.1) L xs r6.2.2.2 0 1 255 267 268 x5 r6.1 k) = k (x5 + 4, cl, cd, w2) ∧ INV B' w2 := by
  refine call_ok (J := fun S' w' y => f_L_law_j1511 S' L xs w' 0 1 255 267 268 x5 y k) hL (Pair_le (show B ≤ B' by omega) (P_account hL h _)) (fun e cc hm => ?_) rfl (fun cl cd w1 y => ?_)
  · simp only [List.mem_cons, List.not_mem_nil, or_false, Prod.mk.injEq] at hm
    obtain ⟨rfl, rfl⟩ := hm
    exact ⟨by decide, fun w => rfl⟩
  · unfold f_L_law_j1511
    rw [if_pos z1, zsc_account]
    rfl
theorem L_report (hL : zLay S) (z1 : zin (x5 + 1) L = true) (z2 : zin (x5 + 2) L = true) (z3 : zin (x5 + 3) L = true) (hB : B + 100 ≤ B') (hB9 : B < 999900) (h : INV B w) : ∃ cl cd w2, ((f_L_report S w 1 (xs (zix (x5 + 1))) (xs (zix (x5 + 2))) 267).bind fun r6 => f_L_law_j1716 (zSc S r6.2.1 r6.2.2.1) L xs r6.2.2.2 0 1 255 267 268 x5 r6.1 k) = k (x5 + 4, cl, cd, w2) ∧ INV B' w2 := by
  refine call_ok (J := fun S' w' y => f_L_law_j1716 S' L xs w' 0 1 255 267 268 x5 y k) hL (Pair_le (show B ≤ B' by omega) (P_report hL h _ _)) (fun e cc hm => ?_) rfl (fun cl cd w1 y => ?_)
  · simp only [List.mem_cons, List.not_mem_nil, or_false, Prod.mk.injEq] at hm
    rcases hm with ⟨rfl, rfl⟩ | ⟨rfl, rfl⟩ <;> exact ⟨by decide, fun w => rfl⟩
  · unfold f_L_law_j1716
    rw [if_pos z1, if_pos z2, zsc_report]
    rfl
theorem L_perform (hL : zLay S) (z1 : zin (x5 + 1) L = true) (z2 : zin (x5 + 2) L = true) (z3 : zin (x5 + 3) L = true) (hB : B + 100 ≤ B') (hB9 : B < 999900) (h : INV B w) : ∃ cl cd w2, ((f_L_perform S w 1  267).bind fun r6 => f_L_law_j1830 (zSc S r6.2.1 r6.2.2.1) L xs r6.2.2.2 0 1 255 267 268 x5 r6.1 k) = k (x5 + 4, cl, cd, w2) ∧ INV B' w2 := by
  refine call_ok (J := fun S' w' y => f_L_law_j1830 S' L xs w' 0 1 255 267 268 x5 y k) hL (P_perform hL (by omega) (by omega) h) (fun e cc hm => ?_) rfl (fun cl cd w1 y => ?_)
  · simp only [List.mem_cons, List.not_mem_nil, or_false, Prod.mk.injEq] at hm
    obtain ⟨rfl, rfl⟩ := hm
    exact ⟨by decide, fun w => rfl⟩
  · unfold f_L_law_j1830
    rw [zsc_perform]
    rfl
theorem L_undo (hL : zLay S) (z1 : zin (x5 + 1) L = true) (z2 : zin (x5 + 2) L = true) (z3 : zin (x5 + 3) L = true) (hB : B + 100 ≤ B') (hB9 : B < 999900) (h : INV B w) : ∃ cl cd w2, ((f_L_undo S w 1  267).bind fun r6 => f_L_law_j1874 (zSc S r6.2.1 r6.2.2.1) L xs r6.2.2.2 0 1 255 267 268 x5 r6.1 k) = k (x5 + 4, cl, cd, w2) ∧ INV B' w2 := by
  refine call_ok (J := fun S' w' y => f_L_law_j1874 S' L xs w' 0 1 255 267 268 x5 y k) hL (Pair_le (show B ≤ B' by omega) (P_undo hL h)) (fun e cc hm => ?_) rfl (fun cl cd w1 y => ?_)
  · simp only [List.mem_cons, List.not_mem_nil, or_false, Prod.mk.injEq] at hm
    obtain ⟨rfl, rfl⟩ := hm
    exact ⟨by decide, fun w => rfl⟩
  · unfold f_L_law_j1874
    rw [zsc_undo]
    rfl
theorem L_restore (hL : zLay S) (z1 : zin (x5 + 1) L = true) (z2 : zin (x5 + 2) L = true) (z3 : zin (x5 + 3) L = true) (hB : B + 100 ≤ B') (hB9 : B < 999900) (h : INV B w) : ∃ cl cd w2, ((f_L_restore S w 1  267).bind fun r6 => f_L_law_j1931 (zSc S r6.2.1 r6.2.2.1) L xs r6.2.2.2 0 1 255 267 268 x5 r6.1 k) = k (x5 + 4, cl, cd, w2) ∧ INV B' w2 := by
  refine call_ok (J := fun S' w' y => f_L_law_j1931 S' L xs w' 0 1 255 267 268 x5 y k) hL (Pair_le (show B ≤ B' by omega) (P_restore hL h)) (fun e cc hm => ?_) rfl (fun cl cd w1 y => ?_)
  · simp only [List.mem_cons, List.not_mem_nil, or_false, Prod.mk.injEq] at hm
    obtain ⟨rfl, rfl⟩ := hm
    exact ⟨by decide, fun w => rfl⟩
  · unfold f_L_law_j1931
    rw [zsc_restore]
    rfl
end ZCB
