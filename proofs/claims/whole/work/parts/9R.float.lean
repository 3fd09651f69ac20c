/-! LOAD and MEAN JOB. That no NaN comes of them is proved last (zFLT). -/
section ZFL
variable {S : Zs} {w u r : Zw} {B B' n k v : Nat}
def zFLT : Prop := ∀ a b : Int32, b ≠ 0 → zn32 (FP.fdiv (FP.i2f a) (FP.i2f b)) = true ∧ zn64 (FP.f2d (FP.fdiv (FP.i2f a) (FP.i2f b))) = true ∧ zn64 (FP.ddiv (FP.i2d a) (FP.i2d b)) = true
def zFLD : Prop := ∀ x : UInt64, zn64 x = true → (Op.cmpValue (FP.dcmp x x) .l) = 0
theorem P_load (hF : zFLT) (hL : zLay S) (h : INV B w) (a : Int32) : Pair B (f_X7_load S w 1 a) (fun w1 => f_X8_load S w1 255 a) [("java/lang/IndexOutOfBoundsException", 1), ("java/lang/ArithmeticException", 2)] ∧ ∀ x w1, f_X7_load S w 1 a = some (.inl x, w1) → zn64 (FP.f2d x) = true := by
  obtain ⟨n, k, v, hI, hv, hS⟩ := IG_get h
  have hu : zput w 255 0 0 256 = w 256 := zput_ne (by omega)
  by_cases hst : 0 ≤ a ∧ a ≤ 3
  · obtain ⟨m, hm', rfl⟩ := ii_rng (m := 3) (by omega) hst
    have hm : m < 4 := by omega
    have h7 : f_X7_checkMachine w 1 (ii m) = some (.inl (), w) := by rw [c7_checkMachine, if_pos hst]
    obtain ⟨-, r1, r2, r3⟩ := hS.2.2.2.2.1 m hm
    have e3 : (3 : Int32) * ii m = ii (3 * m) := ii_mul 3 m
    have e7 : (7 : Int32) + ii (3 * m) = ii (7 + 3 * m) := ii_add 7 (3 * m)
    have e1 : ii (7 + 3 * m) + 1 = ii (7 + 3 * m + 1) := ii_succ _
    have e2 : ii (7 + 3 * m) + 2 = ii (7 + 3 * m + 2) := ii_add (7 + 3 * m) 2
    by_cases h0 : w 256 (7 + 3 * m + 1) = 0
    · have e7' : f_X7_load S w 1 (ii m) = some (.inr "java/lang/ArithmeticException", w) := by
        unfold f_X7_load f_X4_freeFrom
        rw [h7, zbx_inl, zt1_0 hL, c7_machineOf hL hm, zbs, r2, if_pos h0]
      refine ⟨Pair_ex h "java/lang/ArithmeticException" 2 (FP.i2f 0) e7' ?_ (by simp), fun x w1 q => ?_⟩
      · unfold f_X8_load
        rw [zlet_eq, c8_inn, if_pos hst, zbs, if_neg (by decide), e3, e7, e1, zt255_1 hL, ztl256 hL, if_pos (zin_t (by omega) (by omega)), zix_ii (by omega), hu, h0, zlet_eq, if_pos rfl, e8_fails, zbs, zput_zput]
      · rw [e7'] at q
        have := congrArg Prod.fst (Option.some.inj q)
        cases this
    · obtain ⟨f1, f2, -⟩ := hF (w 256 (7 + 3 * m + 2)) (w 256 (7 + 3 * m + 1)) h0
      have e7' : f_X7_load S w 1 (ii m) = some (.inl (FP.fdiv (FP.i2f (w 256 (7 + 3 * m + 2))) (FP.i2f (w 256 (7 + 3 * m + 1)))), w) := by
        unfold f_X7_load f_X4_freeFrom f_X4_minutes
        rw [h7, zbx_inl, zt1_0 hL, c7_machineOf hL hm, zbs, r2, r3, if_neg h0, if_pos f1]
      refine ⟨Pair_ok h _ e7' ?_, fun x w1 q => ?_⟩
      · unfold f_X8_load
        rw [zlet_eq, c8_inn, if_pos hst, zbs, if_neg (by decide), e3, e7, e1, e2, zt255_1 hL, ztl256 hL, if_pos (zin_t (by omega) (by omega)), zix_ii (by omega), hu, zlet_eq, if_neg h0, if_pos (zin_t (by omega) (by omega)), zix_ii (by omega), if_pos f1]
      · rw [e7'] at q
        have := Sum.inl.inj (congrArg Prod.fst (Option.some.inj q))
        rw [← this]
        exact f2
  · have e7' : f_X7_load S w 1 a = some (.inr "java/lang/IndexOutOfBoundsException", w) := by
      unfold f_X7_load
      rw [c7_checkMachine, if_neg hst, zbx_inr]
    refine ⟨Pair_ex h "java/lang/IndexOutOfBoundsException" 1 (FP.i2f 0) e7' ?_ (by simp), fun x w1 q => ?_⟩
    · unfold f_X8_load
      rw [zlet_eq, c8_inn, if_neg hst, zbs, if_pos rfl, e8_fails, zbs, zput_zput]
    · rw [e7'] at q
      have := congrArg Prod.fst (Option.some.inj q)
      cases this
theorem P_meanJob (hF : zFLT) (hL : zLay S) (h : INV B w) : Pair B (f_X7_meanJob S w 1) (fun w1 => f_X8_meanJob S w1 255) [("java/lang/ArithmeticException", 1)] ∧ ∀ x w1, f_X7_meanJob S w 1 = some (.inl x, w1) → zn64 x = true := by
  obtain ⟨n, k, v, hI, hv, hS⟩ := IG_get h
  have hu : zput w 255 0 0 256 = w 256 := zput_ne (by omega)
  obtain ⟨r41, r42, r43, r44, r45, r46, r47⟩ := hS.2.2.2.1
  have e13 : w 13 2 = w 256 4 := r46
  have e11 : w 13 1 = w 256 1 + w 256 2 + w 256 3 := r45
  have z1 : zin (1 : Int32) 399 = true := by decide
  have z2 : zin (2 : Int32) 399 = true := by decide
  have z3 : zin (3 : Int32) 399 = true := by decide
  have z4 : zin (4 : Int32) 399 = true := by decide
  have x1 : zix (1 : Int32) = 1 := by decide
  have x2 : zix (2 : Int32) = 2 := by decide
  have x3 : zix (3 : Int32) = 3 := by decide
  have x4 : zix (4 : Int32) = 4 := by decide
  by_cases h0 : w 256 1 + w 256 2 + w 256 3 = 0
  · have e7' : f_X7_meanJob S w 1 = some (.inr "java/lang/ArithmeticException", w) := by
      unfold f_X7_meanJob f_X3_total
      rw [zt1_0 hL, c7_log hL, e11, if_pos h0]
    refine ⟨Pair_ex h "java/lang/ArithmeticException" 1 (FP.i2d 0) e7' ?_ (by simp), fun x w1 q => ?_⟩
    · unfold f_X8_meanJob
      rw [zlet_eq, zt255_1 hL, ztl256 hL, if_pos z1, if_pos z2, if_pos z3, x1, x2, x3, hu, zlet_eq, if_pos h0, e8_fails, zbs, zput_zput]
    · rw [e7'] at q
      have := congrArg Prod.fst (Option.some.inj q)
      cases this
  · obtain ⟨-, -, f3⟩ := hF (w 256 4) (w 256 1 + w 256 2 + w 256 3) h0
    have e7' : f_X7_meanJob S w 1 = some (.inl (FP.ddiv (FP.i2d (w 256 4)) (FP.i2d (w 256 1 + w 256 2 + w 256 3))), w) := by
      unfold f_X7_meanJob f_X3_total f_X3_minutes
      rw [zt1_0 hL, c7_log hL, e11, e13, if_neg h0, if_pos f3]
    refine ⟨Pair_ok h _ e7' ?_, fun x w1 q => ?_⟩
    · unfold f_X8_meanJob
      rw [zlet_eq, zt255_1 hL, ztl256 hL, if_pos z1, if_pos z2, if_pos z3, x1, x2, x3, hu, zlet_eq, if_neg h0, if_pos z4, x4, if_pos f3]
    · rw [e7'] at q
      have := Sum.inl.inj (congrArg Prod.fst (Option.some.inj q))
      rw [← this]
      exact f3
end ZFL
