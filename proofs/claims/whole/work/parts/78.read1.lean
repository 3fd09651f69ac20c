/-! CALLS THAT ONLY READ: car, bay, choice, refuge. -/
section ZR1
theorem c8_inn (a lo hi : Int32) : f_X8_in a lo hi = some (if lo ≤ a ∧ a ≤ hi then 1 else 0) := by
  unfold f_X8_in
  by_cases h1 : a < lo
  · rw [if_pos h1, if_neg (by intro q; have := q.1; grind)]
  · rw [if_neg h1]
    by_cases h2 : hi < a
    · rw [if_pos h2, if_neg (by intro q; have := q.2; grind)]
    · rw [if_neg h2, if_pos ⟨by grind, by grind⟩]
theorem ii_rng {b : Int32} {m : Nat} (hm : m < 2147483648) (h : 0 ≤ b ∧ b ≤ ii m) : ∃ j, j ≤ m ∧ b = ii j := by
  obtain ⟨j, hj, rfl⟩ := ii_of h.1
  have := h.2
  rw [ii_le hj hm] at this
  exact ⟨j, this, rfl⟩
theorem ii_rng' {j m : Nat} (hj : j ≤ m) (hm : m < 2147483648) : 0 ≤ ii j ∧ ii j ≤ ii m := ⟨ii_nn (by omega), by rw [ii_le (by omega) hm]; exact hj⟩
theorem zbx_inl {A I : Type} {v : A} {w : Zw} {f : A → Zw → Option I} {g : String → Zw → Option I} : zbx (some (.inl v, w)) f g = f v w := rfl
theorem zbx_inr {A I : Type} {e : String} {w : Zw} {f : A → Zw → Option I} {g : String → Zw → Option I} : zbx (some ((.inr e : A ⊕ String), w)) f g = g e w := rfl
section
variable {S : Zs} {w : Zw} {B : Nat}
theorem c7_checkStored (hL : zLay S) {s : Nat → Int32} {n k v : Nat} (hS : RG w 2 s (n + k + v)) (hI : zI s n k v) (a : Int32) : f_X7_checkStored S w 1 a = some (if pStored s n a = true then (.inl () : Unit ⊕ String) else .inr "java/lang/IndexOutOfBoundsException", w) := by
  unfold f_X7_checkStored
  rw [zt1_0 hL, c7_isStored (zG2 hL) hS hI, zbs]
  by_cases h : pStored s n a = true
  · rw [if_pos h, if_neg (by decide), if_pos h]
  · rw [if_neg h, if_pos rfl, if_neg h]
theorem IG_get (h : INV B w) : ∃ n k v, zI9 (w 256) n k v ∧ v ≤ B ∧ RG w 2 (w 256) (n + k + v) := by
  obtain ⟨⟨⟨n, k, v, h1, h2⟩, h3⟩, -⟩ := h
  refine ⟨n, k, v, h1, h2, ?_⟩
  rw [← pT_I h1.1]
  exact h3
theorem P_car (hL : zLay S) (h : INV B w) (a b : Int32) : Pair B (f_X7_car S w 1 a b) (fun w1 => f_X8_car S w1 255 a b) [("java/lang/IndexOutOfBoundsException", 1), ("java/lang/IllegalArgumentException", 2)] := by
  obtain ⟨n, k, v, hI, hv, hS⟩ := IG_get h
  have hn := zI_n hI.1
  have hu : zput w 255 0 0 256 = w 256 := zput_ne (by omega)
  have hIu : zI (zput w 255 0 0 256) n k v := by rw [hu]; exact hI.1
  have hG := zG2 hL
  by_cases hst : pStored (w 256) n a = true
  · obtain ⟨c, bb, hc, rfl, hbb, hbay, hin⟩ := pStored_of hI.1 hst
    have h7 : f_X7_checkStored S w 1 (ii c) = some (.inl (), w) := by rw [c7_checkStored hL hS hI.1, if_pos hst]
    have h8 : f_X8_isCar S (zput w 255 0 0) 255 (ii c) = some 1 := by rw [c8_isCar hL hIu, hu, if_pos hst]
    have hz : zin (ii c) 40 = true := zin_t (by omega) (by omega)
    have hzc : zix (ii c) = c := zix_ii (by omega)
    obtain ⟨q0, q1, q2, q3⟩ := hS.2.2.1 c (by omega)
    by_cases hr : 0 ≤ b ∧ b ≤ 4
    · obtain ⟨j, hj, rfl⟩ := ii_rng (m := 4) (by omega) hr
      have hj5 : j = 0 ∨ j = 1 ∨ j = 2 ∨ j = 3 ∨ j = 4 := by omega
      have hof : ∀ q, q < 4 → f_X8_of S (zput w 255 0 0) 255 (ii c) (ii q) = some (w 256 (139 + 4 * c + q)) := by
        intro q hq
        rw [c8_of hL (by omega) hq, hu]
      rcases hj5 with rfl | rfl | rfl | rfl | rfl
      · refine Pair_ok h (w 256 (139 + 4 * c)) ?_ ?_
        · unfold f_X7_car f_X1_sizeOf
          rw [h7, zbx_inl, if_pos (by decide), zt1_0 hL, zg0_2 hG, zgl3 hG, if_pos hz, zbs, hzc, q0]
        · unfold f_X8_car
          rw [zlet_eq, h8, zbs, if_neg (by decide), c8_inn, if_pos (by decide), zbs, if_neg (by decide), if_neg (by decide), if_neg (by decide), hof 0 (by omega), zbs]
          rfl
      · refine Pair_ok h (w 256 (139 + 4 * c + 1)) ?_ ?_
        · unfold f_X7_car f_X1_pickupOf
          rw [h7, zbx_inl, if_neg (by decide), if_pos (by decide), zt1_0 hL, zg0_3 hG, zgl4 hG, if_pos hz, zbs, hzc, q1]
        · unfold f_X8_car
          rw [zlet_eq, h8, zbs, if_neg (by decide), c8_inn, if_pos (by decide), zbs, if_neg (by decide), if_neg (by decide), if_neg (by decide), hof 1 (by omega), zbs]
      · refine Pair_ok h (w 256 (139 + 4 * c + 2)) ?_ ?_
        · unfold f_X7_car f_X1_bayOf
          rw [h7, zbx_inl, if_neg (by decide), if_neg (by decide), if_pos (by decide), zt1_0 hL, zg0_4 hG, zgl5 hG, if_pos hz, zbs, hzc, q2]
        · unfold f_X8_car
          rw [zlet_eq, h8, zbs, if_neg (by decide), c8_inn, if_pos (by decide), zbs, if_neg (by decide), if_neg (by decide), if_neg (by decide), hof 2 (by omega), zbs]
      · refine Pair_ok h (pBl (w 256) bb) ?_ ?_
        · unfold f_X7_car
          rw [h7, zbx_inl, if_neg (by decide), if_neg (by decide), if_neg (by decide), if_pos (by decide), zt1_0 hL, c7_blocker hG hS hI.1 hbb hc hbay, zbs]
        · unfold f_X8_car
          rw [zlet_eq, h8, zbs, if_neg (by decide), c8_inn, if_pos (by decide), zbs, if_neg (by decide), if_pos (by decide), c8_blocking hL hbb (by omega) (by rw [hu]; exact hbay), zbs, hu]
      · refine Pair_ok h (w 256 (139 + 4 * c + 3)) ?_ ?_
        · unfold f_X7_car f_X1_jobsOf
          rw [h7, zbx_inl, if_neg (by decide), if_neg (by decide), if_neg (by decide), if_neg (by decide), if_pos (by decide), zt1_0 hL, zg0_5 hG, zgl6 hG, if_pos hz, zbs, hzc, q3]
        · unfold f_X8_car f_X8_jobsOf
          rw [zlet_eq, h8, zbs, if_neg (by decide), c8_inn, if_pos (by decide), zbs, if_neg (by decide), if_neg (by decide), if_pos (by decide), show (3 : Int32) = ii 3 from rfl, hof 3 (by omega), zbs, zbs]
    · have hne : ∀ j, j ≤ 4 → ¬ b = ii j := by
        intro j hj e
        exact hr (by rw [e]; exact ii_rng' (m := 4) hj (by omega))
      have n0 : ¬ b = 0 := hne 0 (by omega)
      have n1 : ¬ b = 1 := hne 1 (by omega)
      have n2 : ¬ b = 2 := hne 2 (by omega)
      have n3 : ¬ b = 3 := hne 3 (by omega)
      have n4 : ¬ b = 4 := hne 4 (by omega)
      refine Pair_ex h "java/lang/IllegalArgumentException" 2 0 ?_ ?_ (by simp)
      · unfold f_X7_car
        rw [h7, zbx_inl, if_neg n0, if_neg n1, if_neg n2, if_neg n3, if_neg n4]
      · unfold f_X8_car
        rw [zlet_eq, h8, zbs, if_neg (by decide), c8_inn, if_neg hr, zbs, if_pos rfl, e8_fails, zbs, zput_zput]
  · have h7 : f_X7_checkStored S w 1 a = some (.inr "java/lang/IndexOutOfBoundsException", w) := by rw [c7_checkStored hL hS hI.1, if_neg hst]
    have h8 : f_X8_isCar S (zput w 255 0 0) 255 a = some 0 := by rw [c8_isCar hL hIu, hu, if_neg hst]
    refine Pair_ex h "java/lang/IndexOutOfBoundsException" 1 0 ?_ ?_ (by simp)
    · unfold f_X7_car
      rw [h7, zbx_inr]
    · unfold f_X8_car
      rw [zlet_eq, h8, zbs, if_pos rfl, e8_fails, zbs, zput_zput]
theorem c7_isBay (a : Int32) : f_X7_isBay a = some (if 0 ≤ a ∧ a ≤ 59 then 1 else 0) := by
  unfold f_X7_isBay
  by_cases h1 : a < 0
  · rw [if_pos h1, if_neg (by intro q; have := q.1; grind)]
  · rw [if_neg h1]
    by_cases h2 : (60 : Int32) ≤ a
    · rw [if_pos h2, if_neg]
      intro q
      obtain ⟨j, hj, rfl⟩ := ii_rng (m := 59) (by omega) q
      rw [show (60 : Int32) = ii 60 from rfl, ii_le (by omega) (by omega)] at h2
      omega
    · rw [if_neg h2, if_pos]
      have h0 : 0 ≤ a := by grind
      obtain ⟨j, hj, rfl⟩ := ii_of h0
      rw [show (60 : Int32) = ii 60 from rfl, ii_le (by omega) (by omega)] at h2
      exact ii_rng' (m := 59) (by omega) (by omega)
theorem c8_isBay (a : Int32) : f_X8_isBay a = some (if 0 ≤ a ∧ a ≤ 59 then 1 else 0) := by
  unfold f_X8_isBay
  rw [c8_inn, zbs]
  by_cases h : 0 ≤ a ∧ a ≤ 59
  · rw [if_pos h, if_pos (by decide)]
  · rw [if_neg h, if_pos (by decide)]
theorem P_bay (hL : zLay S) (h : INV B w) (a b : Int32) : Pair B (f_X7_bay S w 1 a b) (fun w1 => f_X8_bay S w1 255 a b) [("java/lang/IndexOutOfBoundsException", 1), ("java/lang/IllegalArgumentException", 2)] := by
  obtain ⟨n, k, v, hI, hv, hS⟩ := IG_get h
  have hn := zI_n hI.1
  have hu : zput w 255 0 0 256 = w 256 := zput_ne (by omega)
  have hIu : zI (zput w 255 0 0 256) n k v := by rw [hu]; exact hI.1
  have hG := zG2 hL
  by_cases hst : 0 ≤ a ∧ a ≤ 59
  · obtain ⟨c, hc', rfl⟩ := ii_rng (m := 59) (by omega) hst
    have hc : c < 60 := by omega
    have h7 : f_X7_checkBay w 1 (ii c) = some (.inl (), w) := by unfold f_X7_checkBay; rw [c7_isBay, if_pos hst, zbs, if_neg (by decide)]
    have h8 : f_X8_isBay (ii c) = some 1 := by rw [c8_isBay, if_pos hst]
    have hz : zin (ii c) 60 = true := zin_t (by omega) (by omega)
    have hzc : zix (ii c) = c := zix_ii (by omega)
    obtain ⟨l7, k7, d7, s7, w7⟩ := geo7 c hc
    obtain ⟨l8, k8, d8, s8, w8⟩ := geo8 c hc
    have hcl := hI.1.2.2.2.2.2.2.2.2.1 c hc
    by_cases hr : 0 ≤ b ∧ b ≤ 7
    · obtain ⟨j, hj, rfl⟩ := ii_rng (m := 7) (by omega) hr
      have hj5 : j = 0 ∨ j = 1 ∨ j = 2 ∨ j = 3 ∨ j = 4 ∨ j = 5 ∨ j = 6 ∨ j = 7 := by omega
      rcases hj5 with rfl | rfl | rfl | rfl | rfl | rfl | rfl | rfl
      · refine Pair_ok h (ii (c / 20)) ?_ ?_
        · unfold f_X7_bay
          rw [h7, zbx_inl, if_pos (by decide), l7]
        · unfold f_X8_bay
          rw [zlet_eq, h8, zbs, if_neg (by decide), if_pos (by decide), l8]
      · refine Pair_ok h (ii (c % 20 / 10)) ?_ ?_
        · unfold f_X7_bay
          rw [h7, zbx_inl, if_neg (by decide), if_pos (by decide), s7]
        · unfold f_X8_bay
          rw [zlet_eq, h8, zbs, if_neg (by decide), if_neg (by decide), if_pos (by decide), s8]
      · refine Pair_ok h (ii (c % 10 / 2)) ?_ ?_
        · unfold f_X7_bay
          rw [h7, zbx_inl, if_neg (by decide), if_neg (by decide), if_pos (by decide), k7]
        · unfold f_X8_bay
          rw [zlet_eq, h8, zbs, if_neg (by decide), if_neg (by decide), if_neg (by decide), if_pos (by decide), k8]
      · refine Pair_ok h (ii (c % 2)) ?_ ?_
        · unfold f_X7_bay
          rw [h7, zbx_inl, if_neg (by decide), if_neg (by decide), if_neg (by decide), if_pos (by decide), d7]
        · unfold f_X8_bay
          rw [zlet_eq, h8, zbs, if_neg (by decide), if_neg (by decide), if_neg (by decide), if_neg (by decide), if_pos (by decide), d8]
      · refine Pair_ok h (if pWide c = true then 1 else 0) ?_ ?_
        · unfold f_X7_bay
          rw [h7, zbx_inl, if_neg (by decide), if_neg (by decide), if_neg (by decide), if_neg (by decide), if_pos (by decide), w7, zbs]
          by_cases hw : pWide c = true
          · rw [if_pos hw, if_neg (by decide)]
          · rw [if_neg hw, if_pos rfl]
        · unfold f_X8_bay
          rw [zlet_eq, h8, zbs, if_neg (by decide), if_neg (by decide), if_neg (by decide), if_neg (by decide), if_neg (by decide), if_pos (by decide), w8, zbs]
          by_cases hw : pWide c = true
          · rw [if_pos hw, if_neg (by decide)]
          · rw [if_neg hw, if_pos rfl]
      · refine Pair_ok h (w 256 (19 + c)) ?_ ?_
        · have hb1 : zb1 (w 256 (19 + c)) = true := by rcases hcl with e | e <;> rw [e] <;> decide
          unfold f_X7_bay f_X1_isClosed
          rw [h7, zbx_inl, if_neg (by decide), if_neg (by decide), if_neg (by decide), if_neg (by decide), if_neg (by decide), if_pos (by decide), zt1_0 hL, zg0_0 hG, zgl1 hG, if_pos hz, hzc, hS.1 c hc, if_pos hb1, zbs]
          rcases hcl with e | e
          · rw [e, if_pos rfl]
          · rw [e, if_neg (by decide)]
        · unfold f_X8_bay
          rw [zlet_eq, h8, zbs, if_neg (by decide), if_neg (by decide), if_neg (by decide), if_neg (by decide), if_neg (by decide), if_neg (by decide), if_pos (by decide), zt255_1 hL, ztl256 hL, show (19 : Int32) = ii 19 from rfl, ii_add, if_pos (zin_t (by omega) (by omega)), zix_ii (by omega), hu]
      · refine Pair_ok h (w 256 (79 + c)) ?_ ?_
        · unfold f_X7_bay f_X1_carIn
          rw [h7, zbx_inl, if_neg (by decide), if_neg (by decide), if_neg (by decide), if_neg (by decide), if_neg (by decide), if_neg (by decide), if_pos (by decide), zt1_0 hL, zg0_1 hG, zgl2 hG, if_pos hz, hzc, hS.2.1 c hc, zbs]
        · unfold f_X8_bay
          rw [zlet_eq, h8, zbs, if_neg (by decide), if_neg (by decide), if_neg (by decide), if_neg (by decide), if_neg (by decide), if_neg (by decide), if_neg (by decide), if_pos (by decide), zt255_1 hL, ztl256 hL, show (79 : Int32) = ii 79 from rfl, ii_add, if_pos (zin_t (by omega) (by omega)), zix_ii (by omega), hu]
      · refine Pair_ok h (if c % 2 = 0 ∨ w 256 (79 + (c - 1)) = -1 then 1 else 0) ?_ ?_
        · unfold f_X7_bay
          rw [h7, zbx_inl, if_neg (by decide), if_neg (by decide), if_neg (by decide), if_neg (by decide), if_neg (by decide), if_neg (by decide), if_neg (by decide), if_pos (by decide), zt1_0 hL, c7_carBefore hG hS hc, zbs]
          by_cases hp : c % 2 = 1
          · by_cases he : w 256 (79 + (c - 1)) = -1
            · rw [if_pos hp, if_pos he, if_pos (Or.inr he)]
            · rw [if_pos hp, if_neg he, if_neg (by intro q; rcases q with q | q; omega; exact he q)]
          · rw [if_neg hp, if_pos rfl, if_pos (Or.inl (by omega))]
        · unfold f_X8_bay
          rw [zlet_eq, h8, zbs, if_neg (by decide), if_neg (by decide), if_neg (by decide), if_neg (by decide), if_neg (by decide), if_neg (by decide), if_neg (by decide), if_neg (by decide), if_pos (by decide), c8_isReached hL hIu hc, zbs, hu]
          by_cases hp : c % 2 = 0 ∨ w 256 (79 + (c - 1)) = -1
          · rw [if_pos hp, if_neg (by decide)]
          · rw [if_neg hp, if_pos rfl]
    · have hne : ∀ j, j ≤ 7 → ¬ b = ii j := by
        intro j hj e
        exact hr (by rw [e]; exact ii_rng' (m := 7) hj (by omega))
      have n0 : ¬ b = 0 := hne 0 (by omega)
      have n1 : ¬ b = 1 := hne 1 (by omega)
      have n2 : ¬ b = 2 := hne 2 (by omega)
      have n3 : ¬ b = 3 := hne 3 (by omega)
      have n4 : ¬ b = 4 := hne 4 (by omega)
      have n5 : ¬ b = 5 := hne 5 (by omega)
      have n6 : ¬ b = 6 := hne 6 (by omega)
      have n7 : ¬ b = 7 := hne 7 (by omega)
      refine Pair_ex h "java/lang/IllegalArgumentException" 2 0 ?_ ?_ (by simp)
      · unfold f_X7_bay
        rw [h7, zbx_inl, if_neg n0, if_neg n1, if_neg n2, if_neg n3, if_neg n4, if_neg n5, if_neg n6, if_neg n7]
      · unfold f_X8_bay
        rw [zlet_eq, h8, zbs, if_neg (by decide), if_neg n0, if_neg n1, if_neg n2, if_neg n3, if_neg n4, if_neg n5, if_neg n6, if_neg n7, e8_fails, zbs, zput_zput]
  · have h7 : f_X7_checkBay w 1 a = some (.inr "java/lang/IndexOutOfBoundsException", w) := by unfold f_X7_checkBay; rw [c7_isBay, if_neg hst, zbs, if_pos rfl]
    have h8 : f_X8_isBay a = some 0 := by rw [c8_isBay, if_neg hst]
    refine Pair_ex h "java/lang/IndexOutOfBoundsException" 1 0 ?_ ?_ (by simp)
    · unfold f_X7_bay
      rw [h7, zbx_inr]
    · unfold f_X8_bay
      rw [zlet_eq, h8, zbs, if_pos rfl, e8_fails, zbs, zput_zput]
theorem c7_isTime (a : Int32) : f_X7_isTime a = some (if 0 ≤ a ∧ a ≤ 9999 then 1 else 0) := by
  unfold f_X7_isTime
  by_cases h1 : a < 0
  · rw [if_pos h1, if_neg (by intro q; have := q.1; grind)]
  · rw [if_neg h1]
    by_cases h2 : (9999 : Int32) < a
    · rw [if_pos h2, if_neg (by intro q; have := q.2; grind)]
    · rw [if_neg h2, if_pos ⟨by grind, by grind⟩]
theorem c8_isPickup (a : Int32) : f_X8_isPickup a = some (if 0 ≤ a ∧ a ≤ 9999 then 1 else 0) := by
  unfold f_X8_isPickup
  rw [c8_inn, zbs]
  by_cases h : 0 ≤ a ∧ a ≤ 9999
  · rw [if_pos h, if_pos (by decide)]
  · rw [if_neg h, if_pos (by decide)]
theorem c8_isSize (a : Int32) : f_X8_isSize a = some (if 0 ≤ a ∧ a ≤ 1 then 1 else 0) := by
  unfold f_X8_isSize
  rw [c8_inn, zbs]
  by_cases h : 0 ≤ a ∧ a ≤ 1
  · rw [if_pos h, if_pos (by decide)]
  · rw [if_neg h, if_pos (by decide)]
theorem c7_checkSP (a b : Int32) : f_X7_checkSizeAndPickup w 1 a b = some (if (0 ≤ a ∧ a ≤ 1) ∧ (0 ≤ b ∧ b ≤ 9999) then (.inl () : Unit ⊕ String) else .inr "java/lang/IllegalArgumentException", w) := by
  unfold f_X7_checkSizeAndPickup f_X7_checkSizeAndPickup_j16
  by_cases h1 : a < 0
  · rw [if_pos h1, if_neg (by intro q; have := q.1.1; grind)]
  · rw [if_neg h1]
    by_cases h2 : (1 : Int32) < a
    · rw [if_pos h2, if_neg (by intro q; have := q.1.2; grind)]
    · rw [if_neg h2, c7_isTime, zbs]
      have h3 : 0 ≤ a ∧ a ≤ 1 := ⟨by grind, by grind⟩
      by_cases h4 : 0 ≤ b ∧ b ≤ 9999
      · rw [if_pos h4, if_neg (by decide), if_pos ⟨h3, h4⟩]
      · rw [if_neg h4, if_pos rfl, if_neg (fun q => h4 q.2)]
theorem P_choice (hL : zLay S) (h : INV B w) (a b : Int32) : Pair B (f_X7_choice S w 1 a b) (fun w1 => f_X8_choice S w1 255 a b) [("java/lang/IllegalArgumentException", 1), ("java/util/NoSuchElementException", 2)] := by
  obtain ⟨n, k, v, hI, hv, hS⟩ := IG_get h
  have hu : zput w 255 0 0 256 = w 256 := zput_ne (by omega)
  have hIu : zI (zput w 255 0 0 256) n k v := by rw [hu]; exact hI.1
  by_cases hsp : (0 ≤ a ∧ a ≤ 1) ∧ (0 ≤ b ∧ b ≤ 9999)
  · have h7 : f_X7_checkSizeAndPickup w 1 a b = some (.inl (), w) := by rw [c7_checkSP, if_pos hsp]
    have hch := (c8_choose (S := S) hL hIu (size := a) (pk := b) (fr := -1) (Or.inl rfl)).1
    rw [hu] at hch
    rcases pCh_ok (s := w 256) (size := a) (pk := b) (fr := -1) with g | ⟨d, hd, g, -⟩
    · refine Pair_ex h "java/util/NoSuchElementException" 2 0 ?_ ?_ (by simp)
      · unfold f_X7_choice
        rw [h7, zbx_inl, zt1_0 hL, c7_choose (zG2 hL) hS hI.1 (Or.inl rfl), zbs, if_pos g]
      · unfold f_X8_choice
        rw [zlet_eq, c8_isSize, if_pos hsp.1, zbs, if_neg (by decide), c8_isPickup, if_pos hsp.2, zbs, if_neg (by decide), hch, zbs, g, if_neg (by decide), e8_fails, zbs, zput_zput]
    · refine Pair_ok h (ii d) ?_ ?_
      · unfold f_X7_choice
        rw [h7, zbx_inl, zt1_0 hL, c7_choose (zG2 hL) hS hI.1 (Or.inl rfl), zbs, g, if_neg (ii_ne (by omega))]
      · unfold f_X8_choice
        rw [zlet_eq, c8_isSize, if_pos hsp.1, zbs, if_neg (by decide), c8_isPickup, if_pos hsp.2, zbs, if_neg (by decide), hch, zbs, g, if_pos (ii_nn (by omega))]
  · have h7 : f_X7_checkSizeAndPickup w 1 a b = some (.inr "java/lang/IllegalArgumentException", w) := by rw [c7_checkSP, if_neg hsp]
    refine Pair_ex h "java/lang/IllegalArgumentException" 1 0 ?_ ?_ (by simp)
    · unfold f_X7_choice
      rw [h7, zbx_inr]
    · unfold f_X8_choice f_X8_choice_j19
      rw [zlet_eq, c8_isSize, zbs]
      by_cases h1 : 0 ≤ a ∧ a ≤ 1
      · rw [if_pos h1, if_neg (by decide), c8_isPickup, zbs, if_neg (fun q => hsp ⟨h1, q⟩), if_pos rfl, e8_fails, zbs, zput_zput]
      · rw [if_neg h1, if_pos rfl, e8_fails, zbs, zput_zput]
theorem P_refuge (hL : zLay S) (h : INV B w) (a : Int32) : Pair B (f_X7_refuge S w 1 a) (fun w1 => f_X8_refuge S w1 255 a) [("java/lang/IndexOutOfBoundsException", 1), ("java/util/NoSuchElementException", 2)] := by
  obtain ⟨n, k, v, hI, hv, hS⟩ := IG_get h
  have hn := zI_n hI.1
  have hu : zput w 255 0 0 256 = w 256 := zput_ne (by omega)
  have hIu : zI (zput w 255 0 0 256) n k v := by rw [hu]; exact hI.1
  have hG := zG2 hL
  by_cases hst : pStored (w 256) n a = true
  · obtain ⟨c, bb, hc, rfl, hbb, hbay, hin⟩ := pStored_of hI.1 hst
    have h7 : f_X7_checkStored S w 1 (ii c) = some (.inl (), w) := by rw [c7_checkStored hL hS hI.1, if_pos hst]
    have h8 : f_X8_isCar S (zput w 255 0 0) 255 (ii c) = some 1 := by rw [c8_isCar hL hIu, hu, if_pos hst]
    have hfr : pFr (w 256 (139 + 4 * c + 2)) := Or.inr ⟨bb, hbb, hbay⟩
    have hfl := c8_flee (S := S) hL hIu hc (by rw [hu]; exact hfr)
    rw [hu] at hfl
    have h0 : f_X8_of S (zput w 255 0 0) 255 (ii c) 0 = some (w 256 (139 + 4 * c)) := by
      have := c8_of (S := S) (w := zput w 255 0 0) (c := c) (q := 0) hL (by omega) (by omega)
      rw [hu] at this
      exact this
    rcases pCh_ok (s := w 256) (size := w 256 (139 + 4 * c)) (pk := w 256 (139 + 4 * c + 1)) (fr := w 256 (139 + 4 * c + 2)) with g | ⟨d, hd, g, -⟩
    · have g : pFl (w 256) c = -1 := g
      refine Pair_ex h "java/util/NoSuchElementException" 2 0 ?_ ?_ (by simp)
      · unfold f_X7_refuge
        rw [h7, zbx_inl, zt1_0 hL, c7_flee hG hS hI.1 hc hfr, zbs, if_pos g]
      · unfold f_X8_refuge
        rw [zlet_eq, h8, zbs, if_neg (by decide), h0, zbs, c8_pickup hL (by omega), zbs, c8_bayOf hL (by omega), zbs, hu, hfl, zbs, g, if_neg (by decide), e8_fails, zbs, zput_zput]
    · have g : pFl (w 256) c = ii d := g
      refine Pair_ok h (ii d) ?_ ?_
      · unfold f_X7_refuge
        rw [h7, zbx_inl, zt1_0 hL, c7_flee hG hS hI.1 hc hfr, zbs, g, if_neg (ii_ne (by omega))]
      · unfold f_X8_refuge
        rw [zlet_eq, h8, zbs, if_neg (by decide), h0, zbs, c8_pickup hL (by omega), zbs, c8_bayOf hL (by omega), zbs, hu, hfl, zbs, g, if_pos (ii_nn (by omega))]
  · have h7 : f_X7_checkStored S w 1 a = some (.inr "java/lang/IndexOutOfBoundsException", w) := by rw [c7_checkStored hL hS hI.1, if_neg hst]
    have h8 : f_X8_isCar S (zput w 255 0 0) 255 a = some 0 := by rw [c8_isCar hL hIu, hu, if_neg hst]
    refine Pair_ex h "java/lang/IndexOutOfBoundsException" 1 0 ?_ ?_ (by simp)
    · unfold f_X7_refuge
      rw [h7, zbx_inr]
    · unfold f_X8_refuge
      rw [zlet_eq, h8, zbs, if_pos rfl, e8_fails, zbs, zput_zput]
end
end ZR1
