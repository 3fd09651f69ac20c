/-! CALLS THAT ONLY READ: machine, job, jobs, account, report; and feed. -/
section ZR2
variable {S : Zs} {w : Zw} {B : Nat}
theorem c7_checkMachine (a : Int32) : f_X7_checkMachine w 1 a = some (if 0 ≤ a ∧ a ≤ 3 then (.inl () : Unit ⊕ String) else .inr "java/lang/IndexOutOfBoundsException", w) := by
  unfold f_X7_checkMachine f_X7_checkMachine_j9
  by_cases h1 : a < 0
  · rw [if_pos h1, if_neg (by intro q; have := q.1; grind)]
  · rw [if_neg h1]
    have h0 : 0 ≤ a := by grind
    obtain ⟨j, hj, rfl⟩ := ii_of h0
    by_cases h2 : j < 4
    · rw [if_pos (by rw [show (4 : Int32) = ii 4 from rfl, ii_lt hj (by omega)]; exact h2), if_pos (show 0 ≤ ii j ∧ ii j ≤ 3 from ii_rng' (m := 3) (by omega) (by omega))]
    · rw [if_neg (by rw [show (4 : Int32) = ii 4 from rfl, ii_lt hj (by omega)]; exact h2), if_neg]
      intro q
      have := q.2
      rw [show (3 : Int32) = ii 3 from rfl, ii_le hj (by omega)] at this
      omega
theorem c7_machineOf (hL : zLay S) {m : Nat} (hm : m < 4) : f_X1_machineOf S w 2 (ii m) = some (zmc 2 m) := by
  unfold f_X1_machineOf
  rw [zg0_7 (zG2 hL), zg8_0 (zG2 hL), zgl9 (zG2 hL), if_pos (zin_t hm (by omega)), zix_ii (by omega), zmcr (zG2 hL) hm]
theorem P_machine (hL : zLay S) (h : INV B w) (a b : Int32) : Pair B (f_X7_machine S w 1 a b) (fun w1 => f_X8_machine S w1 255 a b) [("java/lang/IndexOutOfBoundsException", 1), ("java/lang/IllegalArgumentException", 2)] := by
  obtain ⟨n, k, v, hI, hv, hS⟩ := IG_get h
  have hu : zput w 255 0 0 256 = w 256 := zput_ne (by omega)
  by_cases hst : 0 ≤ a ∧ a ≤ 3
  · obtain ⟨m, hm', rfl⟩ := ii_rng (m := 3) (by omega) hst
    have hm : m < 4 := by omega
    have h7 : f_X7_checkMachine w 1 (ii m) = some (.inl (), w) := by rw [c7_checkMachine, if_pos hst]
    obtain ⟨-, r1, r2, r3⟩ := hS.2.2.2.2.1 m hm
    by_cases hr : 0 ≤ b ∧ b ≤ 2
    · obtain ⟨j, hj, rfl⟩ := ii_rng (m := 2) (by omega) hr
      refine Pair_ok h (w 256 (7 + 3 * m + j)) ?_ ?_
      · unfold f_X7_machine f_X4_place f_X4_freeFrom f_X4_minutes
        rw [h7, zbx_inl, zt1_0 hL, c7_machineOf hL hm, zbs]
        have hj5 : j = 0 ∨ j = 1 ∨ j = 2 := by omega
        rcases hj5 with rfl | rfl | rfl
        · rw [if_pos (by decide), r1]
          rfl
        · rw [if_neg (by decide), if_pos (by decide), r2]
        · rw [if_neg (by decide), if_neg (by decide), if_pos (by decide), r3]
      · unfold f_X8_machine
        rw [zlet_eq, c8_inn, if_pos hst, zbs, if_neg (by decide), c8_inn, if_pos hr, zbs, if_neg (by decide), d8_ix, ii_add, zt255_1 hL, ztl256 hL, if_pos (zin_t (by omega) (by omega)), zix_ii (by omega), hu]
    · have hne : ∀ j, j ≤ 2 → ¬ b = ii j := by
        intro j hj e
        exact hr (by rw [e]; exact ii_rng' (m := 2) hj (by omega))
      have n0 : ¬ b = 0 := hne 0 (by omega)
      have n1 : ¬ b = 1 := hne 1 (by omega)
      have n2 : ¬ b = 2 := hne 2 (by omega)
      refine Pair_ex h "java/lang/IllegalArgumentException" 2 0 ?_ ?_ (by simp)
      · unfold f_X7_machine
        rw [h7, zbx_inl, zt1_0 hL, c7_machineOf hL hm, zbs, if_neg n0, if_neg n1, if_neg n2]
      · unfold f_X8_machine
        rw [zlet_eq, c8_inn, if_pos hst, zbs, if_neg (by decide), c8_inn, if_neg hr, zbs, if_pos rfl, e8_fails, zbs, zput_zput]
  · refine Pair_ex h "java/lang/IndexOutOfBoundsException" 1 0 ?_ ?_ (by simp)
    · unfold f_X7_machine
      rw [c7_checkMachine, if_neg hst, zbx_inr]
    · unfold f_X8_machine
      rw [zlet_eq, c8_inn, if_neg hst, zbs, if_pos rfl, e8_fails, zbs, zput_zput]
theorem c7_log (hL : zLay S) : f_X1_log S w 2 = 13 := by
  unfold f_X1_log
  rw [zg0_7 (zG2 hL), zg8_2 (zG2 hL)]
theorem c7_kept {g T : Nat} {s : Nat → Int32} (hT : w (g + 11) 1 = ii T) (hT2 : T < 2147483648) : f_X3_kept S w (g + 11) = ii (min T 20) := by
  unfold f_X3_kept
  rw [hT, show (20 : Int32) = ii 20 from rfl, zmin_ii hT2 (by omega)]
theorem c7_partOf {g T : Nat} {s : Nat → Int32} (hG : zGar S g) (hT : w (g + 11) 1 = ii T) (hT2 : T < 2147483628) (hrow : ∀ j p, j < 20 → p < 5 → w (g + 12) ((zoff T + j) % 20 * 5 + p) = s (299 + 5 * j + p)) {i p : Nat} (hi : i < min T 20) (hp : p < 5) : f_X3_partOf S w (g + 11) (ii i) (ii p) = some (s (299 + 5 * i + p)) := by
  unfold f_X3_partOf
  rw [c7_kept (s := s) hT (by omega), hT, zg11_0 hG, zgl12 hG]
  have e1 : ii T - ii (min T 20) = ii (T - min T 20) := by
    have : ii T = ii (T - min T 20) + ii (min T 20) := by rw [ii_add]; congr 1; omega
    rw [this]
    grind
  have e2 : zrem (ii (T - min T 20) + ii i) 20 * 5 + ii p = ii ((T - min T 20 + i) % 20 * 5 + p) := by
    rw [ii_add, show (20 : Int32) = ii 20 from rfl, ii_rem (by omega) (by omega), show (5 : Int32) = ii 5 from rfl, ii_mul, ii_add]
  have e3 : (T - min T 20 + i) % 20 = (zoff T + i) % 20 := by
    unfold zoff
    split <;> omega
  rw [e1, e2, e3, if_pos (zin_t (by omega) (by omega)), zix_ii (by omega), hrow i p (by omega) hp]
theorem RG_T {g n k v : Nat} {s : Nat → Int32} (hR : RG w g s (n + k + v)) (hI : zI s n k v) : w (g + 11) 1 = ii (n + k + v) := by rw [hR.2.2.2.1.2.2.2.2.1, zI_T hI]
theorem P_job (hL : zLay S) (h : INV B w) (a b : Int32) : Pair B (f_X7_job S w 1 a b) (fun w1 => f_X8_job S w1 255 a b) [("java/lang/IndexOutOfBoundsException", 1), ("java/lang/IllegalArgumentException", 2)] := by
  obtain ⟨n, k, v, hI, hv, hS⟩ := IG_get h
  have hn := zI_n hI.1
  have hkn := hI.1.2.2.2.1
  have hv1 := hI.1.2.2.2.2.2.1
  have hu : zput w 255 0 0 256 = w 256 := zput_ne (by omega)
  have hT := RG_T hS hI.1
  have hT2 : n + k + v < 2147483628 := by omega
  have hk := c7_kept (S := S) (s := w 256) hT (by omega)
  have z6 : zin (6 : Int32) 399 = true := by decide
  have z66 : zix (6 : Int32) = 6 := by decide
  by_cases hst : 0 ≤ a ∧ a ≤ ii (min (n + k + v) 20) - 1
  · obtain ⟨i, hi31, rfl⟩ := ii_of hst.1
    have hi : i < min (n + k + v) 20 := by
      have := hst.2
      by_cases h0 : min (n + k + v) 20 = 0
      · rw [h0] at this
        have e0 : ii 0 - 1 = -1 := by decide
        rw [e0] at this
        have := hst.1
        have := neg1_lt
        grind
      · rw [ii_sub1 (by omega), ii_le hi31 (by omega)] at this
        omega
    have n0 : ¬ ii i < 0 := by have := hst.1; grind
    have h7 : ii i < f_X3_kept S w 13 := by
      rw [show (13 : Nat) = 2 + 11 from rfl, hk, ii_lt hi31 (by omega)]
      exact hi
    by_cases hr : 0 ≤ b ∧ b ≤ 4
    · obtain ⟨p, hp, rfl⟩ := ii_rng (m := 4) (by omega) hr
      have hp0 : ¬ ii p < 0 := by have := hr.1; grind
      refine Pair_ok h (w 256 (299 + 5 * i + p)) ?_ ?_
      · unfold f_X7_job
        rw [zt1_0 hL, c7_log hL, if_neg n0, if_pos h7, if_neg hp0, if_pos (by rw [show (5 : Int32) = ii 5 from rfl, ii_lt (by omega) (by omega)]; omega), show (13 : Nat) = 2 + 11 from rfl, c7_partOf (zG2 hL) hT hT2 hS.2.2.2.2.2 hi (by omega), zbs]
      · unfold f_X8_job
        have e9 : (299 : Int32) + (5 : Int32) * ii i + ii p = ii (299 + 5 * i + p) := by
          rw [show (299 : Int32) = ii 299 from rfl, show (5 : Int32) = ii 5 from rfl, ii_mul, ii_add, ii_add]
        rw [zlet_eq, zt255_1 hL, ztl256 hL, if_pos z6, z66, hu, zI_6 hI.1, c8_inn, if_pos hst, zbs, if_neg (by decide), c8_inn, if_pos hr, zbs, if_neg (by decide), e9, if_pos (zin_t (by omega) (by omega)), zix_ii (by omega)]
    · refine Pair_ex h "java/lang/IllegalArgumentException" 2 0 ?_ ?_ (by simp)
      · unfold f_X7_job f_X7_job_j38
        rw [zt1_0 hL, c7_log hL, if_neg n0, if_pos h7]
        by_cases hb0 : b < 0
        · rw [if_pos hb0]
        · rw [if_neg hb0, if_neg]
          intro q
          have h0 : 0 ≤ b := by grind
          obtain ⟨j, hj, rfl⟩ := ii_of h0
          rw [show (5 : Int32) = ii 5 from rfl, ii_lt hj (by omega)] at q
          exact hr (ii_rng' (m := 4) (by omega) (by omega))
      · unfold f_X8_job
        rw [zlet_eq, zt255_1 hL, ztl256 hL, if_pos z6, z66, hu, zI_6 hI.1, c8_inn, if_pos hst, zbs, if_neg (by decide), c8_inn, if_neg hr, zbs, if_pos rfl, e8_fails, zbs, zput_zput]
  · refine Pair_ex h "java/lang/IndexOutOfBoundsException" 1 0 ?_ ?_ (by simp)
    · unfold f_X7_job f_X7_job_j18
      rw [zt1_0 hL, c7_log hL]
      by_cases ha0 : a < 0
      · rw [if_pos ha0]
      · rw [if_neg ha0, if_neg]
        intro q
        have h0 : 0 ≤ a := by grind
        obtain ⟨j, hj, rfl⟩ := ii_of h0
        rw [show (13 : Nat) = 2 + 11 from rfl, hk, ii_lt hj (by omega)] at q
        exact hst ⟨h0, by rw [ii_sub1 (by omega), ii_le hj (by omega)]; omega⟩
    · unfold f_X8_job
      rw [zlet_eq, zt255_1 hL, ztl256 hL, if_pos z6, z66, hu, zI_6 hI.1, c8_inn, if_neg hst, zbs, if_pos rfl, e8_fails, zbs, zput_zput]
theorem P_jobs (hL : zLay S) (h : INV B w) : f_X8_jobs S w 255 = some (f_X7_jobs S w 1) := by
  obtain ⟨n, k, v, hI, hv, hS⟩ := IG_get h
  have hn := zI_n hI.1
  have hkn := hI.1.2.2.2.1
  have hv1 := hI.1.2.2.2.2.2.1
  have hk := c7_kept (S := S) (s := w 256) (RG_T hS hI.1) (by omega)
  have z6 : zin (6 : Int32) 399 = true := by decide
  have z66 : zix (6 : Int32) = 6 := by decide
  unfold f_X8_jobs f_X7_jobs
  rw [zt1_0 hL, c7_log hL, zt255_1 hL, ztl256 hL, if_pos z6, z66, show (13 : Nat) = 2 + 11 from rfl, hk, zI_6 hI.1]
theorem P_account (hL : zLay S) (h : INV B w) (a : Int32) : Pair B (f_X7_account S w 1 a) (fun w1 => f_X8_account S w1 255 a) [("java/lang/IllegalArgumentException", 1)] := by
  obtain ⟨n, k, v, hI, hv, hS⟩ := IG_get h
  have hu : zput w 255 0 0 256 = w 256 := zput_ne (by omega)
  obtain ⟨r41, r42, r43, r44, r45, r46, r47⟩ := hS.2.2.2.1
  by_cases hr : 0 ≤ a ∧ a ≤ 5
  · obtain ⟨j, hj, rfl⟩ := ii_rng (m := 5) (by omega) hr
    have h8 : f_X8_account S w 255 (ii j) = some (w 256 j, zput w 255 0 0) := by
      unfold f_X8_account
      have e0 : (0 : Int32) + ii j = ii j := by grind
      rw [zlet_eq, c8_inn, if_pos hr, zbs, if_neg (by decide), e0, zt255_1 hL, ztl256 hL, if_pos (zin_t (by omega) (by omega)), zix_ii (by omega), hu]
    have hj5 : j = 0 ∨ j = 1 ∨ j = 2 ∨ j = 3 ∨ j = 4 ∨ j = 5 := by omega
    have e13 : w 13 2 = w 256 4 := r46
    have e14 : w 13 3 = w 256 5 := r47
    refine Pair_ok h (w 256 j) ?_ h8
    unfold f_X7_account f_X1_time f_X1_came f_X1_countStored f_X1_moved f_X3_minutes f_X3_greatestEnd
    rw [zt1_0 hL, c7_log hL, zg0_7 (zG2 hL)]
    rcases hj5 with rfl | rfl | rfl | rfl | rfl | rfl
    · rw [if_pos (by decide), r44]
    · rw [if_neg (by decide), if_pos (by decide), r41]
    · have e : w 2 8 - w 2 9 = w 256 2 := by rw [r41, r42]; grind
      rw [if_neg (by decide), if_neg (by decide), if_pos (by decide), e]
    · rw [if_neg (by decide), if_neg (by decide), if_neg (by decide), if_pos (by decide), r43]
    · rw [if_neg (by decide), if_neg (by decide), if_neg (by decide), if_neg (by decide), if_pos (by decide), e13]
    · rw [if_neg (by decide), if_neg (by decide), if_neg (by decide), if_neg (by decide), if_neg (by decide), if_pos (by decide), e14]
  · have hne : ∀ j, j ≤ 5 → ¬ a = ii j := by
      intro j hj e
      exact hr (by rw [e]; exact ii_rng' (m := 5) hj (by omega))
    have n0 : ¬ a = 0 := hne 0 (by omega)
    have n1 : ¬ a = 1 := hne 1 (by omega)
    have n2 : ¬ a = 2 := hne 2 (by omega)
    have n3 : ¬ a = 3 := hne 3 (by omega)
    have n4 : ¬ a = 4 := hne 4 (by omega)
    have n5 : ¬ a = 5 := hne 5 (by omega)
    refine Pair_ex h "java/lang/IllegalArgumentException" 1 0 ?_ ?_ (by simp)
    · unfold f_X7_account
      rw [if_neg n0, if_neg n1, if_neg n2, if_neg n3, if_neg n4, if_neg n5]
    · unfold f_X8_account
      rw [zlet_eq, c8_inn, if_neg hr, zbs, if_pos rfl, e8_fails, zbs, zput_zput]
theorem P_report (hL : zLay S) (h : INV B w) (a b : Int32) : Pair B (f_X7_report S w 1 a b) (fun w1 => f_X8_report S w1 255 a b) [("java/util/NoSuchElementException", 1), ("java/lang/IllegalArgumentException", 2)] := by
  obtain ⟨-, -, -, -, hr9, -⟩ := id h
  have hu10 : zput w 255 0 0 255 10 = w 255 10 := by rw [zput_at, upd_ne (by omega)]
  have hu11 : zput w 255 0 0 255 11 = w 255 11 := by rw [zput_at, upd_ne (by omega)]
  have hu12 : zput w 255 0 0 255 12 = w 255 12 := by rw [zput_at, upd_ne (by omega)]
  rcases hr9 with ⟨q1, q2⟩ | ⟨q1, q2, q3, q4, q5⟩
  · refine Pair_ex h "java/util/NoSuchElementException" 1 0 ?_ ?_ (by simp)
    · unfold f_X7_report f_X7_report_j16
      rw [if_pos q1]
    · unfold f_X8_report f_X8_report_j21
      rw [zlet_eq, hu10, q2, if_pos (by decide), e8_fails, zbs, zput_zput]
  · have ha7 : ¬ w 1 7 = 0 := by rw [q1]; decide
    have h10 : ¬ w 255 10 < 0 := by grind
    by_cases hr : 0 ≤ a ∧ a ≤ 2
    · obtain ⟨j, hj, rfl⟩ := ii_rng (m := 2) (by omega) hr
      have hj0 : ¬ ii j < 0 := by have := hr.1; grind
      have hj3 : ii j < 3 := by rw [show (3 : Int32) = ii 3 from rfl, ii_lt (by omega) (by omega)]; omega
      by_cases hb : 0 ≤ b ∧ b ≤ 1
      · obtain ⟨p, hp, rfl⟩ := ii_rng (m := 1) (by omega) hb
        have hp5 : p = 0 ∨ p = 1 := by omega
        rcases hp5 with rfl | rfl
        · refine Pair_ok h (ii j + 1) ?_ ?_
          · unfold f_X7_report
            rw [if_neg ha7, if_neg hj0, if_pos hj3, if_pos (by decide)]
          · unfold f_X8_report
            have e : (1 : Int32) + ii j = ii j + 1 := by grind
            rw [zlet_eq, hu10, if_neg h10, c8_inn, if_pos hr, zbs, if_neg (by decide), c8_inn, if_pos hb, zbs, if_neg (by decide), if_pos (by decide), e]
        · refine Pair_ok h (w 254 j) ?_ ?_
          · unfold f_X7_report
            rw [if_neg ha7, if_neg hj0, if_pos hj3, if_neg (by decide), if_pos (by decide), zt1_6 hL, ztl254 hL, if_pos (zin_t (by omega) (by omega)), zix_ii (by omega)]
          · unfold f_X8_report
            rw [zlet_eq, hu10, if_neg h10, c8_inn, if_pos hr, zbs, if_neg (by decide), c8_inn, if_pos hb, zbs, if_neg (by decide), if_neg (by decide), hu11, hu12]
            have hj5 : j = 0 ∨ j = 1 ∨ j = 2 := by omega
            rcases hj5 with rfl | rfl | rfl
            · rw [if_pos (by decide), q3]
            · rw [if_neg (by decide), if_pos (by decide), q4]
            · rw [if_neg (by decide), if_neg (by decide), q5]
      · have hne : ∀ j, j ≤ 1 → ¬ b = ii j := by
          intro j hj e
          exact hb (by rw [e]; exact ii_rng' (m := 1) hj (by omega))
        have n0 : ¬ b = 0 := hne 0 (by omega)
        have n1 : ¬ b = 1 := hne 1 (by omega)
        refine Pair_ex h "java/lang/IllegalArgumentException" 2 0 ?_ ?_ (by simp)
        · unfold f_X7_report
          rw [if_neg ha7, if_neg hj0, if_pos hj3, if_neg n0, if_neg n1]
        · unfold f_X8_report
          rw [zlet_eq, hu10, if_neg h10, c8_inn, if_pos hr, zbs, if_neg (by decide), c8_inn, if_neg hb, zbs, if_pos rfl, e8_fails, zbs, zput_zput]
    · refine Pair_ex h "java/util/NoSuchElementException" 1 0 ?_ ?_ (by simp)
      · unfold f_X7_report f_X7_report_j16
        rw [if_neg ha7]
        by_cases ha0 : a < 0
        · rw [if_pos ha0]
        · rw [if_neg ha0, if_neg]
          intro q
          have h0 : 0 ≤ a := by grind
          obtain ⟨j, hj, rfl⟩ := ii_of h0
          rw [show (3 : Int32) = ii 3 from rfl, ii_lt hj (by omega)] at q
          exact hr (ii_rng' (m := 2) (by omega) (by omega))
      · unfold f_X8_report f_X8_report_j21
        rw [zlet_eq, hu10, if_neg h10, c8_inn, if_neg hr, zbs, if_pos rfl, e8_fails, zbs, zput_zput]
theorem nar_ch {x : Nat} (hx : x < 65536) : (ii x).toUInt32.toUInt16.toUInt32.toInt32 = ii x := by
  have e1 : (ii x).toUInt32 = UInt32.ofNat x := rfl
  rw [e1, UInt32.toUInt16_ofNat', UInt16.toUInt32_ofNat' hx]
  rfl
theorem P_feed (hL : zLay S) (h : INV B w) {x : Nat} (hx : x < 65536) : Pair B (f_X7_feed S w 1 (ii x)) (fun w1 => f_X8_feed S w1 255 (ii x)) [("java/lang/IllegalStateException", 1)] := by
  obtain ⟨h1, h2, h3, h4, h5, len, t1, t2, t3, t4⟩ := id h
  have hu : zput w 255 0 0 255 24 = ii len := by rw [zput_at, upd_ne (by omega), t3]
  by_cases hl : len = 60
  · subst hl
    refine Pair_ex h "java/lang/IllegalStateException" 1 0 ?_ ?_ (by simp)
    · unfold f_X7_feed f_X0_append
      rw [zt1_5 hL, t2, if_neg (by decide), zbs, if_pos rfl]
    · unfold f_X8_feed
      rw [zlet_eq, hu, if_pos (by decide), e8_fails, zbs, zput_zput]
  · have hch : vp_nar .char (ii x) = ii x := by
      rw [vp_nar_char]
      exact nar_ch hx
    have e24 : ¬ ii len = 60 := by
      rw [show (60 : Int32) = ii 60 from rfl, ii_iff (by omega) (by omega)]
      exact hl
    refine Or.inl ⟨ii (len + 1), zput (zput w 250 len (ii x)) 249 4 (ii (len + 1)), zput (zput (zput (zput (zput w 250 len (ii x)) 249 4 (ii (len + 1))) 255 0 0) 265 len (ii x)) 255 24 (ii (len + 1)), ?_, ?_, ?_, ?_⟩
    · unfold f_X7_feed f_X0_append f_X0_length
      have e4 : zput w 250 len (ii x) 249 4 = ii len := by rw [zput_ne (by omega), t2]
      rw [zt1_5 hL, t2, if_pos (by rw [show (60 : Int32) = ii 60 from rfl, ii_lt (by omega) (by omega)]; omega), zt249_0 hL, ztl250 hL, if_pos (zin_t (by omega) (by omega)), zix_ii (by omega), hch, zlet_eq, e4, zlet_eq, zbs, if_neg (show ¬ (1 : Int32) = 0 by decide), ii_succ]
      dsimp only
      rw [zput_at, upd_at]
    · dsimp only
      have e24' : zput (zput (zput w 250 len (ii x)) 249 4 (ii (len + 1))) 255 0 0 255 24 = ii len := by
        rw [zput_at, upd_ne (by omega), zput_ne (by omega), zput_ne (by omega), t3]
      have e25 : zput (zput (zput (zput w 250 len (ii x)) 249 4 (ii (len + 1))) 255 0 0) 265 len (ii x) 255 24 = ii len := by
        rw [zput_ne (by omega), e24']
      unfold f_X8_feed
      rw [zlet_eq, e24', if_neg e24, zt255_22 hL, ztl265 hL, if_pos (zin_t (by omega) (by omega)), zix_ii (by omega), zlet_eq, e25, zlet_eq, ii_succ, zput_at, upd_at]
    · simp (disch := omega) only [zput_at, zput_ne, upd_ne, upd_at]
    · refine ⟨IG_w (Nat.le_refl B) h1 (fun j a b => ?_) ?_, IH_w (Nat.le_refl B) h2 (fun j a => ?_) ?_ (fun i a => ?_), zPa_o h3 (fun j a => ?_), IS_w (Nat.le_refl B) h4 (fun j a b => ?_) ?_ ?_ ?_, IR_w h5 ?_ (fun i a b => ?_) (fun i a => ?_), len + 1, by omega, ?_, ?_, fun i hi => ?_⟩
      · simp (disch := omega) only [zput_ne]
      · intro i hi
        simp (disch := omega) only [zput_ne]
      · simp (disch := omega) only [zput_ne]
      · simp (disch := omega) only [zput_at, zput_ne, upd_ne]
      · simp (disch := omega) only [zput_ne]
      · simp (disch := omega) only [zput_ne]
      · simp (disch := omega) only [zput_ne]
      · simp (disch := omega) only [zput_ne]
      · simp (disch := omega) only [zput_at, zput_ne, upd_ne]
      · intro i hi
        simp (disch := omega) only [zput_ne]
      · simp (disch := omega) only [zput_ne]
      · simp (disch := omega) only [zput_at, zput_ne, upd_ne]
      · simp (disch := omega) only [zput_ne]
      · simp (disch := omega) only [zput_at, zput_ne, upd_at]
      · simp (disch := omega) only [zput_at, upd_at]
      · simp (disch := omega) only [zput_at, zput_ne]
        by_cases e : i = len
        · subst e
          rw [upd_at, upd_at]
          exact ⟨rfl, x, hx, rfl⟩
        · rw [upd_ne e, upd_ne e]
          exact t4 i hi
end ZR2
