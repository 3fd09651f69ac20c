/-! BAYS. -/
section ZBY
variable {S : Zs} {w : Zw} {B B' n k v : Nat} {s : Nat → Int32}
def pK (s : Nat → Int32) (o : Nat) (b : Nat) : Bool :=
  if o = 0 then decide (s (79 + b) ≠ -1)
  else if o = 1 then decide (s (19 + b) = 0) && decide (s (79 + b) = -1)
  else if o = 2 then decide (s (19 + b) = 0) && (decide (s (79 + b) = -1) && decide (pBl s b = -1))
  else if o = 3 then decide (s (19 + b) ≠ 0)
  else if o = 4 then decide (s (79 + b) ≠ -1) && decide (pBl s b ≠ -1)
  else decide (s (79 + b) ≠ -1) && (decide (pBl s b ≠ -1) && decide (pkc s (cOf s b) < pkc s (zix (pBl s b))))
theorem pBl_ok (hI : zI s n k v) {b : Nat} (hb : b < 60) : pBl s b = -1 ∨ ∃ x, x < n ∧ pBl s b = ii x := by
  unfold pBl
  split
  · rcases zI_carIn hI (b := b - 1) (by omega) with g | ⟨c, hc, g1, -⟩
    · exact Or.inl g
    · exact Or.inr ⟨c, hc, g1⟩
  · exact Or.inl rfl
theorem c8_j51 (hL : zLay S) (hI : zI (w 256) n k v) {b o : Nat} (hb : b < 60) (ho : o < 6) (y : Int32) (hy : y = if w 256 (79 + b) = -1 then -1 else pBl (w 256) b) : f_X8_isCounted_j51 S w 255 (ii b) (ii o) (if w 256 (19 + b) = 0 ∧ w 256 (79 + b) = -1 then 1 else 0) y = some (if pK (w 256) o b = true then 1 else 0) := by
  have hn := zI_n hI
  have e1 : (79 : Int32) + ii b = ii (79 + b) := ii_add 79 b
  have e2 : (19 : Int32) + ii b = ii (19 + b) := ii_add 19 b
  have hz1 : zin (ii (79 + b)) 399 = true := zin_t (by omega) (by omega)
  have hx1 : zix (ii (79 + b)) = 79 + b := zix_ii (by omega)
  have hz2 : zin (ii (19 + b)) 399 = true := zin_t (by omega) (by omega)
  have hx2 : zix (ii (19 + b)) = 19 + b := zix_ii (by omega)
  have h01 : w 256 (19 + b) = 0 ∨ w 256 (19 + b) = 1 := hI.2.2.2.2.2.2.2.2.1 b hb
  have k0 : pK (w 256) 0 b = decide (w 256 (79 + b) ≠ -1) := rfl
  have k1 : pK (w 256) 1 b = (decide (w 256 (19 + b) = 0) && decide (w 256 (79 + b) = -1)) := rfl
  have k2 : pK (w 256) 2 b = (decide (w 256 (19 + b) = 0) && (decide (w 256 (79 + b) = -1) && decide (pBl (w 256) b = -1))) := rfl
  have k3 : pK (w 256) 3 b = decide (w 256 (19 + b) ≠ 0) := rfl
  have k4 : pK (w 256) 4 b = (decide (w 256 (79 + b) ≠ -1) && decide (pBl (w 256) b ≠ -1)) := rfl
  have k5 : pK (w 256) 5 b = (decide (w 256 (79 + b) ≠ -1) && (decide (pBl (w 256) b ≠ -1) && decide (pkc (w 256) (cOf (w 256) b) < pkc (w 256) (zix (pBl (w 256) b))))) := rfl
  have z10 : ¬ (1 : Int32) = 0 := by decide
  have y10 : ¬ ii 1 = (0 : Int32) := by decide
  have y20 : ¬ ii 2 = (0 : Int32) := by decide
  have y21 : ¬ ii 2 = (1 : Int32) := by decide
  have y30 : ¬ ii 3 = (0 : Int32) := by decide
  have y31 : ¬ ii 3 = (1 : Int32) := by decide
  have y32 : ¬ ii 3 = (2 : Int32) := by decide
  have y40 : ¬ ii 4 = (0 : Int32) := by decide
  have y41 : ¬ ii 4 = (1 : Int32) := by decide
  have y42 : ¬ ii 4 = (2 : Int32) := by decide
  have y43 : ¬ ii 4 = (3 : Int32) := by decide
  have y50 : ¬ ii 5 = (0 : Int32) := by decide
  have y51 : ¬ ii 5 = (1 : Int32) := by decide
  have y52 : ¬ ii 5 = (2 : Int32) := by decide
  have y53 : ¬ ii 5 = (3 : Int32) := by decide
  have y54 : ¬ ii 5 = (4 : Int32) := by decide
  unfold f_X8_isCounted_j51
  rcases (show o = 0 ∨ o = 1 ∨ o = 2 ∨ o = 3 ∨ o = 4 ∨ o = 5 by omega) with rfl | rfl | rfl | rfl | rfl | rfl
  · rw [if_pos (show ii 0 = (0 : Int32) from rfl), k0, c8_isEmpty hL hI hb, zbs]
    by_cases h : w 256 (79 + b) = -1
    · rw [if_pos h, if_neg (by decide), if_neg (by simp [h])]
    · rw [if_neg h, if_pos rfl, if_pos (by simp [h])]
  · rw [if_neg y10, if_pos (show ii 1 = (1 : Int32) from rfl), k1]
    by_cases h : w 256 (19 + b) = 0 ∧ w 256 (79 + b) = -1
    · rw [if_pos h, if_pos (by decide), if_pos (by simp [h])]
    · rw [if_neg h, if_pos (by decide), if_neg (by simpa using h)]
  · rw [if_neg y20, if_neg y21, if_pos (show ii 2 = (2 : Int32) from rfl), k2]
    by_cases h : w 256 (19 + b) = 0 ∧ w 256 (79 + b) = -1
    · rw [if_pos h, if_neg z10, c8_isReached hL hI hb, zbs]
      by_cases h2 : b % 2 = 0 ∨ w 256 (79 + (b - 1)) = -1
      · rw [if_pos h2, if_neg (by decide), if_pos]
        have : pBl (w 256) b = -1 := by
          unfold pBl
          rcases h2 with h2 | h2
          · rw [if_neg (by omega)]
          · rw [h2, ite_self]
        simp [h, this]
      · rw [if_neg h2, if_pos rfl, if_neg]
        have h2a : ¬ b % 2 = 0 := fun q => h2 (Or.inl q)
        have h2b : ¬ w 256 (79 + (b - 1)) = -1 := fun q => h2 (Or.inr q)
        have : ¬ pBl (w 256) b = -1 := by
          unfold pBl
          rw [if_pos (by omega)]
          exact h2b
        simp [this]
    · rw [if_neg h, if_pos rfl, if_neg]
      intro q
      simp only [Bool.and_eq_true, decide_eq_true_eq] at q
      exact h ⟨q.1, q.2.1⟩
  · rw [if_neg y30, if_neg y31, if_neg y32, if_pos (show ii 3 = (3 : Int32) from rfl), k3, e2, zt255_1 hL, ztl256 hL, if_pos hz2, hx2]
    rcases h01 with h | h
    · rw [h, if_neg (by decide), if_neg (by decide)]
    · rw [h, if_pos rfl, if_pos (by decide)]
  · rw [if_neg y40, if_neg y41, if_neg y42, if_neg y43, if_pos (show ii 4 = (4 : Int32) from rfl), k4, hy]
    by_cases h : w 256 (79 + b) = -1
    · rw [if_pos h, if_pos (by decide), if_neg (by simp [h])]
    · rw [if_neg h]
      rcases pBl_ok hI hb with g | ⟨x, hx, g⟩
      · rw [g, if_pos (by decide), if_neg (by simp)]
      · have hnn := ii_nn (b := x) (by omega)
        have hne : ii x ≠ -1 := ii_ne (by omega)
        rw [g, if_neg (by grind), if_pos (by simp [h, hne])]
  · rw [if_neg y50, if_neg y51, if_neg y52, if_neg y53, if_neg y54, k5, hy]
    by_cases h : w 256 (79 + b) = -1
    · rw [if_pos h, if_pos (by decide), if_neg (by simp [h])]
    · rw [if_neg h]
      rcases pBl_ok hI hb with g | ⟨x, hx, g⟩
      · rw [g, if_pos (by decide), if_neg (by simp)]
      · have hnn := ii_nn (b := x) (by omega)
        have hne : ii x ≠ -1 := ii_ne (by omega)
        obtain ⟨q1, q2, q3⟩ := zI_cOf hI hb h
        rw [g, if_neg (by grind), e1, zt255_1 hL, ztl256 hL, if_pos hz1, hx1, q2, c8_pickup hL (by omega), zbs, c8_pickup hL (by omega), zbs, zix_ii (show x < 2147483648 by omega)]
        have hq : ii (cOf (w 256) b) ≠ -1 := ii_ne (by omega)
        unfold pkc
        by_cases h3 : w 256 (139 + 4 * cOf (w 256) b + 1) < w 256 (139 + 4 * x + 1)
        · rw [if_neg (by grind), if_pos (by simp [hq, hne, h3])]
        · rw [if_pos (by grind), if_neg (by simp [h3])]
theorem c8_isCounted (hL : zLay S) (hI : zI (w 256) n k v) {b o : Nat} (hb : b < 60) (ho : o < 6) : f_X8_isCounted S w 255 (ii b) (ii o) = some (if pK (w 256) o b = true then 1 else 0) := by
  have hn := zI_n hI
  have e1 : (79 : Int32) + ii b = ii (79 + b) := ii_add 79 b
  have e2 : (19 : Int32) + ii b = ii (19 + b) := ii_add 19 b
  have hz1 : zin (ii (79 + b)) 399 = true := zin_t (by omega) (by omega)
  have hx1 : zix (ii (79 + b)) = 79 + b := zix_ii (by omega)
  have hz2 : zin (ii (19 + b)) 399 = true := zin_t (by omega) (by omega)
  have hx2 : zix (ii (19 + b)) = 19 + b := zix_ii (by omega)
  have key := c8_j51 (S := S) (w := w) hL hI hb ho _ rfl
  unfold f_X8_isCounted f_X8_isCounted_j24 f_X8_isCounted_j25
  rw [e1, e2, zt255_1 hL, ztl256 hL, if_pos hz2, hx2, c8_isEmpty hL hI hb, zbs, zbs, if_pos hz1, hx1]
  by_cases h : w 256 (79 + b) = -1
  · have e10 : ¬ (1 : Int32) = 0 := by decide
    rw [if_pos h] at key
    rw [if_pos h, if_neg e10, if_neg e10]
    by_cases h0 : w 256 (19 + b) = 0
    · rw [if_pos ⟨h0, h⟩] at key
      rw [if_pos h0]
      exact key
    · rw [if_neg (fun q => h0 q.1)] at key
      rw [if_neg h0]
      exact key
  · obtain ⟨q1, q2, q3⟩ := zI_cOf hI hb h
    rw [if_neg h, if_neg (fun q => h q.2)] at key
    rw [if_neg h, if_pos (show (0 : Int32) = 0 from rfl), if_pos (show (0 : Int32) = 0 from rfl), q2, c8_blocking hL hb (by omega) q3, zbs, ite_self]
    exact key
theorem e8_b24 (hL : zLay S) (hI : zI (w 256) n k v) {o : Nat} (ho : o < 6) : f_X8_bays_l24 S w 255 (ii o) (0, 0) = some (ii (cb (pK (w 256) o) 60), w) := by
  have hs : ∀ (kk : (Int32 × Int32) → Option (Int32 × Zw)) (i : Nat) (x : Int32 × Int32), i < 60 → x = (ii (cb (pK (w 256) o) i), ii i) → ∃ x', x' = (ii (cb (pK (w 256) o) (i + 1)), ii (i + 1)) ∧ f_X8_bays_b24 S w 255 (ii o) kk x.1 x.2 = kk x' := by
    rintro kk i x hi rfl
    refine ⟨_, rfl, ?_⟩
    show f_X8_bays_b24 S w 255 (ii o) kk (ii (cb (pK (w 256) o) i)) (ii i) = _
    have hc := cb_le (pK (w 256) o) i
    have hcb : cb (pK (w 256) o) (i + 1) = cb (pK (w 256) o) i + (if pK (w 256) o i = true then 1 else 0) := rfl
    unfold f_X8_bays_b24
    rw [if_neg (by rw [show (60 : Int32) = ii 60 from rfl, ii_le (by omega) (by omega)]; omega), c8_isCounted hL hI hi ho, zbs, hcb]
    by_cases h : pK (w 256) o i = true
    · rw [if_pos h, if_neg (by decide), zlet_eq, ii_succ, ii_succ, if_pos h]
    · rw [if_neg h, if_pos rfl, zlet_eq, ii_succ, if_neg h]
      congr 2
      grind
  obtain ⟨x, KK, rfl, e⟩ := zlp_to (F := fun kk x => f_X8_bays_b24 S w 255 (ii o) kk x.1 x.2) 60 (fun i x => x = (ii (cb (pK (w 256) o) i), ii i)) hs 60 0 (0, 0) (by omega) rfl zFU (by unfold zFU; omega)
  unfold f_X8_bays_l24
  rw [e]
  show f_X8_bays_b24 S w 255 (ii o) KK (ii (cb (pK (w 256) o) 60)) (ii 60) = _
  unfold f_X8_bays_b24
  rw [if_pos (by decide)]
theorem c7_open0 (hG : zGar S 2) (hR : RG w 2 s (n + k + v)) (hI : zI s n k v) {q : Int32} {o : Nat} (hq : (q = 0 ∧ o = 1) ∨ (q = 1 ∧ o = 2)) : f_X1_countOpenWithoutCar S w 2 q = some (ii (cb (pK s o) 60)) := by
  have hs : ∀ (kk : (Int32 × Int32) → Option Int32) (i : Nat) (x : Int32 × Int32), i < 60 → x = (ii (cb (pK s o) i), ii i) → ∃ x', x' = (ii (cb (pK s o) (i + 1)), ii (i + 1)) ∧ f_X1_countOpenWithoutCar_b4 S w 2 q kk x.1 x.2 = kk x' := by
    rintro kk i x hi rfl
    refine ⟨_, rfl, ?_⟩
    show f_X1_countOpenWithoutCar_b4 S w 2 q kk (ii (cb (pK s o) i)) (ii i) = _
    have hc := cb_le (pK s o) i
    have hcb : cb (pK s o) (i + 1) = cb (pK s o) i + (if pK s o i = true then 1 else 0) := rfl
    have hpb : (if i % 2 = 1 then s (79 + (i - 1)) else -1) = pBl s i := rfl
    unfold f_X1_countOpenWithoutCar_b4
    rw [if_neg (by rw [show (60 : Int32) = ii 60 from rfl, ii_le (by omega) (by omega)]; omega), zg0_0 hG, zgl1 hG, if_pos (zin_t (by omega) (by omega)), zix_ii (by omega), hR.1 i hi, zg0_1 hG, zgl2 hG, if_pos (zin_t (by omega) (by omega)), hR.2.1 i hi, c7_carBefore hG hR hi, zbs, hpb, hcb, ii_succ, ii_succ]
    rcases hq with ⟨rfl, rfl⟩ | ⟨rfl, rfl⟩
    · have hk : pK s 1 i = (decide (s (19 + i) = 0) && decide (s (79 + i) = -1)) := rfl
      rw [if_pos rfl, hk]
      by_cases h1 : s (19 + i) = 0
      · by_cases h2 : s (79 + i) = -1
        · rw [if_pos h1, if_pos h2, if_pos (by simp [h1, h2])]
        · rw [if_pos h1, if_neg h2, if_neg (by simp [h2])]
          rfl
      · rw [if_neg h1, if_neg (by simp [h1])]
        rfl
    · have hk : pK s 2 i = (decide (s (19 + i) = 0) && (decide (s (79 + i) = -1) && decide (pBl s i = -1))) := rfl
      rw [if_neg (show ¬ (1 : Int32) = 0 by decide), hk]
      by_cases h1 : s (19 + i) = 0
      · by_cases h2 : s (79 + i) = -1
        · by_cases h3 : pBl s i = -1
          · rw [if_pos h1, if_pos h2, if_pos h3, if_pos (by simp [h1, h2, h3])]
          · rw [if_pos h1, if_pos h2, if_neg h3, if_neg (by simp [h3])]
            rfl
        · rw [if_pos h1, if_neg h2, if_neg (by simp [h2])]
          rfl
      · rw [if_neg h1, if_neg (by simp [h1])]
        rfl
  obtain ⟨x, KK, rfl, e⟩ := zlp_to (F := fun kk x => f_X1_countOpenWithoutCar_b4 S w 2 q kk x.1 x.2) 60 (fun i x => x = (ii (cb (pK s o) i), ii i)) hs 60 0 (0, 0) (by omega) rfl zFU (by unfold zFU; omega)
  unfold f_X1_countOpenWithoutCar f_X1_countOpenWithoutCar_l4
  rw [e]
  show f_X1_countOpenWithoutCar_b4 S w 2 q KK (ii (cb (pK s o) 60)) (ii 60) = _
  unfold f_X1_countOpenWithoutCar_b4
  rw [if_pos (by decide)]
theorem c7_closed (hG : zGar S 2) (hR : RG w 2 s (n + k + v)) : f_X1_countClosed S w 2 = some (ii (cb (pK s 3) 60)) := by
  have hs : ∀ (kk : (Int32 × Int32) → Option Int32) (i : Nat) (x : Int32 × Int32), i < 60 → x = (ii (cb (pK s 3) i), ii i) → ∃ x', x' = (ii (cb (pK s 3) (i + 1)), ii (i + 1)) ∧ f_X1_countClosed_b4 S w 2 kk x.1 x.2 = kk x' := by
    rintro kk i x hi rfl
    refine ⟨_, rfl, ?_⟩
    show f_X1_countClosed_b4 S w 2 kk (ii (cb (pK s 3) i)) (ii i) = _
    have hc := cb_le (pK s 3) i
    have hcb : cb (pK s 3) (i + 1) = cb (pK s 3) i + (if pK s 3 i = true then 1 else 0) := rfl
    have hk : pK s 3 i = decide (s (19 + i) ≠ 0) := rfl
    unfold f_X1_countClosed_b4
    rw [if_neg (by rw [show (60 : Int32) = ii 60 from rfl, ii_le (by omega) (by omega)]; omega), zg0_0 hG, zgl1 hG, if_pos (zin_t (by omega) (by omega)), zix_ii (by omega), hR.1 i hi, hcb, hk, ii_succ, ii_succ]
    by_cases h1 : s (19 + i) = 0
    · rw [if_pos h1, if_neg (by simp [h1])]
      rfl
    · rw [if_neg h1, if_pos (by simp [h1])]
  obtain ⟨x, KK, rfl, e⟩ := zlp_to (F := fun kk x => f_X1_countClosed_b4 S w 2 kk x.1 x.2) 60 (fun i x => x = (ii (cb (pK s 3) i), ii i)) hs 60 0 (0, 0) (by omega) rfl zFU (by unfold zFU; omega)
  unfold f_X1_countClosed f_X1_countClosed_l4
  rw [e]
  show f_X1_countClosed_b4 S w 2 KK (ii (cb (pK s 3) 60)) (ii 60) = _
  unfold f_X1_countClosed_b4
  rw [if_pos (by decide)]
theorem pCnt_cb (m : Nat) : pCnt s m = cb (pK s 0) m := by
  induction m with
  | zero => rfl
  | succ m ih =>
    show pCnt s m + (if s (79 + m) = -1 then 0 else 1) = cb (pK s 0) m + (if pK s 0 m = true then 1 else 0)
    have hk : pK s 0 m = decide (s (79 + m) ≠ -1) := rfl
    rw [ih, hk]
    by_cases h : s (79 + m) = -1
    · rw [if_pos h, if_neg (by simp [h])]
    · rw [if_neg h, if_pos (by simp [h])]
end ZBY
