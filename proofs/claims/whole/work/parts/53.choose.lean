/-! CHOOSING A BAY, the class's side. -/
section ZCH
variable {S : Zs} {w : Zw} {g : Nat} {s : Nat → Int32} {n k v T : Nat}
theorem ii_sub1 {b : Nat} (h : 0 < b) : ii b - 1 = ii (b - 1) := by
  obtain ⟨c, rfl⟩ : ∃ c, b = c + 1 := ⟨b - 1, by omega⟩
  have e : ii (c + 1) = ii c + 1 := (ii_add c 1).symm
  rw [e]
  have : c + 1 - 1 = c := by omega
  rw [this]
  grind
theorem ii_succ (b : Nat) : ii b + 1 = ii (b + 1) := ii_add b 1
theorem ii_ne {b : Nat} (h : b < 2147483648) : ii b ≠ -1 := by
  intro e
  have := congrArg Int32.toInt e
  rw [ii_int h] at this
  have h9 : (-1 : Int32).toInt = -1 := rfl
  omega
theorem ii_nn {b : Nat} (h : b < 2147483648) : 0 ≤ ii b := by
  have : (0 : Int32) = ii 0 := rfl
  rw [this, ii_le (by omega) h]
  omega
theorem zin_t {a m : Nat} (h : a < m) (h2 : a < 2147483648) : zin (ii a) m = true := by
  rw [zin_ii h2]
  exact decide_eq_true h
theorem c7_carBefore (hG : zGar S g) (hR : RG w g s T) {b : Nat} (hb : b < 60) : f_X1_carBefore S w g (ii b) = some (if b % 2 = 1 then s (79 + (b - 1)) else -1) := by
  unfold f_X1_carBefore
  rw [(geo7 b hb).2.2.1, zg0_1 hG, zgl2 hG]
  have h1 : (1 : Int32) = ii 1 := rfl
  by_cases hp : b % 2 = 1
  · rw [if_pos (by rw [hp]; rfl), if_pos hp, ii_sub1 (by omega), zin_ii (by omega), if_pos (by simp; omega), zix_ii (by omega), hR.2.1 _ (by omega)]
  · rw [if_neg (by rw [h1, ii_eq (by omega) (by omega)]; exact hp), if_neg hp]
theorem c7_isBad (hG : zGar S g) (hR : RG w g s T) (hI : zI s n k v) {b : Nat} (hb : b < 60) (pk : Int32) : f_X1_isBad S w g (ii b) pk = some (if pBad s b pk = true then 1 else 0) := by
  unfold f_X1_isBad
  rw [(geo7 b hb).2.2.1, zg0_1 hG, zgl2 hG, zg0_3 hG, zgl4 hG]
  have h1 : (1 : Int32) = ii 1 := rfl
  by_cases hp : b % 2 = 1
  · rw [if_pos (by rw [hp]; rfl)]
    simp [pBad, hp]
  · rw [if_neg (by rw [h1, ii_eq (by omega) (by omega)]; exact hp), ii_succ, zin_ii (by omega), if_pos (by simp; omega), zix_ii (by omega), hR.2.1 _ (by omega)]
    have hp0 : b % 2 = 0 := by omega
    rcases hI.2.2.2.2.2.2.2.2.2.1 (b + 1) (by omega) with he | ⟨c, hc, he, hbc⟩
    · rw [if_pos he]
      simp [pBad, he]
    · have hn := hI.2.2.2.2.1
      rw [if_neg (by rw [he]; exact ii_ne (by omega)), if_pos (by simp; omega), he, zin_ii (by omega), if_pos (by simp; omega), zix_ii (by omega), (hR.2.2.1 c (by omega)).2.1]
      have hne : ii c ≠ -1 := ii_ne (by omega)
      simp only [pBad, hp0, he, zix_ii (show c < 2147483648 by omega), decide_true, Bool.true_and, ne_eq, hne, not_false_eq_true, decide_eq_true_eq]
      by_cases hlt : s (139 + 4 * c + 1) < pk
      · rw [if_neg (by grind), if_pos hlt]
      · rw [if_pos (by grind), if_neg hlt]
theorem c7_j63 (hG : zGar S g) (hR : RG w g s T) (hI : zI s n k v) {size pk fr : Int32} (hf : pFr fr) {b : Nat} (hb : b < 60) (a : Int32 × Int32) (K : (Int32 × Int32 × Int32) → Option Int32) :
    f_X1_chooseBay_j63 S w g size pk fr a.1 a.2 (ii b) K = (if a.1 = -1 ∨ pRank s pk fr b < a.2 then K (ii b, pRank s pk fr b, ii (b + 1)) else K (a.1, a.2, ii (b + 1))) := by
  have h100 : ∀ y : Int32, f_X1_chooseBay_j100 S w g size pk fr a.1 a.2 (ii b) y K = if a.1 = -1 ∨ y < a.2 then K (ii b, y, ii (b + 1)) else K (a.1, a.2, ii (b + 1)) := by
    intro y
    unfold f_X1_chooseBay_j100
    rw [ii_succ]
    by_cases h1 : a.1 = -1
    · rw [if_pos h1, if_pos (Or.inl h1)]
    · rw [if_neg h1]
      by_cases h2 : y < a.2
      · rw [if_neg (by grind), if_pos (Or.inr h2)]
      · rw [if_pos (by grind), if_neg (by simp [h1, h2])]
  have h82 : f_X1_chooseBay_j82 S w g size pk fr a.1 a.2 (ii b) (pEff fr b) K = (if a.1 = -1 ∨ pRank s pk fr b < a.2 then K (ii b, pRank s pk fr b, ii (b + 1)) else K (a.1, a.2, ii (b + 1))) := by
    unfold f_X1_chooseBay_j82
    rw [c7_isBad hG hR hI hb pk, Option.bind_some]
    by_cases h1 : pBad s b pk = true
    · have e1 : (if pBad s b pk = true then (1000 : Int32) else 0) = 1000 := if_pos h1
      rw [if_pos h1, if_neg (by decide), h100]
      simp only [pRank, e1]
    · have e1 : (if pBad s b pk = true then (1000 : Int32) else 0) = 0 := if_neg h1
      rw [if_neg h1, if_pos rfl, h100]
      have e : pEff fr b + 0 = pEff fr b := by grind
      simp only [pRank, e1, e]
  unfold f_X1_chooseBay_j63
  rcases hf with rfl | ⟨a9, ha9, rfl⟩
  · rw [if_pos rfl, pEff_7 b hb, h82]
  · rw [if_neg (ii_ne (by omega)), pEff_7a a9 ha9 b hb, Option.bind_some, h82]
theorem c7_step (hG : zGar S g) (hR : RG w g s T) (hI : zI s n k v) {size pk fr : Int32} (hf : pFr fr) {b : Nat} (hb : b < 60) (a : Int32 × Int32) (K : (Int32 × Int32 × Int32) → Option Int32) :
    f_X1_chooseBay_b9 S w g size pk fr K a.1 a.2 (ii b) = K ((pStep s size pk fr b a).1, (pStep s size pk fr b a).2, ii (b + 1)) := by
  unfold f_X1_chooseBay_b9
  have h60 : ¬ (60 : Int32) ≤ ii b := by
    show ¬ ii 60 ≤ ii b
    rw [ii_le (by omega) (by omega)]
    omega
  rw [if_neg h60, zg0_0 hG, zgl1 hG, if_pos (zin_t hb (by omega)), zix_ii (by omega), hR.1 b hb, zg0_1 hG, zgl2 hG, if_pos (zin_t hb (by omega)), hR.2.1 b hb, c7_carBefore hG hR hb, Option.bind_some, (geo7 b hb).2.2.2.2, Option.bind_some, ii_succ, c7_j63 hG hR hI hf hb]
  unfold pStep pCand
  by_cases h1 : s (19 + b) = 0
  · rw [if_pos h1]
    by_cases h2 : s (79 + b) = -1
    · rw [if_pos h2]
      have h3 : (if b % 2 = 1 then s (79 + (b - 1)) else -1) = -1 ↔ (b % 2 = 0 ∨ s (79 + (b - 1)) = -1) := by
        by_cases hp : b % 2 = 1
        · simp [hp]
        · simp [hp]; omega
      by_cases h4 : (b % 2 = 0 ∨ s (79 + (b - 1)) = -1)
      · rw [if_pos (h3.mpr h4)]
        by_cases h5 : size = 1
        · rw [if_pos h5]
          by_cases h6 : pWide b = true
          · have h7 : (decide (s (19 + b) = 0) && (decide (s (79 + b) = -1) && ((decide (size ≠ 1) || pWide b) && (decide (b % 2 = 0) || decide (s (79 + (b - 1)) = -1))))) = true := by simp [h1, h2, h6, h4]
            rw [if_pos h7, if_pos h6, if_neg (by decide)]
            by_cases hq : a.1 = -1 ∨ pRank s pk fr b < a.2
            · rw [if_pos hq, if_pos hq]
            · rw [if_neg hq, if_neg hq]
          · simp [h1, h2, h5, h6]
        · rw [if_neg h5]
          have h7 : (decide (s (19 + b) = 0) && (decide (s (79 + b) = -1) && ((decide (size ≠ 1) || pWide b) && (decide (b % 2 = 0) || decide (s (79 + (b - 1)) = -1))))) = true := by simp [h1, h2, h5, h4]
          rw [if_pos h7]
          by_cases hq : a.1 = -1 ∨ pRank s pk fr b < a.2
          · rw [if_pos hq, if_pos hq]
          · rw [if_neg hq, if_neg hq]
      · rw [if_neg (fun q => h4 (h3.mp q))]
        have h7 : ¬ (decide (s (19 + b) = 0) && (decide (s (79 + b) = -1) && ((decide (size ≠ 1) || pWide b) && (decide (b % 2 = 0) || decide (s (79 + (b - 1)) = -1))))) = true := by
          simp only [Bool.and_eq_true, Bool.or_eq_true, decide_eq_true_eq]
          exact fun q => h4 q.2.2.2
        rw [if_neg h7]
    · rw [if_neg h2]
      simp [h2]
  · rw [if_neg h1]
    simp [h1]
theorem c7_choose (hG : zGar S g) (hR : RG w g s T) (hI : zI s n k v) {size pk fr : Int32} (hf : pFr fr) : f_X1_chooseBay S w g size pk fr = some (pCh s size pk fr) := by
  unfold f_X1_chooseBay f_X1_chooseBay_l9
  have h := zlp_for (F := fun K a => f_X1_chooseBay_b9 S w g size pk fr K a.1 a.2.1 a.2.2) (fun i b => (b.1, b.2, ii i)) 60 (pStep s size pk fr) (fun b => some b.1) (fun _ _ => True) (fun K i b hi _ => ⟨c7_step hG hR hI hf hi b K, trivial⟩) (fun K b _ => ?_) 60 0 (-1, 0) rfl trivial zFU (by decide)
  · exact h.1
  · show f_X1_chooseBay_b9 S w g size pk fr K b.1 b.2 (ii 60) = some b.1
    unfold f_X1_chooseBay_b9
    rw [if_pos (by decide)]
end ZCH
