/-! CHOOSING A BAY, the class's side. -/
section ZCH
variable {S : Zs} {w : Zw} {g : Nat} {s : Nat → Int32} {n k v T : Nat}
theorem ii_sub1 {b : Nat} (h : 0 < b) : ii b - 1 = ii (b - 1) := by
  obtain ⟨c, rfl⟩ : ∃ c, b = c + 1 := ⟨b - 1, by omega⟩
  have e : ii (c + 1) = ii c + 1 := (ii_add c 1).symm
  rw [e]
  have : c + 1 - 1 = c := by omega
  rw [this]
  grind
theorem ii_succ (b : Nat) : ii b + 1 = ii (b + 1) := ii_add b 1
theorem ii_ne {b : Nat} (h : b < 2147483648) : ii b ≠ -1 := by
  intro e
  have := congrArg Int32.toInt e
  rw [ii_int h] at this
  have h9 : (-1 : Int32).toInt = -1 := rfl
  omega
theorem ii_nn {b : Nat} (h : b < 2147483648) : 0 ≤ ii b := by
  have : (0 : Int32) = ii 0 := rfl
  rw [this, ii_le (by omega) h]
  omega
theorem c7_carBefore (hG : zGar S g) (hR : RG w g s T) {b : Nat} (hb : b < 60) : f_X1_carBefore S w g (ii b) = some (if b % 2 = 1 then s (79 + (b - 1)) else -1) := by
  unfold f_X1_carBefore
  rw [(geo7 b hb).2.2.1, zg0_1 hG, zgl2 hG]
  have h1 : (1 : Int32) = ii 1 := rfl
  by_cases hp : b % 2 = 1
  · rw [if_pos (by rw [hp]; rfl), if_pos hp, ii_sub1 (by omega), zin_ii (by omega), if_pos (by simp; omega), zix_ii (by omega), hR.2.1 _ (by omega)]
  · rw [if_neg (by rw [h1, ii_eq (by omega) (by omega)]; exact hp), if_neg hp]
theorem c7_isBad (hG : zGar S g) (hR : RG w g s T) (hI : zI s n k v) {b : Nat} (hb : b < 60) (pk : Int32) : f_X1_isBad S w g (ii b) pk = some (if pBad s b pk = true then 1 else 0) := by
  unfold f_X1_isBad
  rw [(geo7 b hb).2.2.1, zg0_1 hG, zgl2 hG, zg0_3 hG, zgl4 hG]
  have h1 : (1 : Int32) = ii 1 := rfl
  by_cases hp : b % 2 = 1
  · rw [if_pos (by rw [hp]; rfl)]
    simp [pBad, hp]
  · rw [if_neg (by rw [h1, ii_eq (by omega) (by omega)]; exact hp), ii_succ, zin_ii (by omega), if_pos (by simp; omega), zix_ii (by omega), hR.2.1 _ (by omega)]
    have hp0 : b % 2 = 0 := by omega
    rcases hI.2.2.2.2.2.2.2.2.2.1 (b + 1) (by omega) with he | ⟨c, hc, he, hbc⟩
    · rw [if_pos he]
      simp [pBad, he]
    · have hn := hI.2.2.2.2.1
      rw [if_neg (by rw [he]; exact ii_ne (by omega)), if_pos (by simp; omega), he, zin_ii (by omega), if_pos (by simp; omega), zix_ii (by omega), (hR.2.2.1 c (by omega)).2.1]
      have hne : ii c ≠ -1 := ii_ne (by omega)
      simp only [pBad, hp0, he, zix_ii (show c < 2147483648 by omega), decide_true, Bool.true_and, ne_eq, hne, not_false_eq_true, decide_eq_true_eq]
      by_cases hlt : s (139 + 4 * c + 1) < pk
      · rw [if_neg (by grind), if_pos hlt]
      · rw [if_pos (by grind), if_neg hlt]
end ZCH
