/-! THE LOG OF JOBS, the class's side. -/
section ZLG
theorem ii_div {a b : Nat} (ha : a < 2147483648) (hb : b < 2147483648) : ii a / ii b = ii (a / b) := by
  apply Int32.toInt_inj.mp
  have hle : a / b ≤ a := Nat.div_le_self a b
  rw [Int32.toInt_div, ii_int ha, ii_int hb, ii_int (by omega), ← Int.ofNat_tdiv]
  generalize a / b = q at hle ⊢
  apply Int.bmod_eq_of_le <;> omega
theorem ii_rem {a b : Nat} (ha : a < 2147483648) (hb : b < 2147483648) : zrem (ii a) (ii b) = ii (a % b) := by
  unfold zrem
  rw [ii_div ha hb, ii_mul]
  have h : ii a = ii (a % b) + ii (a / b * b) := by
    rw [ii_add]
    congr 1
    rw [Nat.mul_comm]
    exact (Nat.mod_add_div a b).symm
  rw [h]
  grind
end ZLG
