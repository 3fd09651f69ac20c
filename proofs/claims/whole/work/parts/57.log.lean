/-! THE LOG OF JOBS, the class's side. -/
section ZLG
theorem ii_div {a b : Nat} (ha : a < 2147483648) (hb : b < 2147483648) : ii a / ii b = ii (a / b) := by
  apply Int32.toInt_inj.mp
  have hle : a / b ≤ a := Nat.div_le_self a b
  rw [Int32.toInt_div, ii_int ha, ii_int hb, ii_int (by omega), ← Int.ofNat_tdiv]
  generalize a / b = q at hle ⊢
  apply Int.bmod_eq_of_le <;> omega
theorem ii_rem {a b : Nat} (ha : a < 2147483648) (hb : b < 2147483648) : zrem (ii a) (ii b) = ii (a % b) := by
  unfold zrem
  rw [ii_div ha hb, ii_mul]
  have h : ii a = ii (a % b) + ii (a / b * b) := by
    rw [ii_add]
    congr 1
    rw [Nat.mul_comm]
    exact (Nat.mod_add_div a b).symm
  rw [h]
  grind
def zrow (w : Zw) (a r : Nat) (car fr to jb je : Int32) : Zw := zput (zput (zput (zput (zput w a r car) a (r + 1) fr) a (r + 2) to) a (r + 3) jb) a (r + 4) je
def zlog (w : Zw) (g r : Nat) (car fr to jb je : Int32) : Zw := zput (zput (zput (zrow w (g + 12) r car fr to jb je) (g + 11) 1 (w (g + 11) 1 + 1)) (g + 11) 2 (w (g + 11) 2 + (je - jb))) (g + 11) 3 (zmax (w (g + 11) 3) je)
theorem zput_at2 {w : Zw} {a i : Nat} {x : Int32} : zput w a i x a i = x := by simp [zput]
theorem zput_nei {w : Zw} {a i j : Nat} {x : Int32} (h : j ≠ i) : zput w a i x a j = w a j := by simp [zput, h]
theorem m3_add {S : Zs} {w : Zw} {g T : Nat} (hG : zGar S g) (hT : w (g + 11) 1 = ii T) (hT2 : T < 2000000000) (car fr to jb je : Int32) : f_X3_add S w (g + 11) car fr to jb je = some ((), zlog w g (T % 20 * 5) car fr to jb je) := by
  have hr : zrem (w (g + 11) 1) 20 * 5 = ii (T % 20 * 5) := by
    rw [hT, show (20 : Int32) = ii 20 from rfl, ii_rem (by omega) (by omega), show (5 : Int32) = ii 5 from rfl, ii_mul]
  generalize hr0 : T % 20 * 5 = r at hr ⊢
  have hlt : r + 4 < 100 := by omega
  have h1 : ii r + 1 = ii (r + 1) := ii_add r 1
  have h2 : ii r + 2 = ii (r + 2) := ii_add r 2
  have h3 : ii r + 3 = ii (r + 3) := ii_add r 3
  have h4 : ii r + 4 = ii (r + 4) := ii_add r 4
  have ne : g + 11 ≠ g + 12 := by omega
  unfold f_X3_add
  simp only [zlet_eq, hr, h1, h2, h3, h4, zg11_0 hG, zgl12 hG, zin_t (show r < 100 by omega) (by omega), zin_t (show r + 1 < 100 by omega) (by omega), zin_t (show r + 2 < 100 by omega) (by omega), zin_t (show r + 3 < 100 by omega) (by omega), zin_t hlt (by omega), if_true, zix_ii (show r < 2147483648 by omega), zix_ii (show r + 1 < 2147483648 by omega), zix_ii (show r + 2 < 2147483648 by omega), zix_ii (show r + 3 < 2147483648 by omega), zix_ii (show r + 4 < 2147483648 by omega)]
  simp only [zput_ne ne, zput_nei (show (2 : Nat) ≠ 1 by omega), zput_nei (show (3 : Nat) ≠ 1 by omega), zput_nei (show (3 : Nat) ≠ 2 by omega)]
  rfl
end ZLG
