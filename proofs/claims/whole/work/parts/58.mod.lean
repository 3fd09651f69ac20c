/-! THE REFERENCE's world as its pure state: the array at 256, the job's begin and end at 255. -/
section ZMO
def zMo (w : Zw) (s : Nat → Int32) (jb je : Int32) : Zw := fun j i => if j = 256 then s i else if j = 255 then (if i = 8 then jb else if i = 9 then je else w j i) else w j i
theorem zMo_self (w : Zw) : zMo w (w 256) (w 255 8) (w 255 9) = w := by
  funext j i
  unfold zMo
  by_cases h : j = 256
  · subst h; simp
  · rw [if_neg h]
    by_cases h2 : j = 255
    · subst h2
      by_cases h3 : i = 8
      · subst h3; simp
      · by_cases h4 : i = 9
        · subst h4; simp
        · simp [h3, h4]
    · rw [if_neg h2]
section
variable {w : Zw} {s : Nat → Int32} {jb je : Int32}
theorem zMo_6 (i : Nat) : zMo w s jb je 256 i = s i := by simp [zMo]
theorem zMo_8 : zMo w s jb je 255 8 = jb := by simp [zMo]
theorem zMo_9 : zMo w s jb je 255 9 = je := by simp [zMo]
theorem zMo_put (i : Nat) (x : Int32) : zput (zMo w s jb je) 256 i x = zMo w (upd s i x) jb je := by
  funext j q
  unfold zput zMo upd
  by_cases h : j = 256
  · subst h
    by_cases h2 : q = i
    · simp [h2]
    · simp [h2]
  · simp [h]
theorem zMo_put8 (x : Int32) : zput (zMo w s jb je) 255 8 x = zMo w s x je := by
  funext j q
  unfold zput zMo
  by_cases h : j = 255
  · subst h
    by_cases h2 : q = 8
    · simp [h2]
    · simp [h2]
  · simp [h]
theorem zMo_put9 (x : Int32) : zput (zMo w s jb je) 255 9 x = zMo w s jb x := by
  funext j q
  unfold zput zMo
  by_cases h : j = 255
  · subst h
    by_cases h2 : q = 9
    · subst h2; simp
    · simp [h2]
  · simp [h]
end
section
variable {S : Zs} {w : Zw} {s : Nat → Int32} {jb je : Int32}
def pRdy (s : Nat → Int32) (m : Nat) : Int32 := zmax (s 0) (s (7 + 3 * m + 1))
def pDoes (s : Nat → Int32) (m : Nat) (e pl : Int32) : Nat → Int32 := upd (upd (upd s (7 + 3 * m) pl) (7 + 3 * m + 2) (s (7 + 3 * m + 2) + (e - pRdy s m))) (7 + 3 * m + 1) e
theorem d8_ix (m : Nat) : (7 : Int32) + (3 : Int32) * ii m = ii (7 + 3 * m) := by
  have e1 : (3 : Int32) * ii m = ii (3 * m) := ii_mul 3 m
  have e2 : (7 : Int32) + ii (3 * m) = ii (7 + 3 * m) := ii_add 7 _
  rw [e1, e2]
theorem d8_at (hL : zLay S) {m : Nat} (hm : m < 4) : f_X8_at S (zMo w s jb je) 255 (ii m) = some (s (7 + 3 * m)) := by
  unfold f_X8_at
  rw [d8_ix, zt255_1 hL, ztl256 hL, if_pos (zin_t (by omega) (by omega)), zix_ii (by omega), zMo_6]
theorem d8_ready (hL : zLay S) {m : Nat} (hm : m < 4) : f_X8_ready S (zMo w s jb je) 255 (ii m) = some (pRdy s m) := by
  unfold f_X8_ready
  have e : ii (7 + 3 * m) + 1 = ii (7 + 3 * m + 1) := ii_add _ 1
  have h0 : zin (0 : Int32) 399 = true := by decide
  have h00 : zix (0 : Int32) = 0 := by decide
  rw [d8_ix, e, zt255_1 hL, ztl256 hL, if_pos h0, if_pos (zin_t (show 7 + 3 * m + 1 < 399 by omega) (by omega)), zix_ii (show 7 + 3 * m + 1 < 2147483648 by omega), h00, zMo_6, zMo_6]
  rfl
theorem d8_does (hL : zLay S) {m : Nat} (hm : m < 4) (e pl : Int32) : f_X8_does S (zMo w s jb je) 255 (ii m) e pl = some ((), zMo w (pDoes s m e pl) (zmin jb (pRdy s m)) (zmax je e)) := by
  unfold f_X8_does
  have e1 : ii (7 + 3 * m) + 1 = ii (7 + 3 * m + 1) := ii_add _ 1
  have e2 : ii (7 + 3 * m) + 2 = ii (7 + 3 * m + 2) := ii_add _ 2
  have n1 : 7 + 3 * m + 2 ≠ 7 + 3 * m := by omega
  simp only [d8_ready hL hm, zbs, zlet_eq, d8_ix, e1, e2, zt255_1 hL, ztl256 hL, zin_t (show 7 + 3 * m < 399 by omega) (by omega), zin_t (show 7 + 3 * m + 1 < 399 by omega) (by omega), zin_t (show 7 + 3 * m + 2 < 399 by omega) (by omega), if_true, zix_ii (show 7 + 3 * m < 2147483648 by omega), zix_ii (show 7 + 3 * m + 1 < 2147483648 by omega), zix_ii (show 7 + 3 * m + 2 < 2147483648 by omega), zMo_8, zMo_9, zMo_put8, zMo_put9, zMo_put, zMo_6, pDoes]
  have e3 : upd s (7 + 3 * m) pl (7 + 3 * m + 2) = s (7 + 3 * m + 2) := by simp [upd]
  rw [e3]
end
end ZMO
