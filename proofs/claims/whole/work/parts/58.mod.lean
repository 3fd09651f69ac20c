/-! THE REFERENCE's world as its pure state: the array at 256, the job's begin and end at 255. -/
section ZMO
def zMo (w : Zw) (s : Nat → Int32) (jb je : Int32) : Zw := fun j i => if j = 256 then s i else if j = 255 then (if i = 8 then jb else if i = 9 then je else w j i) else w j i
theorem zMo_self (w : Zw) : zMo w (w 256) (w 255 8) (w 255 9) = w := by
  funext j i
  unfold zMo
  by_cases h : j = 256
  · subst h; simp
  · rw [if_neg h]
    by_cases h2 : j = 255
    · subst h2
      by_cases h3 : i = 8
      · subst h3; simp
      · by_cases h4 : i = 9
        · subst h4; simp
        · simp [h3, h4]
    · rw [if_neg h2]
section
variable {w : Zw} {s : Nat → Int32} {jb je : Int32}
theorem zMo_6 (i : Nat) : zMo w s jb je 256 i = s i := by simp [zMo]
theorem zMo_8 : zMo w s jb je 255 8 = jb := by simp [zMo]
theorem zMo_9 : zMo w s jb je 255 9 = je := by simp [zMo]
theorem zMo_put (i : Nat) (x : Int32) : zput (zMo w s jb je) 256 i x = zMo w (upd s i x) jb je := by
  funext j q
  unfold zput zMo upd
  by_cases h : j = 256
  · subst h
    by_cases h2 : q = i
    · simp [h2]
    · simp [h2]
  · simp [h]
theorem zMo_put8 (x : Int32) : zput (zMo w s jb je) 255 8 x = zMo w s x je := by
  funext j q
  unfold zput zMo
  by_cases h : j = 255
  · subst h
    by_cases h2 : q = 8
    · simp [h2]
    · simp [h2]
  · simp [h]
theorem zMo_put9 (x : Int32) : zput (zMo w s jb je) 255 9 x = zMo w s jb x := by
  funext j q
  unfold zput zMo
  by_cases h : j = 255
  · subst h
    by_cases h2 : q = 9
    · subst h2; simp
    · simp [h2]
  · simp [h]
end
end ZMO
