/-! THE REFERENCE's rows of jobs: the shift when twenty are kept. -/
section ZNT
variable {S : Zs} {w : Zw} {s : Nat → Int32} {jb je : Int32}
def pShS (i : Nat) (s : Nat → Int32) : Nat → Int32 := upd s (299 + i) (s (299 + i + 5))
def pShift (s : Nat → Int32) (m : Nat) : Nat → Int32 := fun i => if 299 ≤ i ∧ i < 299 + m then s (i + 5) else s i
theorem pShift_fold (s : Nat → Int32) (m : Nat) : zfold pShS 0 m s = pShift s m := by
  induction m with
  | zero =>
    funext i
    unfold pShift
    rw [if_neg (by omega)]
    rfl
  | succ m ih =>
    rw [zfold_succ, ih]
    funext i
    unfold pShS upd pShift
    by_cases h : i = 299 + (0 + m)
    · subst h
      rw [if_pos rfl, if_neg (by omega), if_pos (by omega)]
    · rw [if_neg h]
      by_cases h2 : 299 ≤ i ∧ i < 299 + m
      · rw [if_pos h2, if_pos (by omega)]
      · rw [if_neg h2, if_neg (by omega)]
end ZNT
