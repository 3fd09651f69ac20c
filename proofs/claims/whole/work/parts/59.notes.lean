/-! THE REFERENCE's rows of jobs: the shift when twenty are kept. -/
section ZNT
variable {S : Zs} {w : Zw} {s : Nat → Int32} {jb je : Int32}
def pShS (i : Nat) (s : Nat → Int32) : Nat → Int32 := upd s (299 + i) (s (299 + i + 5))
def pShift (s : Nat → Int32) (m : Nat) : Nat → Int32 := fun i => if 299 ≤ i ∧ i < 299 + m then s (i + 5) else s i
theorem pShift_fold (s : Nat → Int32) (m : Nat) : zfold pShS 0 m s = pShift s m := by
  induction m with
  | zero =>
    funext i
    unfold pShift
    rw [if_neg (by omega)]
    rfl
  | succ m ih =>
    rw [zfold_succ, ih]
    funext i
    unfold pShS upd pShift
    by_cases h : i = 299 + (0 + m)
    · subst h
      rw [if_pos rfl, if_neg (by omega), if_pos (by omega)]
    · rw [if_neg h]
      by_cases h2 : 299 ≤ i ∧ i < 299 + m
      · rw [if_pos h2, if_pos (by omega)]
      · rw [if_neg h2, if_neg (by omega)]
theorem n8_loop (hL : zLay S) (car fr to : Int32) : f_X8_notes_l17 S 255 car fr to (299, zMo w s jb je) = f_X8_notes_j60 S (zMo w (upd (pShift s 95) 6 (pShift s 95 6 - 1)) jb je) 255 car fr to := by
  have h6 : zin (6 : Int32) 399 = true := by decide
  have h66 : zix (6 : Int32) = 6 := by decide
  have hs : ∀ (K : (Int32 × Zw) → Option (Unit × Zw)) (i : Nat) (b : Nat → Int32), i < 95 → True → f_X8_notes_b17 S 255 car fr to K (ii (299 + i)) (zMo w b jb je) = K (ii (299 + (i + 1)), zMo w (pShS i b) jb je) ∧ True := by
    intro K i b hi _
    refine ⟨?_, trivial⟩
    unfold f_X8_notes_b17
    have e5 : ii (299 + i) + 5 = ii (299 + i + 5) := ii_add _ 5
    have e1 : ii (299 + i) + 1 = ii (299 + (i + 1)) := ii_add _ 1
    have hc : ¬ (399 : Int32) ≤ ii (299 + i + 5) := by
      show ¬ ii 399 ≤ ii (299 + i + 5)
      rw [ii_le (by omega) (by omega)]
      omega
    rw [e5, if_neg hc, e1, zt255_1 hL, ztl256 hL, if_pos (zin_t (show 299 + i + 5 < 399 by omega) (by omega)), if_pos (zin_t (show 299 + i < 399 by omega) (by omega)), zix_ii (show 299 + i + 5 < 2147483648 by omega), zix_ii (show 299 + i < 2147483648 by omega), zlet_eq, zMo_6, zMo_put]
    rfl
  have he : ∀ (K : (Int32 × Zw) → Option (Unit × Zw)) (b : Nat → Int32), True → f_X8_notes_b17 S 255 car fr to K (ii (299 + 95)) (zMo w b jb je) = f_X8_notes_j60 S (zMo w (upd b 6 (b 6 - 1)) jb je) 255 car fr to := by
    intro K b _
    unfold f_X8_notes_b17
    rw [if_pos (by decide), zt255_1 hL, ztl256 hL, if_pos h6, if_pos h6, zlet_eq, h66, zMo_6, zMo_put]
  have h := zlp_for (F := fun K a => f_X8_notes_b17 S 255 car fr to K a.1 a.2) (fun i (b : Nat → Int32) => (ii (299 + i), zMo w b jb je)) 95 pShS (fun b => f_X8_notes_j60 S (zMo w (upd b 6 (b 6 - 1)) jb je) 255 car fr to) (fun _ _ => True) hs he 95 0 s rfl trivial zFU (by decide)
  rw [pShift_fold] at h
  exact h.1
end ZNT
