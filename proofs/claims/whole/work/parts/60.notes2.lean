/-! THE REFERENCE notes a job. -/
section ZN2
variable {S : Zs} {w : Zw} {s : Nat → Int32} {jb je : Int32}
/-- the row r, kept counted, sums, the car's jobs and bay -/
def pN1 (s : Nat → Int32) (r c : Nat) (fr to jb je : Int32) : Nat → Int32 :=
  let s1 := upd (upd (upd (upd (upd s (299 + 5 * r) (ii c)) (299 + 5 * r + 1) fr) (299 + 5 * r + 2) to) (299 + 5 * r + 3) jb) (299 + 5 * r + 4) je
  let s2 := upd s1 6 (s1 6 + 1)
  let s3 := upd s2 4 (s2 4 + (je - jb))
  let s4 := upd s3 5 (zmax (s3 5) je)
  let s5 := upd s4 (139 + 4 * c + 3) (s4 (139 + 4 * c + 3) + 1)
  upd s5 (139 + 4 * c + 2) to
def pN2 (s : Nat → Int32) (x : Int32) (y : Int32) : Nat → Int32 := if x < 0 then s else upd s (79 + zix x) y
theorem n8_j224 (hL : zLay S) (c : Nat) {to : Int32} (ht : pFr to) : f_X8_notes_j224 S (zMo w s jb je) 255 (ii c) to = some ((), zMo w (pN2 s to (ii c)) jb je) := by
  unfold f_X8_notes_j224 pN2
  rcases ht with rfl | ⟨b, hb, rfl⟩
  · rw [if_pos (by decide), if_pos (by decide)]
  · have hn : ¬ ii b < 0 := by
      have := ii_nn (b := b) (by omega)
      grind
    have e : (79 : Int32) + ii b = ii (79 + b) := ii_add 79 b
    rw [if_neg hn, if_neg hn, e, zt255_1 hL, ztl256 hL, if_pos (zin_t (show 79 + b < 399 by omega) (by omega)), zix_ii (show 79 + b < 2147483648 by omega), zix_ii (show b < 2147483648 by omega), zlet_eq, zMo_put]
end ZN2
