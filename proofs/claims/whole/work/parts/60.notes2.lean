/-! THE REFERENCE notes a job. -/
section ZN2
variable {S : Zs} {w : Zw} {s : Nat → Int32} {jb je : Int32}
/-- the row r, kept counted, sums, the car's jobs and bay -/
def pN1 (s : Nat → Int32) (r c : Nat) (fr to jb je : Int32) : Nat → Int32 :=
  let s1 := upd (upd (upd (upd (upd s (299 + 5 * r) (ii c)) (299 + 5 * r + 1) fr) (299 + 5 * r + 2) to) (299 + 5 * r + 3) jb) (299 + 5 * r + 4) je
  let s2 := upd s1 6 (s1 6 + 1)
  let s3 := upd s2 4 (s2 4 + (je - jb))
  let s4 := upd s3 5 (zmax (s3 5) je)
  let s5 := upd s4 (139 + 4 * c + 3) (s4 (139 + 4 * c + 3) + 1)
  upd s5 (139 + 4 * c + 2) to
def pN2 (s : Nat → Int32) (x : Int32) (y : Int32) : Nat → Int32 := if x < 0 then s else upd s (79 + zix x) y
theorem n8_j224 (hL : zLay S) (c : Nat) {to : Int32} (ht : pFr to) : f_X8_notes_j224 S (zMo w s jb je) 255 (ii c) to = some ((), zMo w (pN2 s to (ii c)) jb je) := by
  unfold f_X8_notes_j224 pN2
  rcases ht with rfl | ⟨b, hb, rfl⟩
  · rw [if_pos (by decide), if_pos (by decide)]
  · have hn : ¬ ii b < 0 := by
      have := ii_nn (b := b) (by omega)
      grind
    have e : (79 : Int32) + ii b = ii (79 + b) := ii_add 79 b
    rw [if_neg hn, if_neg hn, e, zt255_1 hL, ztl256 hL, if_pos (zin_t (show 79 + b < 399 by omega) (by omega)), zix_ii (show 79 + b < 2147483648 by omega), zix_ii (show b < 2147483648 by omega), zlet_eq, zMo_put]
theorem n8_j60 (hL : zLay S) {r c : Nat} (hr : s 6 = ii r) (hr2 : r < 20) (hc : c < 40) {fr to : Int32} (hf : pFr fr) (ht : pFr to) : f_X8_notes_j60 S (zMo w s jb je) 255 (ii c) fr to = some ((), zMo w (pN2 (pN2 (pN1 s r c fr to jb je) fr (-1)) to (ii c)) jb je) := by
  have h6 : zin (6 : Int32) 399 = true := by decide
  have h4 : zin (4 : Int32) 399 = true := by decide
  have h5 : zin (5 : Int32) 399 = true := by decide
  have h66 : zix (6 : Int32) = 6 := by decide
  have h44 : zix (4 : Int32) = 4 := by decide
  have h55 : zix (5 : Int32) = 5 := by decide
  have b0 : (299 : Int32) + (5 : Int32) * ii r = ii (299 + 5 * r) := by
    have e1 : (5 : Int32) * ii r = ii (5 * r) := ii_mul 5 r
    have e2 : (299 : Int32) + ii (5 * r) = ii (299 + 5 * r) := ii_add 299 _
    rw [e1, e2]
  have b1 : ii (299 + 5 * r) + 1 = ii (299 + 5 * r + 1) := ii_add _ 1
  have b2 : ii (299 + 5 * r) + 2 = ii (299 + 5 * r + 2) := ii_add _ 2
  have b3 : ii (299 + 5 * r) + 3 = ii (299 + 5 * r + 3) := ii_add _ 3
  have b4 : ii (299 + 5 * r) + 4 = ii (299 + 5 * r + 4) := ii_add _ 4
  have c0 : (139 : Int32) + (4 : Int32) * ii c = ii (139 + 4 * c) := by
    have e1 : (4 : Int32) * ii c = ii (4 * c) := ii_mul 4 c
    have e2 : (139 : Int32) + ii (4 * c) = ii (139 + 4 * c) := ii_add 139 _
    rw [e1, e2]
  have c2 : ii (139 + 4 * c) + 2 = ii (139 + 4 * c + 2) := ii_add _ 2
  have c3 : ii (139 + 4 * c) + 3 = ii (139 + 4 * c + 3) := ii_add _ 3
  unfold f_X8_notes_j60
  simp only [zlet_eq, zt255_1 hL, ztl256 hL, h6, h4, h5, h66, h44, h55, if_true, zMo_6, hr, b0, b1, b2, b3, b4, c0, c2, c3, zMo_put, zMo_8, zMo_9, zin_t (show 299 + 5 * r < 399 by omega) (by omega), zin_t (show 299 + 5 * r + 1 < 399 by omega) (by omega), zin_t (show 299 + 5 * r + 2 < 399 by omega) (by omega), zin_t (show 299 + 5 * r + 3 < 399 by omega) (by omega), zin_t (show 299 + 5 * r + 4 < 399 by omega) (by omega), zin_t (show 139 + 4 * c + 2 < 399 by omega) (by omega), zin_t (show 139 + 4 * c + 3 < 399 by omega) (by omega), zix_ii (show 299 + 5 * r < 2147483648 by omega), zix_ii (show 299 + 5 * r + 1 < 2147483648 by omega), zix_ii (show 299 + 5 * r + 2 < 2147483648 by omega), zix_ii (show 299 + 5 * r + 3 < 2147483648 by omega), zix_ii (show 299 + 5 * r + 4 < 2147483648 by omega), zix_ii (show 139 + 4 * c + 2 < 2147483648 by omega), zix_ii (show 139 + 4 * c + 3 < 2147483648 by omega)]
  rcases hf with rfl | ⟨b, hb, rfl⟩
  · rw [if_pos (by decide), n8_j224 hL c ht]
    rfl
  · have hn : ¬ ii b < 0 := by
      have := ii_nn (b := b) (by omega)
      grind
    have e : (79 : Int32) + ii b = ii (79 + b) := ii_add 79 b
    have ep : ∀ s9 : Nat → Int32, pN2 s9 (ii b) (-1) = upd s9 (79 + b) (-1) := by
      intro s9
      unfold pN2
      rw [if_neg hn, zix_ii (show b < 2147483648 by omega)]
    rw [if_neg hn, e, if_pos (zin_t (show 79 + b < 399 by omega) (by omega)), zix_ii (show 79 + b < 2147483648 by omega), n8_j224 hL c ht, ep]
    rfl
def pSh (s : Nat → Int32) : Nat → Int32 := if s 6 = 20 then upd (pShift s 95) 6 19 else s
def pNotes (s : Nat → Int32) (r c : Nat) (fr to jb je : Int32) : Nat → Int32 := pN2 (pN2 (pN1 (pSh s) r c fr to jb je) fr (-1)) to (ii c)
theorem n8_notes (hL : zLay S) {q c : Nat} (hq : s 6 = ii q) (hq2 : q ≤ 20) (hc : c < 40) {fr to : Int32} (hf : pFr fr) (ht : pFr to) : f_X8_notes S (zMo w s jb je) 255 (ii c) fr to = some ((), zMo w (pNotes s (min q 19) c fr to jb je) jb je) := by
  have h6 : zin (6 : Int32) 399 = true := by decide
  have h66 : zix (6 : Int32) = 6 := by decide
  unfold f_X8_notes
  rw [zt255_1 hL, ztl256 hL, if_pos h6, h66, zMo_6]
  by_cases h : q = 20
  · subst h
    have e20 : s 6 = 20 := hq
    have es : pShift s 95 6 - 1 = 19 := by
      have : pShift s 95 6 = s 6 := by
        unfold pShift
        rw [if_neg (by omega)]
      rw [this, e20]
      decide
    rw [if_pos e20, n8_loop hL, es]
    have h9 := n8_j60 (w := w) (jb := jb) (je := je) (s := upd (pShift s 95) 6 19) hL (r := 19) (by simp [upd]; rfl) (by omega) hc hf ht
    rw [h9]
    unfold pNotes pSh
    rw [if_pos e20]
    rfl
  · have e20 : ¬ s 6 = 20 := by
      rw [hq, show (20 : Int32) = ii 20 from rfl, ii_eq (by omega) (by omega)]
      exact h
    have hm : min q 19 = q := by omega
    rw [if_neg e20, n8_j60 hL hq (by omega) hc hf ht, hm]
    unfold pNotes pSh
    rw [if_neg e20]
end ZN2
