/-! WHAT a note of a job leaves at each place. -/
section ZPN
variable {s : Nat → Int32} {r c q : Nat} {fr to jb je : Int32}
theorem upd_at {f : Nat → Int32} {k : Nat} {x : Int32} : upd f k x k = x := by simp [upd]
theorem upd_ne {f : Nat → Int32} {k j : Nat} {x : Int32} (h : j ≠ k) : upd f k x j = f j := by simp [upd, h]
theorem pN2_n {y : Int32} : pN2 s (-1) y = s := by
  unfold pN2
  rw [if_pos (by decide)]
theorem pN2_i {b : Nat} (hb : b < 60) {y : Int32} : pN2 s (ii b) y = upd s (79 + b) y := by
  have hn : ¬ ii b < 0 := by
    have := ii_nn (b := b) (by omega)
    grind
  unfold pN2
  rw [if_neg hn, zix_ii (by omega)]
theorem pN2_o {x y : Int32} (hx : pFr x) {i : Nat} (h : i < 79 ∨ 139 ≤ i) : pN2 s x y i = s i := by
  rcases hx with rfl | ⟨b, hb, rfl⟩
  · rw [pN2_n]
  · rw [pN2_i hb, upd_ne (by omega)]
theorem pSh_o {i : Nat} (h : i < 299) (h6 : i ≠ 6) : pSh s i = s i := by
  unfold pSh
  split
  · rw [upd_ne h6]
    unfold pShift
    rw [if_neg (by omega)]
  · rfl
theorem pN1_lo {i : Nat} (h : i < 4 ∨ (7 ≤ i ∧ i < 139)) : pN1 s r c fr to jb je i = s i := by
  unfold pN1
  simp (disch := omega) only [upd_ne]
theorem pNotes_lo (hf : pFr fr) (ht : pFr to) {i : Nat} (h : i < 4 ∨ (7 ≤ i ∧ i < 79)) : pNotes s r c fr to jb je i = s i := by
  unfold pNotes
  rw [pN2_o ht (by omega), pN2_o hf (by omega), pN1_lo (by omega), pSh_o (by omega) (by omega)]
theorem pNotes_4 (hf : pFr fr) (ht : pFr to) : pNotes s r c fr to jb je 4 = s 4 + (je - jb) := by
  unfold pNotes
  rw [pN2_o ht (by omega), pN2_o hf (by omega)]
  unfold pN1
  simp (disch := omega) only [upd_ne, upd_at]
  rw [pSh_o (by omega) (by omega)]
theorem pNotes_5 (hf : pFr fr) (ht : pFr to) : pNotes s r c fr to jb je 5 = zmax (s 5) je := by
  unfold pNotes
  rw [pN2_o ht (by omega), pN2_o hf (by omega)]
  unfold pN1
  simp (disch := omega) only [upd_ne, upd_at]
  rw [pSh_o (by omega) (by omega)]
theorem pNotes_6 (hf : pFr fr) (ht : pFr to) (hq : s 6 = ii q) (hq2 : q ≤ 20) : pNotes s (min q 19) c fr to jb je 6 = ii (min (q + 1) 20) := by
  unfold pNotes
  rw [pN2_o ht (by omega), pN2_o hf (by omega)]
  unfold pN1
  simp (disch := omega) only [upd_ne, upd_at]
  have h20 : s 6 = 20 ↔ q = 20 := by
    rw [hq, show (20 : Int32) = ii 20 from rfl, ii_eq (by omega) (by omega)]
  unfold pSh
  by_cases h : q = 20
  · rw [if_pos (h20.mpr h), upd_at, h]
    rfl
  · rw [if_neg (fun z => h (h20.mp z)), hq, show (1 : Int32) = ii 1 from rfl, ii_add]
    congr 1
    omega
theorem pNotes_car (hf : pFr fr) (ht : pFr to) {c' p : Nat} (hc : c' < 40) (hp : p < 4) : pNotes s r c fr to jb je (139 + 4 * c' + p) = if c' = c ∧ p = 2 then to else if c' = c ∧ p = 3 then s (139 + 4 * c + 3) + 1 else s (139 + 4 * c' + p) := by
  unfold pNotes
  rw [pN2_o ht (by omega), pN2_o hf (by omega)]
  unfold pN1
  by_cases h1 : c' = c
  · subst h1
    by_cases h2 : p = 2
    · subst h2
      rw [if_pos ⟨rfl, rfl⟩, upd_at]
    · by_cases h3 : p = 3
      · subst h3
        rw [if_neg (by omega), if_pos ⟨rfl, rfl⟩]
        simp (disch := omega) only [upd_ne, upd_at]
        rw [pSh_o (by omega) (by omega)]
      · rw [if_neg (by omega), if_neg (by omega)]
        simp (disch := omega) only [upd_ne]
        rw [pSh_o (by omega) (by omega)]
  · rw [if_neg (by omega), if_neg (by omega)]
    simp (disch := omega) only [upd_ne]
    rw [pSh_o (by omega) (by omega)]
theorem pNotes_in (ht : pFr to) (hf : pFr fr) {b : Nat} (hb : b < 60) : pNotes s r c fr to jb je (79 + b) = if to = ii b then ii c else if fr = ii b then -1 else s (79 + b) := by
  have h1 : pN1 (pSh s) r c fr to jb je (79 + b) = s (79 + b) := by rw [pN1_lo (by omega), pSh_o (by omega) (by omega)]
  have hm : (-1 : Int32) ≠ ii b := fun e => ii_ne (b := b) (by omega) e.symm
  have h2 : pN2 (pN1 (pSh s) r c fr to jb je) fr (-1) (79 + b) = if fr = ii b then -1 else s (79 + b) := by
    rcases hf with rfl | ⟨a, ha, rfl⟩
    · rw [pN2_n, if_neg hm, h1]
    · rw [pN2_i ha]
      by_cases e : a = b
      · subst e
        rw [upd_at, if_pos rfl]
      · rw [upd_ne (by omega), if_neg (fun z => e (by rwa [ii_eq (by omega) (by omega)] at z)), h1]
  unfold pNotes
  rcases ht with rfl | ⟨a, ha, rfl⟩
  · rw [pN2_n, if_neg hm, h2]
  · rw [pN2_i ha]
    by_cases e : a = b
    · subst e
      rw [upd_at, if_pos rfl]
    · rw [upd_ne (by omega), if_neg (fun z => e (by rwa [ii_eq (by omega) (by omega)] at z)), h2]
/-- the row of a job -/
def pRow (c : Nat) (fr to jb je : Int32) (p : Nat) : Int32 := if p = 0 then ii c else if p = 1 then fr else if p = 2 then to else if p = 3 then jb else je
theorem pNotes_row (hcc : c < 40) (hf : pFr fr) (ht : pFr to) (hq : s 6 = ii q) (hq2 : q ≤ 20) {j p : Nat} (hj : j < 20) (hp : p < 5) : pNotes s (min q 19) c fr to jb je (299 + 5 * j + p) = if j = min q 19 then pRow c fr to jb je p else if q = 20 then s (299 + 5 * (j + 1) + p) else s (299 + 5 * j + p) := by
  have h20 : s 6 = 20 ↔ q = 20 := by
    rw [hq, show (20 : Int32) = ii 20 from rfl, ii_eq (by omega) (by omega)]
  unfold pNotes
  rw [pN2_o ht (by omega), pN2_o hf (by omega)]
  unfold pN1
  by_cases h1 : j = min q 19
  · subst h1
    rw [if_pos rfl]
    have h5 : p = 0 ∨ p = 1 ∨ p = 2 ∨ p = 3 ∨ p = 4 := by omega
    rcases h5 with rfl | rfl | rfl | rfl | rfl <;> simp (disch := omega) [upd_ne, upd_at, pRow]
  · rw [if_neg h1]
    generalize hr : min q 19 = r at h1 ⊢
    simp (disch := omega) only [upd_ne]
    unfold pSh
    by_cases h : q = 20
    · rw [if_pos (h20.mpr h), if_pos h, upd_ne (by omega)]
      unfold pShift
      rw [if_pos (by omega)]
      congr 1
      omega
    · rw [if_neg (fun z => h (h20.mp z)), if_neg h]
end ZPN
