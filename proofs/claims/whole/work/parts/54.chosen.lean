/-! CHOOSING A BAY, the reference's side: its state is the array at 256. -/
section ZC8
variable {S : Zs} {w : Zw} {n k v : Nat}
theorem ii_add' (a : Nat) (b : Nat) : Int32.ofNat a + ii b = ii (a + b) := ii_add a b
theorem ii_mul (a b : Nat) : ii a * ii b = ii (a * b) := (Int32.ofNat_mul a b).symm
theorem neg1_lt : (-1 : Int32) < 0 := by decide
theorem c8_isEmpty (hL : zLay S) (hI : zI (w 256) n k v) {b : Nat} (hb : b < 60) : f_X8_isEmpty S w 255 (ii b) = some (if w 256 (79 + b) = -1 then 1 else 0) := by
  unfold f_X8_isEmpty
  have e : (79 : Int32) + ii b = ii (79 + b) := ii_add 79 b
  rw [e, zt255_1 hL, ztl256 hL, if_pos (zin_t (by omega) (by omega)), zix_ii (by omega)]
  rcases hI.2.2.2.2.2.2.2.2.2.1 b hb with h | ⟨c, hc, h, -⟩
  · rw [h]; rfl
  · have hn := hI.2.2.2.2.1
    rw [h, if_pos (ii_nn (by omega)), if_neg (ii_ne (by omega))]
theorem c8_isReached (hL : zLay S) (hI : zI (w 256) n k v) {b : Nat} (hb : b < 60) : f_X8_isReached S w 255 (ii b) = some (if b % 2 = 0 ∨ w 256 (79 + (b - 1)) = -1 then 1 else 0) := by
  unfold f_X8_isReached
  rw [(geo8 b hb).2.2.1]
  have h0 : (0 : Int32) = ii 0 := rfl
  by_cases hp : b % 2 = 0
  · rw [if_pos (by rw [hp]; rfl), if_pos (Or.inl hp)]
  · rw [if_neg (by rw [h0, ii_eq (by omega) (by omega)]; exact hp), ii_sub1 (by omega), c8_isEmpty hL hI (by omega), Option.bind_some]
    by_cases h : w 256 (79 + (b - 1)) = -1
    · rw [if_pos h, if_neg (by decide), if_pos (Or.inr h)]
    · rw [if_neg h, if_pos rfl, if_neg (by simp [hp, h])]
theorem c8_of (hL : zLay S) {c q : Nat} (hc : c < 40) (hq : q < 4) : f_X8_of S w 255 (ii c) (ii q) = some (w 256 (139 + 4 * c + q)) := by
  unfold f_X8_of
  have e : (139 : Int32) + (4 : Int32) * ii c + ii q = ii (139 + 4 * c + q) := by
    have e1 : (4 : Int32) * ii c = ii (4 * c) := ii_mul 4 c
    have e2 : (139 : Int32) + ii (4 * c) = ii (139 + 4 * c) := ii_add 139 _
    rw [e1, e2, ii_add]
  rw [e, zt255_1 hL, ztl256 hL, if_pos (zin_t (by omega) (by omega)), zix_ii (by omega)]
theorem c8_pickup (hL : zLay S) {c : Nat} (hc : c < 40) : f_X8_pickup S w 255 (ii c) = some (w 256 (139 + 4 * c + 1)) := by
  unfold f_X8_pickup
  rw [show (1 : Int32) = ii 1 from rfl, c8_of hL hc (by omega)]
  rfl
theorem c8_bayOf (hL : zLay S) {c : Nat} (hc : c < 40) : f_X8_bayOf S w 255 (ii c) = some (w 256 (139 + 4 * c + 2)) := by
  unfold f_X8_bayOf
  rw [show (2 : Int32) = ii 2 from rfl, c8_of hL hc (by omega)]
  rfl
theorem c8_isBad (hL : zLay S) (hI : zI (w 256) n k v) {b : Nat} (hb : b < 60) (pk : Int32) : f_X8_isBad S w 255 (ii b) pk = some (if pBad (w 256) b pk = true then 1 else 0) := by
  unfold f_X8_isBad
  rw [(geo8 b hb).2.2.1]
  have h0 : (0 : Int32) = ii 0 := rfl
  by_cases hp : b % 2 = 0
  · have e : (79 : Int32) + ii b + 1 = ii (79 + (b + 1)) := by
      have e1 : (79 : Int32) + ii b = ii (79 + b) := ii_add 79 b
      rw [e1, ii_succ, Nat.add_assoc]
    rw [if_pos (by rw [hp]; rfl), ii_succ, c8_isEmpty hL hI (by omega), Option.bind_some, e, zt255_1 hL, ztl256 hL, zix_ii (by omega)]
    rcases hI.2.2.2.2.2.2.2.2.2.1 (b + 1) (by omega) with he | ⟨c, hc, he, hbc⟩
    · rw [if_pos he, if_neg (by decide)]
      simp [pBad, he]
    · have hn := hI.2.2.2.2.1
      have he' : ¬ w 256 (79 + (b + 1)) = -1 := by rw [he]; exact ii_ne (by omega)
      rw [if_neg he', if_pos (show (0 : Int32) = 0 from rfl), if_pos (zin_t (show 79 + (b + 1) < 399 by omega) (by omega)), he, c8_pickup hL (by omega), Option.bind_some]
      have hne : ii c ≠ -1 := ii_ne (by omega)
      simp only [pBad, hp, he, zix_ii (show c < 2147483648 by omega), decide_true, Bool.true_and, ne_eq, hne, not_false_eq_true, decide_eq_true_eq]
      by_cases hlt : w 256 (139 + 4 * c + 1) < pk
      · rw [if_neg (by grind), if_pos hlt]
      · rw [if_pos (by grind), if_neg hlt]
  · rw [if_neg (by rw [h0, ii_eq (by omega) (by omega)]; exact hp)]
    simp [pBad, hp]
def pOkA (a : Int32 × Int32) : Prop := pFr a.1
theorem pStep_ok {s : Nat → Int32} {size pk fr : Int32} {b : Nat} (hb : b < 60) {a : Int32 × Int32} (h : pOkA a) : pOkA (pStep s size pk fr b a) := by
  unfold pStep
  split
  · split
    · exact Or.inr ⟨b, hb, rfl⟩
    · exact h
  · exact h
theorem pFr_neg {x : Int32} (h : pFr x) : x < 0 ↔ x = -1 := by
  rcases h with rfl | ⟨a, ha, rfl⟩
  · simp [neg1_lt]
  · have h1 := ii_nn (b := a) (by omega)
    have h2 := ii_ne (b := a) (by omega)
    constructor
    · intro h; grind
    · intro h; exact absurd h h2
theorem c8_j52 (hL : zLay S) (hI : zI (w 256) n k v) {size pk fr : Int32} (hf : pFr fr) {b : Nat} (hb : b < 60) {a : Int32 × Int32} (ha : pOkA a) (K : (Int32 × Int32 × Int32) → Option Int32) :
    f_X8_chosen_j52 S w 255 size pk fr a.1 a.2 (ii b) K = if b % 2 = 0 ∨ w 256 (79 + (b - 1)) = -1 then (if a.1 = -1 ∨ pRank (w 256) pk fr b < a.2 then K (ii b, pRank (w 256) pk fr b, ii (b + 1)) else K (a.1, a.2, ii (b + 1))) else K (a.1, a.2, ii (b + 1)) := by
  have h87 : ∀ y : Int32, f_X8_chosen_j87 S w 255 size pk fr a.1 a.2 (ii b) y (pEff fr b) K = if a.1 = -1 ∨ pEff fr b + y < a.2 then K (ii b, pEff fr b + y, ii (b + 1)) else K (a.1, a.2, ii (b + 1)) := by
    intro y
    unfold f_X8_chosen_j87
    simp only [zlet, ii_succ]
    by_cases h1 : a.1 = -1
    · rw [if_pos ((pFr_neg ha).mpr h1), if_pos (Or.inl h1)]
    · rw [if_neg (fun q => h1 ((pFr_neg ha).mp q))]
      by_cases h2 : pEff fr b + y < a.2
      · rw [if_pos h2, if_pos (Or.inr h2)]
      · rw [if_neg h2, if_neg (by simp [h1, h2])]
  unfold f_X8_chosen_j52
  rw [c8_isReached hL hI hb, Option.bind_some, pEff_8f hf hb, Option.bind_some, c8_isBad hL hI hb, Option.bind_some, ii_succ, h87, h87]
  by_cases h1 : (b % 2 = 0 ∨ w 256 (79 + (b - 1)) = -1)
  · rw [if_pos h1, if_neg (by decide), if_pos h1]
    by_cases h2 : pBad (w 256) b pk = true
    · have e1 : (if pBad (w 256) b pk = true then (1000 : Int32) else 0) = 1000 := if_pos h2
      rw [if_pos h2, if_neg (by decide)]
      simp only [pRank, e1]
    · have e1 : (if pBad (w 256) b pk = true then (1000 : Int32) else 0) = 0 := if_neg h2
      rw [if_neg h2, if_pos rfl]
      simp only [pRank, e1]
  · rw [if_neg h1, if_pos rfl, if_neg h1]
theorem c8_step (hL : zLay S) (hI : zI (w 256) n k v) {size pk fr : Int32} (hf : pFr fr) {b : Nat} (hb : b < 60) {a : Int32 × Int32} (ha : pOkA a) (K : (Int32 × Int32 × Int32) → Option Int32) :
    f_X8_chosen_b9 S w 255 size pk fr K a.1 a.2 (ii b) = K ((pStep (w 256) size pk fr b a).1, (pStep (w 256) size pk fr b a).2, ii (b + 1)) := by
  unfold f_X8_chosen_b9
  have h60 : ¬ (60 : Int32) ≤ ii b := by
    show ¬ ii 60 ≤ ii b
    rw [ii_le (by omega) (by omega)]
    omega
  have e : (19 : Int32) + ii b = ii (19 + b) := ii_add 19 b
  rw [if_neg h60, e, zt255_1 hL, ztl256 hL, if_pos (zin_t (by omega) (by omega)), zix_ii (by omega), c8_isEmpty hL hI hb, Option.bind_some, (geo8 b hb).2.2.2.2, Option.bind_some, ii_succ, c8_j52 hL hI hf hb ha]
  unfold pStep pCand
  have hcl := hI.2.2.2.2.2.2.2.2.1 b hb
  by_cases h1 : w 256 (19 + b) = 0
  · rw [if_neg (by rw [h1]; decide)]
    by_cases h2 : w 256 (79 + b) = -1
    · rw [if_pos h2, if_neg (by decide)]
      by_cases h4 : (b % 2 = 0 ∨ w 256 (79 + (b - 1)) = -1)
      · rw [if_pos h4]
        by_cases h5 : size = 1
        · rw [if_pos h5]
          by_cases h6 : pWide b = true
          · have h7 : (decide (w 256 (19 + b) = 0) && (decide (w 256 (79 + b) = -1) && ((decide (size ≠ 1) || pWide b) && (decide (b % 2 = 0) || decide (w 256 (79 + (b - 1)) = -1))))) = true := by simp [h1, h2, h6, h4]
            rw [if_pos h7, if_pos h6, if_neg (by decide)]
            by_cases hq : a.1 = -1 ∨ pRank (w 256) pk fr b < a.2
            · rw [if_pos hq, if_pos hq]
            · rw [if_neg hq, if_neg hq]
          · simp [h1, h2, h5, h6]
        · rw [if_neg h5]
          have h7 : (decide (w 256 (19 + b) = 0) && (decide (w 256 (79 + b) = -1) && ((decide (size ≠ 1) || pWide b) && (decide (b % 2 = 0) || decide (w 256 (79 + (b - 1)) = -1))))) = true := by simp [h1, h2, h5, h4]
          rw [if_pos h7]
          by_cases hq : a.1 = -1 ∨ pRank (w 256) pk fr b < a.2
          · rw [if_pos hq, if_pos hq]
          · rw [if_neg hq, if_neg hq]
      · rw [if_neg h4]
        have h7 : ¬ (decide (w 256 (19 + b) = 0) && (decide (w 256 (79 + b) = -1) && ((decide (size ≠ 1) || pWide b) && (decide (b % 2 = 0) || decide (w 256 (79 + (b - 1)) = -1))))) = true := by
          simp only [Bool.and_eq_true, Bool.or_eq_true, decide_eq_true_eq]
          exact fun q => h4 q.2.2.2
        rw [if_neg h7]
        by_cases h5 : size = 1
        · rw [if_pos h5]
          split <;> rfl
        · rw [if_neg h5]
    · rw [if_neg h2, if_pos rfl]
      simp [h2]
  · have h1' : w 256 (19 + b) = 1 := by rcases hcl with h | h; exact absurd h h1; exact h
    rw [if_pos h1']
    simp [h1]
theorem c8_choose (hL : zLay S) (hI : zI (w 256) n k v) {size pk fr : Int32} (hf : pFr fr) : f_X8_chosen S w 255 size pk fr = some (pCh (w 256) size pk fr) ∧ pFr (pCh (w 256) size pk fr) := by
  have hs : ∀ (K : (Int32 × Int32 × Int32) → Option Int32) (i : Nat) (b : Int32 × Int32), i < 60 → pOkA b → f_X8_chosen_b9 S w 255 size pk fr K b.1 b.2 (ii i) = K ((pStep (w 256) size pk fr i b).1, (pStep (w 256) size pk fr i b).2, ii (i + 1)) ∧ pOkA (pStep (w 256) size pk fr i b) := by
    intro K i b hi hb
    constructor
    · exact c8_step hL hI hf hi hb K
    · exact pStep_ok hi hb
  have he : ∀ (K : (Int32 × Int32 × Int32) → Option Int32) (b : Int32 × Int32), pOkA b → f_X8_chosen_b9 S w 255 size pk fr K b.1 b.2 (ii 60) = some b.1 := by
    intro K b _
    unfold f_X8_chosen_b9
    rw [if_pos (by decide)]
  have h := zlp_for (F := fun K a => f_X8_chosen_b9 S w 255 size pk fr K a.1 a.2.1 a.2.2) (fun i (b : Int32 × Int32) => (b.1, b.2, ii i)) 60 (pStep (w 256) size pk fr) (fun b => some b.1) (fun _ b => pOkA b) hs he 60 0 (-1, 0) rfl (Or.inl rfl) zFU (by decide)
  exact ⟨h.1, h.2⟩
end ZC8
