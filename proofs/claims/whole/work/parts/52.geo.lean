/-! THE PURE STATE: s, in the reference's own order of places (0 time, 1 came, 2 gone, 3 moved, 4 lasted, 5 ended, 6 kept, 7 + 3 m machines, 19 + b closed, 79 + b car in, 139 + 4 c cars, 299 + 5 j jobs). -/
section ZGEO
def pLv (b : Nat) : Nat := b / 20
def pCo (b : Nat) : Nat := b % 10 / 2
def pWide (b : Nat) : Bool := decide (b % 10 / 2 % 2 = 0)
theorem geo7 : ∀ b, b < 60 → f_X7_levelOf (ii b) = ii (b / 20) ∧ f_X7_columnOf (ii b) = ii (b % 10 / 2) ∧ f_X7_depthOf (ii b) = ii (b % 2) ∧ f_X7_sideOf (ii b) = ii (b % 20 / 10) ∧ f_X7_isWide (ii b) = some (if pWide b = true then 1 else 0) := by decide +kernel
theorem geo8 : ∀ b, b < 60 → f_X8_level (ii b) = ii (b / 20) ∧ f_X8_column (ii b) = ii (b % 10 / 2) ∧ f_X8_depth (ii b) = ii (b % 2) ∧ f_X8_side (ii b) = ii (b % 20 / 10) ∧ f_X8_isWide (ii b) = some (if pWide b = true then 1 else 0) := by decide +kernel
def pEff (fr : Int32) (b : Nat) : Int32 := (f_X8_effort fr (ii b)).getD 0
theorem pEff_8 : ∀ b, b < 60 → f_X8_effort (-1) (ii b) = some (pEff (-1) b) := by decide +kernel
theorem pEff_8a : ∀ a, a < 60 → ∀ b, b < 60 → f_X8_effort (ii a) (ii b) = some (pEff (ii a) b) := by decide +kernel
theorem pEff_7 : ∀ b, b < 60 → f_X7_effortToStore (ii b) = pEff (-1) b := by decide +kernel
theorem pEff_7a : ∀ a, a < 60 → ∀ b, b < 60 → f_X7_effortToMove (ii a) (ii b) = some (pEff (ii a) b) := by decide +kernel
def pFr (fr : Int32) : Prop := fr = -1 ∨ ∃ a, a < 60 ∧ fr = ii a
theorem pEff_8f {fr : Int32} (h : pFr fr) {b : Nat} (hb : b < 60) : f_X8_effort fr (ii b) = some (pEff fr b) := by
  rcases h with rfl | ⟨a, ha, rfl⟩
  · exact pEff_8 b hb
  · exact pEff_8a a ha b hb
/-- the state's order: came n, gone k, moved v -/
def zI (s : Nat → Int32) (n k v : Nat) : Prop :=
  s 1 = ii n ∧ s 2 = ii k ∧ s 3 = ii v ∧ k ≤ n ∧ n ≤ 40 ∧ v ≤ 1000000 ∧ s 6 = ii (min (n + k + v) 20) ∧ (0 ≤ s 0 ∧ s 0 ≤ 9999) ∧
  (∀ b, b < 60 → s (19 + b) = 0 ∨ s (19 + b) = 1) ∧
  (∀ b, b < 60 → s (79 + b) = -1 ∨ ∃ c, c < n ∧ s (79 + b) = ii c ∧ s (139 + 4 * c + 2) = ii b) ∧
  (∀ c, c < n → s (139 + 4 * c + 2) = -1 ∨ ∃ b, b < 60 ∧ s (139 + 4 * c + 2) = ii b ∧ s (79 + b) = ii c) ∧
  (∀ m, m < 4 → 0 ≤ s (7 + 3 * m) ∧ s (7 + 3 * m) ≤ 4 ∧ (m = 3 → s (7 + 3 * m) ≤ 2) ∧ 0 ≤ s (7 + 3 * m + 1) ∧ s (7 + 3 * m + 1) ≤ ii (9999 + 200 * (n + k + v)))
/-- a machine's cell -/
def zmc (g m : Nat) : Nat := if m = 3 then g + 10 else g + 13 + m
def zoff (T : Nat) : Nat := if T < 20 then 0 else T
/-- the class's garage at g shows the state s -/
def RG (w : Zw) (g : Nat) (s : Nat → Int32) (T : Nat) : Prop :=
  (∀ b, b < 60 → w (g + 1) b = s (19 + b)) ∧ (∀ b, b < 60 → w (g + 2) b = s (79 + b)) ∧
  (∀ c, c < 40 → w (g + 3) c = s (139 + 4 * c) ∧ w (g + 4) c = s (139 + 4 * c + 1) ∧ w (g + 5) c = s (139 + 4 * c + 2) ∧ w (g + 6) c = s (139 + 4 * c + 3)) ∧
  (w g 8 = s 1 ∧ w g 9 = s 1 - s 2 ∧ w g 10 = s 3 ∧ w (g + 8) 3 = s 0 ∧ w (g + 11) 1 = s 1 + s 2 + s 3 ∧ w (g + 11) 2 = s 4 ∧ w (g + 11) 3 = s 5) ∧
  (∀ m, m < 4 → w (zmc g m) 0 = (if m = 3 then 3 else 1) ∧ w (zmc g m) 1 = s (7 + 3 * m) ∧ w (zmc g m) 2 = s (7 + 3 * m + 1) ∧ w (zmc g m) 3 = s (7 + 3 * m + 2)) ∧
  (∀ j p, j < 20 → p < 5 → w (g + 12) ((zoff T + j) % 20 * 5 + p) = s (299 + 5 * j + p))
def pBad (s : Nat → Int32) (b : Nat) (pk : Int32) : Bool := decide (b % 2 = 0) && (decide (s (79 + (b + 1)) ≠ -1) && decide (s (139 + 4 * zix (s (79 + (b + 1))) + 1) < pk))
def pCand (s : Nat → Int32) (size : Int32) (b : Nat) : Bool := decide (s (19 + b) = 0) && (decide (s (79 + b) = -1) && ((decide (size ≠ 1) || pWide b) && (decide (b % 2 = 0) || decide (s (79 + (b - 1)) = -1))))
def pRank (s : Nat → Int32) (pk fr : Int32) (b : Nat) : Int32 := pEff fr b + (if pBad s b pk = true then 1000 else 0)
def pStep (s : Nat → Int32) (size pk fr : Int32) (b : Nat) (a : Int32 × Int32) : Int32 × Int32 :=
  if pCand s size b = true then (if a.1 = -1 ∨ pRank s pk fr b < a.2 then (ii b, pRank s pk fr b) else a) else a
def pCh (s : Nat → Int32) (size pk fr : Int32) : Int32 := (zfold (pStep s size pk fr) 0 60 (-1, 0)).1
end ZGEO
