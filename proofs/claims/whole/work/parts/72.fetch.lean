/-! CARS FETCHED, both sides. -/
section ZFE
theorem zI_carIn {s : Nat → Int32} {n k v b : Nat} (hI : zI s n k v) (hb : b < 60) : s (79 + b) = -1 ∨ ∃ c, c < n ∧ s (79 + b) = ii c ∧ s (139 + 4 * c + 2) = ii b := hI.2.2.2.2.2.2.2.2.2.1 b hb
theorem zI_carBay {s : Nat → Int32} {n k v c : Nat} (hI : zI s n k v) (hc : c < n) : s (139 + 4 * c + 2) = -1 ∨ ∃ b, b < 60 ∧ s (139 + 4 * c + 2) = ii b ∧ s (79 + b) = ii c := hI.2.2.2.2.2.2.2.2.2.2.1 c hc
theorem zI_n {s : Nat → Int32} {n k v : Nat} (hI : zI s n k v) : n ≤ 40 := hI.2.2.2.2.1
def pStored (s : Nat → Int32) (n : Nat) (a : Int32) : Bool := decide (0 ≤ a) && (decide (zix a < n) && decide (s (139 + 4 * zix a + 2) ≠ -1))
theorem pStored_ii {s : Nat → Int32} {n c : Nat} (hc : c < 2147483648) : pStored s n (ii c) = true ↔ c < n ∧ s (139 + 4 * c + 2) ≠ -1 := by
  unfold pStored
  rw [zix_ii hc]
  have := ii_nn hc
  simp [this]
theorem pStored_of {s : Nat → Int32} {n k v : Nat} {a : Int32} (hI : zI s n k v) (h : pStored s n a = true) : ∃ c b, c < n ∧ a = ii c ∧ b < 60 ∧ s (139 + 4 * c + 2) = ii b ∧ s (79 + b) = ii c := by
  unfold pStored at h
  simp only [Bool.and_eq_true, decide_eq_true_eq] at h
  obtain ⟨h1, h2, h3⟩ := h
  have e := ii_zix h1
  rcases zI_carBay hI h2 with g | ⟨b, hb, g1, g2⟩
  · exact absurd g h3
  · exact ⟨zix a, b, h2, e, hb, g1, g2⟩
section
variable {S : Zs} {w : Zw} {g c b d n k v : Nat} {s : Nat → Int32}
theorem c7_isStored (hG : zGar S g) (hR : RG w g s (n + k + v)) (hI : zI s n k v) (a : Int32) : f_X1_isStored S w g a = some (if pStored s n a = true then 1 else 0) := by
  have hn := zI_n hI
  unfold f_X1_isStored
  by_cases h0 : a < 0
  · rw [if_pos h0, if_neg]
    intro h
    obtain ⟨c, b, hc, rfl, -⟩ := pStored_of hI h
    have := ii_nn (b := c) (by omega)
    grind
  · rw [if_neg h0]
    have h1 : 0 ≤ a := by grind
    have e := ii_zix h1
    have hz := zix_lt31 a
    generalize zix a = c at e hz
    subst e
    rw [hR.2.2.2.1.1, hI.1]
    by_cases h2 : c < n
    · rw [if_neg (by rw [ii_le (by omega) hz]; omega), zg0_4 hG, zgl5 hG, if_pos (zin_t (by omega) hz), (hR.2.2.1 c (by omega)).2.2.1]
      by_cases h3 : s (139 + 4 * c + 2) = -1
      · rw [if_pos h3, if_neg (fun h => ((pStored_ii hz).mp h).2 h3)]
      · rw [if_neg h3, if_pos ((pStored_ii hz).mpr ⟨h2, h3⟩)]
    · rw [if_pos (by rw [ii_le (by omega) hz]; omega), if_neg (fun h => h2 ((pStored_ii hz).mp h).1)]
def pBl (s : Nat → Int32) (b : Nat) : Int32 := if b % 2 = 1 then s (79 + (b - 1)) else -1
def pFl (s : Nat → Int32) (x : Nat) : Int32 := pCh s (s (139 + 4 * x)) (s (139 + 4 * x + 1)) (s (139 + 4 * x + 2))
def pFetch (s : Nat → Int32) (b c : Nat) : Option ((Nat → Int32) × Nat) :=
  if pBl s b = -1 then some (pOut s b c, 1) else if pFl s (zix (pBl s b)) = -1 then none else some (pOut (pMv s (b - 1) (zix (pFl s (zix (pBl s b)))) (zix (pBl s b))) b c, 2)
theorem pBl_cases (hI : zI s n k v) (hb : b < 60) : pBl s b = -1 ∨ ∃ x, x < n ∧ pBl s b = ii x ∧ s (139 + 4 * x + 2) = ii (b - 1) ∧ b % 2 = 1 := by
  unfold pBl
  by_cases h : b % 2 = 1
  · rw [if_pos h]
    rcases zI_carIn hI (b := b - 1) (by omega) with g | ⟨x, hx, g1, g2⟩
    · exact Or.inl g
    · exact Or.inr ⟨x, hx, g1, g2, h⟩
  · rw [if_neg h]
    exact Or.inl rfl
theorem pFetch_cases (hI : zI9 s n k v) (hb : b < 60) (hc : c < n) (hbay : s (139 + 4 * c + 2) = ii b) (hv : v < 999990) :
    (pBl s b = -1 ∧ pFetch s b c = some (pOut s b c, 1) ∧ zI9 (pOut s b c) n (k + 1) v) ∨
    (∃ x, x < n ∧ x ≠ c ∧ pBl s b = ii x ∧ s (139 + 4 * x + 2) = ii (b - 1) ∧ ((pFl s x = -1 ∧ pFetch s b c = none) ∨ ∃ d, d < 60 ∧ pFl s x = ii d ∧ s (79 + d) = -1 ∧ pFetch s b c = some (pOut (pMv s (b - 1) d x) b c, 2) ∧ zI9 (pMv s (b - 1) d x) n k (v + 1) ∧ pMv s (b - 1) d x (139 + 4 * c + 2) = ii b ∧ zI9 (pOut (pMv s (b - 1) d x) b c) n (k + 1) (v + 1))) := by
  have hn := zI_n hI.1
  rcases pBl_cases hI.1 hb with h | ⟨x, hx, h1, h2, h3⟩
  · refine Or.inl ⟨h, ?_, pOut_I hI hb hc hbay (by omega)⟩
    unfold pFetch
    rw [if_pos h]
  · have hxc : x ≠ c := by
      intro e
      subst e
      have := (ii_iff (by omega) (by omega)).mp (h2.symm.trans hbay)
      omega
    have hzx : zix (ii x) = x := zix_ii (by omega)
    refine Or.inr ⟨x, hx, hxc, h1, h2, ?_⟩
    unfold pFetch
    rw [h1, if_neg (ii_ne (by omega)), hzx]
    rcases pCh_ok (s := s) (size := s (139 + 4 * x)) (pk := s (139 + 4 * x + 1)) (fr := s (139 + 4 * x + 2)) with g | ⟨d, hd, g1, g2⟩
    · refine Or.inl ⟨g, ?_⟩
      rw [if_pos (show pFl s x = -1 from g)]
    · have hzd : zix (ii d) = d := zix_ii (by omega)
      have e : pFl s x = ii d := g1
      have hemp := pCand_emp g2
      have hI2 := pMv_I hI (b := b - 1) (by omega) hd hx h2 hemp (by omega)
      have hb2 : pMv s (b - 1) d x (139 + 4 * c + 2) = ii b := by
        rw [pMv_car (by omega) hd (by omega) (by omega), if_neg (fun q => hxc q.1.symm), if_neg (by omega), hbay]
      refine Or.inr ⟨d, hd, e, hemp, ?_, hI2, hb2, pOut_I hI2 hb hc hb2 (by omega)⟩
      rw [e, if_neg (ii_ne (by omega)), hzd]
theorem c7_blocker (hG : zGar S g) (hR : RG w g s (n + k + v)) (hI : zI s n k v) (hb : b < 60) (hc : c < n) (hbay : s (139 + 4 * c + 2) = ii b) : f_X1_blockerOf S w g (ii c) = some (pBl s b) := by
  have hn := zI_n hI
  have hst : pStored s n (ii c) = true := (pStored_ii (by omega)).mpr ⟨hc, by rw [hbay]; exact ii_ne (by omega)⟩
  unfold f_X1_blockerOf
  rw [c7_isStored hG hR hI, if_pos hst, zbs, if_neg (by decide), zg0_4 hG, zgl5 hG, if_pos (zin_t (by omega) (by omega)), zix_ii (by omega), (hR.2.2.1 c (by omega)).2.2.1, hbay, c7_carBefore hG hR hb, zbs]
  rfl
theorem c7_flee (hG : zGar S g) (hR : RG w g s (n + k + v)) (hI : zI s n k v) {x : Nat} (hx : x < n) (hf : pFr (s (139 + 4 * x + 2))) : f_X1_bayToFlee S w g (ii x) = some (pFl s x) := by
  have hn := zI_n hI
  obtain ⟨q0, q1, q2, -⟩ := hR.2.2.1 x (by omega)
  have hin : zin (ii x) 40 = true := zin_t (by omega) (by omega)
  unfold f_X1_bayToFlee
  rw [zg0_2 hG, zgl3 hG, zg0_3 hG, zgl4 hG, zg0_4 hG, zgl5 hG, if_pos hin, if_pos hin, if_pos hin, zix_ii (by omega), q0, q1, q2, c7_choose hG hR hI hf, zbs]
  rfl
theorem c7_fetch (hG : zGar S g) (hR : RG w g s (n + k + v)) (hI : zI9 s n k v) (hb : b < 60) (hc : c < n) (hbay : s (139 + 4 * c + 2) = ii b) (hv : v < 999990) :
    (pFetch s b c = none ∧ f_X1_fetch S w g (ii c) = some (0, w)) ∨ ∃ s' m w', pFetch s b c = some (s', m) ∧ f_X1_fetch S w g (ii c) = some (ii m, w') ∧ RG w' g s' (n + k + v + m) ∧ ∀ j, j < g ∨ g + 16 ≤ j → w' j = w j := by
  have hn := zI_n hI.1
  have hst : pStored s n (ii c) = true := (pStored_ii (by omega)).mpr ⟨hc, by rw [hbay]; exact ii_ne (by omega)⟩
  unfold f_X1_fetch
  rw [c7_isStored hG hR hI.1, if_pos hst, zbs, if_neg (by decide), c7_blocker hG hR hI.1 hb hc hbay, zbs]
  rcases pFetch_cases hI hb hc hbay hv with ⟨h1, h2, -⟩ | ⟨x, hx, hxc, h1, h2, h3⟩
  · obtain ⟨w', g1, g2, g3⟩ := c7_takeOut hG hR hI.1 hb (show c < 40 by omega) hbay
    refine Or.inr ⟨_, _, w', h2, ?_, g2, g3⟩
    unfold f_X1_fetch_j40
    rw [if_pos h1, g1, zbs, if_pos h1]
    rfl
  · have hfx : pFr (s (139 + 4 * x + 2)) := Or.inr ⟨b - 1, by omega, h2⟩
    rw [h1, if_neg (ii_ne (by omega)), c7_flee hG hR hI.1 hx hfx, zbs]
    rcases h3 with ⟨e1, e2⟩ | ⟨d, hd, e1, e2, e3, e4, e5, -⟩
    · refine Or.inl ⟨e2, ?_⟩
      rw [if_pos e1]
    · obtain ⟨w1, g1, g2, g3⟩ := c7_moveCar hG hR hI.1 (b := b - 1) (d := d) (c := x) (by omega) hd (by omega) h2
      obtain ⟨w', f1, f2, f3⟩ := c7_takeOut (n := n) (k := k) (v := v + 1) hG g2 e4.1 hb (show c < 40 by omega) e5
      refine Or.inr ⟨_, _, w', e3, ?_, f2, fun j hj => ?_⟩
      · unfold f_X1_fetch_j40
        rw [e1, if_neg (ii_ne (by omega)), g1, zbs, f1, zbs, if_neg (ii_ne (by omega))]
        rfl
      · rw [f3 j hj, g3 j hj]
theorem c7_fetch0 (hG : zGar S g) (hR : RG w g s (n + k + v)) (hI : zI s n k v) {a : Int32} (h : pStored s n a = false) : f_X1_fetch S w g a = some (0, w) := by
  unfold f_X1_fetch
  rw [c7_isStored hG hR hI, if_neg (by rw [h]; decide), zbs, if_pos rfl]
end
end ZFE
