/-! THE REFERENCE tries all orders. -/
section ZTS
variable {S : Zs} {w : Zw} {n k v : Nat}
def AccR (w : Zw) (many : Nat) (acc : Zac) : Prop := w 255 17 = ii acc.1 ∧ acc.1 ≤ 10 ∧ (acc.1 ≠ 0 → w 255 18 = acc.2.1 ∧ zRow (w 263) acc.2.2 ∧ acc.2.2.length = many)
def zES (w w' : Zw) : Prop := (∀ j, j ≠ 255 → j ≠ 258 → j ≠ 262 → j ≠ 263 → w' j = w j) ∧ ∀ i, i ≠ 8 → i ≠ 9 → (i < 17 ∨ 21 ≤ i) → w' 255 i = w 255 i
theorem zES.rfl {w : Zw} : zES w w := ⟨fun _ _ _ _ _ => Eq.refl _, fun _ _ _ _ => Eq.refl _⟩
theorem zES.trans {a b c : Zw} (h : zES a b) (h' : zES b c) : zES a c := ⟨fun j p q r t => (h'.1 j p q r t).trans (h.1 j p q r t), fun i p q r => (h'.2 i p q r).trans (h.2 i p q r)⟩
theorem e8_l94 (hL : zLay S) {R : List Nat} (hR5 : R.length ≤ 5) (hmany : w 255 16 = ii R.length) (hrow : zRow (w 262) R) : ∃ w', f_X8_triesRow_l94 S 255 (0, w) = some ((), w') ∧ zRow (w' 263) R ∧ ∀ j, j ≠ 263 → w' j = w j := by
  have hs : ∀ (kk : (Int32 × Zw) → Option (Unit × Zw)) (i : Nat) (x : Int32 × Zw), i < R.length → (x.1 = ii i ∧ (∀ j, j < i → x.2 263 j = w 262 j) ∧ ∀ j, j ≠ 263 → x.2 j = w j) →
      ∃ x' : Int32 × Zw, (x'.1 = ii (i + 1) ∧ (∀ j, j < i + 1 → x'.2 263 j = w 262 j) ∧ ∀ j, j ≠ 263 → x'.2 j = w j) ∧ f_X8_triesRow_b94 S 255 kk x.1 x.2 = kk x' := by
    rintro kk i ⟨x, u⟩ hi ⟨rfl, h1, h2⟩
    have h1 : ∀ j, j < i → u 263 j = w 262 j := h1
    have h2 : ∀ j, j ≠ 263 → u j = w j := h2
    refine ⟨(ii (i + 1), zput u 263 i (w 262 i)), ⟨rfl, fun j hj => ?_, fun j hj => ?_⟩, ?_⟩
    · dsimp only
      rw [zput_at]
      by_cases e : j = i
      · subst e
        rw [upd_at]
      · rw [upd_ne e, h1 j (by omega)]
    · dsimp only
      rw [zput_ne hj, h2 j hj]
    · show f_X8_triesRow_b94 S 255 kk (ii i) u = _
      unfold f_X8_triesRow_b94
      rw [h2 255 (by omega), hmany, if_neg (by rw [ii_le (by omega) (by omega)]; omega), zt255_14 hL, zt255_15 hL, ztl262 hL, ztl263 hL, if_pos (zin_t (by omega) (by omega)), if_pos (zin_t (by omega) (by omega)), zix_ii (by omega), h2 262 (by omega), zlet_eq, ii_succ]
  obtain ⟨⟨x, u⟩, KK, ⟨rfl, h1, h2⟩, e⟩ := zlp_to (F := fun kk x => f_X8_triesRow_b94 S 255 kk x.1 x.2) R.length (fun i x => x.1 = ii i ∧ (∀ j, j < i → x.2 263 j = w 262 j) ∧ ∀ j, j ≠ 263 → x.2 j = w j) hs R.length 0 (0, w) (by omega) ⟨rfl, fun j hj => absurd hj (Nat.not_lt_zero j), fun _ _ => rfl⟩ zFU (by unfold zFU; omega)
  have h1 : ∀ j, j < R.length → u 263 j = w 262 j := h1
  have h2 : ∀ j, j ≠ 263 → u j = w j := h2
  unfold f_X8_triesRow_l94
  rw [e]
  refine ⟨u, ?_, fun j hj => by rw [h1 j hj, hrow j hj], h2⟩
  show f_X8_triesRow_b94 S 255 KK (ii R.length) u = _
  unfold f_X8_triesRow_b94
  rw [h2 255 (by omega), hmany, if_pos (by rw [ii_le (by omega) (by omega)]; omega)]
theorem e8_triesRow (hL : zLay S) {R : List Nat} {acc : Zac} (hI : zI9 (w 256) n k v) (hv : v < 999900) (hRn : ∀ c, c ∈ R → c < n ∧ w 256 (139 + 4 * c + 2) ≠ -1) (hRd : R.Pairwise (· ≠ ·)) (hR5 : R.length ≤ 5) (hmany : w 255 16 = ii R.length) (hrow : zRow (w 262) R) (hacc : AccR w R.length acc) :
    ∃ w', f_X8_triesRow S w 255 = some ((), w') ∧ AccR w' R.length (pTr (w 256) R acc) ∧ zES w w' ∧ w' 262 = w 262 := by
  obtain ⟨w1, a1, a2, a3, a4⟩ := e8_copies (S := S) (w := w) (a := 256) (b := 258) (p := 0) (q := 0) (by rw [ztl256 hL]; omega) (by rw [ztl258 hL]; omega) (by omega) (by omega) (by omega)
  have a1 : f_X8_copies S w 256 0 258 0 = some ((), w1) := a1
  have w16 : w1 256 = w 256 := a4 256 (by omega)
  have back : ∀ w2, zEG w1 w2 → ∃ w3, f_X8_copies S w2 258 0 256 0 = some ((), w3) ∧ w3 256 = w 256 ∧ ∀ j, j ≠ 256 → w3 j = w2 j := by
    intro w2 hE
    obtain ⟨w3, b1, b2, b3, b4⟩ := e8_copies (S := S) (w := w2) (a := 258) (b := 256) (p := 0) (q := 0) (by rw [ztl258 hL]; omega) (by rw [ztl256 hL]; omega) (by omega) (by omega) (by omega)
    refine ⟨w3, b1, ?_, b4⟩
    funext i
    by_cases hi : i < 399
    · have h1 := b2 i hi
      have h2 := a2 i hi
      rw [Nat.zero_add] at h1 h2
      rw [h1, hE.1 258 (by omega) (by omega), h2]
    · rw [b3 i (by omega), hE.2.2 i (by omega), a4 256 (by omega)]
  obtain ⟨g17, g10, gb⟩ := hacc
  have keep : ∀ w2 w3, zEG w1 w2 → w3 256 = w 256 → (∀ j, j ≠ 256 → w3 j = w2 j) → zES w w3 ∧ w3 262 = w 262 ∧ w3 263 = w 263 ∧ w3 255 17 = ii acc.1 ∧ w3 255 18 = w 255 18 ∧ w3 255 16 = w 255 16 := by
    intro w2 w3 hE h6 ho
    have hj : ∀ j, j ≠ 255 → j ≠ 256 → j ≠ 258 → w3 j = w j := by
      intro j p q r
      rw [ho j q, hE.1 j p q, a4 j r]
    have h55 : ∀ i, i ≠ 8 → i ≠ 9 → i ≠ 19 → i ≠ 20 → w3 255 i = w 255 i := by
      intro i p q r t
      rw [ho 255 (by omega), hE.2.1 i p q r t, a4 255 (by omega)]
    refine ⟨⟨fun j p q r t => ?_, fun i p q r => h55 i p q (by omega) (by omega)⟩, hj 262 (by omega) (by omega) (by omega), hj 263 (by omega) (by omega) (by omega), by rw [h55 17 (by omega) (by omega) (by omega) (by omega), g17], h55 18 (by omega) (by omega) (by omega) (by omega), h55 16 (by omega) (by omega) (by omega) (by omega)⟩
    by_cases e : j = 256
    · subst e
      exact h6
    · exact hj j p e q
  unfold f_X8_triesRow
  rw [zt255_1 hL, zt255_3 hL, a1, zbs]
  dsimp only
  unfold pTr
  rcases e8_goes (S := S) (w := w1) (n := n) (k := k) (v := v) hL (by rw [w16]; exact hI) hv (by rw [w16]; exact hRn) hRd hR5 (by rw [a4 255 (by omega)]; exact hmany) (by rw [a4 262 (by omega)]; exact hrow) with ⟨p1, w2, p2, p3⟩ | ⟨st, w2, p1, p2, p3, p4, p5, p6, p7⟩
  · obtain ⟨w3, b1, b2, b3⟩ := back w2 p3
    obtain ⟨q1, q2, q3, q4, q5, q6⟩ := keep w2 w3 p3 b2 b3
    rw [w16] at p1
    rw [p1, p2, zbs]
    dsimp only
    rw [b1, zbs, if_pos (show (0 : Int32) = 0 from rfl)]
    exact ⟨w3, rfl, ⟨q4, g10, by rw [q5, q3]; exact gb⟩, q1, q2⟩
  · obtain ⟨w3, b1, b2, b3⟩ := back w2 p6
    obtain ⟨q1, q2, q3, q4, q5, q6⟩ := keep w2 w3 p6 b2 b3
    rw [w16] at p1
    have e19 : w3 255 19 = ii st.2.1 := by rw [b3 255 (by omega), p4]
    have e20 : w3 255 20 = st.2.2 := by rw [b3 255 (by omega), p5]
    rw [p1, p2, zbs]
    dsimp only
    rw [b1, zbs, if_neg (show ¬ (1 : Int32) = 0 by decide)]
    dsimp only
    simp only [q4, e19, e20, q5]
    have new : ∃ w', f_X8_triesRow_j76 S w3 255 = some ((), w') ∧ AccR w' R.length (st.2.1, st.2.2, R) ∧ zES w w' ∧ w' 262 = w 262 := by
      unfold f_X8_triesRow_j76
      have e20' : zput w3 255 17 (ii st.2.1) 255 20 = st.2.2 := by rw [zput_at, upd_ne (by omega), e20]
      rw [e19, zlet_eq, e20', zlet_eq]
      obtain ⟨w4, c1, c2, c3⟩ := e8_l94 (S := S) (w := zput (zput w3 255 17 (ii st.2.1)) 255 18 st.2.2) (R := R) hL hR5 (by rw [zput_at, upd_ne (by omega), zput_at, upd_ne (by omega), q6, hmany]) (by rw [zput_ne (by omega), zput_ne (by omega), q2]; exact hrow)
      refine ⟨w4, c1, ⟨?_, by omega, fun _ => ⟨?_, c2, rfl⟩⟩, q1.trans ⟨fun j p q r t => ?_, fun i p q r => ?_⟩, ?_⟩
      · rw [c3 255 (by omega), zput_at, upd_ne (by omega), zput_at, upd_at]
      · rw [c3 255 (by omega), zput_at, upd_at]
      · rw [c3 j t, zput_ne p, zput_ne p]
      · rw [c3 255 (by omega), zput_at, upd_ne (by omega), zput_at, upd_ne (by omega)]
      · rw [c3 262 (by omega), zput_ne (by omega), zput_ne (by omega), q2]
    have old : ∃ w', (some ((), w3) : Option (Unit × Zw)) = some ((), w') ∧ AccR w' R.length acc ∧ zES w w' ∧ w' 262 = w 262 := ⟨w3, rfl, ⟨q4, g10, by rw [q5, q3]; exact gb⟩, q1, q2⟩
    show ∃ w', _ ∧ AccR w' R.length (pJu acc st.2.1 st.2.2 R) ∧ _
    unfold pJu
    by_cases h0 : acc.1 = 0
    · rw [if_pos (by rw [h0]; decide), if_neg (fun q => q.1 h0)]
      exact new
    · have hn0 : ¬ ii acc.1 ≤ 0 := by
        rw [show (0 : Int32) = ii 0 from rfl, ii_le (by omega) (by omega)]
        omega
      have hl : (ii acc.1 < ii st.2.1) = (acc.1 < st.2.1) := ii_lt (by omega) (by omega)
      have he : (ii st.2.1 = ii acc.1) = (st.2.1 = acc.1) := ii_eq (by omega) (by omega)
      obtain ⟨gb1, -, -⟩ := gb h0
      rw [if_neg hn0, gb1]
      by_cases h1 : acc.1 < st.2.1
      · rw [if_pos (by rw [hl]; exact h1), if_pos ⟨h0, Or.inl h1⟩]
        exact old
      · rw [if_neg (by rw [hl]; exact h1)]
        by_cases h2 : st.2.1 = acc.1
        · rw [if_pos (by rw [he]; exact h2)]
          by_cases h3 : st.2.2 < acc.2.1
          · rw [if_pos h3, if_neg (fun q => by rcases q.2 with q | q; omega; have := q.2; grind)]
            exact new
          · rw [if_neg h3, if_pos ⟨h0, Or.inr ⟨h2, by grind⟩⟩]
            exact old
        · rw [if_neg (by rw [he]; exact h2), if_neg (fun q => by rcases q.2 with q | q; omega; exact h2 q.1)]
          exact new
/-- is a car in the row already -/
theorem e8_l15 (hL : zLay S) {pre : List Nat} {c i : Nat} (hp5 : pre.length < 5) (hi5 : i < 5) (hpn : ∀ x, x ∈ pre → x < 40) (hc : c < 40) (hrow : zRow (w 262) pre) (hw : w 261 i = ii c) (self : (Int32 × Zw) → Option (Unit × Zw)) (k2 : (Int32 × Zw) → Option (Unit × Zw)) :
    f_X8_tries_l15 S self w 255 (ii pre.length) (ii i) k2 (1, 0) = if c ∈ pre then k2 (ii (i + 1), w) else (if zput w 262 pre.length (ii c) 255 16 ≤ ii (pre.length + 1) then (f_X8_triesRow S (zput w 262 pre.length (ii c)) 255).bind fun r8 => k2 (ii (i + 1), r8.2) else (self (ii (pre.length + 1), zput w 262 pre.length (ii c))).bind fun r10 => k2 (ii (i + 1), r10.2)) := by
  have hs : ∀ (kk : (Int32 × Int32) → Option (Unit × Zw)) (t : Nat) (x : Int32 × Int32), t < pre.length → (x.2 = ii t ∧ ((x.1 = 1 ∧ ∀ j, j < t → pre.getD j 0 ≠ c) ∨ (x.1 = 0 ∧ ∃ j, j < t ∧ pre.getD j 0 = c))) →
      ∃ x' : Int32 × Int32, (x'.2 = ii (t + 1) ∧ ((x'.1 = 1 ∧ ∀ j, j < t + 1 → pre.getD j 0 ≠ c) ∨ (x'.1 = 0 ∧ ∃ j, j < t + 1 ∧ pre.getD j 0 = c))) ∧ f_X8_tries_b15 S self w 255 (ii pre.length) (ii i) k2 kk x.1 x.2 = kk x' := by
    rintro kk t ⟨x, y⟩ ht ⟨rfl, hx⟩
    have hx : (x = 1 ∧ ∀ j, j < t → pre.getD j 0 ≠ c) ∨ (x = 0 ∧ ∃ j, j < t ∧ pre.getD j 0 = c) := hx
    have hmem : pre.getD t 0 ∈ pre := by
      rw [List.getD_eq_getElem?_getD, List.getElem?_eq_getElem ht]
      exact List.getElem_mem ht
    have hlt := hpn _ hmem
    show ∃ x' : Int32 × Int32, _ ∧ f_X8_tries_b15 S self w 255 (ii pre.length) (ii i) k2 kk x (ii t) = kk x'
    unfold f_X8_tries_b15
    have x1 : x &&& 1 = x := by rcases hx with ⟨rfl, -⟩ | ⟨rfl, -⟩ <;> decide
    have x0' : x &&& 0 = 0 := by rcases hx with ⟨rfl, -⟩ | ⟨rfl, -⟩ <;> decide
    rw [if_neg (by rw [ii_le (by omega) (by omega)]; omega), zt255_14 hL, zt255_13 hL, ztl262 hL, ztl261 hL, if_pos (zin_t (by omega) (by omega)), if_pos (zin_t (by omega) (by omega)), zix_ii (by omega), zix_ii (by omega), hw, hrow t ht, zlet_eq, zlet_eq, x1, x0', ii_succ]
    by_cases e : pre.getD t 0 = c
    · rw [if_pos (by rw [e])]
      exact ⟨(0, ii (t + 1)), ⟨rfl, Or.inr ⟨rfl, t, by omega, e⟩⟩, rfl⟩
    · rw [if_neg (by rw [ii_eq (by omega) (by omega)]; exact e)]
      refine ⟨(x, ii (t + 1)), ⟨rfl, ?_⟩, rfl⟩
      rcases hx with ⟨h1, h2⟩ | ⟨h1, j, h2, h3⟩
      · refine Or.inl ⟨h1, fun j hj => ?_⟩
        by_cases ej : j = t
        · rw [ej]
          exact e
        · exact h2 j (by omega)
      · exact Or.inr ⟨h1, j, by omega, h3⟩
  obtain ⟨⟨x, y⟩, KK, ⟨rfl, hx⟩, e⟩ := zlp_to (F := fun kk x => f_X8_tries_b15 S self w 255 (ii pre.length) (ii i) k2 kk x.1 x.2) pre.length (fun t x => x.2 = ii t ∧ ((x.1 = 1 ∧ ∀ j, j < t → pre.getD j 0 ≠ c) ∨ (x.1 = 0 ∧ ∃ j, j < t ∧ pre.getD j 0 = c))) hs pre.length 0 (1, 0) (by omega) ⟨rfl, Or.inl ⟨rfl, fun j hj => absurd hj (Nat.not_lt_zero j)⟩⟩ zFU (by unfold zFU; omega)
  unfold f_X8_tries_l15
  rw [e]
  show f_X8_tries_b15 S self w 255 (ii pre.length) (ii i) k2 KK x (ii pre.length) = _
  unfold f_X8_tries_b15
  have hmem : (∃ j, j < pre.length ∧ pre.getD j 0 = c) ↔ c ∈ pre := by
    constructor
    · rintro ⟨j, hj, rfl⟩
      rw [List.getD_eq_getElem?_getD, List.getElem?_eq_getElem hj]
      exact List.getElem_mem hj
    · intro h
      obtain ⟨j, hj, he⟩ := List.getElem_of_mem h
      refine ⟨j, hj, ?_⟩
      rw [List.getD_eq_getElem?_getD, List.getElem?_eq_getElem hj]
      exact he
  rw [if_pos (by rw [ii_le (by omega) (by omega)]; omega)]
  rcases hx with ⟨h1, h2⟩ | ⟨h1, h2⟩
  · have hc' : ¬ c ∈ pre := by
      intro q
      obtain ⟨j, hj, he⟩ := hmem.mpr q
      exact h2 j hj he
    have h1 : x = 1 := h1
    subst h1
    rw [if_neg (by decide), if_neg hc', zt255_13 hL, zt255_14 hL, ztl261 hL, ztl262 hL, if_pos (zin_t hi5 (by omega)), if_pos (zin_t hp5 (by omega)), zix_ii (by omega), zix_ii (by omega), hw, zlet_eq, ii_succ, ii_succ]
  · have h1 : x = 0 := h1
    subst h1
    rw [if_pos rfl, if_pos (hmem.mp h2), ii_succ]
end ZTS
