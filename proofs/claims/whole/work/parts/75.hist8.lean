/-! THE REFERENCE's copies, beginnings and ends of calls. -/
section ZH8
variable {S : Zs} {w : Zw}
theorem e8_copies {a b p q : Nat} (ha : p + 399 ≤ zlen S a) (hb : q + 399 ≤ zlen S b) (ha2 : p + 399 < 2147483648) (hb2 : q + 399 < 2147483648) (hd : a ≠ b ∨ q + 399 ≤ p) :
    ∃ w', f_X8_copies S w a (ii p) b (ii q) = some ((), w') ∧ (∀ i, i < 399 → w' b (q + i) = w a (p + i)) ∧ (∀ i, i < q ∨ q + 399 ≤ i → w' b i = w b i) ∧ ∀ j, j ≠ b → w' j = w j := by
  have hs : ∀ (K : (Int32 × Zw) → Option (Unit × Zw)) (m : Nat) (x : Int32 × Zw), m < 399 → (x.1 = ii m ∧ (∀ i, i < m → x.2 b (q + i) = w a (p + i)) ∧ (∀ i, i < q ∨ q + m ≤ i → x.2 b i = w b i) ∧ ∀ j, j ≠ b → x.2 j = w j) →
      ∃ x' : Int32 × Zw, (x'.1 = ii (m + 1) ∧ (∀ i, i < m + 1 → x'.2 b (q + i) = w a (p + i)) ∧ (∀ i, i < q ∨ q + (m + 1) ≤ i → x'.2 b i = w b i) ∧ ∀ j, j ≠ b → x'.2 j = w j) ∧ f_X8_copies_b3 S a (ii p) b (ii q) K x.1 x.2 = K x' := by
    rintro K m ⟨x, u⟩ hm ⟨rfl, h1, h2, h3⟩
    have h1 : ∀ i, i < m → u b (q + i) = w a (p + i) := h1
    have h2 : ∀ i, i < q ∨ q + m ≤ i → u b i = w b i := h2
    have h3 : ∀ j, j ≠ b → u j = w j := h3
    have hsrc : u a (p + m) = w a (p + m) := by
      by_cases e : a = b
      · subst e
        exact h2 _ (by omega)
      · rw [h3 a e]
    refine ⟨(ii (m + 1), zput u b (q + m) (u a (p + m))), ⟨rfl, fun i hi => ?_, fun i hi => ?_, fun j hj => ?_⟩, ?_⟩
    · show zput u b (q + m) (u a (p + m)) b (q + i) = _
      rw [zput_at]
      by_cases e : i = m
      · subst e
        rw [upd_at, hsrc]
      · rw [upd_ne (by omega), h1 i (by omega)]
    · show zput u b (q + m) (u a (p + m)) b i = _
      rw [zput_at, upd_ne (by omega), h2 i (by omega)]
    · show zput u b (q + m) (u a (p + m)) j = _
      rw [zput_ne hj, h3 j hj]
    · show f_X8_copies_b3 S a (ii p) b (ii q) K (ii m) u = _
      unfold f_X8_copies_b3
      rw [if_neg (by rw [show (399 : Int32) = ii 399 from rfl, ii_le (by omega) (by omega)]; omega), ii_add, ii_add, if_pos (zin_t (by omega) (by omega)), if_pos (zin_t (by omega) (by omega)), zix_ii (by omega), zix_ii (by omega), zlet_eq, ii_succ]
  obtain ⟨⟨x, u⟩, K, ⟨rfl, h1, h2, h3⟩, e⟩ := zlp_to (F := fun K a' => f_X8_copies_b3 S a (ii p) b (ii q) K a'.1 a'.2) 399 (fun m x => x.1 = ii m ∧ (∀ i, i < m → x.2 b (q + i) = w a (p + i)) ∧ (∀ i, i < q ∨ q + m ≤ i → x.2 b i = w b i) ∧ ∀ j, j ≠ b → x.2 j = w j) hs 399 0 (0, w) rfl ⟨rfl, fun i h => absurd h (Nat.not_lt_zero i), fun _ _ => rfl, fun _ _ => rfl⟩ zFU (by decide)
  unfold f_X8_copies f_X8_copies_l3
  rw [e]
  refine ⟨u, ?_, h1, h2, h3⟩
  show f_X8_copies_b3 S a (ii p) b (ii q) K (ii 399) u = _
  unfold f_X8_copies_b3
  rw [if_pos (by decide)]
/-- alike where it counts -/
def pe (s t : Nat → Int32) : Prop := ∀ i, i < 399 → s i = t i
theorem pe.rfl {s : Nat → Int32} : pe s s := fun _ _ => Eq.refl _
theorem pe.symm {s t : Nat → Int32} (h : pe s t) : pe t s := fun i hi => (h i hi).symm
theorem pe.trans {s t u : Nat → Int32} (h : pe s t) (h2 : pe t u) : pe s u := fun i hi => (h i hi).trans (h2 i hi)
theorem zI_pe {s t : Nat → Int32} {n k v : Nat} (h : pe t s) (hI : zI s n k v) : zI t n k v := by
  obtain ⟨i1, i2, i3, i4, i5, i6, i7, i8, i9, i10, i11, i12⟩ := hI
  refine ⟨by rw [h 1 (by omega), i1], by rw [h 2 (by omega), i2], by rw [h 3 (by omega), i3], i4, i5, i6, by rw [h 6 (by omega), i7], by rw [h 0 (by omega)]; exact i8, fun b hb => by rw [h _ (by omega)]; exact i9 b hb, fun b hb => ?_, fun c hc => ?_, fun m hm => ?_⟩
  · rw [h _ (by omega)]
    rcases i10 b hb with g | ⟨c, hc, g1, g2⟩
    · exact Or.inl g
    · exact Or.inr ⟨c, hc, g1, by rw [h _ (by omega)]; exact g2⟩
  · rw [h _ (by omega)]
    rcases i11 c hc with g | ⟨b, hb, g1, g2⟩
    · exact Or.inl g
    · exact Or.inr ⟨b, hb, g1, by rw [h _ (by omega)]; exact g2⟩
  · rw [h _ (by omega), h _ (by omega)]
    exact i12 m hm
theorem zI9_pe {s t : Nat → Int32} {n k v : Nat} (h : pe t s) (hI : zI9 s n k v) : zI9 t n k v := by
  have hn := zI_n hI.1
  refine ⟨zI_pe h hI.1, fun c hc => by rw [h _ (by omega)]; exact hI.2.1 c hc, ?_⟩
  rw [← hI.2.2, pCnt_eq (s := s) (t := t) (fun b hb => by rw [h _ (by omega)])]
theorem RG_pe {w : Zw} {g T : Nat} {s t : Nat → Int32} (h : pe t s) (hR : RG w g s T) : RG w g t T := by
  obtain ⟨r1, r2, r3, ⟨r41, r42, r43, r44, r45, r46, r47⟩, r5, r6⟩ := hR
  refine ⟨fun b hb => by rw [h _ (by omega)]; exact r1 b hb, fun b hb => by rw [h _ (by omega)]; exact r2 b hb, fun c hc => by rw [h _ (by omega), h _ (by omega), h _ (by omega), h _ (by omega)]; exact r3 c hc, ⟨by rw [h _ (by omega)]; exact r41, by rw [h _ (by omega), h _ (by omega)]; exact r42, by rw [h _ (by omega)]; exact r43, by rw [h _ (by omega)]; exact r44, by rw [h _ (by omega), h _ (by omega), h _ (by omega)]; exact r45, by rw [h _ (by omega)]; exact r46, by rw [h _ (by omega)]; exact r47⟩, fun m hm => by rw [h _ (by omega), h _ (by omega), h _ (by omega)]; exact r5 m hm, fun j p hj hp => by rw [h _ (by omega)]; exact r6 j p hj hp⟩
theorem RG_w {w w' : Zw} {g T : Nat} {s : Nat → Int32} (h : ∀ j, g ≤ j → j < g + 16 → w' j = w j) (hR : RG w g s T) : RG w' g s T := by
  obtain ⟨r1, r2, r3, ⟨r41, r42, r43, r44, r45, r46, r47⟩, r5, r6⟩ := hR
  refine ⟨fun b hb => by rw [h _ (by omega) (by omega)]; exact r1 b hb, fun b hb => by rw [h _ (by omega) (by omega)]; exact r2 b hb, fun c hc => by rw [h _ (by omega) (by omega), h _ (by omega) (by omega), h _ (by omega) (by omega), h _ (by omega) (by omega)]; exact r3 c hc, ?_, fun m hm => ?_, fun j p hj hp => by rw [h _ (by omega) (by omega)]; exact r6 j p hj hp⟩
  · rw [h _ (by omega) (by omega), h (g + 8) (by omega) (by omega), h (g + 11) (by omega) (by omega)]
    exact ⟨r41, r42, r43, r44, r45, r46, r47⟩
  · have hz := zmc_rg (g := g) hm
    rw [h _ (by omega) (by omega)]
    exact r5 m hm
theorem e8_begins (hL : zLay S) : ∃ w', f_X8_begins S w 255 = some ((), w') ∧ w' 255 0 = 0 ∧ (∀ i, i ≠ 0 → w' 255 i = w 255 i) ∧ pe (w' 257) (w 256) ∧ ∀ j, j ≠ 255 → j ≠ 257 → w' j = w j := by
  obtain ⟨w', h1, h2, h3, h4⟩ := e8_copies (S := S) (w := zput w 255 0 0) (a := 256) (b := 257) (p := 0) (q := 0) (by rw [ztl256 hL]; omega) (by rw [ztl257 hL]; omega) (by omega) (by omega) (by omega)
  have h1 : f_X8_copies S (zput w 255 0 0) 256 0 257 0 = some ((), w') := h1
  unfold f_X8_begins
  rw [zlet_eq, zt255_1 hL, zt255_2 hL, h1, zbs]
  dsimp only
  refine ⟨w', rfl, ?_, fun i hi => ?_, fun i hi => ?_, fun j hj1 hj2 => ?_⟩
  · rw [h4 _ (by omega), zput_at, upd_at]
  · rw [h4 _ (by omega), zput_at, upd_ne hi]
  · have h9 := h2 i hi
    rw [Nat.zero_add] at h9
    rw [h9, zput_ne (by omega)]
  · rw [h4 _ (by omega), zput_ne hj1]
theorem e8_fails (x : Int32) : f_X8_fails S w 255 x = some (0, zput w 255 0 x) := rfl
theorem ii_mul399 (q : Nat) : (399 : Int32) * ii q = ii (399 * q) := ii_mul 399 q
theorem e8_j65 (hL : zLay S) {cnt : Nat} (hc : w 255 6 = ii cnt) (h6 : cnt < 6) (x : Int32) : ∃ w', f_X8_ends_j65 S w 255 x = some (x, w') ∧ w' 255 6 = ii (cnt + 1) ∧ (∀ i, i ≠ 6 → w' 255 i = w 255 i) ∧ (∀ i, i < 399 → w' 260 (399 * cnt + i) = w 257 i) ∧ (∀ i, i < 399 * cnt ∨ 399 * cnt + 399 ≤ i → w' 260 i = w 260 i) ∧ ∀ j, j ≠ 255 → j ≠ 260 → w' j = w j := by
  obtain ⟨w', h1, h2, h3, h4⟩ := e8_copies (S := S) (w := w) (a := 257) (b := 260) (p := 0) (q := 399 * cnt) (by rw [ztl257 hL]; omega) (by rw [ztl260 hL]; omega) (by omega) (by omega) (by omega)
  have h1 : f_X8_copies S w 257 0 260 (ii (399 * cnt)) = some ((), w') := h1
  unfold f_X8_ends_j65
  rw [hc, zt255_2 hL, zt255_5 hL, ii_mul399, h1, zbs]
  dsimp only
  rw [zlet_eq]
  refine ⟨_, rfl, ?_, fun i hi => ?_, fun i hi => ?_, fun i hi => ?_, fun j hj1 hj2 => ?_⟩
  · rw [zput_at, upd_at, h4 _ (by omega), hc, ii_succ]
  · rw [zput_at, upd_ne hi, h4 _ (by omega)]
  · rw [zput_ne (by omega), h2 i hi, Nat.zero_add]
  · rw [zput_ne (by omega), h3 i hi]
  · rw [zput_ne hj1, h4 _ hj2]
theorem e8_ends (hL : zLay S) (h0 : w 255 0 = 0) {cnt : Nat} (hc : w 255 6 = ii cnt) (h6 : cnt ≤ 6) (x : Int32) : ∃ w', f_X8_ends S w 255 x = some (x, w') ∧ w' 255 6 = ii (min (cnt + 1) 6) ∧ (∀ i, i ≠ 6 → w' 255 i = w 255 i) ∧
    (∀ q i, q < min (cnt + 1) 6 → i < 399 → w' 260 (399 * q + i) = if q = min cnt 5 then w 257 i else if cnt = 6 then w 260 (399 * (q + 1) + i) else w 260 (399 * q + i)) ∧ ∀ j, j ≠ 255 → j ≠ 260 → w' j = w j := by
  unfold f_X8_ends
  rw [if_pos h0]
  by_cases hc6 : cnt = 6
  · subst hc6
    rw [if_pos (show w 255 6 = 6 from hc)]
    have hs : ∀ (K : (Int32 × Zw) → Option (Int32 × Zw)) (m : Nat) (y : Int32 × Zw), m < 6 → (1 ≤ m ∧ y.1 = ii m ∧ (∀ q i, q + 1 < m → i < 399 → y.2 260 (399 * q + i) = w 260 (399 * (q + 1) + i)) ∧ (∀ i, 399 * (m - 1) ≤ i → y.2 260 i = w 260 i) ∧ ∀ j, j ≠ 260 → y.2 j = w j) →
        ∃ y' : Int32 × Zw, (1 ≤ m + 1 ∧ y'.1 = ii (m + 1) ∧ (∀ q i, q + 1 < m + 1 → i < 399 → y'.2 260 (399 * q + i) = w 260 (399 * (q + 1) + i)) ∧ (∀ i, 399 * (m + 1 - 1) ≤ i → y'.2 260 i = w 260 i) ∧ ∀ j, j ≠ 260 → y'.2 j = w j) ∧ f_X8_ends_b20 S 255 x K y.1 y.2 = K y' := by
      rintro K m ⟨y, u⟩ hm ⟨hm1, rfl, h1, h2, h3⟩
      have h1 : ∀ q i, q + 1 < m → i < 399 → u 260 (399 * q + i) = w 260 (399 * (q + 1) + i) := h1
      have h2 : ∀ i, 399 * (m - 1) ≤ i → u 260 i = w 260 i := h2
      have h3 : ∀ j, j ≠ 260 → u j = w j := h3
      obtain ⟨w', g1, g2, g3, g4⟩ := e8_copies (S := S) (w := u) (a := 260) (b := 260) (p := 399 * m) (q := 399 * (m - 1)) (by rw [ztl260 hL]; omega) (by rw [ztl260 hL]; omega) (by omega) (by omega) (by omega)
      refine ⟨(ii (m + 1), w'), ⟨by omega, rfl, fun q i hq hi => ?_, fun i hi => ?_, fun j hj => ?_⟩, ?_⟩
      · show w' 260 (399 * q + i) = _
        by_cases e : q + 1 = m
        · subst e
          have g9 := g2 i hi
          rw [Nat.add_sub_cancel] at g9
          rw [g9, h2 _ (by omega)]
        · rw [g3 _ (by omega), h1 q i (by omega) hi]
      · show w' 260 i = _
        rw [g3 _ (by omega), h2 i (by omega)]
      · show w' j = _
        rw [g4 j hj, h3 j hj]
      · show f_X8_ends_b20 S 255 x K (ii m) u = _
        unfold f_X8_ends_b20
        rw [if_neg (by rw [show (6 : Int32) = ii 6 from rfl, ii_le (by omega) (by omega)]; omega), zt255_5 hL, ii_mul399, ii_sub1 (by omega), ii_mul399, g1, zbs, ii_succ]
    obtain ⟨⟨y, u⟩, K, ⟨-, rfl, h1, h2, h3⟩, e⟩ := zlp_to (F := fun K a' => f_X8_ends_b20 S 255 x K a'.1 a'.2) 6 (fun m y => 1 ≤ m ∧ y.1 = ii m ∧ (∀ q i, q + 1 < m → i < 399 → y.2 260 (399 * q + i) = w 260 (399 * (q + 1) + i)) ∧ (∀ i, 399 * (m - 1) ≤ i → y.2 260 i = w 260 i) ∧ ∀ j, j ≠ 260 → y.2 j = w j) hs 5 1 (1, w) rfl ⟨Nat.le_refl 1, rfl, fun q i h => absurd h (by omega), fun _ _ => rfl, fun _ _ => rfl⟩ zFU (by decide)
    have h1 : ∀ q i, q + 1 < 6 → i < 399 → u 260 (399 * q + i) = w 260 (399 * (q + 1) + i) := h1
    have h3 : ∀ j, j ≠ 260 → u j = w j := h3
    unfold f_X8_ends_l20
    rw [e]
    have hu6 : zput u 255 6 (u 255 6 - 1) 255 6 = ii 5 := by
      rw [zput_at, upd_at, h3 255 (by omega), hc, ii_sub1 (by omega)]
    obtain ⟨w', g1, g2, g3, g4, g5, g6⟩ := e8_j65 (w := zput u 255 6 (u 255 6 - 1)) hL hu6 (by omega) x
    refine ⟨w', ?_, g2, fun i hi => ?_, fun q i hq hi => ?_, fun j hj1 hj2 => ?_⟩
    · show f_X8_ends_b20 S 255 x K (ii 6) u = _
      unfold f_X8_ends_b20
      rw [if_pos (by decide), zlet_eq, g1]
    · rw [g3 i hi, zput_at, upd_ne hi, h3 255 (by omega)]
    · by_cases e5 : q = 5
      · subst e5
        rw [if_pos (show 5 = min 6 5 by omega), g4 i hi, zput_ne (by omega), h3 257 (by omega)]
      · rw [if_neg (by omega), if_pos rfl, g5 _ (by omega), zput_ne (by omega), h1 q i (by omega) hi]
    · rw [g6 j hj1 hj2, zput_ne hj1, h3 j hj2]
  · have hne : ¬ w 255 6 = 6 := by
      rw [hc, show (6 : Int32) = ii 6 from rfl, ii_iff (by omega) (by omega)]
      exact hc6
    rw [if_neg hne]
    obtain ⟨w', g1, g2, g3, g4, g5, g6⟩ := e8_j65 (w := w) hL hc (by omega) x
    refine ⟨w', g1, ?_, g3, fun q i hq hi => ?_, g6⟩
    · rw [g2]
      congr 1
      omega
    · by_cases e5 : q = cnt
      · subst e5
        rw [if_pos (by omega), g4 i hi]
      · rw [if_neg (by omega), if_neg hc6, g5 _ (by omega)]
theorem e8_ends1 (h0 : w 255 0 ≠ 0) (x : Int32) : f_X8_ends S w 255 x = some (x, w) := by
  unfold f_X8_ends
  rw [if_neg h0]
end ZH8
