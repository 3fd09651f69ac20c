/-! THE REFERENCE takes cars out and in. -/
section ZT8
def zE8 (w w' : Zw) : Prop := (∀ j, j ≠ 255 → j ≠ 256 → w' j = w j) ∧ ∀ i, i ≠ 8 → i ≠ 9 → w' 255 i = w 255 i
theorem zE8.rfl {w : Zw} : zE8 w w := ⟨fun _ _ _ => Eq.refl _, fun _ _ _ => Eq.refl _⟩
theorem zE8.trans {a b c : Zw} (h : zE8 a b) (h2 : zE8 b c) : zE8 a c := ⟨fun j h5 h6 => (h2.1 j h5 h6).trans (h.1 j h5 h6), fun i h8 h9 => (h2.2 i h8 h9).trans (h.2 i h8 h9)⟩
theorem zE8_Mo {w : Zw} {s : Nat → Int32} {jb je : Int32} : zE8 w (zMo w s jb je) := ⟨fun _ h5 h6 => zMo_o h5 h6, fun _ h8 h9 => zMo_5 h8 h9⟩
section
variable {S : Zs} {w : Zw} {b c d n k v : Nat} {s : Nat → Int32}
theorem e8_out (hL : zLay S) (hI : zI (w 256) n k v) (hb : b < 60) (hc : c < 40) (hbay : w 256 (139 + 4 * c + 2) = ii b) : ∃ w', f_X8_bringsOut S w 255 (ii c) = some ((), w') ∧ w' 256 = pOut (w 256) b c ∧ zE8 w w' := by
  have hz := zI_6z hI
  have h := b8_out (w := w) (s := w 256) (jb := w 255 8) (je := w 255 9) hL (zN_of hI) hb hc hbay (zI_6 hI) (by omega) hI.2.1
  rw [zMo_self] at h
  refine ⟨_, h, ?_, zE8_Mo⟩
  rw [zMo_s]
  unfold pOut
  rw [hz, hI.2.1, show (1 : Int32) = ii 1 from rfl, ii_add]
theorem e8_moves (hL : zLay S) (hI : zI (w 256) n k v) (hb : b < 60) (hd : d < 60) (hc : c < 40) (hbay : w 256 (139 + 4 * c + 2) = ii b) : ∃ w', f_X8_moves S w 255 (ii c) (ii d) = some ((), w') ∧ w' 256 = pMv (w 256) b d c ∧ zE8 w w' := by
  have hz := zI_6z hI
  have h := b8_moves (w := w) (s := w 256) (jb := w 255 8) (je := w 255 9) hL (zN_of hI) hb hd hc hbay (zI_6 hI) (by omega) hI.2.2.1
  rw [zMo_self] at h
  refine ⟨_, h, ?_, zE8_Mo⟩
  rw [zMo_s]
  unfold pMv
  rw [hz, hI.2.2.1, show (1 : Int32) = ii 1 from rfl, ii_add]
theorem c8_isCar (hL : zLay S) (hI : zI (w 256) n k v) (a : Int32) : f_X8_isCar S w 255 a = some (if pStored (w 256) n a = true then 1 else 0) := by
  have hn := zI_n hI
  have h1 : zin (1 : Int32) 399 = true := by decide
  have h11 : zix (1 : Int32) = 1 := by decide
  unfold f_X8_isCar
  rw [zt255_1 hL, ztl256 hL, if_pos h1, h11, hI.1]
  unfold f_X8_in
  by_cases h0 : a < 0
  · rw [if_pos h0, zbs, if_pos rfl, if_neg]
    intro h
    obtain ⟨c, b, hc, rfl, -⟩ := pStored_of hI h
    have := ii_nn (b := c) (by omega)
    grind
  · rw [if_neg h0]
    have h1 : 0 ≤ a := by grind
    have e := ii_zix h1
    have hz := zix_lt31 a
    generalize zix a = c at e hz
    subst e
    by_cases h2 : c < n
    · have h3 : ¬ ii n - 1 < ii c := by
        rw [ii_sub1 (by omega), ii_lt (by omega) hz]
        omega
      rw [if_neg h3, zbs, if_neg (by decide), c8_bayOf hL (by omega), zbs]
      rcases zI_carBay hI h2 with g | ⟨b, hb, g1, -⟩
      · rw [g, if_pos (by decide), if_neg (fun h => ((pStored_ii hz).mp h).2 g)]
      · have hnn := ii_nn (b := b) (by omega)
        rw [g1, if_neg (by grind), if_pos ((pStored_ii hz).mpr ⟨h2, by rw [g1]; exact ii_ne (by omega)⟩)]
    · have h3 : ii n - 1 < ii c := by
        by_cases hn0 : n = 0
        · subst hn0
          have hnn := ii_nn (b := c) (by omega)
          have : ii 0 - 1 = -1 := by decide
          rw [this]
          have := neg1_lt
          grind
        · rw [ii_sub1 (by omega), ii_lt (by omega) hz]
          omega
      rw [if_pos h3, zbs, if_pos rfl, if_neg (fun h => h2 ((pStored_ii hz).mp h).1)]
theorem c8_blocking (hL : zLay S) (hb : b < 60) (hc : c < 40) (hbay : w 256 (139 + 4 * c + 2) = ii b) : f_X8_blocking S w 255 (ii c) = some (pBl (w 256) b) := by
  unfold f_X8_blocking
  rw [c8_bayOf hL hc, zbs, hbay, (geo8 b hb).2.2.1]
  unfold pBl
  by_cases h : b % 2 = 1
  · have e : (79 : Int32) + ii b - 1 = ii (79 + (b - 1)) := by
      rw [show (79 : Int32) = ii 79 from rfl, ii_add, ii_sub1 (by omega)]
      congr 1
      omega
    rw [if_pos (by rw [h]; rfl), zbs, e, zt255_1 hL, ztl256 hL, if_pos (zin_t (by omega) (by omega)), zix_ii (by omega), if_pos h]
  · rw [if_neg (by rw [show (1 : Int32) = ii 1 from rfl, ii_iff (by omega) (by omega)]; exact h), if_neg h]
theorem c8_flee (hL : zLay S) (hI : zI (w 256) n k v) {x : Nat} (hx : x < n) (hf : pFr (w 256 (139 + 4 * x + 2))) : f_X8_chosen S w 255 (w 256 (139 + 4 * x)) (w 256 (139 + 4 * x + 1)) (w 256 (139 + 4 * x + 2)) = some (pFl (w 256) x) := (c8_choose hL hI hf).1
theorem c8_takesOut (hL : zLay S) (hI : zI9 (w 256) n k v) (hb : b < 60) (hc : c < n) (hbay : w 256 (139 + 4 * c + 2) = ii b) (hv : v < 999990) :
    (pFetch (w 256) b c = none ∧ f_X8_takesOut S w 255 (ii c) = some (-1, w)) ∨ ∃ s' m w', pFetch (w 256) b c = some (s', m) ∧ f_X8_takesOut S w 255 (ii c) = some (ii m, w') ∧ w' 256 = s' ∧ zE8 w w' := by
  have hn := zI_n hI.1
  unfold f_X8_takesOut
  rw [c8_blocking hL hb (by omega) hbay, zbs]
  rcases pFetch_cases hI hb hc hbay hv with ⟨h1, h2, -⟩ | ⟨x, hx, hxc, h1, h2, h3⟩
  · obtain ⟨w', g1, g2, g3⟩ := e8_out hL hI.1 hb (show c < 40 by omega) hbay
    refine Or.inr ⟨_, _, w', h2, ?_, g2, g3⟩
    unfold f_X8_takesOut_j43
    rw [if_pos (by rw [h1]; decide), g1, zbs, if_pos (by rw [h1]; decide)]
    rfl
  · have hfx : pFr (w 256 (139 + 4 * x + 2)) := Or.inr ⟨b - 1, by omega, h2⟩
    have hnn := ii_nn (b := x) (by omega)
    have hng : ¬ ii x < 0 := by grind
    have h0 : f_X8_of S w 255 (ii x) 0 = some (w 256 (139 + 4 * x)) := c8_of hL (q := 0) (by omega) (by omega)
    rw [h1, if_neg hng, h0, zbs, c8_pickup hL (by omega), zbs, c8_bayOf hL (by omega), zbs, c8_flee hL hI.1 hx hfx, zbs]
    rcases h3 with ⟨e1, e2⟩ | ⟨d, hd, e1, e2, e3, e4, e5, -⟩
    · refine Or.inl ⟨e2, ?_⟩
      rw [e1, if_neg (by decide)]
    · obtain ⟨w1, g1, g2, g3⟩ := e8_moves hL hI.1 (b := b - 1) (d := d) (c := x) (by omega) hd (by omega) h2
      obtain ⟨w', f1, f2, f3⟩ := e8_out (w := w1) (n := n) (k := k) (v := v + 1) hL (by rw [g2]; exact e4.1) hb (show c < 40 by omega) (by rw [g2]; exact e5)
      refine Or.inr ⟨_, _, w', e3, ?_, by rw [f2, g2], g3.trans f3⟩
      unfold f_X8_takesOut_j43
      rw [e1, if_pos (ii_nn (by omega)), g1, zbs, f1, zbs, if_neg hng]
      rfl
/-- storing, once size and pickup are in range -/
theorem e8_in (hL : zLay S) (hI : zI (w 256) n k v) (hb : b < 60) (hn : n < 40) {size pk : Int32} {w1 : Zw} (h1 : w1 = zput (zput (zput (zput w 256 (139 + 4 * n) size) 256 (139 + 4 * n + 1) pk) 256 (139 + 4 * n + 3) 0) 256 1 (w 256 1 + 1)) :
    ∃ w', f_X8_bringsIn S w1 255 (ii n) (ii b) = some ((), w') ∧ w' 256 = pIn (w 256) size pk b n ∧ zE8 w w' := by
  have hz := zI_6z hI
  have e : w1 256 = pS0 (w 256) size pk n := by
    rw [h1]
    simp only [zput_at]
    rfl
  have h := b8_in (w := w1) (s := w1 256) (jb := w1 255 8) (je := w1 255 9) (c := n) hL (by rw [e]; exact zN_S0 (zN_of hI)) hb hn (by rw [e, pS0_o (by omega) (by omega)]; exact zI_6 hI) (by omega)
  rw [zMo_self] at h
  refine ⟨_, h, ?_, ?_⟩
  · rw [zMo_s, e]
    unfold pIn
    rw [hz]
  · refine zE8.trans (b := w1) ⟨fun j h5 h6 => ?_, fun i h8 h9 => ?_⟩ zE8_Mo
    · rw [h1]
      simp (disch := omega) only [zput_ne]
    · rw [h1]
      simp (disch := omega) only [zput_ne]
end
end ZT8
