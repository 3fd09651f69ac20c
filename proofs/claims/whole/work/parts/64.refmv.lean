/-! THE REFERENCE moves a car. -/
section ZRM
variable {S : Zs} {w : Zw} {s : Nat → Int32} {jb je : Int32} {B : Nat}
theorem b8_bayOf (hL : zLay S) {b c : Nat} (hc : c < 40) (hbay : s (139 + 4 * c + 2) = ii b) : f_X8_bayOf S (zMo w s jb je) 255 (ii c) = some (ii b) := by
  unfold f_X8_bayOf f_X8_of
  have e : (139 : Int32) + (4 : Int32) * ii c + 2 = ii (139 + 4 * c + 2) := by
    rw [show (139 : Int32) = ii 139 from rfl, show (4 : Int32) = ii 4 from rfl, show (2 : Int32) = ii 2 from rfl, ii_mul, ii_add, ii_add]
  rw [e, zt255_1 hL, ztl256 hL, if_pos (zin_t (by omega) (by omega)), zix_ii (by omega), zbs, zMo_6, hbay]
theorem b8_j196 (hL : zLay S) {sM : Nat → Int32} {b d c q v : Nat} (hb : b < 60) (hd : d < 60) (hc : c < 40) (hq : sM 6 = ii q) (hq2 : q ≤ 20) (hv : sM 3 = ii v) :
    f_X8_moves_j196 S (zMo w sM jb je) 255 (ii c) (ii d) (ii b) = some ((), zMo w (upd (pNotes sM (min q 19) c (ii b) (ii d) jb je) 3 (ii (v + 1))) jb je) := by
  have hn := n8_notes (w := w) (jb := jb) (je := je) hL hq hq2 hc (Or.inr ⟨b, hb, rfl⟩) (Or.inr ⟨d, hd, rfl⟩)
  have h3 : zin (3 : Int32) 399 = true := by decide
  have h33 : zix (3 : Int32) = 3 := by decide
  have k2 : pNotes sM (min q 19) c (ii b) (ii d) jb je 3 = ii v := by
    rw [pNotes_lo (Or.inr ⟨b, hb, rfl⟩) (Or.inr ⟨d, hd, rfl⟩) (by omega), hv]
  have k3 : ii v + 1 = ii (v + 1) := ii_add v 1
  unfold f_X8_moves_j196
  rw [hn]
  simp only [zbs, zlet_eq, zt255_1 hL, ztl256 hL, h3, h33, if_true, zMo_6, zMo_put, k2, k3]
theorem qMv_bd (h : zN s B) {b c : Nat} (hb : b < 60) (hc : c < 60) : qMvOut s b ≤ max 9999 B + 10 ∧ qMvEnd s b c ≤ max 9999 B + 30 ∧ qMoMet s b ≤ max 9999 B + 40 ∧ qMoAg s b c ≤ max 9999 B + 60 ∧ qMoEnd s b c ≤ max 9999 B + 100 := by
  have h3 := sR_le h (show 3 < 4 by omega)
  have hl := sR_le h (show b / 20 < 4 by omega)
  have hk := sR_le h (show c / 20 < 4 by omega)
  have p3' := (h.2.2.2 3 (by omega)).2.2.1 rfl
  have pl := (h.2.2.2 (b / 20) (by omega)).2.1
  have pk := (h.2.2.2 (c / 20) (by omega)).2.1
  have c1 : cCo b ≤ 4 := by unfold cCo; omega
  have c2 : cCo c ≤ 4 := by unfold cCo; omega
  have d1 : dst (sP s 3) (b / 20) ≤ 2 := dst_le p3' (by omega)
  have d2 : dst (sP s (b / 20)) (cCo b) ≤ 4 := dst_le pl c1
  have d3 : dst (cCo b) (cCo c) ≤ 4 := dst_le c1 c2
  have d4 : dst (b / 20) (c / 20) ≤ 2 := dst_le (by omega) (by omega)
  unfold qMoEnd qMoAg qMoMet qMvEnd qMvOut
  omega
theorem b8_moves (hL : zLay S) (hN : zN s B) {b d c q v : Nat} (hb : b < 60) (hd : d < 60) (hc : c < 40) (hbay : s (139 + 4 * c + 2) = ii b) (hq : s 6 = ii q) (hq2 : q ≤ 20) (hv : s 3 = ii v) :
    f_X8_moves S (zMo w s jb je) 255 (ii c) (ii d) = some ((), zMo w (upd (pNotes (qMvM s b d) (min q 19) c (ii b) (ii d) (ii (qMvB s b d)) (ii (qMvE s b d))) 3 (ii (v + 1))) (ii (qMvB s b d)) (ii (qMvE s b d))) := by
  have h3 : 3 < 4 := by omega
  have hl : b / 20 < 4 := by omega
  have hk : d / 20 < 4 := by omega
  obtain ⟨m1, m2, m3, m4, m5⟩ := qMv_bd hN hb hd
  have hB := hN.2.2.1
  have rl := sR_le hN hl
  have e1 := pRdy_ii hN hl
  have e3 := (hN.2.2.2 (b / 20) hl).1
  have pl := (hN.2.2.2 (b / 20) hl).2.1
  have c1 : cCo b ≤ 4 := by unfold cCo; omega
  have c2 : cCo d ≤ 4 := by unfold cCo; omega
  have a0 : zabs (ii (sP s (b / 20)) - ii (b % 10 / 2)) = ii (dst (sP s (b / 20)) (cCo b)) := zabs_ii (by omega) (by omega)
  have a1 : ii (sR s (b / 20)) + ii (dst (sP s (b / 20)) (cCo b)) + ii (2 + b % 2) = ii (qMvOut s b) := by
    rw [ii_add, ii_add]
    rfl
  have a2 : zabs (ii (b % 10 / 2) - ii (d % 10 / 2)) = ii (dst (cCo b) (cCo d)) := zabs_ii (by omega) (by omega)
  have a3 : ii (qMvOut s b) + ii (dst (cCo b) (cCo d)) + ii (2 + d % 2) = ii (qMvEnd s b d) := by
    rw [ii_add, ii_add]
    rfl
  have i0 : (0 : Int32) = ii 0 := rfl
  unfold f_X8_moves
  simp only [b8_begins, zbs, zlet_eq, b8_bayOf hL hc hbay, (geo8 b hb).1, (geo8 b hb).2.1, (geo8 d hd).1, (geo8 d hd).2.1, b8_hand hb, b8_hand hd, d8_ready hL hl, d8_at hL hl, e1, e3, a0, a1, a2, a3]
  by_cases hbd : b / 20 = d / 20
  · have hq6 : qMvM s b d 6 = ii q := by
      unfold qMvM
      rw [if_pos hbd, qDo_o (by omega), hq]
    have hv6 : qMvM s b d 3 = ii v := by
      unfold qMvM
      rw [if_pos hbd, qDo_o (by omega), hv]
    have h9 := b8_j196 (w := w) (jb := ii (qMvB s b d)) (je := ii (qMvE s b d)) hL hb hd hc hq6 hq2 hv6
    have a5 : zmin 2147483647 (ii (sR s (b / 20))) = ii (qMvB s b d) := by
      unfold qMvB
      rw [if_pos hbd, zmin_max (by omega)]
    have a6 : zmax 0 (ii (qMvEnd s b d)) = ii (qMvE s b d) := by
      unfold qMvE
      rw [if_pos hbd, zmax_0 (by omega)]
    have aM : qDo s (b / 20) (qMvEnd s b d) (d % 10 / 2) = qMvM s b d := by
      unfold qMvM cCo
      rw [if_pos hbd]
    rw [if_pos (by rw [hbd]), b8_does hL hl, zbs, e1, a5, a6, aM, h9]
  · have hne : ¬ ii (b / 20) = ii (d / 20) := by
      rw [ii_eq (by omega) (by omega)]
      exact hbd
    have r3 := sR_le hN h3
    have rk := sR_le hN hk
    have e0 := pRdy_ii hN h3
    have e9 := pRdy_ii hN hk
    have e2 := (hN.2.2.2 3 h3).1
    have e4 := (hN.2.2.2 (d / 20) hk).1
    have p3 := (hN.2.2.2 3 h3).2.1
    have pk := (hN.2.2.2 (d / 20) hk).2.1
    have d1 : dst (sP s 3) (b / 20) ≤ 4 := dst_le p3 (by omega)
    have d4 : dst (b / 20) (d / 20) ≤ 2 := dst_le (by omega) (by omega)
    have i3 : (3 : Int32) = ii 3 := rfl
    have n1 : 3 ≠ b / 20 := by omega
    have n2 : d / 20 ≠ 3 := by omega
    have n3 : d / 20 ≠ b / 20 := fun z => hbd z.symm
    have a00 : zabs (ii (sP s 3) - ii (b / 20)) = ii (dst (sP s 3) (b / 20)) := zabs_ii (by omega) (by omega)
    have a01 : zabs (ii (b / 20) - ii (d / 20)) = ii (dst (b / 20) (d / 20)) := zabs_ii (by omega) (by omega)
    have a4 : ii (qMvOut s b) + ii (b % 10 / 2) = ii (qMvOut s b + cCo b) := ii_add _ _
    have a5 : ii (sR s 3) + ii 3 * ii (dst (sP s 3) (b / 20)) = ii (sR s 3 + 3 * dst (sP s 3) (b / 20)) := by rw [ii_mul, ii_add]
    have a6 : zmax (ii (qMvOut s b + cCo b)) (ii (sR s 3 + 3 * dst (sP s 3) (b / 20))) + (2 : Int32) = ii (qMoMet s b) := by
      rw [zmax_ii (by omega) (by omega), show (2 : Int32) = ii 2 from rfl, ii_add]
      rfl
    have a7 : ii (qMoMet s b) + ii 3 * ii (dst (b / 20) (d / 20)) = ii (qMoMet s b + 3 * dst (b / 20) (d / 20)) := by rw [ii_mul, ii_add]
    have a8 : ii (sR s (d / 20)) + ii (sP s (d / 20)) = ii (sR s (d / 20) + sP s (d / 20)) := ii_add _ _
    have a9 : zmax (ii (qMoMet s b + 3 * dst (b / 20) (d / 20))) (ii (sR s (d / 20) + sP s (d / 20))) + (2 : Int32) = ii (qMoAg s b d) := by
      rw [zmax_ii (by omega) (by omega), show (2 : Int32) = ii 2 from rfl, ii_add]
      rfl
    have a10 : ii (qMoAg s b d) + ii (d % 10 / 2) + ii (2 + d % 2) = ii (qMoEnd s b d) := by
      rw [ii_add, ii_add]
      rfl
    have a11 : zmin (zmin (zmin 2147483647 (ii (sR s (b / 20)))) (ii (sR s 3))) (ii (sR s (d / 20))) = ii (qMvB s b d) := by
      unfold qMvB
      rw [if_neg hbd, zmin_max (by omega), zmin_ii (by omega) (by omega), zmin_ii (by omega) (by omega)]
    have a12 : zmax (zmax (zmax (ii 0) (ii (qMoMet s b))) (ii (qMoAg s b d))) (ii (qMoEnd s b d)) = ii (qMvE s b d) := by
      unfold qMvE
      rw [if_neg hbd, zmax_ii (by omega) (by omega), zmax_ii (by omega) (by omega), zmax_ii (by omega) (by omega), Nat.max_eq_right (Nat.zero_le (qMoMet s b))]
    have hq6 : qMvM s b d 6 = ii q := by
      unfold qMvM
      rw [if_neg hbd, qDo_o (by omega), qDo_o (by omega), qDo_o (by omega), hq]
    have hv6 : qMvM s b d 3 = ii v := by
      unfold qMvM
      rw [if_neg hbd, qDo_o (by omega), qDo_o (by omega), qDo_o (by omega), hv]
    have aM : qDo (qDo (qDo s (b / 20) (qMoMet s b) 0) 3 (qMoAg s b d) (d / 20)) (d / 20) (qMoEnd s b d) (d % 10 / 2) = qMvM s b d := by
      unfold qMvM cCo
      rw [if_neg hbd]
    have h9 := b8_j196 (w := w) (jb := ii (qMvB s b d)) (je := ii (qMvE s b d)) hL hb hd hc hq6 hq2 hv6
    rw [if_neg hne]
    simp only [i3, d8_ready hL h3, d8_ready hL hk, d8_at hL h3, d8_at hL hk, zbs, zlet_eq, e0, e2, e9, e4, a00, a01, a4, a5, a6, a7, a8, a9, a10]
    rw [i0]
    simp only [b8_does hL hl, b8_does hL h3, b8_does hL hk, zbs, pRdy_qDo n1, pRdy_qDo n2, pRdy_qDo n3, e0, e1, e9, a11, a12, aM]
    exact h9
end ZRM
