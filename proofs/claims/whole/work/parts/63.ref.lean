/-! THE REFERENCE's jobs as plans of natural numbers. -/
section ZRJ
variable {S : Zs} {w : Zw} {s : Nat → Int32} {jb je : Int32} {B : Nat}
theorem b8_begins : f_X8_jobBegins S (zMo w s jb je) 255 = some ((), zMo w s 2147483647 0) := by
  unfold f_X8_jobBegins
  simp only [zlet_eq, zMo_put8, zMo_put9]
theorem b8_does (hL : zLay S) {m : Nat} (hm : m < 4) (e pl : Nat) : f_X8_does S (zMo w s jb je) 255 (ii m) (ii e) (ii pl) = some ((), zMo w (qDo s m e pl) (zmin jb (pRdy s m)) (zmax je (ii e))) := d8_does hL hm (ii e) (ii pl)
theorem b8_hand {b : Nat} (hb : b < 60) : f_X8_handling (ii b) = ii (2 + b % 2) := by
  unfold f_X8_handling
  rw [(geo8 b hb).2.2.1, show (2 : Int32) = ii 2 from rfl, ii_add]
theorem qIn_bd (h : zN s B) {b : Nat} (hb : b < 60) : qInMet s b ≤ max 9999 B + 30 ∧ qInEnd s b ≤ max 9999 B + 50 := by
  have h3 := sR_le h (show 3 < 4 by omega)
  have hl := sR_le h (show b / 20 < 4 by omega)
  have p3 := (h.2.2.2 3 (by omega)).2.1
  have p3' := (h.2.2.2 3 (by omega)).2.2.1 rfl
  have pl := (h.2.2.2 (b / 20) (by omega)).2.1
  unfold qInEnd qInMet cCo
  omega
theorem b8_in (hL : zLay S) (hN : zN s B) {b c q : Nat} (hb : b < 60) (hc : c < 40) (hq : s 6 = ii q) (hq2 : q ≤ 20) :
    f_X8_bringsIn S (zMo w s jb je) 255 (ii c) (ii b) = some ((), zMo w (pNotes (qInM s b) (min q 19) c (-1) (ii b) (ii (qInB s b)) (ii (qInE s b))) (ii (qInB s b)) (ii (qInE s b))) := by
  have h3 : 3 < 4 := by omega
  have hl : b / 20 < 4 := by omega
  have hne : b / 20 ≠ 3 := by omega
  obtain ⟨m1, m2⟩ := qIn_bd hN hb
  have hB := hN.2.2.1
  have r3 := sR_le hN h3
  have rl := sR_le hN hl
  have e0 := pRdy_ii hN h3
  have e1 := pRdy_ii hN hl
  have e2 := (hN.2.2.2 3 h3).1
  have e3 := (hN.2.2.2 (b / 20) hl).1
  have p3 := (hN.2.2.2 3 h3).2.1
  have pl := (hN.2.2.2 (b / 20) hl).2.1
  have i3 : (3 : Int32) = ii 3 := rfl
  have a1 : ii (sR s 3) + ii 3 * ii (sP s 3) + (2 : Int32) + ii 3 * ii (b / 20) = ii (sR s 3 + 3 * sP s 3 + 2 + 3 * (b / 20)) := by
    rw [show (2 : Int32) = ii 2 from rfl, ii_mul, ii_mul, ii_add, ii_add, ii_add]
  have a2 : ii (sR s (b / 20)) + ii (sP s (b / 20)) = ii (sR s (b / 20) + sP s (b / 20)) := ii_add _ _
  have a3 : zmax (ii (sR s 3 + 3 * sP s 3 + 2 + 3 * (b / 20))) (ii (sR s (b / 20) + sP s (b / 20))) + (2 : Int32) = ii (qInMet s b) := by
    rw [zmax_ii (by omega) (by omega), show (2 : Int32) = ii 2 from rfl, ii_add]
    rfl
  have a4 : ii (qInMet s b) + ii (b % 10 / 2) + ii (2 + b % 2) = ii (qInEnd s b) := by
    rw [ii_add, ii_add]
    rfl
  have a5 : zmin (zmin 2147483647 (ii (sR s 3))) (ii (sR s (b / 20))) = ii (qInB s b) := by
    rw [zmin_max (by omega), zmin_ii (by omega) (by omega)]
    rfl
  have a6 : zmax (zmax 0 (ii (qInMet s b))) (ii (qInEnd s b)) = ii (qInE s b) := by
    rw [zmax_0 (by omega), zmax_ii (by omega) (by omega)]
    rfl
  have hs : qInM s b 6 = ii q := by
    unfold qInM
    rw [qDo_o (by omega), qDo_o (by omega), hq]
  unfold f_X8_bringsIn
  simp only [b8_begins, zbs, zlet_eq, (geo8 b hb).1, (geo8 b hb).2.1, b8_hand hb, i3, d8_ready hL h3, d8_ready hL hl, d8_at hL h3, d8_at hL hl, e0, e1, e2, e3, a1, a2, a3, a4, b8_does hL h3, b8_does hL hl, pRdy_qDo hne, a5, a6]
  have hn := n8_notes (w := w) (jb := ii (qInB s b)) (je := ii (qInE s b)) hL hs hq2 hc (Or.inl rfl) (Or.inr ⟨b, hb, rfl⟩)
  unfold qInM cCo at hn ⊢
  rw [hn, zbs]
theorem qOut_bd (h : zN s B) {b : Nat} (hb : b < 60) : qOutMet s b ≤ max 9999 B + 30 ∧ qOutEnd s b ≤ max 9999 B + 50 := by
  have h3 := sR_le h (show 3 < 4 by omega)
  have hl := sR_le h (show b / 20 < 4 by omega)
  have p3' := (h.2.2.2 3 (by omega)).2.2.1 rfl
  have pl := (h.2.2.2 (b / 20) (by omega)).2.1
  have d1 : dst (sP s 3) (b / 20) ≤ 2 := dst_le p3' (by omega)
  have d2 : dst (sP s (b / 20)) (cCo b) ≤ 4 := dst_le pl (by unfold cCo; omega)
  unfold qOutEnd qOutMet
  have : cCo b ≤ 4 := by unfold cCo; omega
  omega
theorem b8_out (hL : zLay S) (hN : zN s B) {b c q : Nat} (hb : b < 60) (hc : c < 40) (hbay : s (139 + 4 * c + 2) = ii b) (hq : s 6 = ii q) (hq2 : q ≤ 20) {k : Nat} (hk : s 2 = ii k) :
    f_X8_bringsOut S (zMo w s jb je) 255 (ii c) = some ((), zMo w (upd (pNotes (qOutM s b) (min q 19) c (ii b) (-1) (ii (qInB s b)) (ii (qOutE s b))) 2 (ii (k + 1))) (ii (qInB s b)) (ii (qOutE s b))) := by
  have h3 : 3 < 4 := by omega
  have hl : b / 20 < 4 := by omega
  have hne : 3 ≠ b / 20 := by omega
  obtain ⟨m1, m2⟩ := qOut_bd hN hb
  have hB := hN.2.2.1
  have r3 := sR_le hN h3
  have rl := sR_le hN hl
  have e0 := pRdy_ii hN h3
  have e1 := pRdy_ii hN hl
  have e2 := (hN.2.2.2 3 h3).1
  have e3 := (hN.2.2.2 (b / 20) hl).1
  have p3 := (hN.2.2.2 3 h3).2.1
  have pl := (hN.2.2.2 (b / 20) hl).2.1
  have cl : cCo b ≤ 4 := by unfold cCo; omega
  have d1 : dst (sP s 3) (b / 20) ≤ 4 := dst_le p3 (by omega)
  have d2 : dst (sP s (b / 20)) (cCo b) ≤ 4 := dst_le pl cl
  have i3 : (3 : Int32) = ii 3 := rfl
  have i0 : (0 : Int32) = ii 0 := rfl
  have a0 : zabs (ii (sP s (b / 20)) - ii (b % 10 / 2)) = ii (dst (sP s (b / 20)) (cCo b)) := zabs_ii (by omega) (by omega)
  have a00 : zabs (ii (sP s 3) - ii (b / 20)) = ii (dst (sP s 3) (b / 20)) := zabs_ii (by omega) (by omega)
  have a1 : ii (sR s (b / 20)) + ii (dst (sP s (b / 20)) (cCo b)) + ii (2 + b % 2) + ii (b % 10 / 2) = ii (sR s (b / 20) + dst (sP s (b / 20)) (cCo b) + (2 + b % 2) + cCo b) := by
    rw [ii_add, ii_add, ii_add]
    rfl
  have a2 : ii (sR s 3) + ii 3 * ii (dst (sP s 3) (b / 20)) = ii (sR s 3 + 3 * dst (sP s 3) (b / 20)) := by rw [ii_mul, ii_add]
  have a3 : zmax (ii (sR s 3 + 3 * dst (sP s 3) (b / 20))) (ii (sR s (b / 20) + dst (sP s (b / 20)) (cCo b) + (2 + b % 2) + cCo b)) + (2 : Int32) = ii (qOutMet s b) := by
    rw [zmax_ii (by omega) (by omega), show (2 : Int32) = ii 2 from rfl, ii_add]
    rfl
  have a4 : ii (qOutMet s b) + ii 3 * ii (b / 20) + (2 : Int32) = ii (qOutEnd s b) := by
    rw [show (2 : Int32) = ii 2 from rfl, ii_mul, ii_add, ii_add]
    rfl
  have a5 : zmin (zmin 2147483647 (ii (sR s (b / 20)))) (ii (sR s 3)) = ii (qInB s b) := by
    rw [zmin_max (by omega), zmin_ii (by omega) (by omega), Nat.min_comm]
    rfl
  have a6 : zmax (zmax (ii 0) (ii (qOutMet s b))) (ii (qOutEnd s b)) = ii (qOutE s b) := by
    rw [zmax_ii (by omega) (by omega), zmax_ii (by omega) (by omega), Nat.max_eq_right (Nat.zero_le _)]
    rfl
  have hs : qOutM s b 6 = ii q := by
    unfold qOutM
    rw [qDo_o (by omega), qDo_o (by omega), hq]
  have hbo : f_X8_bayOf S (zMo w s 2147483647 0) 255 (ii c) = some (ii b) := by
    unfold f_X8_bayOf f_X8_of
    have e : (139 : Int32) + (4 : Int32) * ii c + 2 = ii (139 + 4 * c + 2) := by
      rw [show (139 : Int32) = ii 139 from rfl, show (4 : Int32) = ii 4 from rfl, show (2 : Int32) = ii 2 from rfl, ii_mul, ii_add, ii_add]
    rw [e, zt255_1 hL, ztl256 hL, if_pos (zin_t (by omega) (by omega)), zix_ii (by omega), zbs, zMo_6, hbay]
  unfold f_X8_bringsOut
  simp only [b8_begins, zbs, zlet_eq, hbo, (geo8 b hb).1, (geo8 b hb).2.1, b8_hand hb, i3, d8_ready hL h3, d8_ready hL hl, d8_at hL h3, d8_at hL hl, e0, e1, e2, e3, a0, a00, a1, a2, a3, a4]
  rw [i0]
  simp only [b8_does hL h3, b8_does hL hl, zbs, pRdy_qDo hne, e0, e1, a5, a6]
  have hn := n8_notes (w := w) (jb := ii (qInB s b)) (je := ii (qOutE s b)) hL hs hq2 hc (Or.inr ⟨b, hb, rfl⟩) (Or.inl rfl)
  have h2 : zin (2 : Int32) 399 = true := by decide
  have h22 : zix (2 : Int32) = 2 := by decide
  have k2 : pNotes (qOutM s b) (min q 19) c (ii b) (-1) (ii (qInB s b)) (ii (qOutE s b)) 2 = ii k := by
    rw [pNotes_lo (Or.inr ⟨b, hb, rfl⟩) (Or.inl rfl) (by omega)]
    unfold qOutM
    rw [qDo_o (by omega), qDo_o (by omega), hk]
  have k3 : ii k + 1 = ii (k + 1) := ii_add k 1
  unfold qOutM at hn k2 ⊢
  rw [hn]
  simp only [zbs, zlet_eq, zt255_1 hL, ztl256 hL, h2, h22, if_true, zMo_6, zMo_put, k2, k3]
end ZRJ
