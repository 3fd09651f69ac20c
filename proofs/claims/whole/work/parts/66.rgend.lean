/-! THE END of a job of the class: its garage shows the new state. -/
section ZRE
theorem qInM_o {s : Nat → Int32} {b i : Nat} (hb : b < 60) (h : i < 7 ∨ 19 ≤ i) : qInM s b i = s i := by
  unfold qInM
  rw [qDo_o (by omega), qDo_o (by omega)]
theorem qOutM_o {s : Nat → Int32} {b i : Nat} (hb : b < 60) (h : i < 7 ∨ 19 ≤ i) : qOutM s b i = s i := by
  unfold qOutM
  rw [qDo_o (by omega), qDo_o (by omega)]
theorem qMvM_o {s : Nat → Int32} {b c i : Nat} (hb : b < 60) (hc : c < 60) (h : i < 7 ∨ 19 ≤ i) : qMvM s b c i = s i := by
  unfold qMvM
  split
  · rw [qDo_o (by omega)]
  · rw [qDo_o (by omega), qDo_o (by omega), qDo_o (by omega)]
theorem rg_end {w wx w' : Zw} {g T c : Nat} {s sM s2 : Nat → Int32} {ms : Nat → Zt3} {fr to jb je : Int32} (hcc : c < 40) (hR : RG w g s T) (hq : s 6 = ii (min T 20)) (hf : pFr fr) (ht : pFr to)
    (hsM : ∀ i, i = 0 ∨ (4 ≤ i ∧ i < 7) ∨ (299 ≤ i) → sM i = s i) (hms : ∀ m, m < 4 → ms m = sM3 sM m) (hs2 : ∀ i, i = 0 ∨ 4 ≤ i → s2 i = pNotes sM (min (min T 20) 19) c fr to jb je i) (hsum : s2 1 + s2 2 + s2 3 = s 1 + s 2 + s 3 + 1)
    (hx : ∀ j, g + 8 ≤ j → j < g + 16 → wx j = w j) (hJ : ∀ j, g + 8 ≤ j → j < g + 16 → w' j = zJw wx g T ms c fr to jb je j)
    (w1 : ∀ b, b < 60 → w' (g + 1) b = s2 (19 + b)) (w2 : ∀ b, b < 60 → w' (g + 2) b = s2 (79 + b)) (w3 : ∀ c, c < 40 → w' (g + 3) c = s2 (139 + 4 * c) ∧ w' (g + 4) c = s2 (139 + 4 * c + 1) ∧ w' (g + 5) c = s2 (139 + 4 * c + 2) ∧ w' (g + 6) c = s2 (139 + 4 * c + 3))
    (w4 : w' g 8 = s2 1 ∧ w' g 9 = s2 1 - s2 2 ∧ w' g 10 = s2 3) : RG w' g s2 (T + 1) := by
  obtain ⟨r1, r2, r3, ⟨r41, r42, r43, r44, r45, r46, r47⟩, r5, r6⟩ := hR
  have hq2 : min T 20 ≤ 20 := by omega
  have hqM : sM 6 = ii (min T 20) := by rw [hsM 6 (by omega), hq]
  obtain ⟨l1, l2, l3⟩ := zJw_11 (w := wx) (g := g) (T := T) (c := c) (ms := ms) (fr := fr) (to := to) (jb := jb) (je := je)
  have hp : ∀ m, m < 4 → wx (zmc g m) 0 = if m = 3 then 3 else 1 := by
    intro m hm
    have hz := zmc_rg (g := g) hm
    rw [hx _ (by omega) (by omega)]
    exact (r5 m hm).1
  refine ⟨w1, w2, w3, ⟨w4.1, w4.2.1, w4.2.2, ?_, ?_, ?_, ?_⟩, rg_ms (ms := ms) hp (fun m hm => ?_) (fun m hm => ?_), ?_⟩
  · rw [hJ _ (by omega) (by omega), zJw_o (by omega), hx _ (by omega) (by omega), r44, hs2 0 (by omega), pNotes_lo hf ht (by omega), hsM 0 (by omega)]
  · rw [hJ _ (by omega) (by omega), l1, hx _ (by omega) (by omega), r45, hsum]
  · rw [hJ _ (by omega) (by omega), l2, hx _ (by omega) (by omega), r46, hs2 4 (by omega), pNotes_4 hf ht, hsM 4 (by omega)]
  · rw [hJ _ (by omega) (by omega), l3, hx _ (by omega) (by omega), r47, hs2 5 (by omega), pNotes_5 hf ht, hsM 5 (by omega)]
  · have hz := zmc_rg (g := g) hm
    rw [hJ _ (by omega) (by omega), zJw_m hm]
  · rw [hms m hm]
    unfold sM3
    rw [hs2 _ (by omega), hs2 _ (by omega), hs2 _ (by omega), pNotes_lo hf ht (by omega), pNotes_lo hf ht (by omega), pNotes_lo hf ht (by omega)]
  · have h12 : zMw wx g ms (g + 12) = w (g + 12) := by rw [zMw_ne (by omega) (by omega), hx _ (by omega) (by omega)]
    have e12 : w' (g + 12) = zrow (zMw wx g ms) (g + 12) (T % 20 * 5) (ii c) fr to jb je (g + 12) := by rw [hJ _ (by omega) (by omega), zJw_12]
    refine rg_rows (row := pRow c fr to jb je) r6 (fun p hp5 => ?_) (fun j p hj hp5 hne => ?_) (fun j p hj hp5 => ?_)
    · rw [e12, zrow_f hp5]
    · rw [e12, zrow_o (by omega), h12]
    · rw [hs2 _ (by omega), pNotes_row hcc hf ht hqM hq2 hj hp5]
      by_cases h1 : j = min T 19
      · rw [if_pos h1, if_pos (by omega)]
      · rw [if_neg h1, if_neg (by omega)]
        by_cases h2 : 20 ≤ T
        · rw [if_pos h2, if_pos (by omega), hsM _ (by omega)]
        · rw [if_neg h2, if_neg (by omega), hsM _ (by omega)]
def pOut (s : Nat → Int32) (b c : Nat) : Nat → Int32 := upd (pNotes (qOutM s b) (min (zix (s 6)) 19) c (ii b) (-1) (ii (qInB s b)) (ii (qOutE s b))) 2 (s 2 + 1)
def pMv (s : Nat → Int32) (b d c : Nat) : Nat → Int32 := upd (pNotes (qMvM s b d) (min (zix (s 6)) 19) c (ii b) (ii d) (ii (qMvB s b d)) (ii (qMvE s b d))) 3 (s 3 + 1)
def pS0 (s : Nat → Int32) (size pk : Int32) (n : Nat) : Nat → Int32 := upd (upd (upd (upd s (139 + 4 * n) size) (139 + 4 * n + 1) pk) (139 + 4 * n + 3) 0) 1 (s 1 + 1)
def pIn (s : Nat → Int32) (size pk : Int32) (b n : Nat) : Nat → Int32 := pNotes (qInM (pS0 s size pk n) b) (min (zix (s 6)) 19) n (-1) (ii b) (ii (qInB (pS0 s size pk n) b)) (ii (qInE (pS0 s size pk n) b))
/-- the counters of a state that keeps zI -/
theorem zI_6 {s : Nat → Int32} {n k v : Nat} (h : zI s n k v) : s 6 = ii (min (n + k + v) 20) := h.2.2.2.2.2.2.1
theorem zI_6z {s : Nat → Int32} {n k v : Nat} (h : zI s n k v) : zix (s 6) = min (n + k + v) 20 := by rw [zI_6 h, zix_ii (by omega)]
theorem zI_T {s : Nat → Int32} {n k v : Nat} (h : zI s n k v) : s 1 + s 2 + s 3 = ii (n + k + v) := by rw [h.1, h.2.1, h.2.2.1, ii_add, ii_add]
section
variable {S : Zs} {w : Zw} {g c b n k v : Nat} {s : Nat → Int32}
theorem c7_bringOut (hG : zGar S g) (hR : RG w g s (n + k + v)) (hI : zI s n k v) (hb : b < 60) : ∃ ms, (∀ m, m < 4 → ms m = sM3 (qOutM s b) m) ∧ f_X6_bringOut S w (g + 8) (ii c) (ii b) = some ((), zJw w g (n + k + v) ms c (ii b) (-1) (ii (qInB s b)) (ii (qOutE s b))) := by
  have hN := zN_of hI
  have h3 : 3 < 4 := by omega
  have hl : b / 20 < 4 := by omega
  have hne : b / 20 ≠ 3 := by omega
  obtain ⟨m1, m2⟩ := qOut_bd hN hb
  have hn := hI.2.2.2.2.1
  have hv := hI.2.2.2.2.2.1
  have hkn := hI.2.2.2.1
  have r3 := sR_le hN h3
  have rl := sR_le hN hl
  have t0 : w (g + 8) 3 = s 0 := hR.2.2.2.1.2.2.2.1
  have g3 := gms_RG hR h3
  have gl := gms_RG hR hl
  have p3 := (hN.2.2.2 3 h3).2.1
  have pl := (hN.2.2.2 (b / 20) hl).2.1
  have q3 : (sM3 s 3).1 = ii (sP s 3) := (hN.2.2.2 3 h3).1
  have ql : (sM3 s (b / 20)).1 = ii (sP s (b / 20)) := (hN.2.2.2 _ hl).1
  have cl : cCo b ≤ 4 := by unfold cCo; omega
  have d1 : dst (b / 20) (sP s 3) ≤ 4 := dst_le (by omega) p3
  have d2 : dst (cCo b) (sP s (b / 20)) ≤ 4 := dst_le cl pl
  have e1 : zmax (w (g + 8) 3) (gms w g 3).2.1 = ii (sR s 3) := by rw [t0, g3, ← pRdy_R, pRdy_ii hN h3]
  have e2 : zmax (w (g + 8) 3) (gms w g (b / 20)).2.1 = ii (sR s (b / 20)) := by rw [t0, gl, ← pRdy_R, pRdy_ii hN hl]
  have o1 : ∀ x : Int32, x * 1 = x := fun x => by grind
  have e4 : ii (sR s (b / 20)) + zabs (ii (b % 10 / 2) - (gms w g (b / 20)).1) * 1 + (2 + ii (b % 2)) + zabs (0 - ii (b % 10 / 2)) * 1 = ii (sR s (b / 20) + dst (cCo b) (sP s (b / 20)) + (2 + b % 2) + cCo b) := by
    rw [gl, ql, zabs_ii (by omega) (by omega), zabs_0 (by omega), o1, o1, show (2 : Int32) = ii 2 from rfl, ii_add, ii_add, ii_add, ii_add]
    rfl
  have e3 : ii (sR s 3) + zabs (ii (b / 20) - (gms w g 3).1) * 3 = ii (sR s 3 + dst (b / 20) (sP s 3) * 3) := by
    rw [g3, q3, zabs_ii (by omega) (by omega), show (3 : Int32) = ii 3 from rfl, ii_mul, ii_add]
  have e5 : zmax (ii (sR s (b / 20) + dst (cCo b) (sP s (b / 20)) + (2 + b % 2) + cCo b)) (ii (sR s 3 + dst (b / 20) (sP s 3) * 3)) + 2 = ii (qOutMet s b) := by
    rw [zmax_ii (by omega) (by omega), show (2 : Int32) = ii 2 from rfl, ii_add]
    congr 1
    unfold qOutMet
    rw [dst_comm (sP s 3), dst_comm (sP s (b / 20))]
    omega
  have e6 : ii (qOutMet s b) + zabs (0 - ii (b / 20)) * 3 + 2 = ii (qOutEnd s b) := by
    rw [zabs_0 (by omega), show (3 : Int32) = ii 3 from rfl, show (2 : Int32) = ii 2 from rfl, ii_mul, ii_add, ii_add]
    congr 1
    unfold qOutEnd
    omega
  have h := m6_bringOut0 (ms := gms w g) hG (gpace hR) (ii c) hb e1 e2 e4 e3 e5 e6
  rw [gms_w] at h
  have eb : zmin (ii (sR s 3)) (ii (sR s (b / 20))) = ii (qInB s b) := zmin_ii (by omega) (by omega)
  have ee : zmax (ii (qOutEnd s b)) (ii (qOutMet s b)) = ii (qOutE s b) := by
    rw [zmax_ii (by omega) (by omega), Nat.max_comm]
    rfl
  rw [eb, ee] at h
  rw [m3_add (T := n + k + v) hG (by rw [zMw_ne (by omega) (by omega), hR.2.2.2.1.2.2.2.2.1, zI_T hI]) (by omega), zbs] at h
  refine ⟨_, fun m hm => ?_, h⟩
  · unfold qOutM
    rw [sM3_qDo, sM3_qDo]
    have z3 : qDo s (b / 20) (qOutMet s b) 0 (7 + 3 * 3 + 2) = s (7 + 3 * 3 + 2) := qDo_o (by omega)
    have y3 : (gms w g 3).2.2 = s (7 + 3 * 3 + 2) := by rw [g3]; rfl
    have yl : (gms w g (b / 20)).2.2 = s (7 + 3 * (b / 20) + 2) := by rw [gl]; rfl
    rw [z3, pRdy_qDo (by omega), pRdy_ii hN h3, pRdy_ii hN hl, y3, yl]
    by_cases c3 : m = 3
    · subst c3
      rw [mset_ne (Ne.symm hne), mset_at, mset_at]
      refine Prod.ext rfl (Prod.ext rfl ?_)
      show s (7 + 3 * 3 + 2) - ii (sR s 3) + ii (qOutEnd s b) = s (7 + 3 * 3 + 2) + (ii (qOutEnd s b) - ii (sR s 3))
      grind
    · rw [mset_ne (m := 3) c3]
      by_cases cl : m = b / 20
      · subst cl
        rw [mset_at, mset_at]
        refine Prod.ext rfl (Prod.ext rfl ?_)
        show s (7 + 3 * (b / 20) + 2) - ii (sR s (b / 20)) + ii (qOutMet s b) = s (7 + 3 * (b / 20) + 2) + (ii (qOutMet s b) - ii (sR s (b / 20)))
        grind
      · rw [mset_ne cl, mset_ne cl, mset_ne c3]
        exact gms_RG hR hm
end
end ZRE
