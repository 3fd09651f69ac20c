/-! THE CLASS's other jobs: in, and moves. -/
section ZJ7
variable {S : Zs} {w wx : Zw} {g c b d n k v : Nat} {s : Nat → Int32}
theorem c7_bringIn (hG : zGar S g) (hR : RG w g s (n + k + v)) (hI : zI s n k v) (hb : b < 60) (hx : ∀ j, g + 8 ≤ j → j < g + 16 → wx j = w j) : ∃ ms, (∀ m, m < 4 → ms m = sM3 (qInM s b) m) ∧ f_X6_bringIn S wx (g + 8) (ii c) (ii b) = some ((), zJw wx g (n + k + v) ms c (-1) (ii b) (ii (qInB s b)) (ii (qInE s b))) := by
  have hN := zN_of hI
  have h3 : 3 < 4 := by omega
  have hl : b / 20 < 4 := by omega
  have hne : b / 20 ≠ 3 := by omega
  obtain ⟨m1, m2⟩ := qIn_bd hN hb
  have hn := hI.2.2.2.2.1
  have hv := hI.2.2.2.2.2.1
  have hkn := hI.2.2.2.1
  have r3 := sR_le hN h3
  have rl := sR_le hN hl
  have hz3 := zmc_rg (g := g) h3
  have hzl := zmc_rg (g := g) hl
  have t0 : wx (g + 8) 3 = s 0 := by rw [hx _ (by omega) (by omega)]; exact hR.2.2.2.1.2.2.2.1
  have gx : ∀ m, m < 4 → gms wx g m = sM3 s m := by
    intro m hm
    have hz := zmc_rg (g := g) hm
    rw [← gms_RG hR hm]
    unfold gms
    rw [hx _ (by omega) (by omega)]
  have gp : ∀ m, m < 4 → wx (zmc g m) 0 = if m = 3 then 3 else 1 := by
    intro m hm
    have hz := zmc_rg (g := g) hm
    rw [hx _ (by omega) (by omega)]
    exact gpace hR m hm
  have g3 := gx 3 h3
  have gl := gx _ hl
  have p3 := (hN.2.2.2 3 h3).2.1
  have pl := (hN.2.2.2 (b / 20) hl).2.1
  have q3 : (sM3 s 3).1 = ii (sP s 3) := (hN.2.2.2 3 h3).1
  have ql : (sM3 s (b / 20)).1 = ii (sP s (b / 20)) := (hN.2.2.2 _ hl).1
  have e1 : zmax (wx (g + 8) 3) (gms wx g 3).2.1 = ii (sR s 3) := by rw [t0, g3, ← pRdy_R, pRdy_ii hN h3]
  have e2 : zmax (wx (g + 8) 3) (gms wx g (b / 20)).2.1 = ii (sR s (b / 20)) := by rw [t0, gl, ← pRdy_R, pRdy_ii hN hl]
  have o1 : ∀ x : Int32, x * 1 = x := fun x => by grind
  have e3 : ii (sR s 3) + zabs (0 - (gms wx g 3).1) * 3 + 2 + zabs (ii (b / 20) - 0) * 3 = ii (sR s 3 + sP s 3 * 3 + 2 + b / 20 * 3) := by
    rw [g3, q3, zabs_0 (by omega), zabs_r (by omega), show (3 : Int32) = ii 3 from rfl, show (2 : Int32) = ii 2 from rfl, ii_mul, ii_mul, ii_add, ii_add, ii_add]
  have e4 : ii (sR s (b / 20)) + zabs (0 - (gms wx g (b / 20)).1) * 1 = ii (sR s (b / 20) + sP s (b / 20)) := by
    rw [gl, ql, zabs_0 (by omega), o1, ii_add]
  have e5 : zmax (ii (sR s 3 + sP s 3 * 3 + 2 + b / 20 * 3)) (ii (sR s (b / 20) + sP s (b / 20))) + 2 = ii (qInMet s b) := by
    rw [zmax_ii (by omega) (by omega), show (2 : Int32) = ii 2 from rfl, ii_add]
    congr 1
    unfold qInMet
    omega
  have e6 : ii (qInMet s b) + zabs (ii (b % 10 / 2) - 0) * 1 + (2 + ii (b % 2)) = ii (qInEnd s b) := by
    rw [zabs_r (by omega), o1, show (2 : Int32) = ii 2 from rfl, ii_add, ii_add, ii_add]
    rfl
  have h := m6_bringIn0 (ms := gms wx g) hG gp (ii c) hb e1 e2 e3 e4 e5 e6
  rw [gms_w] at h
  have eb : zmin (ii (sR s 3)) (ii (sR s (b / 20))) = ii (qInB s b) := zmin_ii (by omega) (by omega)
  have ee : zmax (ii (qInMet s b)) (ii (qInEnd s b)) = ii (qInE s b) := zmax_ii (by omega) (by omega)
  rw [eb, ee] at h
  rw [m3_add (T := n + k + v) hG (by rw [zMw_ne (by omega) (by omega), hx _ (by omega) (by omega), hR.2.2.2.1.2.2.2.2.1, zI_T hI]) (by omega), zbs] at h
  refine ⟨_, fun m hm => ?_, h⟩
  · unfold qInM
    rw [sM3_qDo, sM3_qDo]
    have z3 : qDo s 3 (qInMet s b) (b / 20) (7 + 3 * (b / 20) + 2) = s (7 + 3 * (b / 20) + 2) := qDo_o (by omega)
    have y3 : (gms wx g 3).2.2 = s (7 + 3 * 3 + 2) := by rw [g3]; rfl
    have yl : (gms wx g (b / 20)).2.2 = s (7 + 3 * (b / 20) + 2) := by rw [gl]; rfl
    rw [z3, pRdy_qDo (by omega), pRdy_ii hN h3, pRdy_ii hN hl, y3, yl]
    by_cases cl : m = b / 20
    · subst cl
      rw [mset_at, mset_at]
      refine Prod.ext rfl (Prod.ext rfl ?_)
      show s (7 + 3 * (b / 20) + 2) - ii (sR s (b / 20)) + ii (qInEnd s b) = s (7 + 3 * (b / 20) + 2) + (ii (qInEnd s b) - ii (sR s (b / 20)))
      grind
    · rw [mset_ne cl, mset_ne cl]
      by_cases c3 : m = 3
      · subst c3
        rw [mset_at, mset_at]
        refine Prod.ext rfl (Prod.ext rfl ?_)
        show s (7 + 3 * 3 + 2) - ii (sR s 3) + ii (qInMet s b) = s (7 + 3 * 3 + 2) + (ii (qInMet s b) - ii (sR s 3))
        grind
      · rw [mset_ne c3, mset_ne c3]
        exact gx m hm
theorem c7_mvLevel (hG : zGar S g) (hR : RG w g s (n + k + v)) (hI : zI s n k v) (hb : b < 60) (hd : d < 60) (hbd : b / 20 = d / 20) : ∃ ms, (∀ m, m < 4 → ms m = sM3 (qMvM s b d) m) ∧ f_X6_moveOnLevel S w (g + 8) (ii c) (ii b) (ii d) = some ((), zJw w g (n + k + v) ms c (ii b) (ii d) (ii (qMvB s b d)) (ii (qMvE s b d))) := by
  have hN := zN_of hI
  have hl : b / 20 < 4 := by omega
  obtain ⟨m1, m2, -⟩ := qMv_bd hN hb hd
  have hn := hI.2.2.2.2.1
  have hv := hI.2.2.2.2.2.1
  have hkn := hI.2.2.2.1
  have rl := sR_le hN hl
  have t0 : w (g + 8) 3 = s 0 := hR.2.2.2.1.2.2.2.1
  have gl := gms_RG hR hl
  have pl := (hN.2.2.2 (b / 20) hl).2.1
  have ql : (sM3 s (b / 20)).1 = ii (sP s (b / 20)) := (hN.2.2.2 _ hl).1
  have cl : cCo b ≤ 4 := by unfold cCo; omega
  have cd : cCo d ≤ 4 := by unfold cCo; omega
  have e2 : zmax (w (g + 8) 3) (gms w g (b / 20)).2.1 = ii (sR s (b / 20)) := by rw [t0, gl, ← pRdy_R, pRdy_ii hN hl]
  have o1 : ∀ x : Int32, x * 1 = x := fun x => by grind
  have e6 : ii (sR s (b / 20)) + zabs (ii (b % 10 / 2) - (gms w g (b / 20)).1) * 1 + (2 + ii (b % 2)) + zabs (ii (d % 10 / 2) - ii (b % 10 / 2)) * 1 + (2 + ii (d % 2)) = ii (qMvEnd s b d) := by
    rw [gl, ql, zabs_ii (by omega) (by omega), zabs_ii (by omega) (by omega), o1, o1, show (2 : Int32) = ii 2 from rfl, ii_add, ii_add, ii_add, ii_add, ii_add, ii_add]
    congr 1
    unfold qMvEnd qMvOut cCo
    rw [dst_comm (sP s (b / 20)), dst_comm (b % 10 / 2) (d % 10 / 2)]
  have h := m6_moveOnLevel0 (ms := gms w g) hG (gpace hR) (ii c) hb hd e2 e6
  rw [gms_w] at h
  have eb : qMvB s b d = sR s (b / 20) := if_pos hbd
  have ee : qMvE s b d = qMvEnd s b d := if_pos hbd
  rw [eb, ee]
  rw [m3_add (T := n + k + v) hG (by rw [zMw_ne (by omega) (by omega), hR.2.2.2.1.2.2.2.2.1, zI_T hI]) (by omega), zbs] at h
  refine ⟨_, fun m hm => ?_, h⟩
  · unfold qMvM
    rw [if_pos hbd, sM3_qDo]
    have yl : (gms w g (b / 20)).2.2 = s (7 + 3 * (b / 20) + 2) := by rw [gl]; rfl
    rw [pRdy_ii hN hl, yl]
    by_cases cl : m = b / 20
    · subst cl
      rw [mset_at, mset_at]
      refine Prod.ext rfl (Prod.ext rfl ?_)
      show s (7 + 3 * (b / 20) + 2) - ii (sR s (b / 20)) + ii (qMvEnd s b d) = s (7 + 3 * (b / 20) + 2) + (ii (qMvEnd s b d) - ii (sR s (b / 20)))
      grind
    · rw [mset_ne cl, mset_ne cl]
      exact gms_RG hR hm
theorem c7_mvOther (hG : zGar S g) (hR : RG w g s (n + k + v)) (hI : zI s n k v) (hb : b < 60) (hd : d < 60) (hbd : b / 20 ≠ d / 20) : ∃ ms, (∀ m, m < 4 → ms m = sM3 (qMvM s b d) m) ∧ f_X6_moveToOtherLevel S w (g + 8) (ii c) (ii b) (ii d) = some ((), zJw w g (n + k + v) ms c (ii b) (ii d) (ii (qMvB s b d)) (ii (qMvE s b d))) := by
  have hN := zN_of hI
  have h3 : 3 < 4 := by omega
  have hl : b / 20 < 4 := by omega
  have hk : d / 20 < 4 := by omega
  have hne : b / 20 ≠ 3 := by omega
  have hnd : d / 20 ≠ 3 := by omega
  obtain ⟨m1, m2, m3, m4, m5⟩ := qMv_bd hN hb hd
  have hn := hI.2.2.2.2.1
  have hv := hI.2.2.2.2.2.1
  have hkn := hI.2.2.2.1
  have r3 := sR_le hN h3
  have rl := sR_le hN hl
  have rk := sR_le hN hk
  have t0 : w (g + 8) 3 = s 0 := hR.2.2.2.1.2.2.2.1
  have g3 := gms_RG hR h3
  have gl := gms_RG hR hl
  have gk := gms_RG hR hk
  have p3 := (hN.2.2.2 3 h3).2.1
  have pl := (hN.2.2.2 (b / 20) hl).2.1
  have pk := (hN.2.2.2 (d / 20) hk).2.1
  have q3 : (sM3 s 3).1 = ii (sP s 3) := (hN.2.2.2 3 h3).1
  have ql : (sM3 s (b / 20)).1 = ii (sP s (b / 20)) := (hN.2.2.2 _ hl).1
  have qk : (sM3 s (d / 20)).1 = ii (sP s (d / 20)) := (hN.2.2.2 _ hk).1
  have cl : cCo b ≤ 4 := by unfold cCo; omega
  have cd : cCo d ≤ 4 := by unfold cCo; omega
  have d1 : dst (b / 20) (sP s 3) ≤ 4 := dst_le (by omega) p3
  have d2 : dst (cCo b) (sP s (b / 20)) ≤ 4 := dst_le cl pl
  have d4 : dst (d / 20) (b / 20) ≤ 2 := dst_le (by omega) (by omega)
  have e1 : zmax (w (g + 8) 3) (gms w g 3).2.1 = ii (sR s 3) := by rw [t0, g3, ← pRdy_R, pRdy_ii hN h3]
  have e2 : zmax (w (g + 8) 3) (gms w g (b / 20)).2.1 = ii (sR s (b / 20)) := by rw [t0, gl, ← pRdy_R, pRdy_ii hN hl]
  have e3 : zmax (w (g + 8) 3) (gms w g (d / 20)).2.1 = ii (sR s (d / 20)) := by rw [t0, gk, ← pRdy_R, pRdy_ii hN hk]
  have o1 : ∀ x : Int32, x * 1 = x := fun x => by grind
  have e4 : ii (sR s (b / 20)) + zabs (ii (b % 10 / 2) - (gms w g (b / 20)).1) * 1 + (2 + ii (b % 2)) + zabs (0 - ii (b % 10 / 2)) * 1 = ii (qMvOut s b + cCo b) := by
    rw [gl, ql, zabs_ii (by omega) (by omega), zabs_0 (by omega), o1, o1, show (2 : Int32) = ii 2 from rfl, ii_add, ii_add, ii_add, ii_add]
    unfold qMvOut cCo
    rw [dst_comm (sP s (b / 20))]
  have e5 : ii (sR s 3) + zabs (ii (b / 20) - (gms w g 3).1) * 3 = ii (sR s 3 + dst (b / 20) (sP s 3) * 3) := by
    rw [g3, q3, zabs_ii (by omega) (by omega), show (3 : Int32) = ii 3 from rfl, ii_mul, ii_add]
  have e6 : zmax (ii (qMvOut s b + cCo b)) (ii (sR s 3 + dst (b / 20) (sP s 3) * 3)) + 2 = ii (qMoMet s b) := by
    rw [zmax_ii (by omega) (by omega), show (2 : Int32) = ii 2 from rfl, ii_add]
    congr 1
    unfold qMoMet
    rw [dst_comm (sP s 3)]
    omega
  have e7 : ii (qMoMet s b) + zabs (ii (d / 20) - ii (b / 20)) * 3 = ii (qMoMet s b + dst (d / 20) (b / 20) * 3) := by
    rw [zabs_ii (by omega) (by omega), show (3 : Int32) = ii 3 from rfl, ii_mul, ii_add]
  have e8 : ii (sR s (d / 20)) + zabs (0 - (gms w g (d / 20)).1) * 1 = ii (sR s (d / 20) + sP s (d / 20)) := by
    rw [gk, qk, zabs_0 (by omega), o1, ii_add]
  have e9 : zmax (ii (qMoMet s b + dst (d / 20) (b / 20) * 3)) (ii (sR s (d / 20) + sP s (d / 20))) + 2 = ii (qMoAg s b d) := by
    rw [zmax_ii (by omega) (by omega), show (2 : Int32) = ii 2 from rfl, ii_add]
    congr 1
    unfold qMoAg
    rw [dst_comm (b / 20)]
    omega
  have e10 : ii (qMoAg s b d) + zabs (ii (d % 10 / 2) - 0) * 1 + (2 + ii (d % 2)) = ii (qMoEnd s b d) := by
    rw [zabs_r (by omega), o1, show (2 : Int32) = ii 2 from rfl, ii_add, ii_add, ii_add]
    rfl
  have h := m6_moveToOther0 (ms := gms w g) hG (gpace hR) (ii c) hb hd hbd e1 e2 e3 e4 e5 e6 e7 e8 e9 e10
  rw [gms_w] at h
  have eb : zmin (ii (sR s 3)) (zmin (ii (sR s (b / 20))) (ii (sR s (d / 20)))) = ii (qMvB s b d) := by
    unfold qMvB
    rw [if_neg hbd, zmin_ii (by omega) (by omega), zmin_ii (by omega) (by omega)]
    congr 1
    omega
  have ee : zmax (ii (qMoAg s b d)) (zmax (ii (qMoMet s b)) (ii (qMoEnd s b d))) = ii (qMvE s b d) := by
    unfold qMvE
    rw [if_neg hbd, zmax_ii (by omega) (by omega), zmax_ii (by omega) (by omega)]
    congr 1
    omega
  rw [eb, ee] at h
  rw [m3_add (T := n + k + v) hG (by rw [zMw_ne (by omega) (by omega), hR.2.2.2.1.2.2.2.2.1, zI_T hI]) (by omega), zbs] at h
  refine ⟨_, fun m hm => ?_, h⟩
  · unfold qMvM
    rw [if_neg hbd, sM3_qDo, sM3_qDo, sM3_qDo]
    have z3 : qDo s (b / 20) (qMoMet s b) 0 (7 + 3 * 3 + 2) = s (7 + 3 * 3 + 2) := qDo_o (by omega)
    have zk : qDo (qDo s (b / 20) (qMoMet s b) 0) 3 (qMoAg s b d) (d / 20) (7 + 3 * (d / 20) + 2) = s (7 + 3 * (d / 20) + 2) := by rw [qDo_o (by omega), qDo_o (by omega)]
    have y3 : (gms w g 3).2.2 = s (7 + 3 * 3 + 2) := by rw [g3]; rfl
    have yl : (gms w g (b / 20)).2.2 = s (7 + 3 * (b / 20) + 2) := by rw [gl]; rfl
    have yk : (gms w g (d / 20)).2.2 = s (7 + 3 * (d / 20) + 2) := by rw [gk]; rfl
    rw [z3, zk, pRdy_qDo (m' := d / 20) (by omega), pRdy_qDo (m' := d / 20) (by omega), pRdy_qDo (m' := 3) (by omega), pRdy_ii hN h3, pRdy_ii hN hl, pRdy_ii hN hk, y3, yl, yk]
    by_cases ck : m = d / 20
    · subst ck
      rw [mset_at, mset_at]
      refine Prod.ext rfl (Prod.ext rfl ?_)
      show s (7 + 3 * (d / 20) + 2) - ii (sR s (d / 20)) + ii (qMoEnd s b d) = s (7 + 3 * (d / 20) + 2) + (ii (qMoEnd s b d) - ii (sR s (d / 20)))
      grind
    · rw [mset_ne (m := d / 20) ck, mset_ne (m := d / 20) ck]
      by_cases c3 : m = 3
      · subst c3
        rw [mset_ne (m := b / 20) (Ne.symm hne), mset_at, mset_at]
        refine Prod.ext rfl (Prod.ext rfl ?_)
        show s (7 + 3 * 3 + 2) - ii (sR s 3) + ii (qMoAg s b d) = s (7 + 3 * 3 + 2) + (ii (qMoAg s b d) - ii (sR s 3))
        grind
      · rw [mset_ne (m := 3) c3]
        by_cases cl : m = b / 20
        · subst cl
          rw [mset_at, mset_at]
          refine Prod.ext rfl (Prod.ext rfl ?_)
          show s (7 + 3 * (b / 20) + 2) - ii (sR s (b / 20)) + ii (qMoMet s b) = s (7 + 3 * (b / 20) + 2) + (ii (qMoMet s b) - ii (sR s (b / 20)))
          grind
        · rw [mset_ne cl, mset_ne cl, mset_ne c3]
          exact gms_RG hR hm
end ZJ7
