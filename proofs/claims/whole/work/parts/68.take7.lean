/-! THE CLASS takes a car out, moves one, takes one in: its garage shows the reference's new state. -/
section ZT7
variable {S : Zs} {w : Zw} {g c b d n k v : Nat} {s : Nat → Int32}
theorem RG_bay {T : Nat} (hR : RG w g s T) {c : Nat} (hc : c < 40) : w (g + 5) c = s (139 + 4 * c + 2) := (hR.2.2.1 c hc).2.2.1
theorem RG_in {T : Nat} (hR : RG w g s T) {b : Nat} (hb : b < 60) : w (g + 2) b = s (79 + b) := hR.2.1 b hb
theorem c7_takeOut (hG : zGar S g) (hR : RG w g s (n + k + v)) (hI : zI s n k v) (hb : b < 60) (hc : c < 40) (hbay : s (139 + 4 * c + 2) = ii b) :
    ∃ w', f_X1_takeOut S w g (ii c) = some ((), w') ∧ RG w' g (pOut s b c) (n + k + v + 1) ∧ ∀ j, j < g ∨ g + 16 ≤ j → w' j = w j := by
  obtain ⟨ms, hms, hb6⟩ := c7_bringOut (c := c) hG hR hI hb
  have hin : zin (ii c) 40 = true := zin_t hc (by omega)
  have hinb : zin (ii b) 60 = true := zin_t hb (by omega)
  have hzc : zix (ii c) = c := zix_ii (by omega)
  have hzb : zix (ii b) = b := zix_ii (by omega)
  have hwb : w (g + 5) c = ii b := by rw [RG_bay hR hc, hbay]
  unfold f_X1_takeOut
  rw [zg0_4 hG, zgl5 hG, zg0_7 hG, zg0_1 hG, zgl2 hG, zg0_5 hG, zgl6 hG, if_pos hin, zlet_eq, hzc, hwb, hb6, zbs, if_pos hinb, zlet_eq, if_pos hin, zlet_eq, if_pos hin, if_pos hin, zlet_eq, zlet_eq, hzb]
  refine ⟨_, rfl, ?_, fun j hj => ?_⟩
  · have hq := zI_6 hI
    have hz := zI_6z hI
    have hfr : pFr (ii b) := Or.inr ⟨b, hb, rfl⟩
    have hto : pFr (-1) := Or.inl rfl
    obtain ⟨r1, r2, r3, ⟨r41, r42, r43, r44, r45, r46, r47⟩, r5, r6⟩ := id hR
    have hs2 : ∀ i, i ≠ 2 → pOut s b c i = pNotes (qOutM s b) (min (min (n + k + v) 20) 19) c (ii b) (-1) (ii (qInB s b)) (ii (qOutE s b)) i := by
      intro i hi
      unfold pOut
      rw [upd_ne hi, hz]
    have hs1 : pOut s b c 1 = s 1 := by rw [hs2 1 (by omega), pNotes_lo hfr hto (by omega), qOutM_o hb (by omega)]
    have hs3 : pOut s b c 3 = s 3 := by rw [hs2 3 (by omega), pNotes_lo hfr hto (by omega), qOutM_o hb (by omega)]
    have hs22 : pOut s b c 2 = s 2 + 1 := by unfold pOut; rw [upd_at]
    refine rg_end (w := w) (wx := w) (s := s) (sM := qOutM s b) (ms := ms) (c := c) (fr := ii b) (to := -1) (jb := ii (qInB s b)) (je := ii (qOutE s b)) hc hR hq hfr hto (fun i hi => qOutM_o hb (by omega)) hms (fun i hi => hs2 i (by omega)) (by rw [hs1, hs22, hs3]; grind) (fun _ _ _ => rfl) (fun j h1 h2 => ?_) (fun b' hb' => ?_) (fun b' hb' => ?_) (fun c' hc' => ?_) ?_
    · simp (disch := omega) only [zput_ne]
    · rw [hs2 _ (by omega), pNotes_lo hfr hto (by omega), qOutM_o hb (by omega)]
      simp (disch := omega) only [zput_ne, zJw_o]
      exact r1 b' hb'
    · rw [hs2 _ (by omega), pNotes_in hto hfr hb', qOutM_o hb (by omega), if_neg (fun e => ii_ne (b := b') (by omega) e.symm)]
      simp (disch := omega) only [zput_ne, zput_at, zJw_o]
      by_cases h : b' = b
      · subst h
        rw [upd_at, if_pos rfl]
      · rw [upd_ne h, if_neg (fun e => h ((ii_eq (by omega) (by omega)).mp e).symm)]
        exact r2 b' hb'
    · have e : ∀ p, p < 4 → pOut s b c (139 + 4 * c' + p) = if c' = c ∧ p = 2 then -1 else if c' = c ∧ p = 3 then s (139 + 4 * c + 3) + 1 else s (139 + 4 * c' + p) := by
        intro p hp
        rw [hs2 _ (by omega), pNotes_car hfr hto hc' hp, qOutM_o hb (by omega), qOutM_o hb (by omega)]
      obtain ⟨q0, q1, q2, q3⟩ := r3 c' hc'
      have e0 := e 0 (by omega)
      rw [Nat.add_zero] at e0
      rw [e0, e 1 (by omega), e 2 (by omega), e 3 (by omega)]
      simp (disch := omega) only [zput_ne, zput_at, zJw_o]
      by_cases h : c' = c
      · subst h
        simp [upd_at, q0, q1, q3]
      · simp [upd_ne h, h, q0, q1, q2, q3]
    · rw [hs1, hs22, hs3]
      simp (disch := omega) only [zput_ne, zput_at, upd_at, upd_ne, zJw_o, r41, r42, r43, true_and, and_true]
      grind
  · simp (disch := omega) only [zput_ne]
    rcases hj with h | h
    · rw [zJw_o (by omega)]
    · rw [zJw_o (by omega)]
theorem c7_moveCar (hG : zGar S g) (hR : RG w g s (n + k + v)) (hI : zI s n k v) (hb : b < 60) (hd : d < 60) (hc : c < 40) (hbay : s (139 + 4 * c + 2) = ii b) :
    ∃ w', f_X1_moveCar S w g (ii c) (ii d) = some ((), w') ∧ RG w' g (pMv s b d c) (n + k + v + 1) ∧ ∀ j, j < g ∨ g + 16 ≤ j → w' j = w j := by
  have hin : zin (ii c) 40 = true := zin_t hc (by omega)
  have hinb : zin (ii b) 60 = true := zin_t hb (by omega)
  have hind : zin (ii d) 60 = true := zin_t hd (by omega)
  have hzc : zix (ii c) = c := zix_ii (by omega)
  have hzb : zix (ii b) = b := zix_ii (by omega)
  have hzd : zix (ii d) = d := zix_ii (by omega)
  have hwb : w (g + 5) c = ii b := by rw [RG_bay hR hc, hbay]
  have hfr : pFr (ii b) := Or.inr ⟨b, hb, rfl⟩
  have hto : pFr (ii d) := Or.inr ⟨d, hd, rfl⟩
  have key : ∀ ms : Nat → Zt3, (∀ m, m < 4 → ms m = sM3 (qMvM s b d) m) → ∃ w', f_X1_moveCar_j41 S (zJw w g (n + k + v) ms c (ii b) (ii d) (ii (qMvB s b d)) (ii (qMvE s b d))) g (ii c) (ii d) (ii b) = some ((), w') ∧ RG w' g (pMv s b d c) (n + k + v + 1) ∧ ∀ j, j < g ∨ g + 16 ≤ j → w' j = w j := by
    intro ms hms
    unfold f_X1_moveCar_j41
    rw [zg0_4 hG, zgl5 hG, zg0_1 hG, zgl2 hG, zg0_5 hG, zgl6 hG, if_pos hinb, zlet_eq, if_pos hind, zlet_eq, if_pos hin, zlet_eq, if_pos hin, if_pos hin, zlet_eq, zlet_eq, hzb, hzd, hzc]
    refine ⟨_, rfl, ?_, fun j hj => ?_⟩
    · have hq := zI_6 hI
      have hz := zI_6z hI
      obtain ⟨r1, r2, r3, ⟨r41, r42, r43, r44, r45, r46, r47⟩, r5, r6⟩ := id hR
      have hs2 : ∀ i, i ≠ 3 → pMv s b d c i = pNotes (qMvM s b d) (min (min (n + k + v) 20) 19) c (ii b) (ii d) (ii (qMvB s b d)) (ii (qMvE s b d)) i := by
        intro i hi
        unfold pMv
        rw [upd_ne hi, hz]
      have hs1 : pMv s b d c 1 = s 1 := by rw [hs2 1 (by omega), pNotes_lo hfr hto (by omega), qMvM_o hb hd (by omega)]
      have hs22 : pMv s b d c 2 = s 2 := by rw [hs2 2 (by omega), pNotes_lo hfr hto (by omega), qMvM_o hb hd (by omega)]
      have hs3 : pMv s b d c 3 = s 3 + 1 := by unfold pMv; rw [upd_at]
      refine rg_end (w := w) (wx := w) (s := s) (sM := qMvM s b d) (ms := ms) (c := c) (fr := ii b) (to := ii d) (jb := ii (qMvB s b d)) (je := ii (qMvE s b d)) hc hR hq hfr hto (fun i hi => qMvM_o hb hd (by omega)) hms (fun i hi => hs2 i (by omega)) (by rw [hs1, hs22, hs3]; grind) (fun _ _ _ => rfl) (fun j h1 h2 => ?_) (fun b' hb' => ?_) (fun b' hb' => ?_) (fun c' hc' => ?_) ?_
      · simp (disch := omega) only [zput_ne]
      · rw [hs2 _ (by omega), pNotes_lo hfr hto (by omega), qMvM_o hb hd (by omega)]
        simp (disch := omega) only [zput_ne, zJw_o]
        exact r1 b' hb'
      · rw [hs2 _ (by omega), pNotes_in hto hfr hb', qMvM_o hb hd (by omega)]
        simp (disch := omega) only [zput_ne, zput_at, zJw_o]
        by_cases h : b' = d
        · subst h
          rw [upd_at, if_pos rfl]
        · rw [upd_ne h, if_neg (fun e => h ((ii_eq (by omega) (by omega)).mp e).symm)]
          by_cases h9 : b' = b
          · subst h9
            rw [upd_at, if_pos rfl]
          · rw [upd_ne h9, if_neg (fun e => h9 ((ii_eq (by omega) (by omega)).mp e).symm)]
            exact r2 b' hb'
      · have e : ∀ p, p < 4 → pMv s b d c (139 + 4 * c' + p) = if c' = c ∧ p = 2 then ii d else if c' = c ∧ p = 3 then s (139 + 4 * c + 3) + 1 else s (139 + 4 * c' + p) := by
          intro p hp
          rw [hs2 _ (by omega), pNotes_car hfr hto hc' hp, qMvM_o hb hd (by omega), qMvM_o hb hd (by omega)]
        obtain ⟨q0, q1, q2, q3⟩ := r3 c' hc'
        have e0 := e 0 (by omega)
        rw [Nat.add_zero] at e0
        rw [e0, e 1 (by omega), e 2 (by omega), e 3 (by omega)]
        simp (disch := omega) only [zput_ne, zput_at, zJw_o]
        by_cases h : c' = c
        · subst h
          simp [upd_at, q0, q1, q3]
        · simp [upd_ne h, h, q0, q1, q2, q3]
      · rw [hs1, hs22, hs3]
        simp (disch := omega) only [zput_ne, zput_at, upd_at, upd_ne, zJw_o, r41, r42, r43, true_and, and_true]
    · simp (disch := omega) only [zput_ne]
      rcases hj with h | h
      · rw [zJw_o (by omega)]
      · rw [zJw_o (by omega)]
  unfold f_X1_moveCar
  rw [zg0_4 hG, zgl5 hG, zg0_7 hG, if_pos hin, zlet_eq, hzc, hwb, (geo7 b hb).1, (geo7 d hd).1]
  by_cases hbd : b / 20 = d / 20
  · obtain ⟨ms, hms, h6⟩ := c7_mvLevel (c := c) hG hR hI hb hd hbd
    rw [if_pos (by rw [hbd]), h6, zbs]
    exact key ms hms
  · obtain ⟨ms, hms, h6⟩ := c7_mvOther (c := c) hG hR hI hb hd hbd
    rw [if_neg (by rw [ii_eq (by omega) (by omega)]; exact hbd), h6, zbs]
    exact key ms hms
end ZT7
