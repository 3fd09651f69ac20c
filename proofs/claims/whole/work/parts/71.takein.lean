/-! CARS THAT COME, both sides. -/
section ZTI
theorem zfold_inv {B : Type} {step : Nat → B → B} {P : B → Prop} (m i : Nat) (b : B) (h : ∀ j b, i ≤ j → j < i + m → P b → P (step j b)) (hb : P b) : P (zfold step i m b) := by
  induction m generalizing i b with
  | zero => exact hb
  | succ m ih => exact ih (i + 1) (step i b) (fun j b h1 h2 => h j b (by omega) (by omega)) (h i b (Nat.le_refl i) (by omega) hb)
theorem pCh_ok {s : Nat → Int32} {size pk fr : Int32} : pCh s size pk fr = -1 ∨ ∃ b, b < 60 ∧ pCh s size pk fr = ii b ∧ pCand s size b = true := by
  refine zfold_inv (P := fun a : Int32 × Int32 => a.1 = -1 ∨ ∃ b, b < 60 ∧ a.1 = ii b ∧ pCand s size b = true) 60 0 (-1, 0) (fun j b h1 h2 h => ?_) (Or.inl rfl)
  unfold pStep
  by_cases hc : pCand s size j = true
  · rw [if_pos hc]
    split
    · exact Or.inr ⟨j, by omega, rfl, hc⟩
    · exact h
  · rw [if_neg hc]
    exact h
theorem pCand_emp {s : Nat → Int32} {size : Int32} {b : Nat} (h : pCand s size b = true) : s (79 + b) = -1 := by
  unfold pCand at h
  simp only [Bool.and_eq_true, decide_eq_true_eq] at h
  exact h.2.1
theorem zMo_s {w : Zw} {s : Nat → Int32} {jb je : Int32} : zMo w s jb je 256 = s := by
  funext i
  exact zMo_6 i
theorem zMo_zMo {w : Zw} {s s' : Nat → Int32} {jb je jb' je' : Int32} : zMo (zMo w s jb je) s' jb' je' = zMo w s' jb' je' := by
  funext j i
  unfold zMo
  by_cases h : j = 256
  · simp [h]
  · by_cases h2 : j = 255
    · subst h2
      by_cases h8 : i = 8
      · simp [h8]
      · by_cases h9 : i = 9
        · simp [h9]
        · simp [h8, h9]
    · simp [h, h2]
theorem zMo_put5 {w : Zw} {s : Nat → Int32} {jb je x : Int32} {i : Nat} (h8 : i ≠ 8) (h9 : i ≠ 9) : zput (zMo w s jb je) 255 i x = zMo (zput w 255 i x) s jb je := by
  funext j q
  unfold zput zMo
  by_cases h : j = 255
  · subst h
    by_cases h2 : q = i
    · subst h2
      simp [h8, h9]
    · simp [h2]
  · simp [h]
theorem zMo_puto {w : Zw} {s : Nat → Int32} {jb je x : Int32} {j0 i : Nat} (h5 : j0 ≠ 255) (h6 : j0 ≠ 256) : zput (zMo w s jb je) j0 i x = zMo (zput w j0 i x) s jb je := by
  funext j q
  unfold zput zMo
  by_cases h : j = j0
  · subst h
    simp [h5, h6]
  · simp [h]
theorem zMo_o {w : Zw} {s : Nat → Int32} {jb je : Int32} {j : Nat} (h5 : j ≠ 255) (h6 : j ≠ 256) : zMo w s jb je j = w j := by
  funext i
  simp [zMo, h5, h6]
theorem zMo_5 {w : Zw} {s : Nat → Int32} {jb je : Int32} {i : Nat} (h8 : i ≠ 8) (h9 : i ≠ 9) : zMo w s jb je 255 i = w 255 i := by
  simp [zMo, h8, h9]
section
variable {S : Zs} {w : Zw} {g c b d n k v : Nat} {s : Nat → Int32} {size pk : Int32}
theorem c7_isFull (hR : RG w g s (n + k + v)) (hI : zI s n k v) : f_X1_isFull S w g = some (if n = 40 then 1 else 0) := by
  have hn := hI.2.2.2.2.1
  unfold f_X1_isFull
  rw [hR.2.2.2.1.1, hI.1, show (40 : Int32) = ii 40 from rfl]
  by_cases h : n = 40
  · rw [if_neg (by rw [ii_lt (by omega) (by omega)]; omega), if_pos h]
  · rw [if_pos (by rw [ii_lt (by omega) (by omega)]; omega), if_neg h]
theorem c7_takeIn0 (hG : zGar S g) (hR : RG w g s (n + k + v)) (hI : zI s n k v) (h : pCh s size pk (-1) = -1 ∨ n = 40) : f_X1_takeIn S w g size pk = some (-1, w) := by
  unfold f_X1_takeIn
  rw [c7_choose hG hR hI (Or.inl rfl), zbs]
  by_cases h1 : pCh s size pk (-1) = -1
  · rw [if_pos h1]
  · have hf : f_X1_isFull S w g = some 1 := by rw [c7_isFull hR hI, if_pos (h.resolve_left h1)]
    rw [if_neg h1, hf, zbs, if_neg (by decide)]
theorem c7_takeIn (hG : zGar S g) (hR : RG w g s (n + k + v)) (hI : zI s n k v) (hb : b < 60) (h : pCh s size pk (-1) = ii b) (hn : n < 40) :
    ∃ w', f_X1_takeIn S w g size pk = some (ii b, w') ∧ RG w' g (pIn s size pk b n) (n + k + v + 1) ∧ ∀ j, j < g ∨ g + 16 ≤ j → w' j = w j := by
  have hin : zin (ii n) 40 = true := zin_t hn (by omega)
  have hf : f_X1_isFull S w g = some 0 := by rw [c7_isFull hR hI, if_neg (by omega)]
  have hinb : zin (ii b) 60 = true := zin_t hb (by omega)
  have hzn : zix (ii n) = n := zix_ii (by omega)
  have hzb : zix (ii b) = b := zix_ii (by omega)
  have h8 : w g 8 = ii n := by rw [hR.2.2.2.1.1, hI.1]
  obtain ⟨wx, hwx⟩ : ∃ wx, wx = zput (zput (zput (zput (zput (zput (zput w (g + 3) n size) (g + 4) n pk) (g + 5) n (ii b)) (g + 6) n 1) (g + 2) b (ii n)) g 8 (ii n + 1)) g 9 (w g 9 + 1) := ⟨_, rfl⟩
  have hx : ∀ j, g + 8 ≤ j → j < g + 16 → wx j = w j := by
    intro j h1 h2
    rw [hwx]
    simp (disch := omega) only [zput_ne]
  obtain ⟨ms, hms, h6⟩ := c7_bringIn (c := n) hG hR hI hb hx
  have e8 : zput (zput (zput (zput (zput w (g + 3) n size) (g + 4) n pk) (g + 5) n (ii b)) (g + 6) n 1) (g + 2) b (ii n) g 8 = ii n := by
    simp (disch := omega) only [zput_ne]
    exact h8
  have e9 : zput (zput (zput (zput (zput (zput w (g + 3) n size) (g + 4) n pk) (g + 5) n (ii b)) (g + 6) n 1) (g + 2) b (ii n)) g 8 (ii n + 1) g 9 = w g 9 := by
    simp (disch := omega) only [zput_ne, zput_at, upd_ne]
  unfold f_X1_takeIn
  rw [c7_choose hG hR hI (Or.inl rfl), zbs, h, if_neg (ii_ne (by omega)), hf, zbs, if_pos rfl, zlet_eq, h8, zg0_2 hG, zgl3 hG, zg0_3 hG, zgl4 hG, zg0_4 hG, zgl5 hG, zg0_5 hG, zgl6 hG, zg0_1 hG, zgl2 hG, zg0_7 hG, if_pos hin, zlet_eq, if_pos hin, zlet_eq, if_pos hin, zlet_eq, if_pos hin, zlet_eq, if_pos hinb, zlet_eq, zlet_eq, zlet_eq, hzn, hzb, e8, e9, ← hwx, h6, zbs]
  refine ⟨zJw wx g (n + k + v) ms n (-1) (ii b) (ii (qInB s b)) (ii (qInE s b)), rfl, ?_, fun j hj => ?_⟩
  · have hq := zI_6 hI
    have hz := zI_6z hI
    have hto : pFr (ii b) := Or.inr ⟨b, hb, rfl⟩
    have hfr : pFr (-1) := Or.inl rfl
    obtain ⟨q0, q1, q2, q3, q4, q5⟩ := pS0_q (s := s) (size := size) (pk := pk) (n := n) hb
    obtain ⟨r1, r2, r3, ⟨r41, r42, r43, r44, r45, r46, r47⟩, r5, r6⟩ := id hR
    have hs2 : ∀ i, pIn s size pk b n i = pNotes (qInM (pS0 s size pk n) b) (min (min (n + k + v) 20) 19) n (-1) (ii b) (ii (qInB s b)) (ii (qInE s b)) i := by
      intro i
      unfold pIn
      rw [hz, q4, q5]
    refine rg_end (w := w) (wx := wx) (s := s) (sM := qInM (pS0 s size pk n) b) (ms := ms) (c := n) (fr := -1) (to := ii b) (jb := ii (qInB s b)) (je := ii (qInE s b)) hn hR hq hfr hto (fun i hi => ?_) (fun m hm => ?_) (fun i hi => hs2 i) ?_ hx (fun j h1 h2 => rfl) (fun b' hb' => ?_) (fun b' hb' => ?_) (fun c' hc' => ?_) ?_
    · rw [qInM_o hb (by omega), pS0_o (by omega) (by omega)]
    · rw [hms m hm]
      unfold qInM
      rw [q2, q3, sM3_qDo, sM3_qDo, sM3_qDo, sM3_qDo]
      have a1 : sM3 (pS0 s size pk n) m = sM3 s m := by
        unfold sM3
        rw [pS0_o (by omega) (by omega), pS0_o (by omega) (by omega), pS0_o (by omega) (by omega)]
      have a2 : ∀ m, m < 4 → pRdy (pS0 s size pk n) m = pRdy s m := by
        intro m hm
        unfold pRdy
        rw [pS0_o (by omega) (by omega), pS0_o (by omega) (by omega)]
      have a3 : ∀ m e pl, m < 4 → m ≠ 3 → qDo (pS0 s size pk n) 3 e pl (7 + 3 * m + 2) = qDo s 3 e pl (7 + 3 * m + 2) := by
        intro m e pl hm h3
        rw [qDo_o (by omega), qDo_o (by omega), pS0_o (by omega) (by omega)]
      rw [a2 3 (by omega), a3 _ _ _ (by omega) (by omega), pRdy_qDo (by omega), pRdy_qDo (by omega), a2 _ (by omega), pS0_o (i := 7 + 3 * 3 + 2) (by omega) (by omega)]
      unfold mset
      split
      · rfl
      · split
        · rfl
        · exact a1.symm
    · rw [pIn_1 hb, pIn_lo hb (by omega), pIn_lo hb (by omega)]
      grind
    · rw [zJw_o (by omega), pIn_lo hb (by omega), hwx]
      simp (disch := omega) only [zput_ne]
      exact r1 b' hb'
    · rw [zJw_o (by omega), pIn_in hb hb', hwx]
      simp (disch := omega) only [zput_ne, zput_at]
      by_cases h : b' = b
      · subst h
        rw [upd_at, if_pos rfl]
      · rw [upd_ne h, if_neg (fun e => h ((ii_iff (by omega) (by omega)).mp e).symm)]
        exact r2 b' hb'
    · obtain ⟨q0, q1, q2, q3⟩ := r3 c' hc'
      have e0 := pIn_car (s := s) (size := size) (pk := pk) (n := n) (p := 0) hb hc' (by omega)
      rw [Nat.add_zero] at e0
      rw [e0, pIn_car hb hc' (by omega), pIn_car hb hc' (by omega), pIn_car hb hc' (by omega)]
      simp (disch := omega) only [zJw_o]
      rw [hwx]
      simp (disch := omega) only [zput_ne, zput_at]
      by_cases h : c' = n
      · subst h
        simp [upd_at]
      · simp [upd_ne h, h, q0, q1, q2, q3]
    · rw [pIn_1 hb, pIn_lo hb (by omega), pIn_lo hb (by omega)]
      simp (disch := omega) only [zJw_o]
      rw [hwx]
      simp (disch := omega) only [zput_ne, zput_at, upd_at, upd_ne, r42, r43, hI.1, true_and, and_true]
      grind
  · rcases hj with h | h
    · rw [zJw_o (by omega), hwx]
      simp (disch := omega) only [zput_ne]
    · rw [zJw_o (by omega), hwx]
      simp (disch := omega) only [zput_ne]
end
end ZTI
