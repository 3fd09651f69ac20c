/-! THE START, and the goal. -/
section ZST
variable {S : Zs} {w : Zw}
theorem zat_of {id : Nat} {l : List Nat} {v : Int32} (h : zat w id l v = true) : ∀ i, i ∈ l → w id i = v := by
  intro i hi
  have := (List.all_eq_true.mp h) i hi
  exact of_decide_eq_true this
theorem zat_r {id m : Nat} {v : Int32} (h : zat w id (List.range m) v = true) {i : Nat} (hi : i < m) : w id i = v := zat_of h i (List.mem_range.mpr hi)
theorem zat_m {id m q : Nat} {v : Int32} (h : zat w id ((List.range m).map (q + ·)) v = true) {i : Nat} (hi : i < m) : w id (q + i) = v := zat_of h (q + i) (List.mem_map.mpr ⟨i, List.mem_range.mpr hi, rfl⟩)
theorem start_INV (h1 : zWd1 w = true) (h2 : zWd2 w = true) (h3 : zWd3 w = true) : INV 0 w := by
  unfold zWd1 at h1
  unfold zWd2 at h2
  simp only [Bool.and_eq_true] at h1 h2
  obtain ⟨a1, a2, a3, a4, a5, a6, a7, a8, a9, a10, a12, a13, a14, a15, a16, a17, a34, a249, a250⟩ := h1
  obtain ⟨b1, b2, b3, b4, b5, b6⟩ := h2
  have hPa : zPa w := by
    intro g hg m hm
    have hz := List.all_eq_true.mp h3 g hg
    simp only [Bool.and_eq_true] at hz
    obtain ⟨c1, c2, c3, c4⟩ := hz
    have c1 := zat_of c1 0 (by simp)
    have c2 := zat_of c2 0 (by simp)
    have c3 := zat_of c3 0 (by simp)
    have c4 := zat_of c4 0 (by simp)
    rcases (show m = 0 ∨ m = 1 ∨ m = 2 ∨ m = 3 by omega) with rfl | rfl | rfl | rfl
    · exact c1
    · exact c2
    · exact c3
    · exact c4
  have s0 : ∀ i, i < 79 → w 256 i = 0 := fun i hi => zat_r b3 hi
  have s1 : ∀ b, b < 60 → w 256 (79 + b) = -1 := fun b hb => zat_m b4 hb
  have s2 : ∀ i, i < 260 → w 256 (139 + i) = 0 := fun i hi => zat_m b5 hi
  have hI : zI (w 256) 0 0 0 := by
    refine ⟨s0 1 (by omega), s0 2 (by omega), s0 3 (by omega), Nat.le_refl 0, by omega, by omega, s0 6 (by omega), by rw [s0 0 (by omega)]; decide, fun b hb => Or.inl (s0 _ (by omega)), fun b hb => Or.inl (s1 b hb), fun c hc => absurd hc (Nat.not_lt_zero c), fun m hm => ?_⟩
    rw [s0 (7 + 3 * m) (by omega), s0 (7 + 3 * m + 1) (by omega)]
    exact ⟨by decide, by decide, fun _ => by decide, by decide, by decide⟩
  have hcnt : ∀ m, m ≤ 60 → pCnt (w 256) m = 0 := by
    intro m
    induction m with
    | zero => exact fun _ => rfl
    | succ m ih =>
      intro hm
      show pCnt (w 256) m + (if w 256 (79 + m) = -1 then 0 else 1) = 0
      rw [ih (by omega), if_pos (s1 m (by omega))]
  have hI9 : zI9 (w 256) 0 0 0 := ⟨hI, fun c hc => absurd hc (Nat.not_lt_zero c), by rw [hcnt 60 (by omega)]⟩
  have hR : RG w 2 (w 256) 0 := by
    refine ⟨fun b hb => ?_, fun b hb => ?_, fun c hc => ?_, ?_, fun m hm => ?_, fun j p hj hp => ?_⟩
    · rw [s0 (19 + b) (by omega)]
      exact zat_r a3 hb
    · rw [s1 b hb]
      exact zat_r a4 hb
    · have e0 := s2 (4 * c) (by omega)
      have e1 : w 256 (139 + 4 * c + 1) = 0 := s2 (4 * c + 1) (by omega)
      have e2 : w 256 (139 + 4 * c + 2) = 0 := s2 (4 * c + 2) (by omega)
      have e3 : w 256 (139 + 4 * c + 3) = 0 := s2 (4 * c + 3) (by omega)
      rw [e0, e1, e2, e3]
      exact ⟨zat_r a5 hc, zat_r a6 hc, zat_r a7 hc, zat_r a8 hc⟩
    · rw [s0 1 (by omega), s0 2 (by omega), s0 3 (by omega), s0 0 (by omega), s0 4 (by omega), s0 5 (by omega)]
      exact ⟨zat_of a2 8 (by simp), zat_of a2 9 (by simp), zat_of a2 10 (by simp), zat_of a10 3 (by simp), zat_of a13 1 (by simp), zat_of a13 2 (by simp), zat_of a13 3 (by simp)⟩
    · have hp := hPa 2 (by decide) m hm
      rw [s0 (7 + 3 * m) (by omega), s0 (7 + 3 * m + 1) (by omega), s0 (7 + 3 * m + 2) (by omega)]
      refine ⟨hp, ?_⟩
      rcases (show m = 0 ∨ m = 1 ∨ m = 2 ∨ m = 3 by omega) with rfl | rfl | rfl | rfl
      · exact ⟨zat_of a15 1 (by simp), zat_of a15 2 (by simp), zat_of a15 3 (by simp)⟩
      · exact ⟨zat_of a16 1 (by simp), zat_of a16 2 (by simp), zat_of a16 3 (by simp)⟩
      · exact ⟨zat_of a17 1 (by simp), zat_of a17 2 (by simp), zat_of a17 3 (by simp)⟩
      · exact ⟨zat_of a12 1 (by simp), zat_of a12 2 (by simp), zat_of a12 3 (by simp)⟩
    · have e : w 256 (299 + 5 * j + p) = 0 := by
        have := s2 (160 + 5 * j + p) (by omega)
        rw [show 139 + (160 + 5 * j + p) = 299 + 5 * j + p by omega] at this
        exact this
      rw [e]
      exact zat_r a14 (by omega)
  have w2 : w 1 2 = 0 := zat_of a1 2 (by simp)
  refine ⟨⟨⟨0, 0, 0, hI9, Nat.le_refl 0⟩, Sh_R hI hR⟩, ⟨0, zat_of b1 6 (by simp), ⟨0, by omega, zat_of a34 1 (by simp), zat_of a34 2 (by simp), by omega, fun q hq => absurd hq (Nat.not_lt_zero q)⟩, fun q hq => absurd hq (Nat.not_lt_zero q)⟩, hPa, ⟨by rw [w2]; exact (zat_of b1 7 (by simp)).symm, Or.inl w2⟩, Or.inl ⟨zat_of a1 7 (by simp), zat_of b2 10 (by simp)⟩, 0, by omega, zat_of a249 4 (by simp), zat_of b1 24 (by simp), fun i hi => ?_⟩
  rw [zat_r a250 hi, zat_r b6 hi]
  exact ⟨rfl, 0, by omega, rfl⟩
theorem goal_of (hF : zFLT) (hD : zFLD) : zGOAL := by
  intro L xs hL2
  obtain ⟨S, w, hp, h1, h2, h3, h4, h5⟩ := zPre_is
  have hlay := zLay_of h1 S.cl S.cd
  have hI := start_INV h3 h4 h5
  have hLS : zLay (zsF S) := hlay
  have hsh : S.n = 268 ∧ S.sh 1 = .inl 7 ∧ S.sh 255 = .inl 8 ∧ S.sh 267 = .inr (3, 1) ∧ S.sh 268 = .inr (4, 1) := by
    have hn : S.n = 268 := by
      unfold zLayB at h1
      simp only [Bool.and_eq_true, decide_eq_true_eq] at h1
      exact h1.1
    refine ⟨hn, (hlay _ (List.mem_append_left _ (List.mem_of_getElem? (i := 0) rfl))).1, (hlay _ (List.mem_append_left _ (List.mem_of_getElem? (i := 14) rfl))).1, (hlay _ (List.mem_append_left _ (List.mem_of_getElem? (i := 26) rfl))).1, (hlay _ (List.mem_append_left _ (List.mem_of_getElem? (i := 27) rfl))).1⟩
  obtain ⟨hn, q1, q2, q3, q4⟩ := hsh
  obtain ⟨cl', cd', w', hl⟩ := law_loop (S := zsF S) (L := L) (xs := xs) hF hD hLS hL2 (L / 4) 0 S.cl S.cd w (by omega) hI 513 (by omega)
  have hl : f_law (zsF S) L xs 0 1 255 267 268 513 (0, S.cl, S.cd, w) = some (1, cl', cd', w') := hl
  refine ⟨zSc (zsF S) cl' cd', w', ?_⟩
  have hp : f_pre zS0 zw0 zret = some (S, w, 1, 255, 267, 268) := hp
  have c1 : zckO S 1 7 = true := by
    unfold zckO
    simp [hn, q1]
  have c2 : zckO S 255 8 = true := by
    unfold zckO
    simp [hn, q2]
  have c3 : zckT S 267 3 = true := by
    unfold zckT
    simp [hn, q3]
  have c4 : zckT S 268 4 = true := by
    unfold zckT
    simp [hn, q4]
  unfold zGo
  rw [f_pre_K, hp, zbs]
  show zGoK L xs S w 1 255 267 268 = _
  unfold zGoK
  rw [if_pos h2, if_pos c1, if_pos c2, if_pos c3, if_pos c4, hl, zbs]
end ZST
