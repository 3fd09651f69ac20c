/-! THE CLASS's search: the end of the latest jobs, and its judgement. -/
section ZJD
variable {S : Zs} {w : Zw} {n k v T : Nat} {s : Nat → Int32}
theorem c7_latest {g : Nat} (hG : zGar S g) (hR : RG w g s (n + k + v)) (hI : zI s n k v) {M : Nat} (hM : M ≤ min (n + k + v) 20) : f_X3_endOfLatest S w (g + 11) (ii M) = some (pFe s M 0) := by
  have hn := zI_n hI
  have hkn := hI.2.2.2.1
  have hv1 := hI.2.2.2.2.2.1
  have hT := RG_T hR hI
  have hk := c7_kept (S := S) (s := s) hT (by omega)
  have zK : zix (s 6) = min (n + k + v) 20 := zI_6z hI
  generalize hKe : min (n + k + v) 20 = K at hM hk zK
  have hK20 : K ≤ 20 := by omega
  have e1 : zmax (ii K - ii M) 0 = ii (K - M) := by
    have : ii K = ii (K - M) + ii M := by rw [ii_add]; congr 1; omega
    have e2 : ii K - ii M = ii (K - M) := by rw [this]; grind
    rw [e2, show (0 : Int32) = ii 0 from rfl, zmax_ii (by omega) (by omega), Nat.max_eq_left (Nat.zero_le _)]
  have hs : ∀ (kk : (Int32 × Int32) → Option Int32) (i : Nat) (x : Int32 × Int32), i < M → (x.2 = ii (K - (M - i)) ∧ pFe s (M - i) x.1 = pFe s M 0) →
      ∃ x' : Int32 × Int32, (x'.2 = ii (K - (M - (i + 1))) ∧ pFe s (M - (i + 1)) x'.1 = pFe s M 0) ∧ f_X3_endOfLatest_b13 S w (g + 11) kk x.1 x.2 = kk x' := by
    rintro kk i ⟨x, y⟩ hi ⟨rfl, h2⟩
    have h2 : pFe s (M - i) x = pFe s M 0 := h2
    refine ⟨(zmax x (s (299 + 5 * (K - (M - i)) + 4)), ii (K - (M - i) + 1)), ⟨?_, ?_⟩, ?_⟩
    · show ii _ = ii _
      congr 1
      omega
    · rw [← h2, show M - i = (M - (i + 1)) + 1 by omega]
      show _ = pFe s (M - (i + 1)) (zmax x (s (299 + 5 * (zix (s 6) - (M - (i + 1) + 1)) + 4)))
      rw [zK]
    · show f_X3_endOfLatest_b13 S w (g + 11) kk x (ii (K - (M - i))) = _
      unfold f_X3_endOfLatest_b13
      have hp := c7_partOf (S := S) (w := w) (s := s) hG hT (by omega) hR.2.2.2.2.2 (i := K - (M - i)) (p := 4) (by omega) (by omega)
      have hp : f_X3_partOf S w (g + 11) (ii (K - (M - i))) 4 = some (s (299 + 5 * (K - (M - i)) + 4)) := hp
      rw [hk, if_neg (by rw [ii_le (by omega) (by omega)]; omega), hp, zbs, zlet_eq, ii_succ]
  obtain ⟨⟨x, y⟩, KK, ⟨rfl, h2⟩, e⟩ := zlp_to (F := fun kk x => f_X3_endOfLatest_b13 S w (g + 11) kk x.1 x.2) M (fun i x => x.2 = ii (K - (M - i)) ∧ pFe s (M - i) x.1 = pFe s M 0) hs M 0 (0, ii (K - M)) (by omega) ⟨rfl, rfl⟩ zFU (by unfold zFU; omega)
  unfold f_X3_endOfLatest f_X3_endOfLatest_l13
  rw [hk, e1, zlet_eq, e]
  rw [Nat.sub_self] at h2
  have h2 : x = pFe s M 0 := h2
  subst h2
  show f_X3_endOfLatest_b13 S w (g + 11) KK (pFe s M 0) (ii (K - (M - M))) = _
  unfold f_X3_endOfLatest_b13
  rw [hk, if_pos (by rw [ii_le (by omega) (by omega)]; omega)]
def AccC (w : Zw) (many : Nat) (acc : Zac) : Prop := w 148 6 = ii acc.1 ∧ acc.1 ≤ 10 ∧ (acc.1 ≠ 0 → w 148 7 = acc.2.1 ∧ zRow (w 152) acc.2.2 ∧ acc.2.2.length = many)
theorem c7_judge (hL : zLay S) {g : Nat} (hG : zGar S g) (hR : RG w g s (n + k + v)) (hI : zI s n k v) {M : Nat} (hM : M ≤ min (n + k + v) 20) (hM10 : M ≤ 10) {pre : List Nat} (hp5 : pre.length ≤ 5) (h4 : w 148 4 = ii pre.length) (hrow : zRow (w 151) pre) {acc : Zac} (ha : AccC w pre.length acc) :
    ∃ w', f_X5_judge S w 148 (ii M) (g + 11) = some ((), w') ∧ AccC w' pre.length (pJu acc M (pFe s M 0) pre) ∧ (∀ j, j ≠ 148 → j ≠ 152 → w' j = w j) ∧ w' 148 4 = w 148 4 ∧ w' 148 5 = w 148 5 := by
  obtain ⟨g6, g10, gb⟩ := id ha
  have new : ∃ w', f_X5_judge_j38 S w 148 (ii M) (pFe s M 0) = some ((), w') ∧ AccC w' pre.length (M, pFe s M 0, pre) ∧ (∀ j, j ≠ 148 → j ≠ 152 → w' j = w j) ∧ w' 148 4 = w 148 4 ∧ w' 148 5 = w 148 5 := by
    unfold f_X5_judge_j38
    have e4 : zput (zput w 148 6 (ii M)) 148 7 (pFe s M 0) 148 4 = ii pre.length := by rw [zput_at, upd_ne (by omega), zput_at, upd_ne (by omega), h4]
    rw [zlet_eq, zlet_eq, e4, zt148_2 hL, zt148_3 hL, if_pos (zcpk_i (by rw [ztl151 hL]; exact hp5) (by rw [ztl152 hL]; exact hp5) (by omega)), zlet_eq]
    refine ⟨_, rfl, ⟨?_, hM10, fun _ => ⟨?_, fun j hj => ?_, rfl⟩⟩, fun j p q => ?_, ?_, ?_⟩
    · rw [zcpy_ne (by omega), zput_at, upd_ne (by omega), zput_at, upd_at]
    · rw [zcpy_ne (by omega), zput_at, upd_at]
    · have hj' : j < pre.length := hj
      rw [zcpy_at (n := pre.length) (by omega) hj', zput_ne (by omega), zput_ne (by omega)]
      exact hrow j hj
    · rw [zcpy_ne q, zput_ne p, zput_ne p]
    · rw [zcpy_ne (by omega), zput_at, upd_ne (by omega), zput_at, upd_ne (by omega)]
    · rw [zcpy_ne (by omega), zput_at, upd_ne (by omega), zput_at, upd_ne (by omega)]
  have old : ∃ w', (some ((), w) : Option (Unit × Zw)) = some ((), w') ∧ AccC w' pre.length acc ∧ (∀ j, j ≠ 148 → j ≠ 152 → w' j = w j) ∧ w' 148 4 = w 148 4 ∧ w' 148 5 = w 148 5 := ⟨w, rfl, ha, fun _ _ _ => rfl, rfl, rfl⟩
  unfold f_X5_judge
  rw [c7_latest hG hR hI hM, zbs]
  unfold pJu
  by_cases h0 : acc.1 = 0
  · rw [if_pos (show w 148 6 = 0 by rw [g6, h0]; decide), if_neg (fun q => q.1 h0)]
    exact new
  · obtain ⟨gb1, -, -⟩ := gb h0
    have hn0 : ¬ w 148 6 = 0 := by
      rw [g6, show (0 : Int32) = ii 0 from rfl, ii_iff (by omega) (by omega)]
      exact h0
    have hl : w 148 6 < ii M ↔ acc.1 < M := by rw [g6, ii_lt (by omega) (by omega)]
    have he : ii M = w 148 6 ↔ M = acc.1 := by rw [g6, ii_iff (by omega) (by omega)]
    rw [if_neg hn0]
    by_cases h1 : acc.1 < M
    · rw [if_pos (hl.mpr h1), if_pos ⟨h0, Or.inl h1⟩]
      exact old
    · rw [if_neg (fun q => h1 (hl.mp q))]
      by_cases h2 : M = acc.1
      · rw [if_pos (he.mpr h2)]
        by_cases h3 : pFe s M 0 < acc.2.1
        · rw [if_pos (show pFe s M 0 < w 148 7 by rw [gb1]; exact h3), if_neg (fun q => by rcases q.2 with q | q; omega; have := q.2; grind)]
          exact new
        · rw [if_neg (show ¬ pFe s M 0 < w 148 7 by rw [gb1]; exact h3), if_pos ⟨h0, Or.inr ⟨h2, by grind⟩⟩]
          exact old
      · rw [if_neg (fun q => h2 (he.mp q)), if_neg (fun q => by rcases q.2 with q | q; omega; exact h2 q.1)]
        exact new
end ZJD
