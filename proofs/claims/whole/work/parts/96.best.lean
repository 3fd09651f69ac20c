/-! bestMoves, bestEnd, bestCar. -/
section ZBE
variable {S : Zs} {w : Zw} {B B' n k v : Nat} {s : Nat → Int32}
theorem wls_cb (p : Nat → Bool) (i m : Nat) (h : cb p (i + m) = cb p i) : wls p (i + m) = wls p i := by
  induction m with
  | zero => rfl
  | succ m ih =>
    have h1 := cb_mono p (show i ≤ i + m by omega)
    have h2 : cb p (i + m + 1) = cb p (i + m) + (if p (i + m) = true then 1 else 0) := rfl
    have h3 : cb p (i + m + 1) = cb p i := h
    by_cases hp : p (i + m) = true
    · rw [if_pos hp] at h2
      omega
    · have h4 : wls p (i + m + 1) = wls p (i + m) := by
        show (if p (i + m) = true then _ else _) = _
        rw [if_neg hp]
      rw [if_neg hp] at h2
      show wls p (i + m + 1) = _
      rw [h4]
      exact ih (by omega)
/-- the class's cars of a set -/
theorem c7_fill (hL : zLay S) (a : Int64) (h5 : cb (tb a) 40 ≤ 5) (m : Nat) : ∀ (i : Nat) (u : Zw), i + m = 40 → u 148 4 = ii (cb (tb a) i) → zRow (u 150) (wls (tb a) i) → (∀ j, j ≠ 148 → j ≠ 150 → u j = w j) → (∀ x, x ≠ 4 → u 148 x = w 148 x) → ∀ N, m < N →
    ∃ u', zlp (fun kk x => f_X5_findBest_b13 S 148 a kk x.1 x.2) N (ii i, u) = f_X5_findBest_j66 S u' 148 ∧ u' 148 4 = ii (cb (tb a) 40) ∧ zRow (u' 150) (wls (tb a) 40) ∧ (∀ j, j ≠ 148 → j ≠ 150 → u' j = w j) ∧ ∀ x, x ≠ 4 → u' 148 x = w 148 x := by
  induction m with
  | zero =>
    intro i u hi h1 h2 h3 h4 N hN
    obtain ⟨N, rfl⟩ : ∃ N', N = N' + 1 := ⟨N - 1, by omega⟩
    have hi : i = 40 := by omega
    subst hi
    refine ⟨u, ?_, h1, h2, h3, h4⟩
    show f_X5_findBest_b13 S 148 a _ (ii 40) u = _
    unfold f_X5_findBest_b13
    rw [if_pos (by decide)]
  | succ m ih =>
    intro i u hi h1 h2 h3 h4 N hN
    obtain ⟨N, rfl⟩ : ∃ N', N = N' + 1 := ⟨N - 1, by omega⟩
    have hm := cb_mono (tb a) (show i ≤ 40 by omega)
    have hF : zlp (fun kk x => f_X5_findBest_b13 S 148 a kk x.1 x.2) (N + 1) (ii i, u) = f_X5_findBest_b13 S 148 a (zlp (fun kk x => f_X5_findBest_b13 S 148 a kk x.1 x.2) N) (ii i) u := rfl
    obtain ⟨KK, hKK⟩ : ∃ KK, KK = zlp (fun kk x => f_X5_findBest_b13 S 148 a kk x.1 x.2) N := ⟨_, rfl⟩
    rw [hF, ← hKK]
    unfold f_X5_findBest_b13
    rw [if_neg (by rw [show (40 : Int32) = ii 40 from rfl, ii_le (by omega) (by omega)]; omega), h1]
    by_cases hc5 : cb (tb a) i = 5
    · have e40 : cb (tb a) 40 = cb (tb a) i := by omega
      have ew : wls (tb a) 40 = wls (tb a) i := by
        have := wls_cb (tb a) i (40 - i) (by rw [show i + (40 - i) = 40 by omega]; exact e40)
        rw [show i + (40 - i) = 40 by omega] at this
        exact this
      rw [if_pos (by rw [hc5]; decide)]
      exact ⟨u, rfl, by rw [e40]; exact h1, by rw [ew]; exact h2, h3, h4⟩
    · rw [if_neg (by rw [show (5 : Int32) = ii 5 from rfl, ii_le (by omega) (by omega)]; omega)]
      by_cases hb : tb a i = true
      · have e : cb (tb a) (i + 1) = cb (tb a) i + 1 := by
          show cb (tb a) i + (if tb a i = true then 1 else 0) = _
          rw [if_pos hb]
        have el : wls (tb a) (i + 1) = wls (tb a) i ++ [i] := by
          show (if tb a i = true then _ else _) = _
          rw [if_pos hb]
        have e9 : zput u 150 (cb (tb a) i) (ii i) 148 4 = ii (cb (tb a) i) := by rw [zput_ne (by omega), h1]
        rw [if_neg (by rw [tb_s (by omega)]; rw [hb]; decide), zt148_1 hL, ztl150 hL, if_pos (zin_t (by omega) (by omega)), zlet_eq, zix_ii (by omega), e9, zlet_eq, ii_succ, ii_succ]
        have := ih (i + 1) (zput (zput u 150 (cb (tb a) i) (ii i)) 148 4 (ii (cb (tb a) i + 1))) (by omega) (by rw [zput_at, upd_at, e]) (by
          rw [zput_ne (by omega), zput_at, el, ← wls_len]
          exact zRow_snoc h2) (fun j p q => by rw [zput_ne p, zput_ne q, h3 j p q]) (fun x p => by rw [zput_at, upd_ne p, zput_ne (by omega), h4 x p]) N (by omega)
        rw [← hKK] at this
        exact this
      · have hb' : tb a i = false := by
          cases e : tb a i with
          | false => rfl
          | true => exact absurd e hb
        have e : cb (tb a) (i + 1) = cb (tb a) i := by
          show cb (tb a) i + (if tb a i = true then 1 else 0) = _
          rw [if_neg hb]
          rfl
        have el : wls (tb a) (i + 1) = wls (tb a) i := by
          show (if tb a i = true then _ else _) = _
          rw [if_neg hb]
        rw [if_pos ((tb_s (by omega) a).mpr hb'), ii_succ]
        have := ih (i + 1) u (by omega) (by rw [e]; exact h1) (by rw [el]; exact h2) h3 h4 N (by omega)
        rw [← hKK] at this
        exact this
theorem c7_findBest (hL : zLay S) (hR : RG w 2 s (n + k + v)) (hI : zI9 s n k v) (hv : v < 999900) (hP : zPa w) {a : Int64} (ha : pSet s n a) (h5 : cb (tb a) 64 ≤ 5) :
    ∃ w', f_X5_findBest S w 148 2 a = some (if (pBest (wls (tb a) 40) s).1 = 0 then 0 else 1, w') ∧ AccC w' (wls (tb a) 40).length (pBest (wls (tb a) 40) s) ∧ zPa w' ∧ ∀ j, j < 148 ∨ 249 ≤ j → w' j = w j := by
  have hn := zI_n hI.1
  have h40 : cb (tb a) 40 ≤ 5 := by rw [← cb_set ha hn]; exact h5
  obtain ⟨w1, t1, t2, t3⟩ := c7_copy (S := S) (w := w) (zGar_of hL (zGb_s (i := 0) (by omega))) (zG2 hL) (Or.inr (by omega)) (hP _ (zGb_s (i := 0) (by omega))) hR (hI.1.2.2.2.2.2.2.2.2.1)
  have e13 : w1 13 1 = ii (n + k + v) := by
    rw [t3 13 (by omega)]
    exact RG_T hR hI.1
  have hP1 : zPa w1 := zPa_g hP (zGb_s (i := 0) (by omega)) (gpace t2) t3
  have hbeg : f_X5_begin S w 148 2 = some ((), zput w1 148 5 (ii (n + k + v))) := by
    unfold f_X5_begin f_X3_total
    have z0 : zin (0 : Int32) 6 = true := by decide
    have z00 : zix (0 : Int32) = 0 := by decide
    have t1 : f_X1_copyFrom S w 153 2 = some ((), w1) := t1
    rw [zt148_0 hL, ztl149 hL, if_pos z0, z00, zt149_0 hL, t1, zbs, c7_log hL]
    dsimp only
    rw [e13, zlet_eq]
  obtain ⟨u, f1, f2, f3, f4, f5⟩ := c7_fill (S := S) (w := zput (zput w1 148 5 (ii (n + k + v))) 148 4 0) hL a h40 40 0 (zput (zput w1 148 5 (ii (n + k + v))) 148 4 0) (by omega) (by rw [zput_at, upd_at]; rfl) (fun j hj => absurd hj (Nat.not_lt_zero j)) (fun _ _ _ => rfl) (fun _ _ => rfl) zFU (by decide)
  have hmem : ∀ c, c ∈ wls (tb a) 40 → c < n ∧ s (139 + 4 * c + 2) ≠ -1 := by
    intro c hc
    obtain ⟨q1, q2⟩ := (wls_mem _ _ _).mp hc
    exact ha.2 c (by omega) q2
  have hlen : (wls (tb a) 40).length = cb (tb a) 40 := wls_len _ _
  have u6 : ∀ j, j ≠ 148 → j ≠ 150 → u j = w1 j := by
    intro j p q
    rw [f4 j p q, zput_ne p, zput_ne p]
  obtain ⟨w', g1, g2, g3, g4, g5⟩ := c7_tryF (S := S) (n := n) (L := wls (tb a) 40) (v0 := v) (T0 := n + k + v) hL hv (fun c hc => (hmem c hc).1) (by omega) (wls (tb a) 40).length [] s 0 (0, 0, []) (zput u 148 6 0) (by rw [List.length_nil, Nat.zero_add]) ⟨k, v, hI, Nat.le_add_right _ _, rfl, Nat.zero_le _⟩ (RG_w (fun j p q => by
      have hj : j < 153 + 16 := q
      have hj2 : 153 ≤ j := p
      rw [zput_ne (by omega), u6 j (by omega) (by omega)]) t2) (zPa_o hP1 (fun j hj => by rw [zput_ne (by omega), u6 j (by omega) (by omega)])) (by rw [zput_at, upd_ne (by omega), f2, hlen]) (by rw [zput_at, upd_ne (by omega), f5 5 (by omega), zput_at, upd_ne (by omega), zput_at, upd_at]) (by rw [zput_ne (by omega)]; exact f3) (fun j hj => absurd hj (Nat.not_lt_zero j)) ⟨by rw [zput_at, upd_at]; rfl, Nat.zero_le _, fun q => absurd rfl q⟩ 8 (by omega)
  have g1 : f_X5_tryFrom S (zput u 148 6 0) 148 0 = some ((), w') := g1
  have hbest : pC (wls (tb a) 40) (wls (tb a) 40).length s 0 [] (0, 0, []) = pBest (wls (tb a) 40) s := by
    have := pTs_pC (L := wls (tb a) 40) (s0 := s) (n := n) (v0 := v) (fun c hc => (hmem c hc).1) hv (wls (tb a) 40).length [] (s, 0, 0) (0, 0, []) (by rw [List.length_nil]; omega) rfl ⟨k, v, hI, Nat.le_add_right _ _, Nat.zero_le _, Nat.zero_le _, Nat.zero_le _, rfl, fun c hc => ⟨fun q => absurd q (hmem c hc).2, fun q => absurd q List.not_mem_nil⟩⟩
    exact this.symm
  rw [hbest] at g2
  refine ⟨w', ?_, g2, g4, fun j hj => ?_⟩
  · unfold f_X5_findBest f_X5_findBest_l13
    have f1 : zlp (fun kk x => f_X5_findBest_b13 S 148 a kk x.1 x.2) zFU (0, zput (zput w1 148 5 (ii (n + k + v))) 148 4 0) = f_X5_findBest_j66 S u 148 := f1
    rw [hbeg, zbs, zlet_eq]
    dsimp only
    rw [f1]
    unfold f_X5_findBest_j66
    rw [zlet_eq, g1, zbs]
    dsimp only
    obtain ⟨q1, q2, q3⟩ := g2
    simp only [q1]
    by_cases h0 : (pBest (wls (tb a) 40) s).1 = 0
    · rw [if_pos h0, if_pos (by rw [h0]; decide)]
    · rw [if_neg h0, if_neg (by rw [show (0 : Int32) = ii 0 from rfl, ii_iff (by omega) (by omega)]; exact h0)]
  · rw [g3.1 j (by omega), zput_ne (by omega), u6 j (by omega) (by omega), t3 j (by omega)]
/-- both sides find the same -/
theorem o_found (hL : zLay S) (h : INV B w) (hB : B < 999900) {a : Int64} (ha : pSet (w 256) n a) (hI : zI9 (w 256) n k v) (hv : v ≤ B) (h5 : cb (tb a) 64 ≤ 5) :
    ∃ w1 w2 w3, f_X5_findBest S w 148 2 a = some (if (pBest (wls (tb a) 40) (w 256)).1 = 0 then 0 else 1, w1) ∧ AccC w1 (wls (tb a) 40).length (pBest (wls (tb a) 40) (w 256)) ∧ zPa w1 ∧ (∀ j, j < 148 ∨ 249 ≤ j → w1 j = w j) ∧
      f_X8_isSet S w1 255 a = some (1, w2) ∧ w2 255 16 = ii (wls (tb a) 40).length ∧ w2 255 0 = 0 ∧ f_X8_isFound S w2 255 = some (if (pBest (wls (tb a) 40) (w 256)).1 = 0 then 0 else 1, w3) ∧ AccR w3 (wls (tb a) 40).length (pBest (wls (tb a) 40) (w 256)) ∧ INV B w1 ∧ INV B w2 ∧ INV B w3 ∧ w3 255 0 = 0 ∧ w3 256 = w 256 ∧ w3 255 16 = ii (wls (tb a) 40).length ∧ (∀ j, j < 255 → w3 j = w1 j) := by
  have hn := zI_n hI.1
  have hR : RG w 2 (w 256) (n + k + v) := R_Sh hI.1 h.1.2
  have h40 : cb (tb a) 40 ≤ 5 := by rw [← cb_set ha hn]; exact h5
  obtain ⟨w1, a1, a2, a3, a4⟩ := c7_findBest (S := S) hL hR hI (by omega) h.2.2.1 ha h5
  have w16 : w1 256 = w 256 := a4 256 (by omega)
  have hk1 : zKeep w w1 := ⟨fun j hj => a4 j (by omega), ⟨by rw [a4 1 (by omega)], by rw [a4 1 (by omega)], by rw [a4 249 (by omega)]⟩, fun i _ => by rw [a4 255 (by omega)], by rw [w16]; exact pe.rfl, by rw [a4 259 (by omega)]; exact pe.rfl, fun i _ => by rw [a4 260 (by omega)], fun i _ => by rw [a4 265 (by omega)]⟩
  have hI1 : INV B w1 := INV_keep (Nat.le_refl B) h a3 hk1
  obtain ⟨w2, b1, b2, b3, b4, b5, b6⟩ := (e8_isSet (S := S) (w := w1) hL (by rw [w16]; exact hI.1) a).1 (by rw [w16]; exact ha) h5
  have w26 : w2 256 = w 256 := by rw [b6 256 (by omega) (by omega), w16]
  have hk2 : zKeep w1 w2 := zKeep_55 (fun j hj => b6 j (by omega) (by omega)) (fun i hi => b5 i (by omega) (by omega)) (fun j hj => b6 j (by omega) (by omega))
  have hI2 : INV B w2 := INV_keep (Nat.le_refl B) hI1 (zPa_o a3 (fun j hj => b6 j (by omega) (by omega))) hk2
  have hmem : ∀ c, c ∈ wls (tb a) 40 → c < n ∧ w2 256 (139 + 4 * c + 2) ≠ -1 := by
    intro c hc
    obtain ⟨q1, q2⟩ := (wls_mem _ _ _).mp hc
    rw [w26]
    exact ha.2 c (by omega) q2
  have hne : wls (tb a) 40 ≠ [] := by
    obtain ⟨i, hi, hb⟩ := tb_ne ha.1
    have := (ha.2 i hi hb).1
    exact List.ne_nil_of_mem ((wls_mem (tb a) 40 i).mpr ⟨by omega, hb⟩)
  have hlen : (wls (tb a) 40).length ≤ 5 := by rw [wls_len]; exact h40
  obtain ⟨w3, c1, c2, c3⟩ := e8_isFound (S := S) (w := w2) (L := wls (tb a) 40) hL (by rw [w26]; exact hI) (show v < 999900 by omega) hmem hne hlen b3 b4
  rw [w26] at c1 c2
  have hk3 : zKeep w2 w3 := zKeep_55 (fun j hj => c3.1 j (by omega) (by omega) (by omega) (by omega)) (fun i hi => c3.2 i (by omega) (by omega) (by omega)) (fun j hj => c3.1 j (by omega) (by omega) (by omega) (by omega))
  refine ⟨w1, w2, w3, a1, a2, a3, a4, b1, b3, b2, c1, c2, hI1, hI2, INV_keep (Nat.le_refl B) hI2 (zPa_o hI2.2.2.1 (fun j hj => c3.1 j (by omega) (by omega) (by omega) (by omega))) hk3, ?_, ?_, ?_, fun j hj => ?_⟩
  · rw [c3.2 0 (by omega) (by omega) (by omega), b2]
  · rw [c3.1 256 (by omega) (by omega) (by omega) (by omega), w26]
  · rw [c3.2 16 (by omega) (by omega) (by omega), b3]
  · rw [c3.1 j (by omega) (by omega) (by omega) (by omega), b6 j (by omega) (by omega)]
abbrev tabS : List (String × Int32) := [("java/lang/IndexOutOfBoundsException", 1), ("java/lang/IllegalArgumentException", 2), ("java/util/NoSuchElementException", 3)]
theorem P_bestMoves (hL : zLay S) (hB : B < 999900) (h : INV B w) (a : Int64) : Pair B (f_X7_bestMoves S w 1 a) (fun w1 => f_X8_bestMoves S w1 255 a) tabS := by
  obtain ⟨n, k, v, hI, hv, hS⟩ := IG_get h
  obtain ⟨c1, c2, c3⟩ := c7_checkSet (S := S) hL hS hI a
  obtain ⟨-, d2, d3⟩ := e8_isSet (S := S) (w := w) hL hI.1 a
  by_cases hs : pSet (w 256) n a
  · by_cases h5 : cb (tb a) 64 ≤ 5
    · obtain ⟨w1, w2, w3, a1, a2, a3, a4, b1, b2, b3, e1, e2, e3, e4, e5, e6, e7, e8, e9⟩ := o_found (S := S) hL h hB hs hI hv h5
      by_cases h0 : (pBest (wls (tb a) 40) (w 256)).1 = 0
      · rw [if_pos h0] at a1 e1
        refine Or.inr ⟨"java/util/NoSuchElementException", 3, w1, 0, zput w3 255 0 3, ?_, ?_, by simp, by rw [zput_at, upd_at], INV_thr e5 3⟩
        · unfold f_X7_bestMoves f_X7_checkPossible
          rw [c1 hs h5, zbx_inl, zt1_4 hL, zt1_0 hL, a1, zbs, if_pos rfl, zbx_inr]
        · dsimp only
          unfold f_X8_bestMoves
          rw [b1, zbs, if_neg (show ¬ (1 : Int32) = 0 by decide), e1, zbs, if_pos rfl, e8_fails, zbs]
      · rw [if_neg h0] at a1 e1
        refine Or.inl ⟨ii (pBest (wls (tb a) 40) (w 256)).1, w1, w3, ?_, ?_, e6, e5⟩
        · unfold f_X7_bestMoves f_X7_checkPossible f_X5_movesOfBest
          rw [c1 hs h5, zbx_inl, zt1_4 hL, zt1_0 hL, a1, zbs, if_neg (show ¬ (1 : Int32) = 0 by decide), zbx_inl]
          dsimp only
          rw [a2.1]
        · dsimp only
          unfold f_X8_bestMoves
          rw [b1, zbs, if_neg (show ¬ (1 : Int32) = 0 by decide), e1, zbs, if_neg (show ¬ (1 : Int32) = 0 by decide)]
          dsimp only
          rw [e2.1]
    · refine Pair_ex h "java/lang/IllegalArgumentException" 2 0 ?_ ?_ (by simp)
      · unfold f_X7_bestMoves
        rw [c2 hs h5, zbx_inr]
      · unfold f_X8_bestMoves
        rw [d2 hs h5, zbs, if_pos rfl]
  · refine Pair_ex h "java/lang/IndexOutOfBoundsException" 1 0 ?_ ?_ (by simp)
    · unfold f_X7_bestMoves
      rw [c3 hs, zbx_inr]
    · unfold f_X8_bestMoves
      rw [d3 hs, zbs, if_pos rfl]
theorem P_bestEnd (hL : zLay S) (hB : B < 999900) (h : INV B w) (a : Int64) : Pair B (f_X7_bestEnd S w 1 a) (fun w1 => f_X8_bestEnd S w1 255 a) tabS := by
  obtain ⟨n, k, v, hI, hv, hS⟩ := IG_get h
  obtain ⟨c1, c2, c3⟩ := c7_checkSet (S := S) hL hS hI a
  obtain ⟨-, d2, d3⟩ := e8_isSet (S := S) (w := w) hL hI.1 a
  by_cases hs : pSet (w 256) n a
  · by_cases h5 : cb (tb a) 64 ≤ 5
    · obtain ⟨w1, w2, w3, a1, a2, a3, a4, b1, b2, b3, e1, e2, e3, e4, e5, e6, e7, e8, e9⟩ := o_found (S := S) hL h hB hs hI hv h5
      by_cases h0 : (pBest (wls (tb a) 40) (w 256)).1 = 0
      · rw [if_pos h0] at a1 e1
        refine Or.inr ⟨"java/util/NoSuchElementException", 3, w1, 0, zput w3 255 0 3, ?_, ?_, by simp, by rw [zput_at, upd_at], INV_thr e5 3⟩
        · unfold f_X7_bestEnd f_X7_checkPossible
          rw [c1 hs h5, zbx_inl, zt1_4 hL, zt1_0 hL, a1, zbs, if_pos rfl, zbx_inr]
        · dsimp only
          unfold f_X8_bestEnd
          rw [b1, zbs, if_neg (show ¬ (1 : Int32) = 0 by decide), e1, zbs, if_pos rfl, e8_fails, zbs]
      · rw [if_neg h0] at a1 e1
        refine Or.inl ⟨(pBest (wls (tb a) 40) (w 256)).2.1, w1, w3, ?_, ?_, e6, e5⟩
        · unfold f_X7_bestEnd f_X7_checkPossible f_X5_endOfBest
          rw [c1 hs h5, zbx_inl, zt1_4 hL, zt1_0 hL, a1, zbs, if_neg (show ¬ (1 : Int32) = 0 by decide), zbx_inl]
          dsimp only
          rw [(a2.2.2 h0).1]
        · dsimp only
          unfold f_X8_bestEnd
          rw [b1, zbs, if_neg (show ¬ (1 : Int32) = 0 by decide), e1, zbs, if_neg (show ¬ (1 : Int32) = 0 by decide)]
          dsimp only
          rw [(e2.2.2 h0).1]
    · refine Pair_ex h "java/lang/IllegalArgumentException" 2 0 ?_ ?_ (by simp)
      · unfold f_X7_bestEnd
        rw [c2 hs h5, zbx_inr]
      · unfold f_X8_bestEnd
        rw [d2 hs h5, zbs, if_pos rfl]
  · refine Pair_ex h "java/lang/IndexOutOfBoundsException" 1 0 ?_ ?_ (by simp)
    · unfold f_X7_bestEnd
      rw [c3 hs, zbx_inr]
    · unfold f_X8_bestEnd
      rw [d3 hs, zbs, if_pos rfl]
theorem P_bestCar (hL : zLay S) (hB : B < 999900) (h : INV B w) (a : Int64) (x : Int32) : Pair B (f_X7_bestCar S w 1 a x) (fun w1 => f_X8_bestCar S w1 255 a x) tabS := by
  obtain ⟨n, k, v, hI, hv, hS⟩ := IG_get h
  obtain ⟨c1, c2, c3⟩ := c7_checkSet (S := S) hL hS hI a
  obtain ⟨d1, d2, d3⟩ := e8_isSet (S := S) (w := w) hL hI.1 a
  by_cases hs : pSet (w 256) n a
  · by_cases h5 : cb (tb a) 64 ≤ 5
    · have hlen : (wls (tb a) 40).length = cb (tb a) 64 := by rw [wls_len, cb_set hs (zI_n hI.1)]
      have hbc : f_J13_bitCount_95d88 a = ii (wls (tb a) 40).length := by rw [bitCount_cb, hlen]
      have hpos : 0 < (wls (tb a) 40).length := by
        obtain ⟨i, hi, hb⟩ := tb_ne hs.1
        have := (hs.2 i hi hb).1
        have hn := zI_n hI.1
        exact List.length_pos_of_mem ((wls_mem (tb a) 40 i).mpr ⟨by omega, hb⟩)
      have hlt5 : (wls (tb a) 40).length ≤ 5 := by omega
      generalize hLe : wls (tb a) 40 = L at *
      by_cases hx : 0 ≤ x ∧ x ≤ ii L.length - 1
      · obtain ⟨j, hj31, rfl⟩ := ii_of hx.1
        have hj : j < L.length := by
          have := hx.2
          rw [ii_sub1 hpos, ii_le hj31 (by omega)] at this
          omega
        have hj0 : ¬ ii j < 0 := by have := hx.1; grind
        have hjl : ii j < ii L.length := by rw [ii_lt hj31 (by omega)]; exact hj
        obtain ⟨w1, w2, w3, a1, a2, a3, a4, b1, b2, b3, e1, e2, e3, e4, e5, e6, e7, e8, e9⟩ := o_found (S := S) hL h hB hs hI hv h5
        rw [hLe] at a1 a2 b2 e1 e2 e8
        by_cases h0 : (pBest L (w 256)).1 = 0
        · rw [if_pos h0] at a1 e1
          refine Or.inr ⟨"java/util/NoSuchElementException", 3, w1, 0, zput w3 255 0 3, ?_, ?_, by simp, by rw [zput_at, upd_at], INV_thr e5 3⟩
          · unfold f_X7_bestCar f_X7_checkPossible
            rw [c1 hs h5, zbx_inl, if_neg hj0, hbc, if_pos hjl, zt1_4 hL, zt1_0 hL, a1, zbs, if_pos rfl, zbx_inr]
          · dsimp only
            unfold f_X8_bestCar
            rw [b1, zbs, if_neg (show ¬ (1 : Int32) = 0 by decide)]
            dsimp only
            rw [b2, c8_inn, if_pos hx, zbs, if_neg (show ¬ (1 : Int32) = 0 by decide), e1, zbs, if_pos rfl, e8_fails, zbs]
        · rw [if_neg h0] at a1 e1
          obtain ⟨p1, p2, p3⟩ := a2.2.2 h0
          obtain ⟨q1, q2, q3⟩ := e2.2.2 h0
          have hz : zin (ii j) 5 = true := zin_t (by omega) (by omega)
          refine Or.inl ⟨ii ((pBest L (w 256)).2.2.getD j 0), w1, w3, ?_, ?_, e6, e5⟩
          · unfold f_X7_bestCar f_X7_checkPossible f_X5_carOfBest
            rw [c1 hs h5, zbx_inl, if_neg hj0, hbc, if_pos hjl, zt1_4 hL, zt1_0 hL, a1, zbs, if_neg (show ¬ (1 : Int32) = 0 by decide), zbx_inl, zt148_3 hL, ztl152 hL, if_pos hz, zix_ii (by omega), zbs]
            dsimp only
            rw [p2 j (by omega)]
          · dsimp only
            unfold f_X8_bestCar
            rw [b1, zbs, if_neg (show ¬ (1 : Int32) = 0 by decide)]
            dsimp only
            rw [b2, c8_inn, if_pos hx, zbs, if_neg (show ¬ (1 : Int32) = 0 by decide), e1, zbs, if_neg (show ¬ (1 : Int32) = 0 by decide), zt255_15 hL, ztl263 hL, if_pos hz, zix_ii (by omega)]
            dsimp only
            rw [q2 j (by omega)]
      · obtain ⟨w2, g1, g2, g3, g4, g5, g6⟩ := d1 hs h5
        have hk : zKeep w w2 := zKeep_55 (fun j hj => g6 j (by omega) (by omega)) (fun i hi => g5 i (by omega) (by omega)) (fun j hj => g6 j (by omega) (by omega))
        have hI2 : INV B w2 := INV_keep (Nat.le_refl B) h (zPa_o h.2.2.1 (fun j hj => g6 j (by omega) (by omega))) hk
        refine Or.inr ⟨"java/lang/IllegalArgumentException", 2, w, 0, zput w2 255 0 2, ?_, ?_, by simp, by rw [zput_at, upd_at], INV_thr hI2 2⟩
        · unfold f_X7_bestCar f_X7_bestCar_j17
          rw [c1 hs h5, zbx_inl, hbc]
          by_cases hx0 : x < 0
          · rw [if_pos hx0]
          · rw [if_neg hx0, if_neg]
            intro q
            have h0 : 0 ≤ x := by grind
            obtain ⟨j, hj31, rfl⟩ := ii_of h0
            rw [ii_lt hj31 (by omega)] at q
            exact hx ⟨h0, by rw [ii_sub1 hpos, ii_le hj31 (by omega)]; omega⟩
        · dsimp only
          unfold f_X8_bestCar
          rw [g1, zbs, if_neg (show ¬ (1 : Int32) = 0 by decide)]
          dsimp only
          rw [g3, c8_inn, if_neg hx, zbs, if_pos rfl, e8_fails, zbs]
    · refine Pair_ex h "java/lang/IllegalArgumentException" 2 0 ?_ ?_ (by simp)
      · unfold f_X7_bestCar
        rw [c2 hs h5, zbx_inr]
      · unfold f_X8_bestCar
        rw [d2 hs h5, zbs, if_pos rfl]
  · refine Pair_ex h "java/lang/IndexOutOfBoundsException" 1 0 ?_ ?_ (by simp)
    · unfold f_X7_bestCar
      rw [c3 hs, zbx_inr]
    · unfold f_X8_bestCar
      rw [d3 hs, zbs, if_pos rfl]
end ZBE
