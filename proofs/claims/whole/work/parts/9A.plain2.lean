/-! plainMoves, both sides together. -/
section ZP2
variable {S : Zs} {w : Zw} {B n k v : Nat} {s : Nat → Int32}
theorem pGo_len (l : List Nat) (st st' : Zst) (h : pGo st l = some st') : st.2.1 + l.length ≤ st'.2.1 := by
  induction l generalizing st with
  | nil =>
    have e : st = st' := Option.some.inj h
    subst e
    exact Nat.le_refl _
  | cons c l ih =>
    have h : ((pStp st c).bind fun st' => pGo st' l) = some st' := h
    cases e : pStp st c with
    | none => rw [e] at h; cases h
    | some st1 =>
      rw [e, zbs] at h
      obtain ⟨s', m, -, e2, hm⟩ := pStp_M e
      have := ih st1 h
      rw [e2] at this
      have this : st.2.1 + m + l.length ≤ st'.2.1 := this
      rw [List.length_cons]
      omega
theorem P_plainMoves (hL : zLay S) (hB : B < 999900) (h : INV B w) (a : Int64) : Pair B (f_X7_plainMoves S w 1 a) (fun w1 => f_X8_plainMoves S w1 255 a) tabS := by
  obtain ⟨n, k, v, hI, hv, hS⟩ := IG_get h
  have hn := zI_n hI.1
  obtain ⟨c1, c2, c3⟩ := c7_checkSet (S := S) hL hS hI a
  obtain ⟨-, d2, d3⟩ := e8_isSet (S := S) (w := w) hL hI.1 a
  by_cases hs : pSet (w 256) n a
  · by_cases h5 : cb (tb a) 64 ≤ 5
    · have h40 : cb (tb a) 40 ≤ 5 := by rw [← cb_set hs hn]; exact h5
      have hcn : cb (tb a) 40 = cb (tb a) n := by
        have := cb_add (tb a) n (40 - n)
        rw [show n + (40 - n) = 40 by omega] at this
        have hz : cb (fun i => tb a (n + i)) (40 - n) = 0 := by
          refine cb_zero (fun i hi => ?_)
          cases e : tb a (n + i) with
          | false => rfl
          | true =>
            have := (hs.2 (n + i) (by omega) e).1
            omega
        omega
      have hwn : wls (tb a) 40 = wls (tb a) n := by
        have := wls_cb (tb a) n (40 - n) (by rw [show n + (40 - n) = 40 by omega]; exact hcn)
        rw [show n + (40 - n) = 40 by omega] at this
        exact this
      have hlen : (wls (tb a) 40).length = cb (tb a) 40 := wls_len _ _
      have hmem : ∀ c, c ∈ wls (tb a) 40 → c < n ∧ w 256 (139 + 4 * c + 2) ≠ -1 := by
        intro c hc
        obtain ⟨q1, q2⟩ := (wls_mem _ _ _).mp hc
        exact hs.2 c (by omega) q2
      have hne : wls (tb a) 40 ≠ [] := by
        obtain ⟨i, hi, hb⟩ := tb_ne hs.1
        have := (hs.2 i hi hb).1
        exact List.ne_nil_of_mem ((wls_mem (tb a) 40 i).mpr ⟨by omega, hb⟩)
      have hpos := List.length_pos_iff.mpr hne
      obtain ⟨R, hRe⟩ : ∃ R, R = (wls (tb a) 40).foldl (pIns fun c => w 256 (139 + 4 * c + 1)) [] := ⟨_, rfl⟩
      obtain ⟨rm1, rm2⟩ := pIns_fold (fun c => w 256 (139 + 4 * c + 1)) (wls (tb a) 40) []
      rw [← hRe] at rm1 rm2
      have rm2 : R.length = (wls (tb a) 40).length := by rw [rm2]; exact Nat.zero_add _
      have hRL : ∀ x, x ∈ R → x ∈ wls (tb a) 40 := fun x hx => by
        rcases (rm1 x).mp hx with q | q
        · exact absurd q List.not_mem_nil
        · exact q
      have hRd : R.Pairwise (· ≠ ·) := by
        rw [hRe]
        refine pIns_fold_nd _ _ _ ?_
        rw [List.nil_append]
        exact List.Pairwise.imp (fun h => by omega) (wls_nd (tb a) 40)
      have hRn : ∀ c, c ∈ R → c < n ∧ w 256 (139 + 4 * c + 2) ≠ -1 := fun c hc => hmem c (hRL c hc)
      -- the class
      obtain ⟨w1, t1, t2, t3⟩ := c7_copy (S := S) (w := w) (zGar_of hL (zGb_s (i := 0) (by omega))) (zG2 hL) (Or.inr (by omega)) (h.2.2.1 _ (zGb_s (i := 0) (by omega))) hS (hI.1.2.2.2.2.2.2.2.2.1)
      have e13 : w1 13 1 = ii (n + k + v) := by
        rw [t3 13 (by omega)]
        exact RG_T hS hI.1
      have hbeg : f_X5_begin S w 148 2 = some ((), zput w1 148 5 (ii (n + k + v))) := by
        unfold f_X5_begin f_X3_total
        have z0 : zin (0 : Int32) 6 = true := by decide
        have z00 : zix (0 : Int32) = 0 := by decide
        have t1 : f_X1_copyFrom S w 153 2 = some ((), w1) := t1
        rw [zt148_0 hL, ztl149 hL, if_pos z0, z00, zt149_0 hL, t1, zbs, c7_log hL]
        dsimp only
        rw [e13, zlet_eq]
      obtain ⟨u1, l1, l2, l3⟩ := c7_list (S := S) (w := zput w1 148 5 (ii (n + k + v))) (n := n) (g := 2) (ra := 150) (len := 5) (a := a) (pk := fun c => w 256 (139 + 4 * c + 1)) (zG2 hL) (by omega) (by omega) (ztl150 hL) (by omega) (by
        rw [zput_ne (by omega), t3 2 (by omega)]
        exact hS.2.2.2.1.1.trans hI.1.1) hn (fun c hc => by
        rw [zput_ne (by omega), t3 (2 + 4) (by omega)]
        exact (hS.2.2.1 c hc).2.1) (by rw [← hcn]; exact h40)
      rw [← hwn, ← hRe] at l2
      have hst0 : SI R n v (w 256, 0, 0) [] := ⟨k, v, hI, Nat.le_add_right _ _, Nat.zero_le _, Nat.zero_le _, Nat.zero_le _, rfl, fun c hc => ⟨fun q => absurd q (hRn c hc).2, fun q => absurd q List.not_mem_nil⟩⟩
      obtain ⟨u2, p1, p2, p3⟩ := c7_b21 (S := S) (n := n) (R := R) (v0 := v) (T0 := n + k + v) hL (fun c hc => (hRn c hc).1) hRd (by omega) (show v < 999900 by omega) R [] (w 256, 0, 0) (zput u1 148 4 (ii (cb (tb a) n))) rfl hst0 ⟨k, v, hI, rfl⟩ (by
        refine Sh_R hI.1 (RG_w (fun j q r => ?_) t2)
        have hq : 153 ≤ j := q
        rw [zput_ne (by omega), l3 j (by omega), zput_ne (by omega)]) (by rw [zput_at, upd_at, rm2, hlen, hcn]) (by rw [zput_at, upd_ne (by omega), l3 148 (by omega), zput_at, upd_at]) (by rw [zput_ne (by omega)]; exact l2) zFU (by unfold zFU; omega)
      have p1 : f_X5_movesInPlainOrder_l21 S 148 (0, zput u1 148 4 (ii (cb (tb a) n))) = some ((match pGo (w 256, 0, 0) R with | none => 0 | some st' => ii st'.2.1), u2) := p1
      have hmp : f_X5_movesInPlainOrder S w 148 2 a = some ((match pGo (w 256, 0, 0) R with | none => 0 | some st' => ii st'.2.1), u2) := by
        unfold f_X5_movesInPlainOrder
        rw [hbeg, zbs]
        dsimp only
        rw [zt148_1 hL, l1, zbs, zlet_eq]
        dsimp only
        rw [p1]
      have u2o : ∀ j, j < 148 ∨ 249 ≤ j → u2 j = w j := by
        intro j hj
        rw [p2 j (by omega), zput_ne (by omega), l3 j (by omega), zput_ne (by omega), t3 j (by omega)]
      have hPu : zPa u2 := by
        have hPw1 : zPa w1 := zPa_g h.2.2.1 (zGb_s (i := 0) (by omega)) (gpace t2) t3
        intro g hg
        by_cases eg : g = 153
        · rw [eg]
          exact p3
        · refine zPac_w (w := w1) (fun j q r => ?_) (hPw1 g hg)
          have a2 := zGb_rg hg
          have hj : (j < 148 ∨ 169 ≤ j) := by
            rcases a2 with a2 | a2 | ⟨i2, hi2, a2⟩ | ⟨i2, hi2, a2⟩ <;> omega
          rw [p2 j (by omega), zput_ne (by omega), l3 j (by omega), zput_ne (by omega)]
      have hku : zKeep w u2 := ⟨fun j hj => u2o j (by omega), ⟨by rw [u2o 1 (by omega)], by rw [u2o 1 (by omega)], by rw [u2o 249 (by omega)]⟩, fun i _ => by rw [u2o 255 (by omega)], by rw [u2o 256 (by omega)]; exact pe.rfl, by rw [u2o 259 (by omega)]; exact pe.rfl, fun i _ => by rw [u2o 260 (by omega)], fun i _ => by rw [u2o 265 (by omega)]⟩
      have hIu : INV B u2 := INV_keep (Nat.le_refl B) h hPu hku
      -- the reference
      have u26 : u2 256 = w 256 := u2o 256 (by omega)
      obtain ⟨w2, b1, b2, b3, b4, b5, b6⟩ := (e8_isSet (S := S) (w := u2) hL (by rw [u26]; exact hI.1) a).1 (by rw [u26]; exact hs) h5
      have w26 : w2 256 = w 256 := by rw [b6 256 (by omega) (by omega), u26]
      obtain ⟨w3, KK, m1, m2, m3⟩ := e8_l12 (S := S) (w := w2) (L := wls (tb a) 40) hL (by omega) (fun x hx => by have := (hmem x hx).1; omega) b3 b4
      rw [w26, ← hRe] at m1
      have w36 : w3 256 = w 256 := by rw [m2 256 (by omega), w26]
      obtain ⟨w4, q1, q2, q3, q4⟩ := e8_copies (S := S) (w := w3) (a := 256) (b := 258) (p := 0) (q := 0) (by rw [ztl256 hL]; omega) (by rw [ztl258 hL]; omega) (by omega) (by omega) (by omega)
      have q1 : f_X8_copies S w3 256 0 258 0 = some ((), w4) := q1
      have w46 : w4 256 = w 256 := by rw [q4 256 (by omega), w36]
      have w416 : w4 255 16 = ii R.length := by rw [q4 255 (by omega), m2 255 (by omega), b3, rm2]
      have back : ∀ w5, zEG w4 w5 → ∃ w6, f_X8_copies S w5 258 0 256 0 = some ((), w6) ∧ (∀ j, j ≠ 256 → w6 j = w5 j) ∧ INV B w6 := by
        intro w5 hE
        obtain ⟨w6, g1, g2, g3, g4⟩ := e8_copies (S := S) (w := w5) (a := 258) (b := 256) (p := 0) (q := 0) (by rw [ztl258 hL]; omega) (by rw [ztl256 hL]; omega) (by omega) (by omega) (by omega)
        have hj : ∀ j, j ≠ 255 → j ≠ 256 → j ≠ 258 → j ≠ 261 → j ≠ 262 → w6 j = u2 j := by
          intro j x1 x2 x3 x4 x5
          rw [g4 j x2, hE.1 j x1 x2, q4 j x3, m2 j x5, b6 j x1 x4]
        have hp6 : pe (w6 256) (w 256) := by
          intro i hi
          have h1 := g2 i hi
          have h2 := q2 i hi
          rw [Nat.zero_add] at h1 h2
          rw [h1, hE.1 258 (by omega) (by omega), h2, w36]
        refine ⟨w6, g1, g4, INV_keep (Nat.le_refl B) hIu (zPa_o hPu (fun j hj' => hj j (by omega) (by omega) (by omega) (by omega) (by omega))) ⟨fun j hj' => hj j (by omega) (by omega) (by omega) (by omega) (by omega), ⟨by rw [hj 1 (by omega) (by omega) (by omega) (by omega) (by omega)], by rw [hj 1 (by omega) (by omega) (by omega) (by omega) (by omega)], by rw [hj 249 (by omega) (by omega) (by omega) (by omega) (by omega)]⟩, fun i hi => ?_, by rw [u26]; exact hp6, by rw [hj 259 (by omega) (by omega) (by omega) (by omega) (by omega)]; exact pe.rfl, fun i _ => by rw [hj 260 (by omega) (by omega) (by omega) (by omega) (by omega)], fun i _ => by rw [hj 265 (by omega) (by omega) (by omega) (by omega) (by omega)]⟩⟩
        rw [g4 255 (by omega), hE.2.1 i (by omega) (by omega) (by omega) (by omega), q4 255 (by omega), m2 255 (by omega), b5 i (by omega) (by omega)]
      have href : ∀ w1, w1 = u2 → f_X8_plainMoves S w1 255 a = ((f_X8_goes S w4 255).bind fun r7 => (f_X8_copies S r7.2 258 0 256 0).bind fun r9 => if r7.1 = 0 then (f_X8_fails S r9.2 255 3).bind fun r12 => some (r12.1, r12.2) else some ((r9.2 255 19), r9.2)) := by
        rintro w1 rfl
        unfold f_X8_plainMoves
        rw [b1, zbs, if_neg (show ¬ (1 : Int32) = 0 by decide)]
        dsimp only
        rw [m3]
        unfold f_X8_plainMoves_b12
        rw [m2 255 (by omega), b3, if_pos (by rw [ii_le (by omega) (by omega)]; omega), zt255_1 hL, zt255_3 hL, q1, zbs]
      rcases e8_goes (S := S) (w := w4) (R := R) (n := n) (k := k) (v := v) hL (by rw [w46]; exact hI) (by omega) (by rw [w46]; exact hRn) hRd (by omega) w416 (by rw [q4 262 (by omega)]; exact m1) with ⟨g1, w5, g2, g3⟩ | ⟨st, w5, g1, g2, g3, g4, g5, g6, g7⟩
      · rw [w46] at g1
        obtain ⟨w6, o1, o2, o3⟩ := back w5 g3
        refine Or.inr ⟨"java/util/NoSuchElementException", 3, u2, 0, zput w6 255 0 3, ?_, ?_, by simp, by rw [zput_at, upd_at], INV_thr o3 3⟩
        · unfold f_X7_plainMoves f_X7_plainMoves_j28 f_X7_checkPossible
          rw [c1 hs h5, zbx_inl, zt1_4 hL, zt1_0 hL, hmp, zbs, g1]
          dsimp only
          rw [if_pos rfl, if_pos rfl, zbx_inr]
        · dsimp only
          rw [href u2 rfl, g2, zbs]
          dsimp only
          rw [o1, zbs, if_pos (show (0 : Int32) = 0 from rfl), e8_fails, zbs]
      · rw [w46] at g1
        obtain ⟨w6, o1, o2, o3⟩ := back w5 g6
        have hst1 : 0 < st.2.1 := by
          have := pGo_len R (w 256, 0, 0) st g1
          have this : 0 + R.length ≤ st.2.1 := this
          omega
        have hst10 : st.2.1 ≤ 10 := by omega
        have hm0 : ¬ ii st.2.1 = 0 := by
          rw [show (0 : Int32) = ii 0 from rfl, ii_iff (by omega) (by omega)]
          omega
        have w60 : w6 255 0 = 0 := by rw [o2 255 (by omega), g6.2.1 0 (by omega) (by omega) (by omega) (by omega), q4 255 (by omega), m2 255 (by omega), b2]
        refine Or.inl ⟨ii st.2.1, u2, w6, ?_, ?_, w60, o3⟩
        · unfold f_X7_plainMoves f_X7_plainMoves_j28 f_X7_checkPossible
          rw [c1 hs h5, zbx_inl, zt1_4 hL, zt1_0 hL, hmp, zbs, g1]
          dsimp only
          rw [if_neg hm0, if_neg (show ¬ (1 : Int32) = 0 by decide), zbx_inl]
        · dsimp only
          rw [href u2 rfl, g2, zbs]
          dsimp only
          rw [o1, zbs, if_neg (show ¬ (1 : Int32) = 0 by decide)]
          dsimp only
          rw [o2 255 (by omega), g4]
    · refine Pair_ex h "java/lang/IllegalArgumentException" 2 0 ?_ ?_ (by simp)
      · unfold f_X7_plainMoves
        rw [c2 hs h5, zbx_inr]
      · unfold f_X8_plainMoves
        rw [d2 hs h5, zbs, if_pos rfl]
  · refine Pair_ex h "java/lang/IndexOutOfBoundsException" 1 0 ?_ ?_ (by simp)
    · unfold f_X7_plainMoves
      rw [c3 hs, zbx_inr]
    · unfold f_X8_plainMoves
      rw [d3 hs, zbs, if_pos rfl]
end ZP2
