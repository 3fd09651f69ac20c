/-! save, restore, undo; retrieve. -/
section ZBK
variable {S : Zs} {w wd r : Zw} {B B' n k v : Nat}
theorem P_save (hL : zLay S) (hB : B ≤ B') (h : INV B w) : ∃ x w1 w2, f_X7_save S w 1 = some (x, w1) ∧ f_X8_save S w1 255 = some (x, w2) ∧ INV B' w2 := by
  obtain ⟨n, k, v, hI, hv, hS⟩ := IG_get h
  obtain ⟨h1, ⟨cnt, a1, a2, a3⟩, h3, h4, h5, h6⟩ := id h
  obtain ⟨wc, c1, c2, c3⟩ := c7_copy (S := S) (w := w) (zG18 hL) (zG2 hL) (Or.inr (by omega)) (h3 18 (by decide)) h1.2 (pOK_cl h1.1)
  have e29 : zput wc 1 2 1 2 9 = w 256 1 - w 256 2 := by
    rw [zput_ne (by omega), c3 2 (by omega)]
    exact hS.2.2.2.1.2.1
  obtain ⟨w2, d1, d2, d3, d4⟩ := e8_copies (S := S) (w := zput wc 1 2 1) (a := 256) (b := 259) (p := 0) (q := 0) (by rw [ztl256 hL]; omega) (by rw [ztl259 hL]; omega) (by omega) (by omega) (by omega)
  have d1 : f_X8_copies S (zput wc 1 2 1) 256 0 259 0 = some ((), w2) := d1
  have f256 : w2 256 = w 256 := by rw [d4 256 (by omega), zput_ne (by omega), c3 256 (by omega)]
  have z1 : zin (1 : Int32) 399 = true := by decide
  have z11 : zix (1 : Int32) = 1 := by decide
  have z2 : zin (2 : Int32) 399 = true := by decide
  have z22 : zix (2 : Int32) = 2 := by decide
  have hne : ∀ j, j ≠ 1 → j ≠ 255 → j ≠ 259 → (j < 18 ∨ 34 ≤ j) → zput w2 255 7 1 j = w j := by
    intro j g1 g2 g3 g4
    rw [zput_ne g2, d4 j g3, zput_ne g1, c3 j g4]
  have h255 : ∀ i, i ≠ 7 → zput w2 255 7 1 255 i = w 255 i := by
    intro i hi
    rw [zput_at, upd_ne hi, d4 255 (by omega), zput_ne (by omega), c3 255 (by omega)]
  have hp59 : pe (w 256) (zput w2 255 7 1 259) := by
    intro i hi
    have := d2 i hi
    rw [Nat.zero_add] at this
    rw [zput_ne (by omega), this, zput_ne (by omega), c3 256 (by omega)]
  refine ⟨w 256 1 - w 256 2, zput wc 1 2 1, zput w2 255 7 1, ?_, ?_, IG_w hB h1 (fun j a b => hne j (by omega) (by omega) (by omega) (by omega)) (by rw [hne 256 (by omega) (by omega) (by omega) (by omega)]; exact pe.rfl), IH_w hB h.2.1 (fun j a => hne j (by omega) (by omega) (by omega) (by omega)) (h255 6 (by omega)) (fun i a => by rw [hne 260 (by omega) (by omega) (by omega) (by omega)]), ?_, ⟨?_, Or.inr ⟨?_, ?_⟩⟩, IR_w h5 ?_ (fun i a b => h255 i (by omega)) (fun i a => by rw [hne 254 (by omega) (by omega) (by omega) (by omega)]), IT_w h6 (by rw [hne 249 (by omega) (by omega) (by omega) (by omega)]) (h255 24 (by omega)) (fun i a => by rw [hne 250 (by omega) (by omega) (by omega) (by omega)]) (fun i a => by rw [hne 265 (by omega) (by omega) (by omega) (by omega)])⟩
  · unfold f_X7_save f_X1_countStored
    rw [zt1_1 hL, zt1_0 hL, c1, zbs, zlet_eq]
    dsimp only
    rw [e29]
  · unfold f_X8_save f_X8_stored
    rw [zt255_1 hL, zt255_4 hL, d1, zbs, zlet_eq]
    dsimp only
    rw [ztl256 hL, if_pos z1, if_pos z2, z11, z22, zput_ne (by omega), f256, zbs]
  · refine zPa_o (w := wc) (zPa_g h3 (g := 18) (by decide) (Sh_pc c2) c3) (fun j hj => ?_)
    rw [zput_ne (by omega), d4 j (by omega), zput_ne (by omega)]
  · rw [zput_at, upd_at, zput_ne (by omega), d4 1 (by omega), zput_at, upd_at]
  · refine Sh_pe hp59.symm (Sh_w (w := wc) (fun j a b => ?_) c2)
    rw [zput_ne (by omega), d4 j (by omega), zput_ne (by omega)]
  · exact pOK_pe hp59.symm (pOK_le hB h1.1)
  · rw [zput_ne (by omega), d4 1 (by omega), zput_at, upd_ne (by omega), c3 1 (by omega)]
theorem P_restore (hL : zLay S) (h : INV B w) : Pair B (f_X7_restore S w 1) (fun w1 => f_X8_restore S w1 255) [("java/lang/IllegalStateException", 1)] := by
  obtain ⟨h1, ⟨cnt, a1, a2, a3⟩, h3, ⟨s1, s2⟩, h5, h6⟩ := id h
  by_cases h0 : w 1 2 = 0
  · refine Pair_ex h "java/lang/IllegalStateException" 1 0 ?_ ?_ (by simp)
    · unfold f_X7_restore
      rw [if_pos h0]
    · have e7 : zput w 255 0 0 255 7 = 0 := by rw [zput_at, upd_ne (by omega), ← s1, h0]
      unfold f_X8_restore
      rw [zlet_eq, if_pos e7, e8_fails, zbs, zput_zput]
  · rcases s2 with s2 | ⟨s2, s3⟩
    · exact absurd s2 h0
    · obtain ⟨n, k, v, hI, hv⟩ := id s3
      obtain ⟨wc, c1, c2, c3⟩ := c7_copy (S := S) (w := w) (zG2 hL) (zG18 hL) (Or.inl (by omega)) (h3 2 (by decide)) s2 (pOK_cl s3)
      have hC : Sh (zput wc 34 2 0) 2 (w 259) := Sh_w (fun j a b => zput_ne (by omega)) c2
      have e29 : zput wc 34 2 0 2 9 = w 259 1 - w 259 2 := hC.2.2.2.1.2.1
      obtain ⟨w2, d1, d2, d3, d4⟩ := e8_copies (S := S) (w := zput (zput wc 34 2 0) 255 0 0) (a := 259) (b := 256) (p := 0) (q := 0) (by rw [ztl259 hL]; omega) (by rw [ztl256 hL]; omega) (by omega) (by omega) (by omega)
      have d1 : f_X8_copies S (zput (zput wc 34 2 0) 255 0 0) 259 0 256 0 = some ((), w2) := d1
      have hp : pe (w2 256) (w 259) := by
        intro i hi
        have := d2 i hi
        rw [Nat.zero_add] at this
        rw [this, zput_ne (by omega), zput_ne (by omega), c3 259 (by omega)]
      have e7 : ¬ zput (zput wc 34 2 0) 255 0 0 255 7 = 0 := by
        rw [zput_at, upd_ne (by omega), zput_ne (by omega), c3 255 (by omega), ← s1]
        exact h0
      have z1 : zin (1 : Int32) 399 = true := by decide
      have z11 : zix (1 : Int32) = 1 := by decide
      have z2 : zin (2 : Int32) 399 = true := by decide
      have z22 : zix (2 : Int32) = 2 := by decide
      have hne : ∀ j, j ≠ 34 → j ≠ 255 → j ≠ 256 → (j < 2 ∨ 18 ≤ j) → zput w2 255 6 0 j = w j := by
        intro j g1 g2 g3 g4
        rw [zput_ne g2, d4 j g3, zput_ne g2, zput_ne g1, c3 j g4]
      have h255 : ∀ i, i ≠ 6 → i ≠ 0 → zput w2 255 6 0 255 i = w 255 i := by
        intro i hi h0
        rw [zput_at, upd_ne hi, d4 255 (by omega), zput_at, upd_ne h0, zput_ne (by omega), c3 255 (by omega)]
      have hcl : ∀ j, j < 255 → zput w2 255 6 0 j = zput wc 34 2 0 j := by
        intro j hj
        rw [zput_ne (by omega), d4 j (by omega), zput_ne (by omega)]
      have hPw : zPa wc := zPa_g h3 (g := 2) (by decide) (Sh_pc c2) c3
      refine Or.inl ⟨w 259 1 - w 259 2, zput wc 34 2 0, zput w2 255 6 0, ?_, ?_, ?_, ⟨pOK_pe (by rw [zput_ne (by omega)]; exact hp) s3, Sh_pe (by rw [zput_ne (by omega)]; exact hp) (Sh_w (fun j a b => hcl j (by omega)) hC)⟩, ⟨0, ?_, ?_, fun q hq => absurd hq (Nat.not_lt_zero q)⟩, zPa_o hPw (fun j hj => by rw [hcl j (by omega), zput_ne (by omega)]), IS_w (Nat.le_refl B) h.2.2.2.1 (fun j a b => hne j (by omega) (by omega) (by omega) (by omega)) (by rw [hne 1 (by omega) (by omega) (by omega) (by omega)]) (h255 7 (by omega) (by omega)) (by rw [hne 259 (by omega) (by omega) (by omega) (by omega)]; exact pe.rfl), IR_w h5 (by rw [hne 1 (by omega) (by omega) (by omega) (by omega)]) (fun i a b => h255 i (by omega) (by omega)) (fun i a => by rw [hne 254 (by omega) (by omega) (by omega) (by omega)]), IT_w h6 (by rw [hne 249 (by omega) (by omega) (by omega) (by omega)]) (h255 24 (by omega) (by omega)) (fun i a => by rw [hne 250 (by omega) (by omega) (by omega) (by omega)]) (fun i a => by rw [hne 265 (by omega) (by omega) (by omega) (by omega)])⟩
      · unfold f_X7_restore f_X2_clear f_X1_countStored
        rw [if_neg h0, zt1_0 hL, zt1_1 hL, zt1_3 hL, c1, zbs, zlet_eq, zbs]
        dsimp only
        rw [e29]
      · dsimp only
        unfold f_X8_restore f_X8_stored
        rw [zlet_eq, if_neg e7, zt255_4 hL, zt255_1 hL, d1, zbs, zlet_eq]
        dsimp only
        rw [ztl256 hL, if_pos z1, if_pos z2, z11, z22, zput_ne (by omega), hp 1 (by omega), hp 2 (by omega), zbs]
      · rw [zput_at, upd_ne (by omega), d4 255 (by omega), zput_at, upd_at]
      · rw [zput_at, upd_at]
        rfl
      · obtain ⟨nx, g1, g2, g3, g4, g5⟩ := a2
        refine ⟨nx, g1, ?_, ?_, by omega, fun q hq => absurd hq (Nat.not_lt_zero q)⟩
        · rw [hcl 34 (by omega), zput_at, upd_ne (by omega), c3 34 (by omega), g2]
        · rw [hcl 34 (by omega), zput_at, upd_at]
          rfl
theorem P_undo (hL : zLay S) (h : INV B w) : Pair B (f_X7_undo S w 1) (fun w1 => f_X8_undo S w1 255) [("java/lang/IllegalStateException", 1)] := by
  obtain ⟨h1, ⟨cnt, a1, a2, a3⟩, h3, h4, h5, h6⟩ := id h
  have hc6 := CH_le a2
  have e34 : w 34 2 = ii cnt := by
    obtain ⟨nx, g1, g2, g3, g4, g5⟩ := a2
    exact g3
  have e6 : zput w 255 0 0 255 6 = ii cnt := by rw [zput_at, upd_ne (by omega), a1]
  by_cases h0 : cnt = 0
  · subst h0
    refine Pair_ex h "java/lang/IllegalStateException" 1 0 ?_ ?_ (by simp)
    · unfold f_X7_undo f_X2_count
      rw [zt1_3 hL, e34, if_pos (by decide)]
    · unfold f_X8_undo
      rw [zlet_eq, e6, if_pos (by decide), e8_fails, zbs, zput_zput]
  · have hne0 : ¬ ii cnt = 0 := by
      rw [show (0 : Int32) = ii 0 from rfl, ii_iff (by omega) (by omega)]
      exact h0
    obtain ⟨wb, b1, b2, b3, b4, b5⟩ := c7_back (S := S) hL h3 a2 (by omega) (pOK_cl (a3 (cnt - 1) (by omega)))
    have f34 : wb 34 2 = ii (cnt - 1) := by
      obtain ⟨nx, g1, g2, g3, g4, g5⟩ := b3
      exact g3
    have g6 : zput wb 255 0 0 255 6 = ii cnt := by rw [zput_at, upd_ne (by omega), b5 255 (by omega) (by omega), a1]
    have e66 : zput (zput wb 255 0 0) 255 6 (ii (cnt - 1)) 255 6 = ii (cnt - 1) := by rw [zput_at, upd_at]
    obtain ⟨w2, d1, d2, d3, d4⟩ := e8_copies (S := S) (w := zput (zput wb 255 0 0) 255 6 (ii (cnt - 1))) (a := 260) (b := 256) (p := 399 * (cnt - 1)) (q := 0) (by rw [ztl260 hL]; omega) (by rw [ztl256 hL]; omega) (by omega) (by omega) (by omega)
    have d1 : f_X8_copies S (zput (zput wb 255 0 0) 255 6 (ii (cnt - 1))) 260 (ii (399 * (cnt - 1))) 256 0 = some ((), w2) := d1
    have hp : pe (w2 256) (hst w (cnt - 1)) := by
      intro i hi
      have := d2 i hi
      rw [Nat.zero_add] at this
      rw [this, zput_ne (by omega), zput_ne (by omega), b5 260 (by omega) (by omega)]
    have hcl : ∀ j, j ≠ 255 → j ≠ 256 → w2 j = wb j := by
      intro j g1 g2
      rw [d4 j g2, zput_ne g1, zput_ne g1]
    have h255 : ∀ i, i ≠ 6 → i ≠ 0 → w2 255 i = w 255 i := by
      intro i hi h0
      rw [d4 255 (by omega), zput_at, upd_ne hi, zput_at, upd_ne h0, b5 255 (by omega) (by omega)]
    have hne : ∀ j, j ≠ 34 → j ≠ 255 → j ≠ 256 → (j < 2 ∨ 18 ≤ j) → w2 j = w j := by
      intro j g1 g2 g3 g4
      rw [hcl j g2 g3, b5 j g4 g1]
    have hh : hst w2 = hst w := by
      funext q i
      show w2 260 _ = w 260 _
      rw [hne 260 (by omega) (by omega) (by omega) (by omega)]
    refine Or.inl ⟨ii (cnt - 1), wb, w2, ?_, ?_, ?_, ⟨pOK_pe hp (a3 (cnt - 1) (by omega)), Sh_pe hp (Sh_w (fun j a b => hcl j (by omega) (by omega)) b2)⟩, ⟨cnt - 1, ?_, ?_, fun q hq => ?_⟩, zPa_o b4 (fun j hj => hcl j (by omega) (by omega)), IS_w (Nat.le_refl B) h4 (fun j a b => hne j (by omega) (by omega) (by omega) (by omega)) (by rw [hne 1 (by omega) (by omega) (by omega) (by omega)]) (h255 7 (by omega) (by omega)) (by rw [hne 259 (by omega) (by omega) (by omega) (by omega)]; exact pe.rfl), IR_w h5 (by rw [hne 1 (by omega) (by omega) (by omega) (by omega)]) (fun i a b => h255 i (by omega) (by omega)) (fun i a => by rw [hne 254 (by omega) (by omega) (by omega) (by omega)]), IT_w h6 (by rw [hne 249 (by omega) (by omega) (by omega) (by omega)]) (h255 24 (by omega) (by omega)) (fun i a => by rw [hne 250 (by omega) (by omega) (by omega) (by omega)]) (fun i a => by rw [hne 265 (by omega) (by omega) (by omega) (by omega)])⟩
    · unfold f_X7_undo f_X2_count
      rw [zt1_3 hL, e34, if_neg hne0, zt1_0 hL, b1, zbs]
      dsimp only
      rw [f34]
    · dsimp only
      unfold f_X8_undo
      rw [zlet_eq, g6, if_neg hne0, zlet_eq, ii_sub1 (by omega), e66, ii_mul399, zt255_5 hL, zt255_1 hL, d1, zbs]
      dsimp only
      rw [d4 255 (by omega), e66]
    · rw [d4 255 (by omega), zput_at, upd_ne (by omega), zput_at, upd_at]
    · rw [d4 255 (by omega), e66]
    · rw [hh]
      exact CH_w (fun j hj => hcl j (by omega) (by omega)) b3
    · rw [hh]
      exact a3 q (by omega)
end ZBK
