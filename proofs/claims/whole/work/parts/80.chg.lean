/-! CHANGES: draft, change, keep; begins, change, ends. -/
section ZCG
variable {S : Zs} {w : Zw} {B B' : Nat}
/-- the class before a change -/
theorem c7_pre (hL : zLay S) (h : INV B w) : ∃ wd cnt, w 255 6 = ii cnt ∧ cnt ≤ 6 ∧ f_X2_draft S w 34 2 = some ((), wd) ∧ CD wd cnt (hst w) (w 256) ∧ zPa wd ∧ (∀ j, j < 36 ∨ 148 ≤ j → wd j = w j) ∧ Sh wd 2 (w 256) ∧ INV B wd := by
  obtain ⟨h1, ⟨cnt, a1, a2, a3⟩, h3, h4, h5, h6⟩ := h
  obtain ⟨wd, g1, g2, g3, g4⟩ := c7_draft (S := S) hL h3 a2 h1.2 (pOK_cl h1.1)
  have hS : Sh wd 2 (w 256) := Sh_w (fun j a b => g4 j (by omega)) h1.2
  refine ⟨wd, cnt, a1, CH_le a2, g1, g2, g3, g4, hS, IG_w (Nat.le_refl B) h1 (fun j a b => g4 j (by omega)) (by rw [g4 256 (by omega)]; exact pe.rfl), ⟨cnt, by rw [g4 255 (by omega)]; exact a1, ?_, ?_⟩, g3, IS_w (Nat.le_refl B) h4 (fun j a b => g4 j (by omega)) (by rw [g4 1 (by omega)]) (by rw [g4 255 (by omega)]) (by rw [g4 259 (by omega)]; exact pe.rfl), IR_w h5 (by rw [g4 1 (by omega)]) (fun i a b => by rw [g4 255 (by omega)]) (fun i a => by rw [g4 254 (by omega)]), IT_w h6 (by rw [g4 249 (by omega)]) (by rw [g4 255 (by omega)]) (fun i a => by rw [g4 250 (by omega)]) (fun i a => by rw [g4 265 (by omega)])⟩
  · have : hst wd = hst w := by
      funext q i
      show wd 260 _ = w 260 _
      rw [g4 260 (by omega)]
    rw [this]
    exact CD_CH g2
  · intro q hq
    have : hst wd = hst w := by
      funext q i
      show wd 260 _ = w 260 _
      rw [g4 260 (by omega)]
    rw [this]
    exact a3 q hq
theorem c7_post {wd wo : Zw} {cnt : Nat} {hist : Nat → Nat → Int32} {s0 s' : Nat → Int32} (hC : CD wd cnt hist s0) (hP : zPa wd) (hf : ∀ j, j < 2 ∨ 18 ≤ j → wo j = wd j) (hS : Sh wo 2 s') :
    ∃ wk, f_X2_keepDraft S wo 34 = some ((), wk) ∧ CH wk (min (cnt + 1) 6) (fun q => if q = min cnt 5 then s0 else if cnt = 6 then hist (q + 1) else hist q) ∧ zPa wk ∧ Sh wk 2 s' ∧ (∀ j, j ≠ 34 → wk j = wo j) := by
  have hPo : zPa wo := zPa_g hP (g := 2) (by decide) (Sh_pc hS) (fun j hj => hf j (by omega))
  obtain ⟨wk, g1, g2, g3, g4⟩ := c7_keep (S := S) hPo (CD_w (fun j hj => hf j (by omega)) hC)
  exact ⟨wk, g1, g2, g3, Sh_w (fun j a b => g4 j (by omega)) hS, g4⟩
theorem zKeep_begins {r1 : Zw} (h0 : ∀ i, i ≠ 0 → r1 255 i = w 255 i) (h1 : ∀ j, j ≠ 255 → j ≠ 257 → r1 j = w j) : zKeep w r1 := zKeep_55 (fun j hj => h1 j (by omega) (by omega)) (fun i hi => h0 i (by omega)) (fun j hj => h1 j (by omega) (by omega))
/-- the reference at the end of a change -/
theorem e8_fin (hL : zLay S) (hB : B ≤ B') (h : INV B w) {wk r1 r2 : Zw} {s' : Nat → Int32} {cnt : Nat} (hc : w 255 6 = ii cnt) (hc6 : cnt ≤ 6)
    (hC : CH wk (min (cnt + 1) 6) (fun q => if q = min cnt 5 then w 256 else if cnt = 6 then hst w (q + 1) else hst w q)) (hP : zPa wk) (hS : Sh wk 2 s') (hO : pOK B' s') (hkw : ∀ j, (18 ≤ j ∧ j < 34) ∨ j = 1 ∨ j = 249 ∨ j = 250 ∨ j = 254 ∨ 255 ≤ j → wk j = w j)
    (hr1 : r1 255 0 = 0 ∧ (∀ i, i ≠ 0 → r1 255 i = wk 255 i) ∧ pe (r1 257) (wk 256) ∧ ∀ j, j ≠ 255 → j ≠ 257 → r1 j = wk j) (hE : zE8 r1 r2) (hs : pe (r2 256) s') (x : Int32) :
    ∃ r3, f_X8_ends S r2 255 x = some (x, r3) ∧ r3 255 0 = 0 ∧ INV B' r3 ∧ (∀ j, j < 255 → r3 j = wk j) := by
  obtain ⟨b1, b2, b3, b4⟩ := hr1
  obtain ⟨c1, c2⟩ := hE
  have d0 : r2 255 0 = 0 := by rw [c2 0 (by omega) (by omega), b1]
  have d6 : r2 255 6 = ii cnt := by rw [c2 6 (by omega) (by omega), b2 6 (by omega), hkw 255 (by omega), hc]
  obtain ⟨r3, e1, e2, e3, e4, e5⟩ := e8_ends (S := S) hL d0 d6 hc6 x
  have k5 : ∀ i, i = 7 ∨ (10 ≤ i ∧ i < 13) ∨ i = 24 → r3 255 i = w 255 i := by
    intro i hi
    rw [e3 i (by omega), c2 i (by omega) (by omega), b2 i (by omega), hkw 255 (by omega)]
  have kc : ∀ j, j < 255 → r3 j = wk j := by
    intro j hj
    rw [e5 j (by omega) (by omega), c1 j (by omega) (by omega), b4 j (by omega) (by omega)]
  have kr : ∀ j, j = 259 ∨ j = 265 → r3 j = w j := by
    intro j hj
    rw [e5 j (by omega) (by omega), c1 j (by omega) (by omega), b4 j (by omega) (by omega), hkw j (by omega)]
  have p6 : pe (r3 256) s' := by
    rw [e5 256 (by omega) (by omega)]
    exact hs
  have q7 : pe (r2 257) (w 256) := by
    rw [c1 257 (by omega) (by omega), ← hkw 256 (by omega)]
    exact b3
  have q60 : r2 260 = w 260 := by rw [c1 260 (by omega) (by omega), b4 260 (by omega) (by omega), hkw 260 (by omega)]
  have hh : ∀ q, q < min (cnt + 1) 6 → pe (hst r3 q) (if q = min cnt 5 then w 256 else if cnt = 6 then hst w (q + 1) else hst w q) := by
    intro q hq i hi
    show r3 260 (399 * q + i) = _
    rw [e4 q i hq hi]
    by_cases e : q = min cnt 5
    · rw [if_pos e, if_pos e, q7 i hi]
    · rw [if_neg e, if_neg e, q60]
      by_cases e6 : cnt = 6
      · rw [if_pos e6, if_pos e6]
      · rw [if_neg e6, if_neg e6]
  obtain ⟨h1, ⟨cnt', a1, a2, a3⟩, h3, h4, h5, h6⟩ := h
  have hcc : cnt' = cnt := by
    have := CH_le a2
    exact (ii_iff (by omega) (by omega)).mp (a1.symm.trans hc)
  subst hcc
  refine ⟨r3, e1, by rw [e3 0 (by omega), d0], ⟨⟨pOK_pe p6 hO, Sh_pe p6 (Sh_w (fun j a b => kc j (by omega)) hS)⟩, ⟨min (cnt' + 1) 6, e2, CH_pe hh (CH_w (fun j hj => kc j (by omega)) hC), fun q hq => ?_⟩, zPa_o hP (fun j hj => kc j (by omega)), IS_w hB h4 (fun j a b => by rw [kc j (by omega), hkw j (by omega)]) (by rw [kc 1 (by omega), hkw 1 (by omega)]) (k5 7 (by omega)) (by rw [kr 259 (by omega)]; exact pe.rfl), IR_w h5 (by rw [kc 1 (by omega), hkw 1 (by omega)]) (fun i a b => k5 i (by omega)) (fun i a => by rw [kc 254 (by omega), hkw 254 (by omega)]), IT_w h6 (by rw [kc 249 (by omega), hkw 249 (by omega)]) (k5 24 (by omega)) (fun i a => by rw [kc 250 (by omega), hkw 250 (by omega)]) (fun i a => by rw [kr 265 (by omega)])⟩, kc⟩
  have := hh q hq
  by_cases e : q = min cnt' 5
  · rw [if_pos e] at this
    exact pOK_pe this (pOK_le hB h1.1)
  · rw [if_neg e] at this
    by_cases e6 : cnt' = 6
    · rw [if_pos e6] at this
      exact pOK_pe this (pOK_le hB (a3 (q + 1) (by omega)))
    · rw [if_neg e6] at this
      exact pOK_pe this (pOK_le hB (a3 q (by omega)))
/-- a call that the reference refuses at once -/
theorem e8_ref {r1 : Zw} (h : INV B w) (hr1 : r1 255 0 = 0 ∧ (∀ i, i ≠ 0 → r1 255 i = w 255 i) ∧ pe (r1 257) (w 256) ∧ ∀ j, j ≠ 255 → j ≠ 257 → r1 j = w j) (c : Int32) : INV B (zput r1 255 0 c) := by
  obtain ⟨b1, b2, b3, b4⟩ := hr1
  have hk := zKeep_begins b2 b4
  exact INV_thr (INV_keep (Nat.le_refl B) h (zPa_o h.2.2.1 (fun j hj => b4 j (by omega) (by omega))) hk) c
theorem P_book (hL : zLay S) (hB : B ≤ B') (h : INV B w) (a b : Int32) : Pair B' (f_X7_book S w 1 a b) (fun w1 => f_X8_book S w1 255 a b) [("java/lang/IndexOutOfBoundsException", 1), ("java/lang/IllegalArgumentException", 2)] := by
  obtain ⟨n, k, v, hI, hv, hS⟩ := IG_get h
  have hn := zI_n hI.1
  have hG := zG2 hL
  by_cases hst : pStored (w 256) n a = true
  · obtain ⟨c, bb, hc, rfl, hbb, hbay, hin⟩ := pStored_of hI.1 hst
    have h7 : f_X7_checkStored S w 1 (ii c) = some (.inl (), w) := by rw [c7_checkStored hL hS hI.1, if_pos hst]
    have hz : zin (ii c) 40 = true := zin_t (by omega) (by omega)
    have hzc : zix (ii c) = c := zix_ii (by omega)
    by_cases hb : 0 ≤ b ∧ b ≤ 9999
    · obtain ⟨wd, cnt, hcn, hc6, d1, d2, d3, d4, d5, -⟩ := c7_pre hL h
      have hRd : RG wd 2 (w 256) (n + k + v) := by
        rw [← pT_I hI.1]
        exact d5
      obtain ⟨q0, q1, q2, q3⟩ := hRd.2.2.1 c (by omega)
      have hs'I : zI9 (upd (w 256) (139 + 4 * c + 1) b) n k v := by
        obtain ⟨⟨i1, i2, i3, i4, i5, i6, i7, i8, i9, i10, i11, i12⟩, hpk, hct⟩ := hI
        refine ⟨⟨by rw [upd_ne (by omega)]; exact i1, by rw [upd_ne (by omega)]; exact i2, by rw [upd_ne (by omega)]; exact i3, i4, i5, i6, by rw [upd_ne (by omega)]; exact i7, by rw [upd_ne (by omega)]; exact i8, fun b hb => by rw [upd_ne (by omega)]; exact i9 b hb, fun b hb => ?_, fun c hc => ?_, fun m hm => by rw [upd_ne (by omega), upd_ne (by omega)]; exact i12 m hm⟩, fun c' hc' => ?_, ?_⟩
        · rw [upd_ne (by omega)]
          rcases i10 b hb with g | ⟨c, hc, g1, g2⟩
          · exact Or.inl g
          · exact Or.inr ⟨c, hc, g1, by rw [upd_ne (by omega)]; exact g2⟩
        · rw [upd_ne (by omega)]
          rcases i11 c hc with g | ⟨b, hb, g1, g2⟩
          · exact Or.inl g
          · exact Or.inr ⟨b, hb, g1, by rw [upd_ne (by omega)]; exact g2⟩
        · by_cases e : c' = c
          · subst e
            rw [upd_at]
            exact hb
          · rw [upd_ne (by omega)]
            exact hpk c' hc'
        · rw [pCnt_eq (s := w 256) (fun b hb => by rw [upd_ne (by omega)])]
          exact hct
      have hRo : RG (zput wd 6 c b) 2 (upd (w 256) (139 + 4 * c + 1) b) (n + k + v) := by
        obtain ⟨r1, r2, r3, ⟨r41, r42, r43, r44, r45, r46, r47⟩, r5, r6⟩ := hRd
        refine ⟨fun b hb => by rw [zput_ne (by omega), upd_ne (by omega)]; exact r1 b hb, fun b hb => by rw [zput_ne (by omega), upd_ne (by omega)]; exact r2 b hb, fun c' hc' => ?_, ⟨?_, ?_, ?_, ?_, ?_, ?_, ?_⟩, fun m hm => ?_, fun j p hj hp => by rw [zput_ne (by omega), upd_ne (by omega)]; exact r6 j p hj hp⟩
        · obtain ⟨q0, q1, q2, q3⟩ := r3 c' hc'
          rw [zput_ne (by omega), zput_ne (j := 2 + 5) (by omega), zput_ne (j := 2 + 6) (by omega), upd_ne (by omega), upd_ne (j := 139 + 4 * c' + 2) (by omega), upd_ne (j := 139 + 4 * c' + 3) (by omega)]
          refine ⟨q0, ?_, q2, q3⟩
          show zput wd 6 c b 6 c' = _
          rw [zput_at]
          by_cases e : c' = c
          · subst e
            rw [upd_at, upd_at]
          · rw [upd_ne e, upd_ne (by omega)]
            exact q1
        · rw [zput_ne (by omega), upd_ne (by omega)]; exact r41
        · rw [zput_ne (by omega), upd_ne (by omega), upd_ne (by omega)]; exact r42
        · rw [zput_ne (by omega), upd_ne (by omega)]; exact r43
        · rw [zput_ne (by omega), upd_ne (by omega)]; exact r44
        · rw [zput_ne (by omega), upd_ne (by omega), upd_ne (by omega), upd_ne (by omega)]; exact r45
        · rw [zput_ne (by omega), upd_ne (by omega)]; exact r46
        · rw [zput_ne (by omega), upd_ne (by omega)]; exact r47
        · have hz := zmc_rg (g := 2) hm
          rw [zput_ne (by omega), upd_ne (by omega), upd_ne (by omega), upd_ne (by omega)]
          exact r5 m hm
      have hSo : Sh (zput wd 6 c b) 2 (upd (w 256) (139 + 4 * c + 1) b) := by
        unfold Sh
        rw [pT_I hs'I.1]
        exact hRo
      obtain ⟨wk, k1, k2, k3, k4, k5⟩ := c7_post (S := S) d2 d3 (wo := zput wd 6 c b) (fun j hj => zput_ne (by omega)) hSo
      have hkw : ∀ j, (18 ≤ j ∧ j < 34) ∨ j = 1 ∨ j = 249 ∨ j = 250 ∨ j = 254 ∨ 255 ≤ j → wk j = w j := by
        intro j hj
        rw [k5 j (by omega), zput_ne (by omega), d4 j (by omega)]
      obtain ⟨r1, b1, b2, b3, b4, b5⟩ := e8_begins (S := S) (w := wk) hL
      have hr1 : r1 256 = w 256 := by rw [b5 256 (by omega) (by omega), hkw 256 (by omega)]
      have h8 : f_X8_isCar S r1 255 (ii c) = some 1 := by rw [c8_isCar hL (by rw [hr1]; exact hI.1), hr1, if_pos hst]
      obtain ⟨r3, f1, f2, f3, -⟩ := e8_fin (r2 := zput r1 256 (139 + 4 * c + 1) b) hL hB h hcn hc6 k2 k3 k4 ⟨n, k, v, hs'I, by omega⟩ hkw ⟨b2, b3, b4, b5⟩ ⟨fun j a b => zput_ne (by omega), fun i a b => by rw [zput_ne (by omega)]⟩ (by rw [zput_at, hr1]; exact pe.rfl) (w 256 (139 + 4 * c + 1))
      refine Or.inl ⟨w 256 (139 + 4 * c + 1), wk, r3, ?_, ?_, f2, f3⟩
      · unfold f_X7_book
        have hct : f_X7_checkTime w 1 b = some (.inl (), w) := by
          unfold f_X7_checkTime
          rw [c7_isTime, if_pos hb, zbs, if_neg (by decide)]
        have hcp : f_X1_changePickup S wd 2 (ii c) b = some (w 256 (139 + 4 * c + 1), zput wd 6 c b) := by
          unfold f_X1_changePickup
          rw [zg0_3 hG, zgl4 hG, if_pos hz, zlet_eq, if_pos hz, zlet_eq, hzc, q1]
        rw [h7, zbx_inl, hct, zbx_inl, zt1_3 hL, zt1_0 hL, d1, zbs, hcp, zbs]
        dsimp only
        rw [k1, zbs]
      · dsimp only
        unfold f_X8_book
        have e9 : (139 : Int32) + (4 : Int32) * ii c + 1 = ii (139 + 4 * c + 1) := by
          rw [show (139 : Int32) = ii 139 from rfl, show (4 : Int32) = ii 4 from rfl, show (1 : Int32) = ii 1 from rfl, ii_mul, ii_add, ii_add]
        rw [b1, zbs]
        dsimp only
        rw [h8, zbs, if_neg (by decide), c8_isPickup, if_pos hb, zbs, if_neg (by decide), c8_pickup hL (by omega), zbs, e9, zt255_1 hL, ztl256 hL, if_pos (zin_t (by omega) (by omega)), zix_ii (by omega), zlet_eq, hr1, f1, zbs]
    · obtain ⟨r1, b1, b2, b3, b4, b5⟩ := e8_begins (S := S) (w := w) hL
      have hr1 : r1 256 = w 256 := b5 256 (by omega) (by omega)
      have h8 : f_X8_isCar S r1 255 (ii c) = some 1 := by rw [c8_isCar hL (by rw [hr1]; exact hI.1), hr1, if_pos hst]
      refine Or.inr ⟨"java/lang/IllegalArgumentException", 2, w, 0, zput r1 255 0 2, ?_, ?_, by simp, by rw [zput_at, upd_at], INV_keep hB (e8_ref h ⟨b2, b3, b4, b5⟩ 2) (e8_ref h ⟨b2, b3, b4, b5⟩ 2).2.2.1 (zKeep_55 (fun _ _ => rfl) (fun _ _ => rfl) (fun _ _ => rfl))⟩
      · unfold f_X7_book
        have hct : f_X7_checkTime w 1 b = some (.inr "java/lang/IllegalArgumentException", w) := by
          unfold f_X7_checkTime
          rw [c7_isTime, if_neg hb, zbs, if_pos rfl]
        rw [h7, zbx_inl, hct, zbx_inr]
      · dsimp only
        unfold f_X8_book
        rw [b1, zbs]
        dsimp only
        rw [h8, zbs, if_neg (by decide), c8_isPickup, if_neg hb, zbs, if_pos rfl, e8_fails, zbs]
  · obtain ⟨r1, b1, b2, b3, b4, b5⟩ := e8_begins (S := S) (w := w) hL
    have hr1 : r1 256 = w 256 := b5 256 (by omega) (by omega)
    have h8 : f_X8_isCar S r1 255 a = some 0 := by rw [c8_isCar hL (by rw [hr1]; exact hI.1), hr1, if_neg hst]
    have hR := e8_ref h ⟨b2, b3, b4, b5⟩ 1
    refine Or.inr ⟨"java/lang/IndexOutOfBoundsException", 1, w, 0, zput r1 255 0 1, ?_, ?_, by simp, by rw [zput_at, upd_at], INV_keep hB hR hR.2.2.1 (zKeep_55 (fun _ _ => rfl) (fun _ _ => rfl) (fun _ _ => rfl))⟩
    · unfold f_X7_book
      rw [c7_checkStored hL hS hI.1, if_neg hst, zbx_inr]
    · dsimp only
      unfold f_X8_book
      rw [b1, zbs]
      dsimp only
      rw [h8, zbs, if_pos rfl, e8_fails, zbs]
end ZCG
