/-! PERFORM, both sides. -/
section ZPG
variable {S : Zs} {w u r : Zw} {B B' n k v : Nat} {s t t' : Nat → Int32} {len p i : Nat}
theorem pNm_le {c z : Int32} (hp : p ≤ len) : (pNm t len p c z).1 ≤ len := by
  obtain ⟨g1, g2, g3, g4⟩ := pDg_ok (t := t) (len := len) (hi := 57) 4 0 p 0
  have g4 := g4 hp
  unfold pNm
  split
  · exact g4
  · split
    · rename_i h9
      have := pL_lt h9 (by decide)
      exact this
    · exact g4
theorem pCmd_le (hp : p ≤ len) : (pCmd t len p).1 ≤ len := by
  unfold pCmd
  split
  · rename_i hk
    have hpl : p < len := pL_lt rfl (pKd_ok hk).2.2
    split
    · split
      · rename_i h2
        have hp2 : p + 1 < len := pL_lt rfl (fun q => by rcases h2 with h | h <;> rw [h] at q <;> exact absurd q (by decide))
        split
        · rename_i h3
          have hp3 : p + 2 < len := pL_lt h3 (by decide)
          exact pNm_le hp3
        · exact hp2
      · exact hpl
    · exact pNm_le hpl
  · exact hp
theorem pPar_le (m : Nat) : ∀ p, p ≤ len → (pPar t len m p).1 ≤ len := by
  induction m with
  | zero => exact fun p h => h
  | succ m ih =>
    intro p hp
    by_cases hlp : len ≤ p
    · unfold pPar
      rw [if_pos hlp]
      exact hp
    · cases ec : (pCmd t len p).2 with
      | none => rw [pPar_none hlp ec]; exact pCmd_le hp
      | some a => rw [pPar_some hlp ec]; exact ih _ (pCmd_le hp)
theorem pTop_le : (pTop t len).1 ≤ len := by
  unfold pTop
  split
  · exact Nat.zero_le _
  · exact pPar_le 20 0 (Nat.zero_le _)
theorem e8_start (hL : zLay S) (hl : len ≤ 60) {wf : Zw} (h4 : wf 255 24 = ii len) : ∃ r1 ru, f_X8_perform S wf 255 = f_X8_perform_j45 S ru 255 ∧ ru 255 25 = ii (pTop (wf 265) len).1 ∧ ru 255 26 = (match (pTop (wf 265) len).2 with | none => 1 | some _ => 0) ∧ (r1 255 0 = 0 ∧ (∀ i, i ≠ 0 → r1 255 i = wf 255 i) ∧ pe (r1 257) (wf 256) ∧ ∀ j, j ≠ 255 → j ≠ 257 → r1 j = wf j) ∧ zPf r1 ru := by
  obtain ⟨r1, b1, b2, b3, b4, b5⟩ := e8_begins (S := S) (w := wf) hL
  obtain ⟨ru, g1, g2, g3, g4⟩ := e8_top (S := S) (w := zput (zput r1 255 25 0) 255 26 0) (len := len) hL hl (by rw [zput_at, upd_at]) (by rw [zput_at, upd_ne (by omega), zput_at, upd_ne (by omega), b3 24 (by omega), h4]) (by rw [zput_at, upd_ne (by omega), zput_at, upd_at])
  have e : zput (zput r1 255 25 0) 255 26 0 265 = wf 265 := by rw [zput_ne (by omega), zput_ne (by omega), b5 265 (by omega) (by omega)]
  rw [e] at g2 g3
  refine ⟨r1, ru, ?_, g2, g3, ⟨b2, b3, b4, b5⟩, zPf_trans (zPf_trans (zPf_5 (by omega)) (zPf_5 (by omega))) g4⟩
  unfold f_X8_perform
  rw [b1, zbs]
  dsimp only
  rw [zlet_eq, zlet_eq]
  exact g1
theorem zPa_x {a b : Zw} (hP : zPa a) (h2 : zPac b 2) (h : ∀ j, j ≠ 1 → j ≠ 254 → (j < 2 ∨ 18 ≤ j) → b j = a j) : zPa b := by
  intro g hg
  by_cases eg : g = 2
  · rw [eg]
    exact h2
  · refine zPac_w (w := a) (fun j q r => ?_) (hP g hg)
    have a2 := zGb_rg hg
    have hj : (18 ≤ j ∧ j < 249) := by
      rcases a2 with a2 | a2 | ⟨i2, hi2, a2⟩ | ⟨i2, hi2, a2⟩ <;> omega
    exact h j (by omega) (by omega) (by omega)
theorem P_perform (hL : zLay S) (hB : B + 20 ≤ B') (hB9 : B < 999900) (h : INV B w) : Pair B' (f_X7_perform S w 1) (fun w1 => f_X8_perform S w1 255) [("java/lang/UnsupportedOperationException", 1)] := by
  obtain ⟨n, k, v, hI, hv, hR⟩ := IG_get h
  obtain ⟨len, l1, l2, l3, l4⟩ := h.2.2.2.2.2
  have htc : pTop (w 250) len = pTop (w 265) len := pTop_cong (fun i hi => (l4 i (by omega)).1)
  obtain ⟨u1, p1, p2, p3, p4⟩ := c7_parse (S := S) (w := w) (len := len) hL l1 l2
  rw [htc] at p1 p4
  have hempty : f_X0_empty S u1 249 = some ((), zput u1 249 4 0) := by
    unfold f_X0_empty
    rw [zlet_eq]
  obtain ⟨we, hwe⟩ : ∃ we, we = zput u1 249 4 0 := ⟨_, rfl⟩
  have q1 : ∀ j, j ≠ 249 → j < 251 ∨ 254 ≤ j → we j = w j := fun j a b => by rw [hwe, zput_ne a, p2 j a b]
  have q2 : we 249 4 = 0 := by rw [hwe, zput_at, upd_at]
  have q3 : we 249 6 = u1 249 6 := by rw [hwe, zput_at, upd_ne (by omega)]
  have q4 : ∀ j, 251 ≤ j → j < 254 → we j = u1 j := fun j a b => by rw [hwe, zput_ne (by omega)]
  rw [← hwe] at hempty
  cases ht : (pTop (w 265) len).2 with
  | none =>
    rw [ht] at p1
    have hle := pTop_le (t := w 265) (len := len)
    obtain ⟨r1, ru, e1, e2, e3, ⟨e4, e5, e6, e7⟩, e8⟩ := e8_start (S := S) (wf := we) (len := len) hL l1 (by rw [q1 255 (by omega) (by omega), l3])
    rw [q1 265 (by omega) (by omega)] at e2 e3
    rw [ht] at e3
    refine Or.inl ⟨-100 - ii (pTop (w 265) len).1, we, zput ru 255 24 0, ?_, ?_, ?_, ?_⟩
    · unfold f_X7_perform
      rw [zt1_5 hL, p1, zbs]
      dsimp only
      rw [hempty, zbs, if_neg (ii_ne (by omega))]
    · dsimp only
      rw [e1]
      unfold f_X8_perform_j45
      rw [if_neg (by rw [e3]; decide), zlet_eq, zput_at, upd_ne (by omega), e2]
    · rw [zput_at, upd_ne (by omega), e8.2 0 (by omega) (by omega), e4]
    · refine INV_txt (by omega) h (fun j a b c d e => by rw [zput_ne c, e8.1 j c e, e7 j c d, q1 j a b]) (fun q a b c d => by rw [zput_at, upd_ne b, e8.2 q c d, e5 q a, q1 255 (by omega) (by omega)]) ?_ (by rw [zput_at, upd_at])
      rw [zput_ne (by omega), e8.1 249 (by omega) (by omega), e7 249 (by omega) (by omega), q2]
  | some L =>
    rw [ht] at p1
    obtain ⟨p5, p6⟩ := p4 L ht
    have hlen0 : ¬ len = 0 := by
      intro q
      unfold pTop at ht
      rw [if_pos q] at ht
      cases ht
    have hpar : (pPar (w 265) len 20 0).2 = some L := by
      unfold pTop at ht
      rw [if_neg hlen0] at ht
      exact ht
    have hW : INV B (zput we 255 24 0) := INV_txt (Nat.le_refl B) h (fun j a b c d e => by rw [zput_ne c, q1 j a b]) (fun q a b c d => by rw [zput_at, upd_ne b, q1 255 (by omega) (by omega)]) (by rw [zput_ne (by omega), q2]) (by rw [zput_at, upd_at])
    have hW6 : zput we 255 24 0 256 = w 256 := by rw [zput_ne (by omega), q1 256 (by omega) (by omega)]
    obtain ⟨g1, ⟨cnt, a1, a2, a3⟩, g3, g4, g5, g6⟩ := id hW
    have hc6 := CH_le a2
    obtain ⟨wd, d1, d2, d3, d4⟩ := c7_draft (S := S) (w := we) hL (zPa_o g3 (fun j hj => (zput_ne (by omega)).symm)) (CH_w (fun j hj => (zput_ne (by omega)).symm) a2) (Sh_w (fun j a b => (zput_ne (by omega)).symm) g1.2) (pOK_cl g1.1)
    rw [hW6] at d2
    have hRd : RG wd 2 (w 256) (n + k + v) := RG_w (fun j a b => by rw [d4 j (by omega), q1 j (by omega) (by omega)]) hR
    have RUN := fun (r : Zw) (b1 : r 256 = w 256) (b2 : r 265 = w 265) (b3 : r 255 0 = 0) (b4 : r 255 26 = 0) (b5 : r 255 24 = ii len) (b6 : r 255 25 = 0) => run_all (S := S) (len := len) hL l1 20 0 0 L wd r n k v (by omega) (by omega) (by omega) (by rw [b2]; exact hpar) (zCm_w (fun j a b => by rw [d4 j (by omega), q4 j a b]) L 0 p6) (by rw [d4 249 (by omega), q3, p5, Nat.zero_add]) (by rw [b1]; exact hI) (by rw [b1]; exact hRd) (by omega) b3 b4 b5 b6 zFU (by unfold zFU; omega)
    have h7 : f_X7_perform S w 1 = zlp (fun kk a => f_X7_perform_b38 S 1 kk a.1 a.2) zFU (ii 0, wd) := by
      unfold f_X7_perform
      rw [zt1_5 hL, p1, zbs]
      dsimp only
      rw [hempty, zbs, if_pos rfl, zt1_3 hL, zt1_0 hL, d1, zbs]
      rfl
    -- what the class's run ends with
    have postA : ∀ (uo : Zw) (s' : Nat → Int32), Sh uo 2 s' → (∀ j, j < 2 ∨ 18 ≤ j → uo j = wd j) → ∃ wk, f_X2_keepDraft S uo 34 = some ((), wk) ∧ CH wk (min (cnt + 1) 6) (fun q => if q = min cnt 5 then w 256 else if cnt = 6 then hst (zput we 255 24 0) (q + 1) else hst (zput we 255 24 0) q) ∧ zPa wk ∧ Sh wk 2 s' ∧ (∀ j, j ≠ 34 → wk j = uo j) := fun uo s' x1 x2 => c7_post (S := S) d2 d3 x2 x1
    have postB : ∀ (uo : Zw), zPac uo 2 → (∀ j, j ≠ 1 → j ≠ 254 → (j < 2 ∨ 18 ≤ j) → uo j = wd j) → ∃ wr, f_X2_returnToDraft S uo 34 2 = some ((), wr) ∧ Sh wr 2 (w 256) ∧ CH wr cnt (hst (zput we 255 24 0)) ∧ zPa wr ∧ ∀ j, j < 2 ∨ 18 ≤ j → wr j = uo j := fun uo x1 x2 => c7_return (S := S) hL (zPa_x d3 x1 x2) (CD_w (fun j hj => x2 j (by omega) (by omega) (by omega)) d2) (by rw [← hW6]; exact pOK_cl g1.1)
    rcases RUN (zput (zput (zput w 255 0 0) 255 26 0) 255 25 0) (by rw [zput_ne (by omega), zput_ne (by omega), zput_ne (by omega)]) (by rw [zput_ne (by omega), zput_ne (by omega), zput_ne (by omega)]) (by simp (disch := omega) only [zput_at, upd_ne, upd_at]) (by simp (disch := omega) only [zput_at, upd_ne, upd_at]) (by simp (disch := omega) only [zput_at, upd_ne, upd_at]; exact l3) (by simp (disch := omega) only [zput_at, upd_ne, upd_at]) with ⟨uo0, r20, n0, k0, v0, x1, -, x3, x4, x5, x6, -⟩ | ⟨uo0, r20, x1, -, x3⟩
    · obtain ⟨wk0, y1, -, -, -, y5⟩ := postA uo0 (r20 256) (Sh_R x3.1 x5) x6
      rw [y1, zbs] at x1
      have wk0f : ∀ j, j < 2 ∨ (18 ≤ j ∧ j < 34) ∨ 148 ≤ j → wk0 j = we j := fun j hj => by rw [y5 j (by omega), x6 j (by omega), d4 j (by omega)]
      have hcm : f_X0_commands S wk0 249 = ii L.length := by
        show wk0 249 6 = _
        rw [wk0f 249 (by omega), q3, p5]
      obtain ⟨r1, ru, e1, e2, e3, ⟨e4, e5, e6, e7⟩, e8⟩ := e8_start (S := S) (wf := wk0) (len := len) hL l1 (by rw [wk0f 255 (by omega), q1 255 (by omega) (by omega), l3])
      have hk265 : wk0 265 = w 265 := by rw [wk0f 265 (by omega), q1 265 (by omega) (by omega)]
      rw [hk265] at e2 e3
      rw [ht] at e3
      rcases RUN (zput ru 255 25 0) (by rw [zput_ne (by omega), e8.1 256 (by omega) (by omega), e7 256 (by omega) (by omega), wk0f 256 (by omega), q1 256 (by omega) (by omega)]) (by rw [zput_ne (by omega), e8.1 265 (by omega) (by omega), e7 265 (by omega) (by omega), hk265]) (by rw [zput_at, upd_ne (by omega), e8.2 0 (by omega) (by omega), e4]) (by rw [zput_at, upd_ne (by omega)]; exact e3) (by rw [zput_at, upd_ne (by omega), e8.2 24 (by omega) (by omega), e5 24 (by omega), wk0f 255 (by omega), q1 255 (by omega) (by omega), l3]) (by rw [zput_at, upd_at]) with ⟨uo, r2, n2, k2, v2, z1, z2, z3, z4, z5, z6, z7⟩ | ⟨uo, r2, z1, z2, z3⟩
      · obtain ⟨wk, t1, t2, t3, t4, t5⟩ := postA uo (r2 256) (Sh_R z3.1 z5) z6
        rw [x1, t1, zbs] at z1
        have ek : wk0 = wk := congrArg Prod.snd (Option.some.inj z1)
        subst ek
        have hnum : ∀ j, 255 < j → zput wk0 255 24 0 j = zput we 255 24 0 j := fun j hj => by rw [zput_ne (by omega), zput_ne (by omega), wk0f j (by omega)]
        obtain ⟨r3, f1, f2, f3, -⟩ := e8_fin9 (S := S) (w := zput we 255 24 0) (wk := zput wk0 255 24 0) (r1 := zput r1 255 24 0) (r2 := zput r2 255 24 0) (s' := r2 256) (cnt := cnt) hL (show B ≤ B' by omega) hW a1 hc6 (by
          rw [hW6]
          exact CH_w (fun j hj => zput_ne (by omega)) t2) (zPa_o t3 (fun j hj => zput_ne (by omega))) (Sh_w (fun j a b => zput_ne (by omega)) t4) ⟨n2, k2, v2, z3, by omega⟩ (fun j hj => by
          by_cases e : j = 255
          · subst e
            rw [zput_at, zput_at, wk0f 255 (by omega)]
          · rw [zput_ne e, zput_ne e, wk0f j (by omega)]) ⟨by rw [zput_at, upd_ne (by omega)]; exact e4, fun i hi => by
            by_cases e : i = 24
            · subst e
              rw [zput_at, upd_at, zput_at, upd_at]
            · rw [zput_at, upd_ne e, zput_at, upd_ne e, e5 i hi], by rw [zput_ne (by omega), zput_ne (by omega)]; exact e6, fun j a b => by rw [zput_ne a, zput_ne a, e7 j a b]⟩ ⟨fun j hj => by rw [zput_ne (by omega), zput_ne (by omega), z7.1 j (by omega) (by omega) (by omega), zput_ne (by omega), e8.1 j (by omega) (by omega)], fun i hi => by
            by_cases e : i = 24
            · subst e
              rw [zput_at, upd_at, zput_at, upd_at]
            · rw [zput_at, upd_ne e, zput_at, upd_ne e, z7.2 i (by omega) (by omega) (by omega) (by omega), zput_at, upd_ne (by omega), e8.2 i (by omega) (by omega)]⟩ (by rw [zput_ne (by omega)]; exact pe.rfl) (ii (0 + L.length))
        refine Or.inl ⟨ii L.length, wk0, r3, ?_, ?_, f2, f3⟩
        · rw [h7, x1, hcm]
        · dsimp only
          rw [e1]
          unfold f_X8_perform_j45
          rw [if_pos e3, zlet_eq]
          show zlp (fun kk a => f_X8_perform_b72 S 255 kk a.1 a.2) zFU (ii 0, zput ru 255 25 0) = _
          rw [z2, f1, zbs, Nat.zero_add]
      · obtain ⟨wr, t1, -⟩ := postB uo z3.1 z3.2.1
        rw [x1, t1, zbs] at z1
        have := congrArg Prod.fst (Option.some.inj z1)
        cases this
    · obtain ⟨wr0, y1, y2, y3, y4, y5⟩ := postB uo0 x3.1 x3.2.1
      rw [y1, zbs] at x1
      have wr0f : ∀ j, j ≠ 1 → j ≠ 254 → (j < 2 ∨ (18 ≤ j ∧ j < 36) ∨ 148 ≤ j) → wr0 j = we j := fun j a b c => by rw [y5 j (by omega), x3.2.1 j a b (by omega), d4 j (by omega)]
      obtain ⟨r1, ru, e1, e2, e3, ⟨e4, e5, e6, e7⟩, e8⟩ := e8_start (S := S) (wf := wr0) (len := len) hL l1 (by rw [wr0f 255 (by omega) (by omega) (by omega), q1 255 (by omega) (by omega), l3])
      have hk265 : wr0 265 = w 265 := by rw [wr0f 265 (by omega) (by omega) (by omega), q1 265 (by omega) (by omega)]
      rw [hk265] at e2 e3
      rw [ht] at e3
      rcases RUN (zput ru 255 25 0) (by rw [zput_ne (by omega), e8.1 256 (by omega) (by omega), e7 256 (by omega) (by omega), wr0f 256 (by omega) (by omega) (by omega), q1 256 (by omega) (by omega)]) (by rw [zput_ne (by omega), e8.1 265 (by omega) (by omega), e7 265 (by omega) (by omega), hk265]) (by rw [zput_at, upd_ne (by omega), e8.2 0 (by omega) (by omega), e4]) (by rw [zput_at, upd_ne (by omega)]; exact e3) (by rw [zput_at, upd_ne (by omega), e8.2 24 (by omega) (by omega), e5 24 (by omega), wr0f 255 (by omega) (by omega) (by omega), q1 255 (by omega) (by omega), l3]) (by rw [zput_at, upd_at]) with ⟨uo, r2, n2, k2, v2, z1, z2, z3, z4, z5, z6, z7⟩ | ⟨uo, r2, z1, z2, z3⟩
      · obtain ⟨wk, t1, -⟩ := postA uo (r2 256) (Sh_R z3.1 z5) z6
        rw [x1, t1, zbs] at z1
        have := congrArg Prod.fst (Option.some.inj z1)
        cases this
      · obtain ⟨zz1, zz2, zz3, zz4, zz5, zz6⟩ := z3
        obtain ⟨wr, t1, t2, t3, t4, t5⟩ := postB uo zz1 zz2
        rw [x1, t1, zbs] at z1
        have ek : wr0 = wr := congrArg Prod.snd (Option.some.inj z1)
        subst ek
        obtain ⟨rc, c1, c2, c3, c4⟩ := e8_copies (S := S) (w := r2) (a := 257) (b := 256) (p := 0) (q := 0) (by rw [ztl257 hL]; omega) (by rw [ztl256 hL]; omega) (by omega) (by omega) (by omega)
        have c1 : f_X8_copies S r2 257 0 256 0 = some ((), rc) := c1
        -- the last world against the class's
        have ra : ∀ j, j ≠ 255 → j ≠ 256 → j ≠ 257 → j ≠ 266 → zput (zput rc 255 24 0) 255 0 1 j = wr0 j := by
          intro j a b c d
          rw [zput_ne a, zput_ne a, c4 j b, zz4 j a b d, zput_ne a, e8.1 j a d, e7 j a c]
        have rb : ∀ q, q ≠ 0 → q ≠ 8 → q ≠ 9 → q ≠ 24 → q ≠ 25 → q ≠ 26 → zput (zput rc 255 24 0) 255 0 1 255 q = r2 255 q := by
          intro q a b c d e f
          rw [zput_at, upd_ne a, zput_at, upd_ne d, c4 255 (by omega)]
        have rb' : ∀ q, q ≠ 0 → q ≠ 8 → q ≠ 9 → q ≠ 24 → q ≠ 25 → q ≠ 26 → (q < 10 ∨ 13 ≤ q) → zput (zput rc 255 24 0) 255 0 1 255 q = zput we 255 24 0 255 q := by
          intro q a b c d e f g
          rw [rb q a b c d e f, zz5 q a b c e f g, zput_at, upd_ne e, e8.2 q e f, e5 q a, wr0f 255 (by omega) (by omega) (by omega), zput_at, upd_ne d]
        have rp : pe (zput (zput rc 255 24 0) 255 0 1 256) (w 256) := by
          intro i hi
          have hc := c2 i hi
          rw [Nat.zero_add] at hc
          rw [zput_ne (by omega), zput_ne (by omega), hc, zz4 257 (by omega) (by omega) (by omega), zput_ne (by omega), e8.1 257 (by omega) (by omega), e6 i hi, wr0f 256 (by omega) (by omega) (by omega), q1 256 (by omega) (by omega)]
        have rW : ∀ j, j ≠ 1 → j ≠ 254 → j ≠ 255 → j ≠ 256 → j ≠ 257 → j ≠ 266 → (j < 2 ∨ (18 ≤ j ∧ j < 36) ∨ 148 ≤ j) → zput (zput rc 255 24 0) 255 0 1 j = zput we 255 24 0 j := by
          intro j a b c d e f g
          rw [ra j c d e f, wr0f j a b g, zput_ne c]
        refine Or.inr ⟨"java/lang/UnsupportedOperationException", 1, wr0, 0, zput (zput rc 255 24 0) 255 0 1, ?_, ?_, by simp, by rw [zput_at, upd_at], INV_le (show B ≤ B' by omega) ⟨⟨?_, ?_⟩, ⟨cnt, ?_, ?_, fun q hq => ?_⟩, ?_, ?_, ?_, ?_⟩⟩
        · rw [h7, x1]
        · dsimp only
          rw [e1]
          unfold f_X8_perform_j45
          rw [if_pos e3, zlet_eq]
          show zlp (fun kk a => f_X8_perform_b72 S 255 kk a.1 a.2) zFU (ii 0, zput ru 255 25 0) = _
          rw [z2, c1, zbs, zlet_eq, e8_fails, zbs]
        · exact pOK_pe rp ⟨n, k, v, hI, hv⟩
        · exact Sh_pe rp (Sh_w (fun j a b => ra j (by omega) (by omega) (by omega) (by omega)) t2)
        · rw [rb' 6 (by omega) (by omega) (by omega) (by omega) (by omega) (by omega) (by omega)]
          exact a1
        · have : hst (zput (zput rc 255 24 0) 255 0 1) = hst (zput we 255 24 0) := by
            funext q i
            show zput (zput rc 255 24 0) 255 0 1 260 _ = zput we 255 24 0 260 _
            rw [rW 260 (by omega) (by omega) (by omega) (by omega) (by omega) (by omega) (by omega)]
          rw [this]
          exact CH_w (fun j hj => ra j (by omega) (by omega) (by omega) (by omega)) t3
        · have : hst (zput (zput rc 255 24 0) 255 0 1) q = hst (zput we 255 24 0) q := by
            funext i
            show zput (zput rc 255 24 0) 255 0 1 260 _ = zput we 255 24 0 260 _
            rw [rW 260 (by omega) (by omega) (by omega) (by omega) (by omega) (by omega) (by omega)]
          rw [this]
          exact a3 q hq
        · exact zPa_o t4 (fun j hj => ra j (by omega) (by omega) (by omega) (by omega))
        · have r12 : zput (zput rc 255 24 0) 255 0 1 1 2 = zput we 255 24 0 1 2 := by
            rw [ra 1 (by omega) (by omega) (by omega) (by omega), t5 1 (by omega), zz3 2 (by omega), d4 1 (by omega), zput_ne (by omega)]
          exact IS_w (Nat.le_refl B) g4 (fun j a b => rW j (by omega) (by omega) (by omega) (by omega) (by omega) (by omega) (by omega)) r12 (rb' 7 (by omega) (by omega) (by omega) (by omega) (by omega) (by omega) (by omega)) (by rw [rW 259 (by omega) (by omega) (by omega) (by omega) (by omega) (by omega) (by omega)]; exact pe.rfl)
        · have s17 : zput (zput rc 255 24 0) 255 0 1 1 7 = uo 1 7 := by rw [ra 1 (by omega) (by omega) (by omega) (by omega), t5 1 (by omega)]
          have s254 : zput (zput rc 255 24 0) 255 0 1 254 = uo 254 := by rw [ra 254 (by omega) (by omega) (by omega) (by omega), t5 254 (by omega)]
          rcases zz6 with ⟨b1, b2, b3⟩ | ⟨b1, b2, b3, b4, b5⟩
          · refine IR_w g5 ?_ (fun i a b => ?_) (fun i a => ?_)
            · rw [s17, b1, d4 1 (by omega), zput_ne (by omega)]
            · rw [rb i (by omega) (by omega) (by omega) (by omega) (by omega) (by omega), b3 i a b, zput_at, upd_ne (by omega), e8.2 i (by omega) (by omega), e5 i (by omega), wr0f 255 (by omega) (by omega) (by omega), zput_at, upd_ne (by omega)]
            · rw [s254, b2, d4 254 (by omega), zput_ne (by omega)]
          · refine Or.inr ?_
            rw [s17, s254, rb 10 (by omega) (by omega) (by omega) (by omega) (by omega) (by omega), rb 11 (by omega) (by omega) (by omega) (by omega) (by omega) (by omega), rb 12 (by omega) (by omega) (by omega) (by omega) (by omega) (by omega)]
            exact ⟨b1, b2, b3, b4, b5⟩
        · refine ⟨0, by omega, ?_, ?_, fun i hi => ?_⟩
          · rw [rW 249 (by omega) (by omega) (by omega) (by omega) (by omega) (by omega) (by omega), zput_ne (by omega)]
            exact q2
          · rw [zput_at, upd_ne (by omega), zput_at, upd_at]
            rfl
          · rw [rW 250 (by omega) (by omega) (by omega) (by omega) (by omega) (by omega) (by omega), rW 265 (by omega) (by omega) (by omega) (by omega) (by omega) (by omega) (by omega), zput_ne (by omega), zput_ne (by omega), q1 250 (by omega) (by omega), q1 265 (by omega) (by omega)]
            exact l4 i hi
end ZPG
