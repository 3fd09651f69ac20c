/-! CALLS THAT CHANGE: store, setClosed, pass; save, restore, undo. -/
section ZC2
variable {S : Zs} {w : Zw} {B B' : Nat}
theorem chg_run (hL : zLay S) (hB : B ≤ B') (h : INV B w) {A : Type} (f7 : Zw → Option (A × Zw)) (P8 : Zw → Int32 → Zw → Prop) (G : A → Int32 → Prop)
    (hop : ∀ wd r, Sh wd 2 (w 256) → r 256 = w 256 → zPa wd → ∃ a x wo r2, f7 wd = some (a, wo) ∧ P8 r x r2 ∧ G a x ∧ pOK B' (r2 256) ∧ Sh wo 2 (r2 256) ∧ (∀ j, j < 2 ∨ 18 ≤ j → wo j = wd j) ∧ zE8 r r2) :
    ∃ wd wo wk r1 r2 r3 a x, f_X2_draft S w 34 2 = some ((), wd) ∧ f7 wd = some (a, wo) ∧ f_X2_keepDraft S wo 34 = some ((), wk) ∧ f_X8_begins S wk 255 = some ((), r1) ∧ P8 r1 x r2 ∧ f_X8_ends S r2 255 x = some (x, r3) ∧ G a x ∧ r3 255 0 = 0 ∧ INV B' r3 ∧ r1 256 = w 256 ∧ r1 255 0 = 0 ∧ zE8 r1 r2 ∧ Sh wk 2 (r2 256) := by
  obtain ⟨wd, cnt, hcn, hc6, d1, d2, d3, d4, d5, -⟩ := c7_pre (S := S) hL h
  obtain ⟨a0, x0, wo0, r20, p1, p2, p3, p4, p5, p6, p7⟩ := hop wd w d5 rfl d3
  obtain ⟨wk, k1, k2, k3, k4, k5⟩ := c7_post (S := S) d2 d3 p6 p5
  have hkw : ∀ j, (18 ≤ j ∧ j < 34) ∨ j = 1 ∨ j = 249 ∨ j = 250 ∨ j = 254 ∨ 255 ≤ j → wk j = w j := by
    intro j hj
    rw [k5 j (by omega), p6 j (by omega), d4 j (by omega)]
  obtain ⟨r1, b1, b2, b3, b4, b5⟩ := e8_begins (S := S) (w := wk) hL
  have hr1 : r1 256 = w 256 := by rw [b5 256 (by omega) (by omega), hkw 256 (by omega)]
  obtain ⟨a1, x1, wo1, r2, q1, q2, q3, q4, q5, q6, q7⟩ := hop wd r1 d5 hr1 d3
  have e := q1.symm.trans p1
  have e1 : a1 = a0 := congrArg Prod.fst (Option.some.inj e)
  have e2 : wo1 = wo0 := congrArg Prod.snd (Option.some.inj e)
  subst e1
  subst e2
  have hSk : Sh wk 2 (r2 256) := Sh_w (fun j a b => k5 j (by omega)) q5
  obtain ⟨r3, f1, f2, f3, -⟩ := e8_fin hL hB h hcn hc6 k2 k3 hSk q4 hkw ⟨b2, b3, b4, b5⟩ q7 pe.rfl x1
  exact ⟨wd, wo1, wk, r1, r2, r3, a1, x1, d1, q1, k1, b1, q2, f1, q3, f2, f3, hr1, b2, q7, hSk⟩
theorem chg_fail (hL : zLay S) (h : INV B w) {A : Type} (f7 : Zw → Option (A × Zw)) (f8 : Zw → Option (Int32 × Zw)) (a : A) (c : Int32) (hc : c ≠ 0) (hop : ∀ wd r, Sh wd 2 (w 256) → r 256 = w 256 → f7 wd = some (a, wd) ∧ f8 r = some (0, zput r 255 0 c)) :
    ∃ wd r1, f_X2_draft S w 34 2 = some ((), wd) ∧ f7 wd = some (a, wd) ∧ f_X8_begins S wd 255 = some ((), r1) ∧ f8 r1 = some (0, zput r1 255 0 c) ∧ f_X8_ends S (zput r1 255 0 c) 255 0 = some (0, zput r1 255 0 c) ∧ INV B (zput r1 255 0 c) ∧ zput r1 255 0 c 255 0 = c := by
  obtain ⟨wd, cnt, hcn, hc6, d1, d2, d3, d4, d5, d6⟩ := c7_pre (S := S) hL h
  obtain ⟨r1, b1, b2, b3, b4, b5⟩ := e8_begins (S := S) (w := wd) hL
  have hr1 : r1 256 = w 256 := by rw [b5 256 (by omega) (by omega), d4 256 (by omega)]
  have e : zput r1 255 0 c 255 0 = c := by rw [zput_at, upd_at]
  exact ⟨wd, r1, d1, (hop wd r1 d5 hr1).1, b1, (hop wd r1 d5 hr1).2, e8_ends1 (by rw [e]; exact hc) 0, e8_ref d6 ⟨b2, b3, b4, b5⟩ c, e⟩
/-- refused before a draft -/
theorem chg_ref (hL : zLay S) (h : INV B w) (c : Int32) (hc : c ≠ 0) : ∃ r1, f_X8_begins S w 255 = some ((), r1) ∧ r1 256 = w 256 ∧ f_X8_ends S (zput r1 255 0 c) 255 0 = some (0, zput r1 255 0 c) ∧ INV B (zput r1 255 0 c) ∧ zput r1 255 0 c 255 0 = c := by
  obtain ⟨r1, b1, b2, b3, b4, b5⟩ := e8_begins (S := S) (w := w) hL
  have hr1 : r1 256 = w 256 := b5 256 (by omega) (by omega)
  have e : zput r1 255 0 c 255 0 = c := by rw [zput_at, upd_at]
  exact ⟨r1, b1, hr1, e8_ends1 (by rw [e]; exact hc) 0, e8_ref h ⟨b2, b3, b4, b5⟩ c, e⟩
theorem INV_le (hB : B ≤ B') (h : INV B w) : INV B' w := INV_keep hB h h.2.2.1 (zKeep_55 (fun _ _ => rfl) (fun _ _ => rfl) (fun _ _ => rfl))
theorem P_store (hL : zLay S) (hB : B + 1 ≤ B') (h : INV B w) (a b : Int32) : Pair B' (f_X7_store S w 1 a b) (fun w1 => f_X8_store S w1 255 a b) [("java/lang/IllegalArgumentException", 1), ("java/lang/IllegalStateException", 2), ("java/lang/UnsupportedOperationException", 3)] := by
  obtain ⟨n, k, v, hI, hv, hS⟩ := IG_get h
  have hn := zI_n hI.1
  by_cases hsp : (0 ≤ a ∧ a ≤ 1) ∧ (0 ≤ b ∧ b ≤ 9999)
  · have h7 : f_X7_checkSizeAndPickup w 1 a b = some (.inl (), w) := by rw [c7_checkSP, if_pos hsp]
    by_cases hn4 : n = 40
    · subst hn4
      have hf : f_X1_isFull S w 2 = some 1 := by rw [c7_isFull hS hI.1, if_pos rfl]
      obtain ⟨r1, b1, hr1, b2, b3, b4⟩ := chg_ref (S := S) hL h 2 (by decide)
      refine Or.inr ⟨"java/lang/IllegalStateException", 2, w, 0, _, ?_, ?_, by simp, b4, INV_le (by omega) b3⟩
      · unfold f_X7_store
        rw [h7, zbx_inl, zt1_0 hL, hf, zbs, if_neg (by decide)]
      · dsimp only
        unfold f_X8_store
        rw [b1, zbs]
        dsimp only
        rw [e8_stores2 hL hsp.1 hsp.2 (by rw [hr1]; exact hI.1.1), zbs]
        dsimp only
        rw [b2, zbs]
    · have hf : f_X1_isFull S w 2 = some 0 := by rw [c7_isFull hS hI.1, if_neg hn4]
      rcases pCh_ok (s := w 256) (size := a) (pk := b) (fr := -1) with g | ⟨d, hd, g, g2⟩
      · have hop : ∀ wd r, Sh wd 2 (w 256) → r 256 = w 256 → f_X1_takeIn S wd 2 a b = some (-1, wd) ∧ f_X8_stores S r 255 a b = some (0, zput r 255 0 3) := by
          intro wd r hwd hr
          rcases o_store (S := S) (wd := wd) (r := r) hL (by rw [hr]; exact hI) (by rw [hr]; exact R_Sh hI.1 hwd) hsp.1 hsp.2 (show n < 40 by omega) with ⟨b9, wo, r2, hb9, q1, -⟩ | q
          · have q0 := c7_takeIn0 (S := S) (size := a) (pk := b) (zG2 hL) (R_Sh hI.1 hwd) hI.1 (Or.inl g)
            have := congrArg Prod.fst (Option.some.inj (q0.symm.trans q1))
            exact absurd this.symm (ii_ne (by omega))
          · exact q
        obtain ⟨wd, r1, d1, d2, d3, d4, d5, d6, d7⟩ := chg_fail hL h (fun wd => f_X1_takeIn S wd 2 a b) (fun r => f_X8_stores S r 255 a b) (-1) 3 (by decide) hop
        refine Or.inr ⟨"java/lang/UnsupportedOperationException", 3, wd, 0, _, ?_, ?_, by simp, d7, INV_le (by omega) d6⟩
        · unfold f_X7_store
          have d2 : f_X1_takeIn S wd 2 a b = some (-1, wd) := d2
          rw [h7, zbx_inl, zt1_0 hL, hf, zbs, if_pos rfl, zt1_3 hL, d1, zbs, d2, zbs, if_pos rfl]
        · have d4 : f_X8_stores S r1 255 a b = some (0, zput r1 255 0 3) := d4
          dsimp only
          unfold f_X8_store
          rw [d3, zbs]
          dsimp only
          rw [d4, zbs]
          dsimp only
          rw [d5, zbs]
      · have hop : ∀ wd r, Sh wd 2 (w 256) → r 256 = w 256 → zPa wd → ∃ y x wo r2, f_X1_takeIn S wd 2 a b = some (y, wo) ∧ f_X8_stores S r 255 a b = some (x, r2) ∧ (y = x ∧ y ≠ -1) ∧ pOK B' (r2 256) ∧ Sh wo 2 (r2 256) ∧ (∀ j, j < 2 ∨ 18 ≤ j → wo j = wd j) ∧ zE8 r r2 := by
          intro wd r hwd hr _
          rcases o_store (S := S) (wd := wd) (r := r) hL (by rw [hr]; exact hI) (by rw [hr]; exact R_Sh hI.1 hwd) hsp.1 hsp.2 (show n < 40 by omega) with ⟨b9, wo, r2, hb9, q1, q2, q3, q4, q5, q6⟩ | ⟨q1, -⟩
          · exact ⟨ii b9, ii b9, wo, r2, q1, q2, ⟨rfl, ii_ne (by omega)⟩, ⟨_, _, _, q3, by omega⟩, Sh_R q3.1 q4, q5, q6⟩
          · obtain ⟨wo, a1, -⟩ := c7_takeIn (S := S) (w := wd) (zG2 hL) (R_Sh hI.1 hwd) hI.1 hd g (show n < 40 by omega)
            have := congrArg Prod.fst (Option.some.inj (q1.symm.trans a1))
            exact absurd this.symm (ii_ne (by omega))
        obtain ⟨wd, wo, wk, r1, r2, r3, y, x, d1, d2, d3, d4, d5, d6, ⟨rfl, d7⟩, d8, d9, -⟩ := chg_run hL (by omega) h (fun wd => f_X1_takeIn S wd 2 a b) (fun r x r2 => f_X8_stores S r 255 a b = some (x, r2)) (fun y x => y = x ∧ y ≠ -1) hop
        refine Or.inl ⟨y, wk, r3, ?_, ?_, d8, d9⟩
        · unfold f_X7_store
          have d2 : f_X1_takeIn S wd 2 a b = some (y, wo) := d2
          rw [h7, zbx_inl, zt1_0 hL, hf, zbs, if_pos rfl, zt1_3 hL, d1, zbs, d2, zbs, if_neg d7]
          dsimp only
          rw [d3, zbs]
        · dsimp only
          unfold f_X8_store
          rw [d4, zbs]
          dsimp only
          rw [d5, zbs]
          dsimp only
          rw [d6, zbs]
  · have h7 : f_X7_checkSizeAndPickup w 1 a b = some (.inr "java/lang/IllegalArgumentException", w) := by rw [c7_checkSP, if_neg hsp]
    obtain ⟨r1, b1, hr1, b2, b3, b4⟩ := chg_ref (S := S) hL h 1 (by decide)
    refine Or.inr ⟨"java/lang/IllegalArgumentException", 1, w, 0, _, ?_, ?_, by simp, b4, INV_le (by omega) b3⟩
    · unfold f_X7_store
      rw [h7, zbx_inr]
    · dsimp only
      unfold f_X8_store
      rw [b1, zbs]
      dsimp only
      rw [e8_stores1 hsp, zbs]
      dsimp only
      rw [b2, zbs]
theorem P_setClosed (hL : zLay S) (hB : B ≤ B') (h : INV B w) (a x : Int32) (hx : x = 0 ∨ x = 1) : Pair B' (f_X7_setClosed S w 1 a x) (fun w1 => f_X8_setClosed S w1 255 a x) [("java/lang/IndexOutOfBoundsException", 1)] := by
  obtain ⟨n, k, v, hI, hv, hS⟩ := IG_get h
  have hsc : ∀ r, f_X8_setClosed S r 255 a x = (f_X8_begins S r 255).bind fun r1 => f_X8_setClosed_j16 S r1.2 x a 255 255 := by
    intro r
    unfold f_X8_setClosed
    rcases hx with rfl | rfl
    · simp only [if_true]
    · simp only [if_neg (show ¬ (1 : Int32) = 0 by decide)]
  by_cases hst : 0 ≤ a ∧ a ≤ 59
  · obtain ⟨c, hc', rfl⟩ := ii_rng (m := 59) (by omega) hst
    have hc : c < 60 := by omega
    have h7 : f_X7_checkBay w 1 (ii c) = some (.inl (), w) := by unfold f_X7_checkBay; rw [c7_isBay, if_pos hst, zbs, if_neg (by decide)]
    have hcl := hI.1.2.2.2.2.2.2.2.2.1 c hc
    have hb1 : zb1 (w 256 (19 + c)) = true := by rcases hcl with e | e <;> rw [e] <;> decide
    have hop : ∀ wd r, Sh wd 2 (w 256) → r 256 = w 256 → zPa wd → ∃ y z wo r2, f_X1_changeClosed S wd 2 (ii c) x = some (y, wo) ∧ f_X8_closes S r 255 (ii c) x = some (z, r2) ∧ (y = w 256 (19 + c) ∧ z = w 256 (19 + c)) ∧ pOK B' (r2 256) ∧ Sh wo 2 (r2 256) ∧ (∀ j, j < 2 ∨ 18 ≤ j → wo j = wd j) ∧ zE8 r r2 := by
      intro wd r hwd hr _
      obtain ⟨wo, r2, q1, q2, q3, q4, q5, q6⟩ := o_close (S := S) (wd := wd) (r := r) hL (by rw [hr]; exact hI) (by rw [hr]; exact R_Sh hI.1 hwd) hc hx
      rw [hr] at q1 q2
      exact ⟨_, _, wo, r2, q1, q2, ⟨rfl, rfl⟩, ⟨_, _, _, q3, by omega⟩, Sh_R q3.1 q4, q5, q6⟩
    obtain ⟨wd, wo, wk, r1, r2, r3, y, z, d1, d2, d3, d4, d5, d6, ⟨rfl, rfl⟩, d8, d9, -⟩ := chg_run hL hB h (fun wd => f_X1_changeClosed S wd 2 (ii c) x) (fun r z r2 => f_X8_closes S r 255 (ii c) x = some (z, r2)) (fun y z => y = w 256 (19 + c) ∧ z = w 256 (19 + c)) hop
    refine Or.inl ⟨w 256 (19 + c), wk, r3, ?_, ?_, d8, d9⟩
    · have d2 : f_X1_changeClosed S wd 2 (ii c) x = some (w 256 (19 + c), wo) := d2
      unfold f_X7_setClosed
      rw [h7, zbx_inl, zt1_0 hL, zt1_3 hL, d1, zbs, d2, zbs]
      dsimp only
      rw [d3, zbs, if_pos hb1]
    · dsimp only
      rw [hsc, d4, zbs]
      dsimp only
      unfold f_X8_setClosed_j16
      rw [d5, zbs]
      dsimp only
      rw [d6, zbs]
      dsimp only
      rcases hcl with e | e
      · rw [e, if_neg (by decide)]
      · rw [e, if_pos rfl]
  · have h7 : f_X7_checkBay w 1 a = some (.inr "java/lang/IndexOutOfBoundsException", w) := by unfold f_X7_checkBay; rw [c7_isBay, if_neg hst, zbs, if_pos rfl]
    obtain ⟨r1, b1, hr1, b2, b3, b4⟩ := chg_ref (S := S) hL h 1 (by decide)
    refine Or.inr ⟨"java/lang/IndexOutOfBoundsException", 1, w, 0, _, ?_, ?_, by simp, b4, INV_le (by omega) b3⟩
    · unfold f_X7_setClosed
      rw [h7, zbx_inr]
    · dsimp only
      rw [hsc, b1, zbs]
      dsimp only
      unfold f_X8_setClosed_j16
      rw [e8_closes1 hst, zbs]
      dsimp only
      rw [b2, zbs]
      rfl
theorem P_pass (hL : zLay S) (hB : B ≤ B') (h : INV B w) (a : Int32) : Pair B' (f_X7_pass S w 1 a) (fun w1 => f_X8_pass S w1 255 a) [("java/lang/IllegalArgumentException", 1), ("java/lang/IllegalStateException", 2)] := by
  obtain ⟨n, k, v, hI, hv, hS⟩ := IG_get h
  by_cases ha : 1 ≤ a ∧ a ≤ 999
  · have h7 : f_X7_isPass a = some 1 := by rw [c7_isPass, if_pos ha]
    by_cases hle : w 256 0 + a ≤ 9999
    · have hop : ∀ wd r, Sh wd 2 (w 256) → r 256 = w 256 → zPa wd → ∃ y x wo r2, f_X1_letPass S wd 2 a = some (y, wo) ∧ (f_X8_passes S r 255 a = some (x, r2) ∧ x = r2 256 0) ∧ y = 1 ∧ pOK B' (r2 256) ∧ Sh wo 2 (r2 256) ∧ (∀ j, j < 2 ∨ 18 ≤ j → wo j = wd j) ∧ zE8 r r2 := by
        intro wd r hwd hr _
        rcases o_pass (S := S) (wd := wd) (r := r) hL (by rw [hr]; exact hI) (by rw [hr]; exact R_Sh hI.1 hwd) ha with ⟨wo, r2, q1, q2, q3, q4, q5, q6⟩ | ⟨q1, -⟩
        · exact ⟨1, _, wo, r2, q1, ⟨q2, rfl⟩, rfl, ⟨_, _, _, q3, by omega⟩, Sh_R q3.1 q4, q5, q6⟩
        · unfold f_X1_letPass at q1
          have t0 : wd (2 + 8) 3 = w 256 0 := hwd.2.2.2.1.2.2.2.1
          rw [zg0_7 (zG2 hL), t0, if_pos hle, zlet_eq] at q1
          have : (1 : Int32) = 0 := congrArg Prod.fst (Option.some.inj q1)
          exact absurd this (by decide)
      obtain ⟨wd, wo, wk, r1, r2, r3, y, x, d1, d2, d3, d4, ⟨d5, d55⟩, d6, rfl, d8, d9, -, -, -, d10⟩ := chg_run hL hB h (fun wd => f_X1_letPass S wd 2 a) (fun r x r2 => f_X8_passes S r 255 a = some (x, r2) ∧ x = r2 256 0) (fun y x => y = 1) hop
      refine Or.inl ⟨x, wk, r3, ?_, ?_, d8, d9⟩
      · have d2 : f_X1_letPass S wd 2 a = some (1, wo) := d2
        have t0 : wk (2 + 8) 3 = r2 256 0 := d10.2.2.2.1.2.2.2.1
        unfold f_X7_pass
        rw [h7, zbs, if_neg (by decide), zt1_0 hL, zt1_3 hL, d1, zbs, d2, zbs, if_neg (show ¬ (1 : Int32) = 0 by decide)]
        dsimp only
        rw [d3, zbs]
        unfold f_X1_time
        dsimp only
        rw [zg0_7 (zG2 hL), t0, d55]
      · dsimp only
        unfold f_X8_pass
        rw [d4, zbs]
        dsimp only
        rw [d5, zbs]
        dsimp only
        rw [d6, zbs]
    · have hop : ∀ wd r, Sh wd 2 (w 256) → r 256 = w 256 → f_X1_letPass S wd 2 a = some (0, wd) ∧ f_X8_passes S r 255 a = some (0, zput r 255 0 2) := by
        intro wd r hwd hr
        rcases o_pass (S := S) (wd := wd) (r := r) hL (by rw [hr]; exact hI) (by rw [hr]; exact R_Sh hI.1 hwd) ha with ⟨wo, r2, q1, -⟩ | q
        · unfold f_X1_letPass at q1
          have t0 : wd (2 + 8) 3 = w 256 0 := hwd.2.2.2.1.2.2.2.1
          rw [zg0_7 (zG2 hL), t0, if_neg hle] at q1
          have : (0 : Int32) = 1 := congrArg Prod.fst (Option.some.inj q1)
          exact absurd this (by decide)
        · exact q
      obtain ⟨wd, r1, d1, d2, d3, d4, d5, d6, d7⟩ := chg_fail hL h (fun wd => f_X1_letPass S wd 2 a) (fun r => f_X8_passes S r 255 a) 0 2 (by decide) hop
      refine Or.inr ⟨"java/lang/IllegalStateException", 2, wd, 0, _, ?_, ?_, by simp, d7, INV_le (by omega) d6⟩
      · have d2 : f_X1_letPass S wd 2 a = some (0, wd) := d2
        unfold f_X7_pass
        rw [h7, zbs, if_neg (by decide), zt1_0 hL, zt1_3 hL, d1, zbs, d2, zbs, if_pos rfl]
      · have d4 : f_X8_passes S r1 255 a = some (0, zput r1 255 0 2) := d4
        dsimp only
        unfold f_X8_pass
        rw [d3, zbs]
        dsimp only
        rw [d4, zbs]
        dsimp only
        rw [d5, zbs]
  · have h7 : f_X7_isPass a = some 0 := by rw [c7_isPass, if_neg ha]
    obtain ⟨r1, b1, hr1, b2, b3, b4⟩ := chg_ref (S := S) hL h 1 (by decide)
    refine Or.inr ⟨"java/lang/IllegalArgumentException", 1, w, 0, _, ?_, ?_, by simp, b4, INV_le (by omega) b3⟩
    · unfold f_X7_pass
      rw [h7, zbs, if_pos rfl]
    · dsimp only
      unfold f_X8_pass
      rw [b1, zbs]
      dsimp only
      rw [e8_passes1 ha, zbs]
      dsimp only
      rw [b2, zbs]
end ZC2
