/-! retrieve, with its report. -/
section ZRT
variable {S : Zs} {w wd r : Zw} {B B' n k v : Nat}
theorem pFetch_m {s s' : Nat → Int32} {b c m : Nat} (h : pFetch s b c = some (s', m)) : m = 1 ∨ m = 2 := by
  unfold pFetch at h
  split at h
  · have := congrArg Prod.snd (Option.some.inj h)
    exact Or.inl this.symm
  · split at h
    · cases h
    · have := congrArg Prod.snd (Option.some.inj h)
      exact Or.inr this.symm
theorem pFetch_I {s s' : Nat → Int32} {b c m : Nat} (hI : zI9 s n k v) (hb : b < 60) (hc : c < n) (hbay : s (139 + 4 * c + 2) = ii b) (hv : v < 999990) (h : pFetch s b c = some (s', m)) : zI9 s' n (k + 1) (v + m - 1) ∧ n + (k + 1) + (v + m - 1) = n + k + v + m := by
  have hm := pFetch_m h
  refine ⟨?_, by omega⟩
  rcases pFetch_cases hI hb hc hbay hv with ⟨h1, h2, h3⟩ | ⟨x, hx, hxc, h1, h2, ⟨e1, e2⟩ | ⟨d, hd, e1, e2, e3, e4, e5, e6⟩⟩
  · have e := Option.some.inj (h2.symm.trans h)
    have q1 := congrArg Prod.fst e
    have q2 := congrArg Prod.snd e
    dsimp only at q1 q2
    subst q1
    subst q2
    exact h3
  · rw [e2] at h
    cases h
  · have e := Option.some.inj (e3.symm.trans h)
    have q1 := congrArg Prod.fst e
    have q2 := congrArg Prod.snd e
    dsimp only at q1 q2
    subst q1
    subst q2
    exact e6
/-- the class's report -/
def zRep (w : Zw) (x y z : Int32) : Zw := zput (zput (zput (zput w 254 0 x) 254 1 y) 254 2 z) 1 7 1
def zRe8 (r : Zw) (x y z : Int32) : Zw := zput (zput (zput r 255 10 x) 255 11 y) 255 12 z
theorem o_retrieve (hL : zLay S) (hI : zI9 (r 256) n k v) (hR : RG wd 2 (r 256) (n + k + v)) (hv : v < 999990) {b c : Nat} (hb : b < 60) (hc : c < n) (hbay : r 256 (139 + 4 * c + 2) = ii b) :
    (∃ m wo r2, (m = 1 ∨ m = 2) ∧ f_X7_fetchOrReport S wd 1 (ii c) = some (ii m, wo) ∧ f_X8_retrieves S r 255 (ii c) = some (ii m, r2) ∧ zI9 (r2 256) n (k + 1) (v + m - 1) ∧ RG wo 2 (r2 256) (n + (k + 1) + (v + m - 1)) ∧ (∀ j, j < 2 ∨ 18 ≤ j → wo j = wd j) ∧ zE8 r r2) ∨
    (pFetch (r 256) b c = none ∧ f_X7_fetchOrReport S wd 1 (ii c) = some (0, zRep wd (ii c) (pBl (r 256) b) (pOpen (r 256))) ∧ f_X8_retrieves S r 255 (ii c) = some (0, zput (zRe8 r (ii c) (pBl (r 256) b) (pOpen (r 256))) 255 0 2)) := by
  have hn := zI_n hI.1
  have hG := zG2 hL
  have hst : pStored (r 256) n (ii c) = true := (pStored_ii (by omega)).mpr ⟨hc, by rw [hbay]; exact ii_ne (by omega)⟩
  have h8 : f_X8_isCar S r 255 (ii c) = some 1 := by rw [c8_isCar hL hI.1, if_pos hst]
  rcases c7_fetch (S := S) hG hR hI hb hc hbay hv with ⟨e1, e2⟩ | ⟨s', m, wo, e1, e2, e3, e4⟩
  · rcases c8_takesOut (S := S) (w := r) hL hI hb hc hbay hv with ⟨f1, f2⟩ | ⟨s', m, r2, f1, f2, f3, f4⟩
    · refine Or.inr ⟨e1, ?_, ?_⟩
      · have z0 : zin (0 : Int32) 3 = true := by decide
        have z1 : zin (1 : Int32) 3 = true := by decide
        have z2 : zin (2 : Int32) 3 = true := by decide
        have z00 : zix (0 : Int32) = 0 := by decide
        have z11 : zix (1 : Int32) = 1 := by decide
        have z22 : zix (2 : Int32) = 2 := by decide
        have hR1 : RG (zput wd 254 0 (ii c)) 2 (r 256) (n + k + v) := RG_w (fun j a b => zput_ne (by omega)) hR
        have hR2 : RG (zput (zput wd 254 0 (ii c)) 254 1 (pBl (r 256) b)) 2 (r 256) (n + k + v) := RG_w (fun j a b => zput_ne (by omega)) hR1
        unfold f_X7_fetchOrReport
        rw [zt1_0 hL, e2, zbs, if_pos rfl, zt1_6 hL, ztl254 hL, if_pos z0, zlet_eq]
        dsimp only
        rw [z00, c7_blocker hG hR1 hI.1 hb hc hbay, zbs, if_pos z1, zlet_eq, z11, c7_open hG hR2, zbs, if_pos z2, zlet_eq, z22, zlet_eq]
        rfl
      · unfold f_X8_retrieves
        have hu : zput (zput r 255 10 (ii c)) 255 11 (pBl (r 256) b) 256 = r 256 := by rw [zput_ne (by omega), zput_ne (by omega)]
        have ho := c8_open (S := S) (w := zput (zput r 255 10 (ii c)) 255 11 (pBl (r 256) b)) hL (by rw [hu]; exact hI.1)
        rw [hu] at ho
        rw [h8, zbs, if_neg (by decide), c8_blocking hL hb (by omega) hbay, zbs, f2, zbs]
        dsimp only
        rw [if_pos (by decide), zlet_eq, zlet_eq, ho, zbs, zlet_eq, e8_fails, zbs]
        rfl
    · rw [e1] at f1
      cases f1
  · rcases c8_takesOut (S := S) (w := r) hL hI hb hc hbay hv with ⟨f1, f2⟩ | ⟨s'', m', r2, f1, f2, f3, f4⟩
    · rw [e1] at f1
      cases f1
    · have e := Option.some.inj (e1.symm.trans f1)
      have q1 := congrArg Prod.fst e
      have q2 := congrArg Prod.snd e
      dsimp only at q1 q2
      subst q1
      subst q2
      have hm := pFetch_m e1
      obtain ⟨hI2, hT2⟩ := pFetch_I hI hb hc hbay hv e1
      refine Or.inl ⟨m, wo, r2, hm, ?_, ?_, by rw [f3]; exact hI2, by rw [f3, hT2]; exact e3, e4, f4⟩
      · unfold f_X7_fetchOrReport
        have hne : ¬ ii m = 0 := by
          rw [show (0 : Int32) = ii 0 from rfl, ii_iff (by omega) (by omega)]
          omega
        rw [zt1_0 hL, e2, zbs, if_neg hne]
      · unfold f_X8_retrieves
        have hne : ¬ ii m ≤ 0 := by
          rw [show (0 : Int32) = ii 0 from rfl, ii_le (by omega) (by omega)]
          omega
        rw [h8, zbs, if_neg (by decide), c8_blocking hL hb (by omega) hbay, zbs, f2, zbs, if_neg hne]
theorem e8_retrieves1 (hL : zLay S) (hI : zI (r 256) n k v) {a : Int32} (ha : ¬ pStored (r 256) n a = true) : f_X8_retrieves S r 255 a = some (0, zput r 255 0 1) := by
  unfold f_X8_retrieves
  rw [c8_isCar hL hI, if_neg ha, zbs, if_pos rfl, e8_fails, zbs]
theorem zRep_o {x y z : Int32} {j : Nat} (h1 : j ≠ 1) (h2 : j ≠ 254) : zRep w x y z j = w j := by
  unfold zRep
  rw [zput_ne h1, zput_ne h2, zput_ne h2, zput_ne h2]
theorem zRe8_o {x y z : Int32} {j : Nat} (h : j ≠ 255) : zRe8 w x y z j = w j := by
  unfold zRe8
  rw [zput_ne h, zput_ne h, zput_ne h]
theorem zRe8_5 {x y z : Int32} {i : Nat} (h : i < 10 ∨ 13 ≤ i) : zRe8 w x y z 255 i = w 255 i := by
  unfold zRe8
  simp (disch := omega) only [zput_at, upd_ne]
/-- a refused retrieval leaves its report on both sides -/
theorem INV_rep {x y z : Int32} (h : INV B wd) {r1 : Zw} (hr1 : ∀ j, j ≠ 255 → j ≠ 257 → r1 j = zRep wd x y z j) (h5 : ∀ i, i ≠ 0 → r1 255 i = wd 255 i) {c : Nat} (hc : c < 40) (hx : x = ii c) (e : Int32) : INV B (zput (zRe8 r1 x y z) 255 0 e) := by
  have hne : ∀ j, j ≠ 1 → j ≠ 254 → j ≠ 255 → j ≠ 257 → zput (zRe8 r1 x y z) 255 0 e j = wd j := by
    intro j a1 a2 a3 a4
    rw [zput_ne a3, zRe8_o a3, hr1 j a3 a4, zRep_o a1 a2]
  have h55 : ∀ i, i = 6 ∨ i = 7 ∨ i = 24 → zput (zRe8 r1 x y z) 255 0 e 255 i = wd 255 i := by
    intro i hi
    rw [zput_at, upd_ne (by omega), zRe8_5 (by omega), h5 i (by omega)]
  have h1 : ∀ i, i ≠ 7 → zput (zRe8 r1 x y z) 255 0 e 1 i = wd 1 i := by
    intro i hi
    rw [zput_ne (by omega), zRe8_o (by omega), hr1 1 (by omega) (by omega)]
    unfold zRep
    rw [zput_at, upd_ne hi, zput_ne (by omega), zput_ne (by omega), zput_ne (by omega)]
  obtain ⟨g1, g2, g3, g4, g5, g6⟩ := h
  refine ⟨IG_w (Nat.le_refl B) g1 (fun j a b => hne j (by omega) (by omega) (by omega) (by omega)) (by rw [hne 256 (by omega) (by omega) (by omega) (by omega)]; exact pe.rfl), IH_w (Nat.le_refl B) g2 (fun j a => hne j (by omega) (by omega) (by omega) (by omega)) (h55 6 (by omega)) (fun i a => by rw [hne 260 (by omega) (by omega) (by omega) (by omega)]), zPa_o g3 (fun j hj => hne j (by omega) (by omega) (by omega) (by omega)), IS_w (Nat.le_refl B) g4 (fun j a b => hne j (by omega) (by omega) (by omega) (by omega)) (h1 2 (by omega)) (h55 7 (by omega)) (by rw [hne 259 (by omega) (by omega) (by omega) (by omega)]; exact pe.rfl), Or.inr ⟨?_, ?_, ?_, ?_, ?_⟩, IT_w g6 (by rw [hne 249 (by omega) (by omega) (by omega) (by omega)]) (h55 24 (by omega)) (fun i a => by rw [hne 250 (by omega) (by omega) (by omega) (by omega)]) (fun i a => by rw [hne 265 (by omega) (by omega) (by omega) (by omega)])⟩
  · rw [zput_ne (by omega), zRe8_o (by omega), hr1 1 (by omega) (by omega)]
    unfold zRep
    rw [zput_at, upd_at]
  · unfold zRe8
    simp (disch := omega) only [zput_at, upd_ne, upd_at]
    rw [hx]
    exact ii_nn (by omega)
  · rw [zput_ne (by omega), zRe8_o (by omega), hr1 254 (by omega) (by omega)]
    unfold zRe8 zRep
    simp (disch := omega) only [zput_at, zput_ne, upd_ne, upd_at]
  · rw [zput_ne (by omega), zRe8_o (by omega), hr1 254 (by omega) (by omega)]
    unfold zRe8 zRep
    simp (disch := omega) only [zput_at, zput_ne, upd_ne, upd_at]
  · rw [zput_ne (by omega), zRe8_o (by omega), hr1 254 (by omega) (by omega)]
    unfold zRe8 zRep
    simp (disch := omega) only [zput_at, zput_ne, upd_ne, upd_at]
theorem P_retrieve (hL : zLay S) (hB : B + 2 ≤ B') (hB9 : B < 999980) (h : INV B w) (a : Int32) : Pair B' (f_X7_retrieve S w 1 a) (fun w1 => f_X8_retrieve S w1 255 a) [("java/lang/IndexOutOfBoundsException", 1), ("java/lang/UnsupportedOperationException", 2)] := by
  obtain ⟨n, k, v, hI, hv, hS⟩ := IG_get h
  have hn := zI_n hI.1
  by_cases hst : pStored (w 256) n a = true
  · obtain ⟨c, bb, hc, rfl, hbb, hbay, hin⟩ := pStored_of hI.1 hst
    have h7 : f_X7_checkStored S w 1 (ii c) = some (.inl (), w) := by rw [c7_checkStored hL hS hI.1, if_pos hst]
    by_cases hf : pFetch (w 256) bb c = none
    · obtain ⟨wd, cnt, hcn, hc6, d1, d2, d3, d4, d5, d6⟩ := c7_pre (S := S) hL h
      have d56 : wd 256 = w 256 := d4 256 (by omega)
      rcases o_retrieve (S := S) (wd := wd) (r := wd) (n := n) (k := k) (v := v) hL (by rw [d56]; exact hI) (by rw [d56]; exact R_Sh hI.1 d5) (by omega) hbb hc (by rw [d56]; exact hbay) with ⟨m, wo, r2, hm, q1, q2, q3, q4, q5, q6⟩ | ⟨q0, q1, q2⟩
      · exfalso
        rcases c7_fetch (S := S) (zG2 hL) (R_Sh hI.1 d5) hI hbb hc hbay (by omega) with ⟨e1, e2⟩ | ⟨s', m', wo', e1, -⟩
        · rcases c8_takesOut (S := S) (w := wd) hL (by rw [d56]; exact hI) hbb hc (by rw [d56]; exact hbay) (show v < 999990 by omega) with ⟨f1, f2⟩ | ⟨s', m', r2', f1, -⟩
          · unfold f_X8_retrieves at q2
            have h8 : f_X8_isCar S wd 255 (ii c) = some 1 := by rw [c8_isCar hL (by rw [d56]; exact hI.1), d56, if_pos hst]
            rw [h8, zbs, if_neg (by decide), c8_blocking hL hbb (by omega) (by rw [d56]; exact hbay), zbs, f2, zbs] at q2
            dsimp only at q2
            have ho := c8_open (S := S) (w := zput (zput wd 255 10 (ii c)) 255 11 (pBl (wd 256) bb)) (n := n) (k := k) (v := v) hL (by rw [zput_ne (by omega), zput_ne (by omega), d56]; exact hI.1)
            rw [if_pos (by decide), zlet_eq, zlet_eq, ho, zbs, zlet_eq, e8_fails, zbs] at q2
            have : (0 : Int32) = ii m := congrArg Prod.fst (Option.some.inj q2)
            rcases hm with rfl | rfl
            · exact absurd this (by decide)
            · exact absurd this (by decide)
          · rw [d56, hf] at f1
            cases f1
        · rw [hf] at e1
          cases e1
      · obtain ⟨r1, b1, b2, b3, b4, b5⟩ := e8_begins (S := S) (w := zRep wd (ii c) (pBl (wd 256) bb) (pOpen (wd 256))) hL
        have hr1 : r1 256 = w 256 := by rw [b5 256 (by omega) (by omega), zRep_o (by omega) (by omega), d56]
        have q2' : f_X8_retrieves S r1 255 (ii c) = some (0, zput (zRe8 r1 (ii c) (pBl (w 256) bb) (pOpen (w 256))) 255 0 2) := by
          rcases o_retrieve (S := S) (wd := wd) (r := r1) (n := n) (k := k) (v := v) hL (by rw [hr1]; exact hI) (by rw [hr1]; exact R_Sh hI.1 d5) (by omega) hbb hc (by rw [hr1]; exact hbay) with ⟨m, wo, r2, hm, p1, -⟩ | ⟨p0, p1, p2⟩
          · have : (0 : Int32) = ii m := congrArg Prod.fst (Option.some.inj (q1.symm.trans p1))
            rcases hm with rfl | rfl
            · exact absurd this (by decide)
            · exact absurd this (by decide)
          · rw [hr1] at p2
            exact p2
        have e0 : zput (zRe8 r1 (ii c) (pBl (w 256) bb) (pOpen (w 256))) 255 0 2 255 0 = 2 := by rw [zput_at, upd_at]
        refine Or.inr ⟨"java/lang/UnsupportedOperationException", 2, zRep wd (ii c) (pBl (wd 256) bb) (pOpen (wd 256)), 0, _, ?_, ?_, by simp, e0, INV_le (show B ≤ B' by omega) (INV_rep d6 (x := ii c) (y := pBl (w 256) bb) (z := pOpen (w 256)) (fun j g1 g2 => by rw [b5 j g1 g2, d56]) (fun i hi => by rw [b3 i hi, zRep_o (by omega) (by omega)]) (show c < 40 by omega) rfl 2)⟩
        · unfold f_X7_retrieve
          rw [h7, zbx_inl, zt1_0 hL, zt1_3 hL, d1, zbs, q1, zbs, if_pos rfl]
        · dsimp only
          unfold f_X8_retrieve
          rw [b1, zbs]
          dsimp only
          rw [q2', zbs]
          dsimp only
          rw [e8_ends1 (by rw [e0]; decide), zbs]
    · have hop : ∀ wd r, Sh wd 2 (w 256) → r 256 = w 256 → zPa wd → ∃ y x wo r2, f_X7_fetchOrReport S wd 1 (ii c) = some (y, wo) ∧ f_X8_retrieves S r 255 (ii c) = some (x, r2) ∧ (y = x ∧ y ≠ 0) ∧ pOK B' (r2 256) ∧ Sh wo 2 (r2 256) ∧ (∀ j, j < 2 ∨ 18 ≤ j → wo j = wd j) ∧ zE8 r r2 := by
        intro wd r hwd hr _
        rcases o_retrieve (S := S) (wd := wd) (r := r) (n := n) (k := k) (v := v) hL (by rw [hr]; exact hI) (by rw [hr]; exact R_Sh hI.1 hwd) (by omega) hbb hc (by rw [hr]; exact hbay) with ⟨m, wo, r2, hm, q1, q2, q3, q4, q5, q6⟩ | ⟨q0, -⟩
        · refine ⟨ii m, ii m, wo, r2, q1, q2, ⟨rfl, ?_⟩, ⟨_, _, _, q3, by omega⟩, Sh_R q3.1 q4, q5, q6⟩
          rcases hm with rfl | rfl <;> decide
        · rw [hr] at q0
          exact absurd q0 hf
      obtain ⟨wd, wo, wk, r1, r2, r3, y, x, d1, d2, d3, d4, d5, d6, ⟨rfl, d7⟩, d8, d9, -⟩ := chg_run hL (by omega) h (fun wd => f_X7_fetchOrReport S wd 1 (ii c)) (fun r x r2 => f_X8_retrieves S r 255 (ii c) = some (x, r2)) (fun y x => y = x ∧ y ≠ 0) hop
      refine Or.inl ⟨y, wk, r3, ?_, ?_, d8, d9⟩
      · unfold f_X7_retrieve
        have d2 : f_X7_fetchOrReport S wd 1 (ii c) = some (y, wo) := d2
        rw [h7, zbx_inl, zt1_0 hL, zt1_3 hL, d1, zbs, d2, zbs, if_neg d7]
        dsimp only
        rw [d3, zbs]
      · dsimp only
        unfold f_X8_retrieve
        rw [d4, zbs]
        dsimp only
        rw [d5, zbs]
        dsimp only
        rw [d6, zbs]
  · have h7 : f_X7_checkStored S w 1 a = some (.inr "java/lang/IndexOutOfBoundsException", w) := by rw [c7_checkStored hL hS hI.1, if_neg hst]
    obtain ⟨r1, b1, hr1, b2, b3, b4⟩ := chg_ref (S := S) hL h 1 (by decide)
    refine Or.inr ⟨"java/lang/IndexOutOfBoundsException", 1, w, 0, _, ?_, ?_, by simp, b4, INV_le (by omega) b3⟩
    · unfold f_X7_retrieve
      rw [h7, zbx_inr]
    · dsimp only
      unfold f_X8_retrieve
      rw [b1, zbs]
      dsimp only
      rw [e8_retrieves1 hL (by rw [hr1]; exact hI.1) (by rw [hr1]; exact hst), zbs]
      dsimp only
      rw [b2, zbs]
end ZRT
