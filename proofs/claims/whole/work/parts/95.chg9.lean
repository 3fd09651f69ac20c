/-! CHANGES whose reference's side touches more of its own rows. -/
section ZC9
variable {S : Zs} {w : Zw} {B B' : Nat}
def zE9 (r r2 : Zw) : Prop := (∀ j, j < 255 ∨ j = 257 ∨ j = 259 ∨ j = 260 ∨ j = 265 → r2 j = r j) ∧ ∀ i, i = 0 ∨ i = 6 ∨ i = 7 ∨ (10 ≤ i ∧ i < 13) ∨ i = 24 → r2 255 i = r 255 i
theorem zE9.trans {a b c : Zw} (h : zE9 a b) (h' : zE9 b c) : zE9 a c := ⟨fun j p => (h'.1 j p).trans (h.1 j p), fun i p => (h'.2 i p).trans (h.2 i p)⟩
theorem zE8_9 {a b : Zw} (h : zE8 a b) : zE9 a b := ⟨fun j p => h.1 j (by omega) (by omega), fun i p => h.2 i (by omega) (by omega)⟩
/-- the reference at the end of a change -/
theorem e8_fin9 (hL : zLay S) (hB : B ≤ B') (h : INV B w) {wk r1 r2 : Zw} {s' : Nat → Int32} {cnt : Nat} (hc : w 255 6 = ii cnt) (hc6 : cnt ≤ 6)
    (hC : CH wk (min (cnt + 1) 6) (fun q => if q = min cnt 5 then w 256 else if cnt = 6 then hst w (q + 1) else hst w q)) (hP : zPa wk) (hS : Sh wk 2 s') (hO : pOK B' s') (hkw : ∀ j, (18 ≤ j ∧ j < 34) ∨ j = 1 ∨ j = 249 ∨ j = 250 ∨ j = 254 ∨ 255 ≤ j → wk j = w j)
    (hr1 : r1 255 0 = 0 ∧ (∀ i, i ≠ 0 → r1 255 i = wk 255 i) ∧ pe (r1 257) (wk 256) ∧ ∀ j, j ≠ 255 → j ≠ 257 → r1 j = wk j) (hE : zE9 r1 r2) (hs : pe (r2 256) s') (x : Int32) :
    ∃ r3, f_X8_ends S r2 255 x = some (x, r3) ∧ r3 255 0 = 0 ∧ INV B' r3 ∧ (∀ j, j < 255 → r3 j = wk j) := by
  obtain ⟨b1, b2, b3, b4⟩ := hr1
  obtain ⟨c1, c2⟩ := hE
  have d0 : r2 255 0 = 0 := by rw [c2 0 (by omega), b1]
  have d6 : r2 255 6 = ii cnt := by rw [c2 6 (by omega), b2 6 (by omega), hkw 255 (by omega), hc]
  obtain ⟨r3, e1, e2, e3, e4, e5⟩ := e8_ends (S := S) hL d0 d6 hc6 x
  have k5 : ∀ i, i = 7 ∨ (10 ≤ i ∧ i < 13) ∨ i = 24 → r3 255 i = w 255 i := by
    intro i hi
    rw [e3 i (by omega), c2 i (by omega), b2 i (by omega), hkw 255 (by omega)]
  have kc : ∀ j, j < 255 → r3 j = wk j := by
    intro j hj
    rw [e5 j (by omega) (by omega), c1 j (by omega), b4 j (by omega) (by omega)]
  have kr : ∀ j, j = 259 ∨ j = 265 → r3 j = w j := by
    intro j hj
    rw [e5 j (by omega) (by omega), c1 j (by omega), b4 j (by omega) (by omega), hkw j (by omega)]
  have p6 : pe (r3 256) s' := by
    rw [e5 256 (by omega) (by omega)]
    exact hs
  have q7 : pe (r2 257) (w 256) := by
    rw [c1 257 (by omega), ← hkw 256 (by omega)]
    exact b3
  have q60 : r2 260 = w 260 := by rw [c1 260 (by omega), b4 260 (by omega) (by omega), hkw 260 (by omega)]
  have hh : ∀ q, q < min (cnt + 1) 6 → pe (hst r3 q) (if q = min cnt 5 then w 256 else if cnt = 6 then hst w (q + 1) else hst w q) := by
    intro q hq i hi
    show r3 260 (399 * q + i) = _
    rw [e4 q i hq hi]
    by_cases e : q = min cnt 5
    · rw [if_pos e, if_pos e, q7 i hi]
    · rw [if_neg e, if_neg e, q60]
      by_cases e6 : cnt = 6
      · rw [if_pos e6, if_pos e6]
      · rw [if_neg e6, if_neg e6]
  obtain ⟨h1, ⟨cnt', a1, a2, a3⟩, h3, h4, h5, h6⟩ := h
  have hcc : cnt' = cnt := by
    have := CH_le a2
    exact (ii_iff (by omega) (by omega)).mp (a1.symm.trans hc)
  subst hcc
  refine ⟨r3, e1, by rw [e3 0 (by omega), d0], ⟨⟨pOK_pe p6 hO, Sh_pe p6 (Sh_w (fun j a b => kc j (by omega)) hS)⟩, ⟨min (cnt' + 1) 6, e2, CH_pe hh (CH_w (fun j hj => kc j (by omega)) hC), fun q hq => ?_⟩, zPa_o hP (fun j hj => kc j (by omega)), IS_w hB h4 (fun j a b => by rw [kc j (by omega), hkw j (by omega)]) (by rw [kc 1 (by omega), hkw 1 (by omega)]) (k5 7 (by omega)) (by rw [kr 259 (by omega)]; exact pe.rfl), IR_w h5 (by rw [kc 1 (by omega), hkw 1 (by omega)]) (fun i a b => k5 i (by omega)) (fun i a => by rw [kc 254 (by omega), hkw 254 (by omega)]), IT_w h6 (by rw [kc 249 (by omega), hkw 249 (by omega)]) (k5 24 (by omega)) (fun i a => by rw [kc 250 (by omega), hkw 250 (by omega)]) (fun i a => by rw [kr 265 (by omega)])⟩, kc⟩
  have := hh q hq
  by_cases e : q = min cnt' 5
  · rw [if_pos e] at this
    exact pOK_pe this (pOK_le hB h1.1)
  · rw [if_neg e] at this
    by_cases e6 : cnt' = 6
    · rw [if_pos e6] at this
      exact pOK_pe this (pOK_le hB (a3 (q + 1) (by omega)))
    · rw [if_neg e6] at this
      exact pOK_pe this (pOK_le hB (a3 q (by omega)))
theorem chg_run9 (hL : zLay S) (hB : B ≤ B') (h : INV B w) {A : Type} (f7 : Zw → Option (A × Zw)) (P8 : Zw → Int32 → Zw → Prop) (G : A → Int32 → Prop)
    (hop : ∀ wd r, Sh wd 2 (w 256) → r 256 = w 256 → zPa wd → (∀ j, j < 36 ∨ 148 ≤ j → wd j = w j) → (∀ i, i ≠ 0 → r 255 i = w 255 i) → (∀ j, 258 ≤ j → r j = w j) → (r 255 0 = 0) → ∃ a x wo r2, f7 wd = some (a, wo) ∧ P8 r x r2 ∧ G a x ∧ pOK B' (r2 256) ∧ Sh wo 2 (r2 256) ∧ (∀ j, j < 2 ∨ 18 ≤ j → wo j = wd j) ∧ zE9 r r2) :
    ∃ wd wo wk r1 r2 r3 a x, f_X2_draft S w 34 2 = some ((), wd) ∧ f7 wd = some (a, wo) ∧ f_X2_keepDraft S wo 34 = some ((), wk) ∧ f_X8_begins S wk 255 = some ((), r1) ∧ P8 r1 x r2 ∧ f_X8_ends S r2 255 x = some (x, r3) ∧ G a x ∧ r3 255 0 = 0 ∧ INV B' r3 ∧ r1 256 = w 256 ∧ r1 255 0 = 0 ∧ zE9 r1 r2 ∧ Sh wk 2 (r2 256) := by
  obtain ⟨wd, cnt, hcn, hc6, d1, d2, d3, d4, d5, -⟩ := c7_pre (S := S) hL h
  obtain ⟨a0, x0, wo0, r20, p1, p2, p3, p4, p5, p6, p7⟩ := hop wd (zput w 255 0 0) d5 (zput_ne (by omega)) d3 d4 (fun i hi => by rw [zput_at, upd_ne hi]) (fun j hj => zput_ne (by omega)) (by rw [zput_at, upd_at])
  obtain ⟨wk, k1, k2, k3, k4, k5⟩ := c7_post (S := S) d2 d3 p6 p5
  have hkw : ∀ j, (18 ≤ j ∧ j < 34) ∨ j = 1 ∨ j = 249 ∨ j = 250 ∨ j = 254 ∨ 255 ≤ j → wk j = w j := by
    intro j hj
    rw [k5 j (by omega), p6 j (by omega), d4 j (by omega)]
  obtain ⟨r1, b1, b2, b3, b4, b5⟩ := e8_begins (S := S) (w := wk) hL
  have hr1 : r1 256 = w 256 := by rw [b5 256 (by omega) (by omega), hkw 256 (by omega)]
  obtain ⟨a1, x1, wo1, r2, q1, q2, q3, q4, q5, q6, q7⟩ := hop wd r1 d5 hr1 d3 d4 (fun i hi => by rw [b3 i hi, hkw 255 (by omega)]) (fun j hj => by rw [b5 j (by omega) (by omega), hkw j (by omega)]) b2
  have e := q1.symm.trans p1
  have e1 : a1 = a0 := congrArg Prod.fst (Option.some.inj e)
  have e2 : wo1 = wo0 := congrArg Prod.snd (Option.some.inj e)
  subst e1
  subst e2
  have hSk : Sh wk 2 (r2 256) := Sh_w (fun j a b => k5 j (by omega)) q5
  obtain ⟨r3, f1, f2, f3, -⟩ := e8_fin9 hL hB h hcn hc6 k2 k3 hSk q4 hkw ⟨b2, b3, b4, b5⟩ q7 pe.rfl x1
  exact ⟨wd, wo1, wk, r1, r2, r3, a1, x1, d1, q1, k1, b1, q2, f1, q3, f2, f3, hr1, b2, q7, hSk⟩
end ZC9
