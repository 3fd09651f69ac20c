/-! THE LAYOUT, one name a fact: of a garage at g (zGar), of the single cells (zLay). -/
section ZLY
def zLay (S : Zs) : Prop := ∀ r ∈ zTab, S.sh r.1 = r.2.1 ∧ ∀ q ∈ r.2.2, S.cr r.1 q.1 = some q.2
theorem zLay_of {S : Zs} (h : zLayB S = true) (cl : Nat → Nat → Int64) (cd : Nat → Nat → UInt64) : zLay (zSc (zsF S) cl cd) := by
  simp only [zLayB, Bool.and_eq_true, decide_eq_true_eq, List.all_eq_true] at h
  exact fun r hr => h.2 r hr
def zGar (S : Zs) (g : Nat) : Prop := ∀ r ∈ zGt g, S.sh r.1 = r.2.1 ∧ ∀ q ∈ r.2.2, S.cr r.1 q.1 = some q.2
theorem zGar_of {S : Zs} (h : zLay S) {g : Nat} (hg : g ∈ zGb) : zGar S g := fun r hr => h r (List.mem_append_right _ (List.mem_flatMap.mpr ⟨g, hg, hr⟩))
theorem zr_of {S : Zs} {j k a : Nat} (h : S.cr j k = some a) : zr S j k = a := by simp [zr, h]
theorem zl_of {S : Zs} {j t n : Nat} (h : S.sh j = .inr (t, n)) : zlen S j = n := by simp [zlen, h]
theorem zg0_0 {S : Zs} {g : Nat} (h : zGar S g) : zr S g 0 = g + 1 := zr_of ((h _ (List.mem_of_getElem? (i := 0) rfl)).2 _ (List.mem_of_getElem? (i := 0) rfl))
theorem zg0_1 {S : Zs} {g : Nat} (h : zGar S g) : zr S g 1 = g + 2 := zr_of ((h _ (List.mem_of_getElem? (i := 0) rfl)).2 _ (List.mem_of_getElem? (i := 1) rfl))
theorem zg0_2 {S : Zs} {g : Nat} (h : zGar S g) : zr S g 2 = g + 3 := zr_of ((h _ (List.mem_of_getElem? (i := 0) rfl)).2 _ (List.mem_of_getElem? (i := 2) rfl))
theorem zg0_3 {S : Zs} {g : Nat} (h : zGar S g) : zr S g 3 = g + 4 := zr_of ((h _ (List.mem_of_getElem? (i := 0) rfl)).2 _ (List.mem_of_getElem? (i := 3) rfl))
theorem zg0_4 {S : Zs} {g : Nat} (h : zGar S g) : zr S g 4 = g + 5 := zr_of ((h _ (List.mem_of_getElem? (i := 0) rfl)).2 _ (List.mem_of_getElem? (i := 4) rfl))
theorem zg0_5 {S : Zs} {g : Nat} (h : zGar S g) : zr S g 5 = g + 6 := zr_of ((h _ (List.mem_of_getElem? (i := 0) rfl)).2 _ (List.mem_of_getElem? (i := 5) rfl))
theorem zg0_6 {S : Zs} {g : Nat} (h : zGar S g) : zr S g 6 = g + 7 := zr_of ((h _ (List.mem_of_getElem? (i := 0) rfl)).2 _ (List.mem_of_getElem? (i := 6) rfl))
theorem zg0_7 {S : Zs} {g : Nat} (h : zGar S g) : zr S g 7 = g + 8 := zr_of ((h _ (List.mem_of_getElem? (i := 0) rfl)).2 _ (List.mem_of_getElem? (i := 7) rfl))
theorem zgl1 {S : Zs} {g : Nat} (h : zGar S g) : zlen S (g + 1) = 60 := zl_of (h _ (List.mem_of_getElem? (i := 1) rfl)).1
theorem zgl2 {S : Zs} {g : Nat} (h : zGar S g) : zlen S (g + 2) = 60 := zl_of (h _ (List.mem_of_getElem? (i := 2) rfl)).1
theorem zgl3 {S : Zs} {g : Nat} (h : zGar S g) : zlen S (g + 3) = 40 := zl_of (h _ (List.mem_of_getElem? (i := 3) rfl)).1
theorem zgl4 {S : Zs} {g : Nat} (h : zGar S g) : zlen S (g + 4) = 40 := zl_of (h _ (List.mem_of_getElem? (i := 4) rfl)).1
theorem zgl5 {S : Zs} {g : Nat} (h : zGar S g) : zlen S (g + 5) = 40 := zl_of (h _ (List.mem_of_getElem? (i := 5) rfl)).1
theorem zgl6 {S : Zs} {g : Nat} (h : zGar S g) : zlen S (g + 6) = 40 := zl_of (h _ (List.mem_of_getElem? (i := 6) rfl)).1
theorem zgl7 {S : Zs} {g : Nat} (h : zGar S g) : zlen S (g + 7) = 40 := zl_of (h _ (List.mem_of_getElem? (i := 7) rfl)).1
theorem zg8_0 {S : Zs} {g : Nat} (h : zGar S g) : zr S (g + 8) 0 = g + 9 := zr_of ((h _ (List.mem_of_getElem? (i := 8) rfl)).2 _ (List.mem_of_getElem? (i := 0) rfl))
theorem zg8_1 {S : Zs} {g : Nat} (h : zGar S g) : zr S (g + 8) 1 = g + 10 := zr_of ((h _ (List.mem_of_getElem? (i := 8) rfl)).2 _ (List.mem_of_getElem? (i := 1) rfl))
theorem zg8_2 {S : Zs} {g : Nat} (h : zGar S g) : zr S (g + 8) 2 = g + 11 := zr_of ((h _ (List.mem_of_getElem? (i := 8) rfl)).2 _ (List.mem_of_getElem? (i := 2) rfl))
theorem zg9_0 {S : Zs} {g : Nat} (h : zGar S g) : zr S (g + 9) 0 = g + 13 := zr_of ((h _ (List.mem_of_getElem? (i := 9) rfl)).2 _ (List.mem_of_getElem? (i := 0) rfl))
theorem zg9_1 {S : Zs} {g : Nat} (h : zGar S g) : zr S (g + 9) 1 = g + 14 := zr_of ((h _ (List.mem_of_getElem? (i := 9) rfl)).2 _ (List.mem_of_getElem? (i := 1) rfl))
theorem zg9_2 {S : Zs} {g : Nat} (h : zGar S g) : zr S (g + 9) 2 = g + 15 := zr_of ((h _ (List.mem_of_getElem? (i := 9) rfl)).2 _ (List.mem_of_getElem? (i := 2) rfl))
theorem zg9_3 {S : Zs} {g : Nat} (h : zGar S g) : zr S (g + 9) 3 = g + 10 := zr_of ((h _ (List.mem_of_getElem? (i := 9) rfl)).2 _ (List.mem_of_getElem? (i := 3) rfl))
theorem zgl9 {S : Zs} {g : Nat} (h : zGar S g) : zlen S (g + 9) = 4 := zl_of (h _ (List.mem_of_getElem? (i := 9) rfl)).1
theorem zg11_0 {S : Zs} {g : Nat} (h : zGar S g) : zr S (g + 11) 0 = g + 12 := zr_of ((h _ (List.mem_of_getElem? (i := 11) rfl)).2 _ (List.mem_of_getElem? (i := 0) rfl))
theorem zgl12 {S : Zs} {g : Nat} (h : zGar S g) : zlen S (g + 12) = 100 := zl_of (h _ (List.mem_of_getElem? (i := 12) rfl)).1
theorem zt1_0 {S : Zs} (h : zLay S) : zr S 1 0 = 2 := zr_of ((h _ (List.mem_append_left _ (List.mem_of_getElem? (i := 0) rfl))).2 _ (List.mem_of_getElem? (i := 0) rfl))
theorem zt1_1 {S : Zs} (h : zLay S) : zr S 1 1 = 18 := zr_of ((h _ (List.mem_append_left _ (List.mem_of_getElem? (i := 0) rfl))).2 _ (List.mem_of_getElem? (i := 1) rfl))
theorem zt1_3 {S : Zs} (h : zLay S) : zr S 1 3 = 34 := zr_of ((h _ (List.mem_append_left _ (List.mem_of_getElem? (i := 0) rfl))).2 _ (List.mem_of_getElem? (i := 2) rfl))
theorem zt1_4 {S : Zs} (h : zLay S) : zr S 1 4 = 148 := zr_of ((h _ (List.mem_append_left _ (List.mem_of_getElem? (i := 0) rfl))).2 _ (List.mem_of_getElem? (i := 3) rfl))
theorem zt1_5 {S : Zs} (h : zLay S) : zr S 1 5 = 249 := zr_of ((h _ (List.mem_append_left _ (List.mem_of_getElem? (i := 0) rfl))).2 _ (List.mem_of_getElem? (i := 4) rfl))
theorem zt1_6 {S : Zs} (h : zLay S) : zr S 1 6 = 254 := zr_of ((h _ (List.mem_append_left _ (List.mem_of_getElem? (i := 0) rfl))).2 _ (List.mem_of_getElem? (i := 5) rfl))
theorem zt34_0 {S : Zs} (h : zLay S) : zr S 34 0 = 35 := zr_of ((h _ (List.mem_append_left _ (List.mem_of_getElem? (i := 1) rfl))).2 _ (List.mem_of_getElem? (i := 0) rfl))
theorem zt35_0 {S : Zs} (h : zLay S) : zr S 35 0 = 36 := zr_of ((h _ (List.mem_append_left _ (List.mem_of_getElem? (i := 2) rfl))).2 _ (List.mem_of_getElem? (i := 0) rfl))
theorem zt35_1 {S : Zs} (h : zLay S) : zr S 35 1 = 52 := zr_of ((h _ (List.mem_append_left _ (List.mem_of_getElem? (i := 2) rfl))).2 _ (List.mem_of_getElem? (i := 1) rfl))
theorem zt35_2 {S : Zs} (h : zLay S) : zr S 35 2 = 68 := zr_of ((h _ (List.mem_append_left _ (List.mem_of_getElem? (i := 2) rfl))).2 _ (List.mem_of_getElem? (i := 2) rfl))
theorem zt35_3 {S : Zs} (h : zLay S) : zr S 35 3 = 84 := zr_of ((h _ (List.mem_append_left _ (List.mem_of_getElem? (i := 2) rfl))).2 _ (List.mem_of_getElem? (i := 3) rfl))
theorem zt35_4 {S : Zs} (h : zLay S) : zr S 35 4 = 100 := zr_of ((h _ (List.mem_append_left _ (List.mem_of_getElem? (i := 2) rfl))).2 _ (List.mem_of_getElem? (i := 4) rfl))
theorem zt35_5 {S : Zs} (h : zLay S) : zr S 35 5 = 116 := zr_of ((h _ (List.mem_append_left _ (List.mem_of_getElem? (i := 2) rfl))).2 _ (List.mem_of_getElem? (i := 5) rfl))
theorem zt35_6 {S : Zs} (h : zLay S) : zr S 35 6 = 132 := zr_of ((h _ (List.mem_append_left _ (List.mem_of_getElem? (i := 2) rfl))).2 _ (List.mem_of_getElem? (i := 6) rfl))
theorem ztl35 {S : Zs} (h : zLay S) : zlen S 35 = 7 := zl_of (h _ (List.mem_append_left _ (List.mem_of_getElem? (i := 2) rfl))).1
theorem zt148_0 {S : Zs} (h : zLay S) : zr S 148 0 = 149 := zr_of ((h _ (List.mem_append_left _ (List.mem_of_getElem? (i := 3) rfl))).2 _ (List.mem_of_getElem? (i := 0) rfl))
theorem zt148_1 {S : Zs} (h : zLay S) : zr S 148 1 = 150 := zr_of ((h _ (List.mem_append_left _ (List.mem_of_getElem? (i := 3) rfl))).2 _ (List.mem_of_getElem? (i := 1) rfl))
theorem zt148_2 {S : Zs} (h : zLay S) : zr S 148 2 = 151 := zr_of ((h _ (List.mem_append_left _ (List.mem_of_getElem? (i := 3) rfl))).2 _ (List.mem_of_getElem? (i := 2) rfl))
theorem zt148_3 {S : Zs} (h : zLay S) : zr S 148 3 = 152 := zr_of ((h _ (List.mem_append_left _ (List.mem_of_getElem? (i := 3) rfl))).2 _ (List.mem_of_getElem? (i := 3) rfl))
theorem zt149_0 {S : Zs} (h : zLay S) : zr S 149 0 = 153 := zr_of ((h _ (List.mem_append_left _ (List.mem_of_getElem? (i := 4) rfl))).2 _ (List.mem_of_getElem? (i := 0) rfl))
theorem zt149_1 {S : Zs} (h : zLay S) : zr S 149 1 = 169 := zr_of ((h _ (List.mem_append_left _ (List.mem_of_getElem? (i := 4) rfl))).2 _ (List.mem_of_getElem? (i := 1) rfl))
theorem zt149_2 {S : Zs} (h : zLay S) : zr S 149 2 = 185 := zr_of ((h _ (List.mem_append_left _ (List.mem_of_getElem? (i := 4) rfl))).2 _ (List.mem_of_getElem? (i := 2) rfl))
theorem zt149_3 {S : Zs} (h : zLay S) : zr S 149 3 = 201 := zr_of ((h _ (List.mem_append_left _ (List.mem_of_getElem? (i := 4) rfl))).2 _ (List.mem_of_getElem? (i := 3) rfl))
theorem zt149_4 {S : Zs} (h : zLay S) : zr S 149 4 = 217 := zr_of ((h _ (List.mem_append_left _ (List.mem_of_getElem? (i := 4) rfl))).2 _ (List.mem_of_getElem? (i := 4) rfl))
theorem zt149_5 {S : Zs} (h : zLay S) : zr S 149 5 = 233 := zr_of ((h _ (List.mem_append_left _ (List.mem_of_getElem? (i := 4) rfl))).2 _ (List.mem_of_getElem? (i := 5) rfl))
theorem ztl149 {S : Zs} (h : zLay S) : zlen S 149 = 6 := zl_of (h _ (List.mem_append_left _ (List.mem_of_getElem? (i := 4) rfl))).1
theorem ztl150 {S : Zs} (h : zLay S) : zlen S 150 = 5 := zl_of (h _ (List.mem_append_left _ (List.mem_of_getElem? (i := 5) rfl))).1
theorem ztl151 {S : Zs} (h : zLay S) : zlen S 151 = 5 := zl_of (h _ (List.mem_append_left _ (List.mem_of_getElem? (i := 6) rfl))).1
theorem ztl152 {S : Zs} (h : zLay S) : zlen S 152 = 5 := zl_of (h _ (List.mem_append_left _ (List.mem_of_getElem? (i := 7) rfl))).1
theorem zt249_0 {S : Zs} (h : zLay S) : zr S 249 0 = 250 := zr_of ((h _ (List.mem_append_left _ (List.mem_of_getElem? (i := 8) rfl))).2 _ (List.mem_of_getElem? (i := 0) rfl))
theorem zt249_1 {S : Zs} (h : zLay S) : zr S 249 1 = 251 := zr_of ((h _ (List.mem_append_left _ (List.mem_of_getElem? (i := 8) rfl))).2 _ (List.mem_of_getElem? (i := 1) rfl))
theorem zt249_2 {S : Zs} (h : zLay S) : zr S 249 2 = 252 := zr_of ((h _ (List.mem_append_left _ (List.mem_of_getElem? (i := 8) rfl))).2 _ (List.mem_of_getElem? (i := 2) rfl))
theorem zt249_3 {S : Zs} (h : zLay S) : zr S 249 3 = 253 := zr_of ((h _ (List.mem_append_left _ (List.mem_of_getElem? (i := 8) rfl))).2 _ (List.mem_of_getElem? (i := 3) rfl))
theorem ztl250 {S : Zs} (h : zLay S) : zlen S 250 = 60 := zl_of (h _ (List.mem_append_left _ (List.mem_of_getElem? (i := 9) rfl))).1
theorem ztl251 {S : Zs} (h : zLay S) : zlen S 251 = 20 := zl_of (h _ (List.mem_append_left _ (List.mem_of_getElem? (i := 10) rfl))).1
theorem ztl252 {S : Zs} (h : zLay S) : zlen S 252 = 20 := zl_of (h _ (List.mem_append_left _ (List.mem_of_getElem? (i := 11) rfl))).1
theorem ztl253 {S : Zs} (h : zLay S) : zlen S 253 = 20 := zl_of (h _ (List.mem_append_left _ (List.mem_of_getElem? (i := 12) rfl))).1
theorem ztl254 {S : Zs} (h : zLay S) : zlen S 254 = 3 := zl_of (h _ (List.mem_append_left _ (List.mem_of_getElem? (i := 13) rfl))).1
theorem zt255_1 {S : Zs} (h : zLay S) : zr S 255 1 = 256 := zr_of ((h _ (List.mem_append_left _ (List.mem_of_getElem? (i := 14) rfl))).2 _ (List.mem_of_getElem? (i := 0) rfl))
theorem zt255_2 {S : Zs} (h : zLay S) : zr S 255 2 = 257 := zr_of ((h _ (List.mem_append_left _ (List.mem_of_getElem? (i := 14) rfl))).2 _ (List.mem_of_getElem? (i := 1) rfl))
theorem zt255_3 {S : Zs} (h : zLay S) : zr S 255 3 = 258 := zr_of ((h _ (List.mem_append_left _ (List.mem_of_getElem? (i := 14) rfl))).2 _ (List.mem_of_getElem? (i := 2) rfl))
theorem zt255_4 {S : Zs} (h : zLay S) : zr S 255 4 = 259 := zr_of ((h _ (List.mem_append_left _ (List.mem_of_getElem? (i := 14) rfl))).2 _ (List.mem_of_getElem? (i := 3) rfl))
theorem zt255_5 {S : Zs} (h : zLay S) : zr S 255 5 = 260 := zr_of ((h _ (List.mem_append_left _ (List.mem_of_getElem? (i := 14) rfl))).2 _ (List.mem_of_getElem? (i := 4) rfl))
theorem zt255_13 {S : Zs} (h : zLay S) : zr S 255 13 = 261 := zr_of ((h _ (List.mem_append_left _ (List.mem_of_getElem? (i := 14) rfl))).2 _ (List.mem_of_getElem? (i := 5) rfl))
theorem zt255_14 {S : Zs} (h : zLay S) : zr S 255 14 = 262 := zr_of ((h _ (List.mem_append_left _ (List.mem_of_getElem? (i := 14) rfl))).2 _ (List.mem_of_getElem? (i := 6) rfl))
theorem zt255_15 {S : Zs} (h : zLay S) : zr S 255 15 = 263 := zr_of ((h _ (List.mem_append_left _ (List.mem_of_getElem? (i := 14) rfl))).2 _ (List.mem_of_getElem? (i := 7) rfl))
theorem zt255_21 {S : Zs} (h : zLay S) : zr S 255 21 = 264 := zr_of ((h _ (List.mem_append_left _ (List.mem_of_getElem? (i := 14) rfl))).2 _ (List.mem_of_getElem? (i := 8) rfl))
theorem zt255_22 {S : Zs} (h : zLay S) : zr S 255 22 = 265 := zr_of ((h _ (List.mem_append_left _ (List.mem_of_getElem? (i := 14) rfl))).2 _ (List.mem_of_getElem? (i := 9) rfl))
theorem zt255_23 {S : Zs} (h : zLay S) : zr S 255 23 = 266 := zr_of ((h _ (List.mem_append_left _ (List.mem_of_getElem? (i := 14) rfl))).2 _ (List.mem_of_getElem? (i := 10) rfl))
theorem ztl256 {S : Zs} (h : zLay S) : zlen S 256 = 399 := zl_of (h _ (List.mem_append_left _ (List.mem_of_getElem? (i := 15) rfl))).1
theorem ztl257 {S : Zs} (h : zLay S) : zlen S 257 = 399 := zl_of (h _ (List.mem_append_left _ (List.mem_of_getElem? (i := 16) rfl))).1
theorem ztl258 {S : Zs} (h : zLay S) : zlen S 258 = 399 := zl_of (h _ (List.mem_append_left _ (List.mem_of_getElem? (i := 17) rfl))).1
theorem ztl259 {S : Zs} (h : zLay S) : zlen S 259 = 399 := zl_of (h _ (List.mem_append_left _ (List.mem_of_getElem? (i := 18) rfl))).1
theorem ztl260 {S : Zs} (h : zLay S) : zlen S 260 = 2394 := zl_of (h _ (List.mem_append_left _ (List.mem_of_getElem? (i := 19) rfl))).1
theorem ztl261 {S : Zs} (h : zLay S) : zlen S 261 = 5 := zl_of (h _ (List.mem_append_left _ (List.mem_of_getElem? (i := 20) rfl))).1
theorem ztl262 {S : Zs} (h : zLay S) : zlen S 262 = 5 := zl_of (h _ (List.mem_append_left _ (List.mem_of_getElem? (i := 21) rfl))).1
theorem ztl263 {S : Zs} (h : zLay S) : zlen S 263 = 5 := zl_of (h _ (List.mem_append_left _ (List.mem_of_getElem? (i := 22) rfl))).1
theorem ztl264 {S : Zs} (h : zLay S) : zlen S 264 = 60 := zl_of (h _ (List.mem_append_left _ (List.mem_of_getElem? (i := 23) rfl))).1
theorem ztl265 {S : Zs} (h : zLay S) : zlen S 265 = 60 := zl_of (h _ (List.mem_append_left _ (List.mem_of_getElem? (i := 24) rfl))).1
theorem ztl266 {S : Zs} (h : zLay S) : zlen S 266 = 2 := zl_of (h _ (List.mem_append_left _ (List.mem_of_getElem? (i := 25) rfl))).1
theorem ztl267 {S : Zs} (h : zLay S) : zlen S 267 = 1 := zl_of (h _ (List.mem_append_left _ (List.mem_of_getElem? (i := 26) rfl))).1
theorem ztl268 {S : Zs} (h : zLay S) : zlen S 268 = 1 := zl_of (h _ (List.mem_append_left _ (List.mem_of_getElem? (i := 27) rfl))).1
end ZLY
