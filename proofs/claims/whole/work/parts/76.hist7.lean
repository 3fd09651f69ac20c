/-! THE CLASS's history: a ring of garages. -/
section ZH7
def pT (s : Nat → Int32) : Nat := zix (s 1 + s 2 + s 3)
theorem pT_I {s : Nat → Int32} {n k v : Nat} (hI : zI s n k v) : pT s = n + k + v := by
  have hn := zI_n hI
  have hk := hI.2.2.2.1
  have hv := hI.2.2.2.2.2.1
  unfold pT
  rw [zI_T hI, zix_ii (by omega)]
theorem pT_pe {s t : Nat → Int32} (h : pe t s) : pT t = pT s := by
  unfold pT
  rw [h 1 (by omega), h 2 (by omega), h 3 (by omega)]
/-- a state that keeps the order, with at most B moves -/
def pOK (B : Nat) (s : Nat → Int32) : Prop := ∃ n k v, zI9 s n k v ∧ v ≤ B
theorem pOK_pe {B : Nat} {s t : Nat → Int32} (h : pe t s) (hs : pOK B s) : pOK B t := by
  obtain ⟨n, k, v, h1, h2⟩ := hs
  exact ⟨n, k, v, zI9_pe h h1, h2⟩
theorem pOK_le {B B' : Nat} {s : Nat → Int32} (h : B ≤ B') (hs : pOK B s) : pOK B' s := by
  obtain ⟨n, k, v, h1, h2⟩ := hs
  exact ⟨n, k, v, h1, by omega⟩
theorem pOK_cl {B : Nat} {s : Nat → Int32} (hs : pOK B s) : ∀ b, b < 60 → s (19 + b) = 0 ∨ s (19 + b) = 1 := by
  obtain ⟨n, k, v, h1, h2⟩ := hs
  exact h1.1.2.2.2.2.2.2.2.2.1
def Sh (w : Zw) (g : Nat) (s : Nat → Int32) : Prop := RG w g s (pT s)
theorem Sh_pe {w : Zw} {g : Nat} {s t : Nat → Int32} (h : pe t s) (hS : Sh w g s) : Sh w g t := by
  unfold Sh
  rw [pT_pe h]
  exact RG_pe h hS
theorem Sh_w {w w' : Zw} {g : Nat} {s : Nat → Int32} (h : ∀ j, g ≤ j → j < g + 16 → w' j = w j) (hS : Sh w g s) : Sh w' g s := RG_w h hS
theorem Sh_pc {w : Zw} {g : Nat} {s : Nat → Int32} (hS : Sh w g s) : zPac w g := gpace hS
theorem zPac_w {w w' : Zw} {g : Nat} (h : ∀ j, g ≤ j → j < g + 16 → w' j = w j) (hS : zPac w g) : zPac w' g := by
  intro m hm
  have hz := zmc_rg (g := g) hm
  rw [h _ (by omega) (by omega)]
  exact hS m hm
/-- all garages' paces -/
def zPa (w : Zw) : Prop := ∀ g, g ∈ zGb → zPac w g
theorem zGb_rg {g : Nat} (h : g ∈ zGb) : g = 2 ∨ g = 18 ∨ (∃ i, i < 7 ∧ g = 36 + 16 * i) ∨ ∃ i, i < 6 ∧ g = 153 + 16 * i := by
  simp only [zGb, List.mem_cons, List.not_mem_nil, or_false] at h
  rcases h with rfl | rfl | rfl | rfl | rfl | rfl | rfl | rfl | rfl | rfl | rfl | rfl | rfl | rfl | rfl
  · exact Or.inl rfl
  · exact Or.inr (Or.inl rfl)
  · exact Or.inr (Or.inr (Or.inl ⟨0, by omega, rfl⟩))
  · exact Or.inr (Or.inr (Or.inl ⟨1, by omega, rfl⟩))
  · exact Or.inr (Or.inr (Or.inl ⟨2, by omega, rfl⟩))
  · exact Or.inr (Or.inr (Or.inl ⟨3, by omega, rfl⟩))
  · exact Or.inr (Or.inr (Or.inl ⟨4, by omega, rfl⟩))
  · exact Or.inr (Or.inr (Or.inl ⟨5, by omega, rfl⟩))
  · exact Or.inr (Or.inr (Or.inl ⟨6, by omega, rfl⟩))
  · exact Or.inr (Or.inr (Or.inr ⟨0, by omega, rfl⟩))
  · exact Or.inr (Or.inr (Or.inr ⟨1, by omega, rfl⟩))
  · exact Or.inr (Or.inr (Or.inr ⟨2, by omega, rfl⟩))
  · exact Or.inr (Or.inr (Or.inr ⟨3, by omega, rfl⟩))
  · exact Or.inr (Or.inr (Or.inr ⟨4, by omega, rfl⟩))
  · exact Or.inr (Or.inr (Or.inr ⟨5, by omega, rfl⟩))
theorem zGb_h {i : Nat} (h : i < 7) : 36 + 16 * i ∈ zGb := by
  have : i = 0 ∨ i = 1 ∨ i = 2 ∨ i = 3 ∨ i = 4 ∨ i = 5 ∨ i = 6 := by omega
  rcases this with rfl | rfl | rfl | rfl | rfl | rfl | rfl <;> decide
theorem zGb_s {i : Nat} (h : i < 6) : 153 + 16 * i ∈ zGb := by
  have : i = 0 ∨ i = 1 ∨ i = 2 ∨ i = 3 ∨ i = 4 ∨ i = 5 := by omega
  rcases this with rfl | rfl | rfl | rfl | rfl | rfl <;> decide
theorem zPa_g {w w' : Zw} {g : Nat} (hP : zPa w) (hg : g ∈ zGb) (hpg : zPac w' g) (h : ∀ j, j < g ∨ g + 16 ≤ j → w' j = w j) : zPa w' := by
  intro g' hg'
  by_cases e : g' = g
  · subst e
    exact hpg
  · have a1 := zGb_rg hg
    have a2 := zGb_rg hg'
    refine zPac_w (fun j h1 h2 => h j ?_) (hP g' hg')
    rcases a1 with a1 | a1 | ⟨i, hi, a1⟩ | ⟨i, hi, a1⟩ <;> rcases a2 with a2 | a2 | ⟨i2, hi2, a2⟩ | ⟨i2, hi2, a2⟩ <;> omega
theorem zPa_o {w w' : Zw} (hP : zPa w) (h : ∀ j, (2 ≤ j ∧ j < 34) ∨ (36 ≤ j ∧ j < 148) ∨ (153 ≤ j ∧ j < 249) → w' j = w j) : zPa w' := by
  intro g' hg'
  have a2 := zGb_rg hg'
  refine zPac_w (fun j h1 h2 => h j ?_) (hP g' hg')
  rcases a2 with a2 | a2 | ⟨i2, hi2, a2⟩ | ⟨i2, hi2, a2⟩ <;> omega
section
variable {S : Zs} {w : Zw} {s : Nat → Int32} {hist : Nat → Nat → Int32} {cnt : Nat}
theorem zr35 (hL : zLay S) {i : Nat} (h : i < 7) : zr S 35 i = 36 + 16 * i := by
  have : i = 0 ∨ i = 1 ∨ i = 2 ∨ i = 3 ∨ i = 4 ∨ i = 5 ∨ i = 6 := by omega
  rcases this with rfl | rfl | rfl | rfl | rfl | rfl | rfl
  · exact zt35_0 hL
  · exact zt35_1 hL
  · exact zt35_2 hL
  · exact zt35_3 hL
  · exact zt35_4 hL
  · exact zt35_5 hL
  · exact zt35_6 hL
theorem zr149 (hL : zLay S) {i : Nat} (h : i < 6) : zr S 149 i = 153 + 16 * i := by
  have : i = 0 ∨ i = 1 ∨ i = 2 ∨ i = 3 ∨ i = 4 ∨ i = 5 := by omega
  rcases this with rfl | rfl | rfl | rfl | rfl | rfl
  · exact zt149_0 hL
  · exact zt149_1 hL
  · exact zt149_2 hL
  · exact zt149_3 hL
  · exact zt149_4 hL
  · exact zt149_5 hL
theorem zG2 (hL : zLay S) : zGar S 2 := zGar_of hL (by decide)
theorem zG18 (hL : zLay S) : zGar S 18 := zGar_of hL (by decide)
def CHx (w : Zw) (nx cnt : Nat) (hist : Nat → Nat → Int32) : Prop := nx < 7 ∧ w 34 1 = ii nx ∧ w 34 2 = ii cnt ∧ cnt ≤ 6 ∧ ∀ q, q < cnt → Sh w (36 + 16 * ((nx + 7 - cnt + q) % 7)) (hist q)
def CH (w : Zw) (cnt : Nat) (hist : Nat → Nat → Int32) : Prop := ∃ nx, CHx w nx cnt hist
/-- with the draft of s0 -/
def CD (w : Zw) (cnt : Nat) (hist : Nat → Nat → Int32) (s0 : Nat → Int32) : Prop := ∃ nx, CHx w nx cnt hist ∧ Sh w (36 + 16 * nx) s0
theorem CHx_w {w' : Zw} {nx : Nat} (h : ∀ j, j = 34 ∨ (36 ≤ j ∧ j < 148) → w' j = w j) (hc : CHx w nx cnt hist) : CHx w' nx cnt hist := by
  obtain ⟨h1, h2, h3, h4, h5⟩ := hc
  exact ⟨h1, by rw [h 34 (by omega)]; exact h2, by rw [h 34 (by omega)]; exact h3, h4, fun q hq => Sh_w (fun j a b => h j (by omega)) (h5 q hq)⟩
theorem CH_w {w' : Zw} (h : ∀ j, j = 34 ∨ (36 ≤ j ∧ j < 148) → w' j = w j) (hc : CH w cnt hist) : CH w' cnt hist := by
  obtain ⟨nx, h1⟩ := hc
  exact ⟨nx, CHx_w h h1⟩
theorem CD_w {w' : Zw} {s0 : Nat → Int32} (h : ∀ j, j = 34 ∨ (36 ≤ j ∧ j < 148) → w' j = w j) (hc : CD w cnt hist s0) : CD w' cnt hist s0 := by
  obtain ⟨nx, h1, h2⟩ := hc
  exact ⟨nx, CHx_w h h1, Sh_w (fun j a b => h j (by have := h1.1; omega)) h2⟩
theorem CD_CH {s0 : Nat → Int32} (hc : CD w cnt hist s0) : CH w cnt hist := by
  obtain ⟨nx, h1, h2⟩ := hc
  exact ⟨nx, h1⟩
theorem c7_draft (hL : zLay S) (hP : zPa w) (hC : CH w cnt hist) (hS : Sh w 2 s) (hcl : ∀ b, b < 60 → s (19 + b) = 0 ∨ s (19 + b) = 1) : ∃ w', f_X2_draft S w 34 2 = some ((), w') ∧ CD w' cnt hist s ∧ zPa w' ∧ ∀ j, j < 36 ∨ 148 ≤ j → w' j = w j := by
  obtain ⟨nx, hC⟩ := hC
  have hC0 := hC
  obtain ⟨h1, h2, h3, h4, h5⟩ := hC
  obtain ⟨w', g1, g2, g3⟩ := c7_copy (w := w) (zGar_of hL (zGb_h h1)) (zG2 hL) (Or.inr (by omega)) (hP _ (zGb_h h1)) hS hcl
  unfold f_X2_draft
  rw [zt34_0 hL, ztl35 hL, h2, if_pos (zin_t h1 (by omega)), zix_ii (by omega), zr35 hL h1, g1, zbs]
  refine ⟨w', rfl, ⟨nx, ⟨h1, by rw [g3 34 (by omega)]; exact h2, by rw [g3 34 (by omega)]; exact h3, h4, fun q hq => Sh_w (fun j a b => g3 j ?_) (h5 q hq)⟩, g2⟩, zPa_g hP (zGb_h h1) (Sh_pc g2) g3, fun j hj => g3 j (by omega)⟩
  have hne : (nx + 7 - cnt + q) % 7 ≠ nx := by omega
  omega
theorem c7_keep (hP : zPa w) {s0 : Nat → Int32} (hC : CD w cnt hist s0) : ∃ w', f_X2_keepDraft S w 34 = some ((), w') ∧ CH w' (min (cnt + 1) 6) (fun q => if q = min cnt 5 then s0 else if cnt = 6 then hist (q + 1) else hist q) ∧ zPa w' ∧ ∀ j, j ≠ 34 → w' j = w j := by
  obtain ⟨nx, ⟨h1, h2, h3, h4, h5⟩, h6⟩ := hC
  have e1 : zrem (ii nx + 1) 7 = ii ((nx + 1) % 7) := by
    rw [ii_succ, show (7 : Int32) = ii 7 from rfl, ii_rem (by omega) (by omega)]
  have e2 : zmin (ii cnt + 1) 6 = ii (min (cnt + 1) 6) := by
    rw [ii_succ, show (6 : Int32) = ii 6 from rfl, zmin_ii (by omega) (by omega)]
  have e3 : zput w 34 1 (zrem (w 34 1 + 1) 7) 34 2 = ii cnt := by
    rw [zput_at, upd_ne (by omega), h3]
  unfold f_X2_keepDraft
  rw [zlet_eq, zlet_eq, e3, h2, e1, e2]
  have hne : ∀ j, j ≠ 34 → zput (zput w 34 1 (ii ((nx + 1) % 7))) 34 2 (ii (min (cnt + 1) 6)) j = w j := by
    intro j hj
    rw [zput_ne hj, zput_ne hj]
  refine ⟨_, rfl, ⟨(nx + 1) % 7, by omega, ?_, ?_, by omega, fun q hq => ?_⟩, zPa_o hP (fun j hj => hne j (by omega)), hne⟩
  · rw [zput_at, upd_ne (by omega), zput_at, upd_at]
  · rw [zput_at, upd_at]
  · refine Sh_w (w := w) (fun j a b => hne j (by omega)) ?_
    dsimp only
    by_cases e : q = min cnt 5
    · rw [if_pos e]
      have : ((nx + 1) % 7 + 7 - min (cnt + 1) 6 + q) % 7 = nx := by omega
      rw [this]
      exact h6
    · rw [if_neg e]
      by_cases c6 : cnt = 6
      · rw [if_pos c6]
        have : ((nx + 1) % 7 + 7 - min (cnt + 1) 6 + q) % 7 = (nx + 7 - cnt + (q + 1)) % 7 := by omega
        rw [this]
        exact h5 (q + 1) (by omega)
      · rw [if_neg c6]
        have : ((nx + 1) % 7 + 7 - min (cnt + 1) 6 + q) % 7 = (nx + 7 - cnt + q) % 7 := by omega
        rw [this]
        exact h5 q (by omega)
theorem c7_return (hL : zLay S) (hP : zPa w) {s0 : Nat → Int32} (hC : CD w cnt hist s0) (hcl : ∀ b, b < 60 → s0 (19 + b) = 0 ∨ s0 (19 + b) = 1) : ∃ w', f_X2_returnToDraft S w 34 2 = some ((), w') ∧ Sh w' 2 s0 ∧ CH w' cnt hist ∧ zPa w' ∧ ∀ j, j < 2 ∨ 18 ≤ j → w' j = w j := by
  obtain ⟨nx, hx, h6⟩ := hC
  obtain ⟨h1, h2, h3, h4, h5⟩ := id hx
  obtain ⟨w', g1, g2, g3⟩ := c7_copy (w := w) (zG2 hL) (zGar_of hL (zGb_h h1)) (Or.inl (by omega)) (hP _ (by decide)) h6 hcl
  unfold f_X2_returnToDraft
  rw [zt34_0 hL, ztl35 hL, h2, if_pos (zin_t h1 (by omega)), zix_ii (by omega), zr35 hL h1, g1, zbs]
  exact ⟨w', rfl, g2, ⟨nx, CHx_w (fun j hj => g3 j (by omega)) hx⟩, zPa_g hP (by decide) (Sh_pc g2) g3, fun j hj => g3 j (by omega)⟩
theorem c7_back (hL : zLay S) (hP : zPa w) (hC : CH w cnt hist) (hc : 0 < cnt) (hcl : ∀ b, b < 60 → hist (cnt - 1) (19 + b) = 0 ∨ hist (cnt - 1) (19 + b) = 1) : ∃ w', f_X2_takeBack S w 34 2 = some ((), w') ∧ Sh w' 2 (hist (cnt - 1)) ∧ CH w' (cnt - 1) hist ∧ zPa w' ∧ ∀ j, (j < 2 ∨ 18 ≤ j) → j ≠ 34 → w' j = w j := by
  obtain ⟨nx, h1, h2, h3, h4, h5⟩ := hC
  have e1 : zrem (ii nx + 7 - 1) 7 = ii ((nx + 6) % 7) := by
    rw [show (7 : Int32) = ii 7 from rfl, ii_add, ii_sub1 (by omega), ii_rem (by omega) (by omega)]
    rfl
  have e3 : zput w 34 1 (zrem (w 34 1 + 7 - 1) 7) 34 2 = ii cnt := by
    rw [zput_at, upd_ne (by omega), h3]
  have e4 : zput (zput w 34 1 (ii ((nx + 6) % 7))) 34 2 (ii (cnt - 1)) 34 1 = ii ((nx + 6) % 7) := by
    rw [zput_at, upd_ne (by omega), zput_at, upd_at]
  have e5 : zput (zput w 34 1 (ii ((nx + 6) % 7))) 34 2 (ii (cnt - 1)) 34 2 = ii (cnt - 1) := by
    rw [zput_at, upd_at]
  unfold f_X2_takeBack
  rw [zlet_eq, zlet_eq, e3, h2, e1, ii_sub1 hc]
  generalize hu : zput (zput w 34 1 (ii ((nx + 6) % 7))) 34 2 (ii (cnt - 1)) = u at e4 e5
  have hne : ∀ j, j ≠ 34 → u j = w j := by
    intro j hj
    rw [← hu, zput_ne hj, zput_ne hj]
  have hpu : zPa u := zPa_o hP (fun j hj => hne j (by omega))
  have hsh : ∀ q, q < cnt → Sh u (36 + 16 * ((nx + 7 - cnt + q) % 7)) (hist q) := fun q hq => Sh_w (fun j a b => hne j (by omega)) (h5 q hq)
  have hlast := hsh (cnt - 1) (by omega)
  have hi : (nx + 7 - cnt + (cnt - 1)) % 7 = (nx + 6) % 7 := by omega
  rw [hi] at hlast
  have hlt : (nx + 6) % 7 < 7 := by omega
  obtain ⟨w', g1, g2, g3⟩ := c7_copy (w := u) (zG2 hL) (zGar_of hL (zGb_h hlt)) (Or.inl (by omega)) (hpu _ (by decide)) hlast hcl
  rw [zt34_0 hL, ztl35 hL, e4, if_pos (zin_t hlt (by omega)), zix_ii (by omega), zr35 hL hlt, g1, zbs]
  refine ⟨w', rfl, g2, ⟨(nx + 6) % 7, hlt, by rw [g3 34 (by omega)]; exact e4, by rw [g3 34 (by omega)]; exact e5, by omega, fun q hq => ?_⟩, zPa_g hpu (by decide) (Sh_pc g2) g3, fun j hj h34 => by rw [g3 j (by omega), hne j h34]⟩
  have : ((nx + 6) % 7 + 7 - (cnt - 1) + q) % 7 = (nx + 7 - cnt + q) % 7 := by omega
  rw [this]
  exact Sh_w (fun j a b => g3 j (by omega)) (hsh q (by omega))
end
end ZH7
