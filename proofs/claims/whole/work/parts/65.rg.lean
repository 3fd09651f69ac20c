/-! THE CLASS's jobs against the pure state: rows in the ring, machines. -/
section ZRG
theorem zmc_rg {g m : Nat} (hm : m < 4) : zmc g m = g + 10 ∨ (g + 13 ≤ zmc g m ∧ zmc g m < g + 16) := by
  unfold zmc
  split <;> omega
def sM3 (s : Nat → Int32) (m : Nat) : Zt3 := (s (7 + 3 * m), s (7 + 3 * m + 1), s (7 + 3 * m + 2))
theorem sM3_qDo {s : Nat → Int32} {m e pl : Nat} : sM3 (qDo s m e pl) = mset (sM3 s) m (ii pl, ii e, s (7 + 3 * m + 2) + (ii e - pRdy s m)) := by
  funext m'
  unfold sM3 mset
  by_cases h : m' = m
  · subst h
    rw [if_pos rfl, qDo_at, if_neg (by omega), if_neg (by omega), if_pos rfl, qDo_at, if_pos rfl, qDo_at, if_neg (by omega), if_pos rfl]
  · rw [if_neg h, qDo_o (by omega), qDo_o (by omega), qDo_o (by omega)]
theorem pRdy_R {s : Nat → Int32} {m : Nat} : pRdy s m = zmax (s 0) (sM3 s m).2.1 := rfl
/-- the ring of rows, one row more -/
theorem rg_rows {a f : Nat → Int32} {T : Nat} {s s2 : Nat → Int32} {row : Nat → Int32} (old : ∀ j p, j < 20 → p < 5 → a ((zoff T + j) % 20 * 5 + p) = s (299 + 5 * j + p)) (hf : ∀ p, p < 5 → f (T % 20 * 5 + p) = row p) (ho : ∀ j p, j < 20 → p < 5 → j ≠ T % 20 → f (j * 5 + p) = a (j * 5 + p))
    (hs : ∀ j p, j < 20 → p < 5 → s2 (299 + 5 * j + p) = if j = min T 19 then row p else if 20 ≤ T then s (299 + 5 * (j + 1) + p) else s (299 + 5 * j + p)) : ∀ j p, j < 20 → p < 5 → f ((zoff (T + 1) + j) % 20 * 5 + p) = s2 (299 + 5 * j + p) := by
  intro j p hj hp
  rw [hs j p hj hp]
  by_cases hT : 20 ≤ T
  · have e1 : zoff (T + 1) = T + 1 := by unfold zoff; rw [if_neg (by omega)]
    have e0 : zoff T = T := by unfold zoff; rw [if_neg (by omega)]
    rw [e1]
    by_cases h : j = 19
    · subst h
      rw [if_pos (by omega), ← hf p hp]
      congr 3
      omega
    · rw [if_neg (by omega), if_pos hT, ho _ _ (by omega) hp (by omega), ← old (j + 1) p (by omega) hp, e0]
      congr 3
      omega
  · have e1 : (zoff (T + 1) + j) % 20 = j := by unfold zoff; split <;> omega
    have e0 : (zoff T + j) % 20 = j := by unfold zoff; rw [if_pos (by omega)]; omega
    rw [e1]
    by_cases h : j = T
    · subst h
      rw [if_pos (by omega), ← hf p hp]
      congr 3
      omega
    · rw [if_neg (by omega), if_neg hT, ho _ _ hj hp (by omega), ← old j p hj hp, e0]
theorem zrow_f {w : Zw} {a r c : Nat} {fr to jb je : Int32} {p : Nat} (hp : p < 5) : zrow w a r (ii c) fr to jb je a (r + p) = pRow c fr to jb je p := by
  unfold zrow
  have h5 : p = 0 ∨ p = 1 ∨ p = 2 ∨ p = 3 ∨ p = 4 := by omega
  rcases h5 with rfl | rfl | rfl | rfl | rfl <;> simp (disch := omega) [zput_at, upd_ne, upd_at, pRow]
theorem zrow_o {w : Zw} {a r : Nat} {car fr to jb je : Int32} {i : Nat} (h : i < r ∨ r + 5 ≤ i) : zrow w a r car fr to jb je a i = w a i := by
  unfold zrow
  simp (disch := omega) only [zput_at, upd_ne]
theorem zrow_ne {w : Zw} {a r : Nat} {car fr to jb je : Int32} {j : Nat} (h : j ≠ a) : zrow w a r car fr to jb je j = w j := by
  unfold zrow
  simp (disch := omega) only [zput_ne]
/-- a logged job over machines -/
def zJw (w : Zw) (g T : Nat) (ms : Nat → Zt3) (c : Nat) (fr to jb je : Int32) : Zw := zlog (zMw w g ms) g (T % 20 * 5) (ii c) fr to jb je
section
variable {w : Zw} {g T c : Nat} {ms : Nat → Zt3} {fr to jb je : Int32}
theorem zJw_o {j : Nat} (h : j < g + 10 ∨ g + 16 ≤ j) : zJw w g T ms c fr to jb je j = w j := by
  unfold zJw zlog
  rw [zput_ne (by omega), zput_ne (by omega), zput_ne (by omega), zrow_ne (by omega), zMw_ne (by omega) (by omega)]
theorem zJw_m {m : Nat} (hm : m < 4) : zJw w g T ms c fr to jb je (zmc g m) = zMw w g ms (zmc g m) := by
  have hz := zmc_rg (g := g) hm
  unfold zJw zlog
  rw [zput_ne (by omega), zput_ne (by omega), zput_ne (by omega), zrow_ne (by omega)]
theorem zJw_12 : zJw w g T ms c fr to jb je (g + 12) = zrow (zMw w g ms) (g + 12) (T % 20 * 5) (ii c) fr to jb je (g + 12) := by
  unfold zJw zlog
  rw [zput_ne (by omega), zput_ne (by omega), zput_ne (by omega)]
theorem zJw_11 : zJw w g T ms c fr to jb je (g + 11) 1 = w (g + 11) 1 + 1 ∧ zJw w g T ms c fr to jb je (g + 11) 2 = w (g + 11) 2 + (je - jb) ∧ zJw w g T ms c fr to jb je (g + 11) 3 = zmax (w (g + 11) 3) je := by
  have h : zMw w g ms (g + 11) = w (g + 11) := zMw_ne (by omega) (by omega)
  unfold zJw zlog
  simp (disch := omega) only [zput_at, upd_ne, upd_at, zrow_ne, h, and_self]
end
theorem rg_ms {w w2 : Zw} {g : Nat} {ms : Nat → Zt3} {s2 : Nat → Int32} (hp : ∀ m, m < 4 → w (zmc g m) 0 = if m = 3 then 3 else 1) (hw : ∀ m, m < 4 → w2 (zmc g m) = zMw w g ms (zmc g m)) (hms : ∀ m, m < 4 → ms m = sM3 s2 m) : ∀ m, m < 4 → w2 (zmc g m) 0 = (if m = 3 then 3 else 1) ∧ w2 (zmc g m) 1 = s2 (7 + 3 * m) ∧ w2 (zmc g m) 2 = s2 (7 + 3 * m + 1) ∧ w2 (zmc g m) 3 = s2 (7 + 3 * m + 2) := by
  intro m hm
  rw [hw m hm, zMw_0 hm, zMw_1 hm, zMw_2 hm, zMw_3 hm, hms m hm]
  exact ⟨hp m hm, rfl, rfl, rfl⟩
/-- the machines of a garage that shows s -/
def gms (w : Zw) (g m : Nat) : Zt3 := (w (zmc g m) 1, w (zmc g m) 2, w (zmc g m) 3)
theorem gms_RG {w : Zw} {g T : Nat} {s : Nat → Int32} (hR : RG w g s T) {m : Nat} (hm : m < 4) : gms w g m = sM3 s m := by
  obtain ⟨-, h1, h2, h3⟩ := hR.2.2.2.2.1 m hm
  unfold gms sM3
  rw [h1, h2, h3]
theorem gms_w (w : Zw) (g : Nat) : zMw w g (gms w g) = w := zMw_self w g
theorem gpace {w : Zw} {g T : Nat} {s : Nat → Int32} (hR : RG w g s T) : ∀ m, m < 4 → w (zmc g m) 0 = if m = 3 then 3 else 1 := fun m hm => (hR.2.2.2.2.1 m hm).1
end ZRG
