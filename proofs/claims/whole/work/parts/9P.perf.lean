/-! PERFORM: the frame of it. -/
section ZPF
variable {S : Zs} {w u r : Zw} {B B' n k v : Nat} {s t t' : Nat → Int32} {len p i : Nat}
theorem pL_cong (h : ∀ i, i < len → t i = t' i) (p : Nat) : pL t len p = pL t' len p := by
  unfold pL
  by_cases e : len ≤ p
  · rw [if_pos e, if_pos e]
  · rw [if_neg e, if_neg e, h p (by omega)]
theorem pDg_cong (h : ∀ i, i < len → t i = t' i) {hi : Int32} (m : Nat) : ∀ (x : Int32) (p c : Nat), pDg t len hi m x p c = pDg t' len hi m x p c := by
  induction m with
  | zero => exact fun _ _ _ => rfl
  | succ m ih =>
    intro x p c
    show (if _ then _ else _) = (if _ then _ else _)
    rw [pL_cong h p, ih]
theorem pCmd_cong (h : ∀ i, i < len → t i = t' i) (p : Nat) : pCmd t len p = pCmd t' len p := by
  unfold pCmd pNm
  simp only [pL_cong h, pDg_cong h]
theorem pPar_cong (h : ∀ i, i < len → t i = t' i) (m : Nat) : ∀ p, pPar t len m p = pPar t' len m p := by
  induction m with
  | zero => exact fun _ => rfl
  | succ m ih =>
    intro p
    by_cases hlp : len ≤ p
    · unfold pPar
      rw [if_pos hlp, if_pos hlp]
    · cases ec : (pCmd t len p).2 with
      | none => rw [pPar_none hlp ec, pPar_none hlp (by rw [← pCmd_cong h]; exact ec), pCmd_cong h]
      | some a => rw [pPar_some hlp ec, pPar_some hlp (by rw [← pCmd_cong h]; exact ec), pCmd_cong h, ih]
def pTop (t : Nat → Int32) (len : Nat) : Nat × Option (List Zcm) := if len = 0 then (0, none) else pPar t len 20 0
theorem pTop_cong (h : ∀ i, i < len → t i = t' i) : pTop t len = pTop t' len := by
  unfold pTop
  rw [pPar_cong h]
theorem pCmd_0 (t : Nat → Int32) : pCmd t 0 0 = (0, none) := rfl
theorem c7_parse (hL : zLay S) (hl : len ≤ 60) (h4 : w 249 4 = ii len) :
    ∃ u', f_X0_parse S w 249 = some ((match (pTop (w 250) len).2 with | none => ii (pTop (w 250) len).1 | some _ => -1), u') ∧ (∀ j, j ≠ 249 → j < 251 ∨ 254 ≤ j → u' j = w j) ∧ (∀ q, q ≠ 5 → q ≠ 6 → u' 249 q = w 249 q) ∧ ∀ L, (pTop (w 250) len).2 = some L → u' 249 6 = ii L.length ∧ zCm u' 0 L := by
  unfold f_X0_parse
  rw [zlet_eq, zlet_eq]
  have f4 : zput (zput w 249 5 0) 249 6 0 249 4 = ii len := by simp (disch := omega) only [zput_at, upd_ne]; exact h4
  have f5 : zput (zput w 249 5 0) 249 6 0 249 5 = ii 0 := by simp (disch := omega) only [zput_at, upd_ne, upd_at]; rfl
  have f6 : zput (zput w 249 5 0) 249 6 0 249 6 = ii 0 := by simp (disch := omega) only [zput_at, upd_at]; rfl
  have f25 : zput (zput w 249 5 0) 249 6 0 250 = w 250 := by rw [zput_ne (by omega), zput_ne (by omega)]
  have ff : (∀ j, j ≠ 249 → zput (zput w 249 5 0) 249 6 0 j = w j) ∧ ∀ q, q ≠ 5 → q ≠ 6 → zput (zput w 249 5 0) 249 6 0 249 q = w 249 q := ⟨fun j a => by rw [zput_ne a, zput_ne a], fun q a b => by rw [zput_at, upd_ne b, zput_at, upd_ne a]⟩
  generalize zput (zput w 249 5 0) 249 6 0 = u at *
  unfold pTop
  by_cases h0 : len = 0
  · subst h0
    obtain ⟨u1, g1, g2, ⟨g31, g32, g33⟩, g4⟩ := c7_cmd (S := S) (w := u) (len := 0) (p := 0) (i := 0) hL f4 (by omega) f5 (Nat.le_refl 0) (by omega)
    rw [pCmd_0] at g1 g2
    have g1 : f_X0_readCommand S u 249 0 = some (0, u1) := g1
    refine ⟨u1, ?_, fun j a b => by rw [g31 j a b, ff.1 j a], fun q a b => by rw [g32 q a, ff.2 q a b], fun L h => by rw [if_pos rfl] at h; cases h⟩
    rw [if_pos rfl]
    show f_X0_parse_b12 S 249 _ 0 u = _
    unfold f_X0_parse_b12 f_X0_parse_j33
    rw [if_neg (by decide), if_pos rfl, g1, zbs, if_pos rfl]
    dsimp only
    rw [g2]
  · obtain ⟨u', g1, g2, g3, g4, g5⟩ := c7_par (S := S) (len := len) hL hl 20 0 0 u (by omega) (by omega) (by omega) (by omega) f4 f5 f6 zFU (by unfold zFU; omega)
    rw [f25] at g1 g5
    have g1 : f_X0_parse_l12 S 249 (0, u) = _ := g1
    rw [if_neg h0, g1]
    refine ⟨u', rfl, fun j a b => by rw [g2 j a b, ff.1 j a], fun q a b => by rw [g3 q a b, ff.2 q a b], fun L h => ?_⟩
    obtain ⟨a, b⟩ := g5 L h
    rw [Nat.zero_add] at a
    exact ⟨a, b⟩
theorem e8_top (hL : zLay S) (hl : len ≤ 60) (h6 : w 255 26 = 0) (h4 : w 255 24 = ii len) (h5 : w 255 25 = 0) :
    ∃ u', ((f_X8_command S w 255).bind fun r5 => f_X8_perform_l19 S 255 (r5.2)) = f_X8_perform_j45 S u' 255 ∧ u' 255 25 = ii (pTop (w 265) len).1 ∧ u' 255 26 = (match (pTop (w 265) len).2 with | none => 1 | some _ => 0) ∧ zPf w u' := by
  by_cases h0 : len = 0
  · subst h0
    obtain ⟨k, u1, g1, g2, g3, g4, g5⟩ := e8_cmd (S := S) (w := w) (len := 0) (p := 0) hL h6 h4 (by omega) h5 (Nat.le_refl 0)
    rw [pCmd_0] at g2 g3
    refine ⟨u1, ?_, g2, g3, g4⟩
    rw [g1, zbs]
    show f_X8_perform_b19 S 255 _ u1 = _
    unfold f_X8_perform_b19
    rw [if_neg (by rw [g3]; decide)]
  · obtain ⟨u', g1, g2, g3, g4⟩ := e8_par (S := S) (len := len) hL hl 20 0 0 w (by omega) (by omega) (by omega) h6 h4 h5 (zFU + 1) (by unfold zFU; omega)
    have e : pTop (w 265) len = pPar (w 265) len 20 0 := by
      unfold pTop
      rw [if_neg h0]
    rw [e]
    refine ⟨u', ?_, g2, g3, g4⟩
    rw [← g1]
    show _ = f_X8_perform_b19 S 255 (zlp (fun k a => f_X8_perform_b19 S 255 k a) zFU) w
    unfold f_X8_perform_b19
    rw [if_pos h6, h4, h5, if_neg (by rw [show (0 : Int32) = ii 0 from rfl, ii_le (by omega) (by omega)]; omega)]
    rfl
theorem INV_txt (hB : B ≤ B') (h : INV B w) (hj : ∀ j, j ≠ 249 → j < 251 ∨ 254 ≤ j → j ≠ 255 → j ≠ 257 → j ≠ 266 → r j = w j) (hq : ∀ q, q ≠ 0 → q ≠ 24 → q ≠ 25 → q ≠ 26 → r 255 q = w 255 q) (h4 : r 249 4 = 0) (h24 : r 255 24 = 0) : INV B' r := by
  obtain ⟨h1, h2, h3, h5, h6, len, -, -, -, t4⟩ := h
  refine ⟨IG_w hB h1 (fun j a b => hj j (by omega) (by omega) (by omega) (by omega) (by omega)) (by rw [hj 256 (by omega) (by omega) (by omega) (by omega) (by omega)]; exact pe.rfl), IH_w hB h2 (fun j a => hj j (by omega) (by omega) (by omega) (by omega) (by omega)) (hq 6 (by omega) (by omega) (by omega) (by omega)) (fun i a => by rw [hj 260 (by omega) (by omega) (by omega) (by omega) (by omega)]), zPa_o h3 (fun j a => hj j (by omega) (by omega) (by omega) (by omega) (by omega)), IS_w hB h5 (fun j a b => hj j (by omega) (by omega) (by omega) (by omega) (by omega)) (by rw [hj 1 (by omega) (by omega) (by omega) (by omega) (by omega)]) (hq 7 (by omega) (by omega) (by omega) (by omega)) (by rw [hj 259 (by omega) (by omega) (by omega) (by omega) (by omega)]; exact pe.rfl), IR_w h6 (by rw [hj 1 (by omega) (by omega) (by omega) (by omega) (by omega)]) (fun i a b => hq i (by omega) (by omega) (by omega) (by omega)) (fun i a => by rw [hj 254 (by omega) (by omega) (by omega) (by omega) (by omega)]), 0, by omega, h4, h24, fun i hi => ?_⟩
  rw [hj 250 (by omega) (by omega) (by omega) (by omega) (by omega), hj 265 (by omega) (by omega) (by omega) (by omega) (by omega)]
  exact t4 i hi
end ZPF
