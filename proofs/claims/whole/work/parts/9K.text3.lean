/-! COMMANDS AS TEXTS, the reference's reading. -/
section ZTZ
variable {S : Zs} {w : Zw} {B B' n k v : Nat} {s t : Nat → Int32} {len p i : Nat}
theorem e8_sign (hL : zLay S) (h6 : w 255 26 = 0) (h4 : w 255 24 = ii len) (hl : len ≤ 60) (h5 : w 255 25 = ii p) (hp : p ≤ 70) : f_X8_sign S w 255 = some (pL (w 265) len p) := by
  unfold f_X8_sign pL
  rw [h4, h5, if_pos h6]
  by_cases h : len ≤ p
  · rw [if_pos (by rw [ii_le (by omega) (by omega)]; exact h), if_pos h]
  · rw [if_neg (by rw [ii_le (by omega) (by omega)]; exact h), if_neg h, zt255_22 hL, ztl265 hL, if_pos (zin_t (by omega) (by omega)), zix_ii (by omega)]
theorem e8_digits (hL : zLay S) (h6 : w 255 26 = 0) (h4 : w 255 24 = ii len) (hl : len ≤ 60) {hi : Int32} {m0 : Nat} (hm0 : m0 ≤ 4) (m : Nat) : ∀ (c : Nat) (x : Int32) (p : Nat), c + m = m0 → p ≤ len → ∀ N, m < N → zlp (fun k a => f_X8_number_b5 S 255 (ii m0) hi k a.1 a.2.1 a.2.2) N (x, ii c, zput w 255 25 (ii p)) = f_X8_number_j53 S (zput w 255 25 (ii (pDg (w 265) len hi m x p c).2.1)) 255 (pDg (w 265) len hi m x p c).1 (ii (pDg (w 265) len hi m x p c).2.2) := by
  induction m with
  | zero =>
    intro c x p hc hp N hN
    obtain ⟨N, rfl⟩ : ∃ N', N = N' + 1 := ⟨N - 1, by omega⟩
    show f_X8_number_b5 S 255 (ii m0) hi _ x (ii c) (zput w 255 25 (ii p)) = _
    have hc : c = m0 := by omega
    subst hc
    unfold f_X8_number_b5
    rw [if_pos (by rw [ii_le (by omega) (by omega)]; omega)]
    rfl
  | succ m ih =>
    intro c x p hc hp N hN
    obtain ⟨N, rfl⟩ : ∃ N', N = N' + 1 := ⟨N - 1, by omega⟩
    show f_X8_number_b5 S 255 (ii m0) hi (zlp (fun k a => f_X8_number_b5 S 255 (ii m0) hi k a.1 a.2.1 a.2.2) N) x (ii c) (zput w 255 25 (ii p)) = _
    obtain ⟨KK, hKK⟩ : ∃ KK, KK = zlp (fun k a => f_X8_number_b5 S 255 (ii m0) hi k a.1 a.2.1 a.2.2) N := ⟨_, rfl⟩
    rw [← hKK]
    have hsg := e8_sign (S := S) (w := zput w 255 25 (ii p)) (len := len) (p := p) hL (by rw [zput_at, upd_ne (by omega)]; exact h6) (by rw [zput_at, upd_ne (by omega)]; exact h4) hl (by rw [zput_at, upd_at]) (by omega)
    rw [zput_ne (by omega)] at hsg
    have h55 : zput w 255 25 (ii p) 255 25 = ii p := by rw [zput_at, upd_at]
    unfold f_X8_number_b5
    rw [if_neg (by rw [ii_le (by omega) (by omega)]; omega), hsg, zbs, c8_inn, zbs, zbs, h55, zput_zput, zlet_eq, zlet_eq, ii_succ, ii_succ]
    unfold pDg
    by_cases h1 : 48 ≤ pL (w 265) len p ∧ pL (w 265) len p ≤ hi
    · have hlt : p < len := pL_lt rfl (fun q => by rw [q] at h1; exact absurd h1.1 (by decide))
      rw [if_pos h1, if_neg (show ¬ (1 : Int32) = 0 by decide), if_neg (fun q => by obtain ⟨a, b⟩ := h1; rcases q with q | q <;> grind)]
      have := ih (c + 1) (10 * x + pL (w 265) len p - 48) (p + 1) (by omega) (by omega) N (by omega)
      rw [← hKK] at this
      exact this
    · rw [if_neg h1, if_pos rfl, if_pos (by
        by_cases h2 : pL (w 265) len p < 48
        · exact Or.inl h2
        · refine Or.inr ?_
          by_cases h3 : pL (w 265) len p ≤ hi
          · exact absurd ⟨by grind, h3⟩ h1
          · grind)]
theorem e8_number (hL : zLay S) (h6 : w 255 26 = 0) (h4 : w 255 24 = ii len) (hl : len ≤ 60) (h5 : w 255 25 = ii p) (hp : p ≤ len) {hi : Int32} {m : Nat} (hm : m ≤ 4) : f_X8_number S w 255 (ii m) hi = some ((pDg (w 265) len hi m 0 p 0).1, zput (zput w 255 25 (ii (pDg (w 265) len hi m 0 p 0).2.1)) 255 26 (if (pDg (w 265) len hi m 0 p 0).2.2 = 0 then 1 else 0)) := by
  have hd := e8_digits (S := S) (w := w) hL h6 h4 hl (hi := hi) hm m 0 0 p (by omega) hp zFU (by unfold zFU; omega)
  have hself : zput w 255 25 (ii p) = w := by rw [← h5]; exact zput_self
  rw [hself] at hd
  have hd : f_X8_number S w 255 (ii m) hi = _ := hd
  obtain ⟨g1, g2, g3, g4⟩ := pDg_ok (t := w 265) (len := len) (hi := hi) m 0 p 0
  rw [hd]
  generalize pDg (w 265) len hi m 0 p 0 = D at *
  unfold f_X8_number_j53 f_X8_number_j68
  have e6 : zput w 255 25 (ii D.2.1) 255 26 = 0 := by rw [zput_at, upd_ne (by omega)]; exact h6
  rw [e6]
  by_cases h0 : D.2.2 = 0
  · rw [h0, if_pos (by decide), if_pos (by decide), zlet_eq, if_pos rfl]
    rfl
  · rw [if_neg (by rw [show (0 : Int32) = ii 0 from rfl, ii_iff (by omega) (by omega)]; exact h0), if_pos (by decide), zlet_eq, if_neg h0]
    rfl
theorem e8_takes (hL : zLay S) (h6 : w 255 26 = 0) (h4 : w 255 24 = ii len) (hl : len ≤ 60) (h5 : w 255 25 = ii p) (hp : p ≤ 70) (a : Int32) : f_X8_takes S w 255 a = some ((), if pL (w 265) len p = a then zput w 255 25 (ii (p + 1)) else zput w 255 26 1) := by
  unfold f_X8_takes
  rw [e8_sign hL h6 h4 hl h5 hp, zbs, h5, ii_succ]
  by_cases h : pL (w 265) len p = a
  · rw [if_pos h, if_pos h, zlet_eq]
  · rw [if_neg h, if_neg h, zlet_eq]
theorem e8_takes1 (h6 : w 255 26 = 1) {a : Int32} (ha : a ≠ -1) : f_X8_takes S w 255 a = some ((), zput w 255 26 1) := by
  unfold f_X8_takes f_X8_sign
  rw [h6, if_neg (show ¬ (1 : Int32) = 0 by decide), zbs, if_neg (fun q => ha q.symm), zlet_eq]
def zPf (w w' : Zw) : Prop := (∀ j, j ≠ 255 → j ≠ 266 → w' j = w j) ∧ ∀ q, q ≠ 25 → q ≠ 26 → w' 255 q = w 255 q
theorem zPf_trans {a b c : Zw} (h : zPf a b) (h' : zPf b c) : zPf a c := ⟨fun j p q => (h'.1 j p q).trans (h.1 j p q), fun q p r => (h'.2 q p r).trans (h.2 q p r)⟩
theorem zPf_5 {x : Int32} {q : Nat} (hq : q = 25 ∨ q = 26) : zPf w (zput w 255 q x) := ⟨fun j a b => zput_ne a, fun r a b => by rw [zput_at, upd_ne (by omega)]⟩
theorem zPf_6 {x : Int32} {q : Nat} : zPf w (zput w 266 q x) := ⟨fun j a b => zput_ne b, fun r a b => by rw [zput_ne (by omega)]⟩
theorem e8_j93 (hL : zLay S) (h6 : w 255 26 = 0) (h4 : w 255 24 = ii len) (hl : len ≤ 60) (h5 : w 255 25 = ii p) (hp : p ≤ len) (c z : Int32) :
    ∃ w', f_X8_command_j93 S w 255 c = some (c, w') ∧ w' 255 25 = ii (pNm (w 265) len p c z).1 ∧ w' 255 26 = (match (pNm (w 265) len p c z).2 with | none => 1 | some _ => 0) ∧ zPf w w' ∧ w' 266 1 = w 266 1 ∧ ∀ a, (pNm (w 265) len p c z).2 = some a → a = (c, z, w' 266 0) := by
  have hn := e8_number (S := S) (w := w) hL h6 h4 hl h5 hp (hi := 57) (m := 4) (by omega)
  have hn : f_X8_number S w 255 4 57 = _ := hn
  obtain ⟨g1, g2, g3, g4⟩ := pDg_ok (t := w 265) (len := len) (hi := 57) 4 0 p 0
  have g4 := g4 hp
  have z0 : zin (0 : Int32) 2 = true := by decide
  have z00 : zix (0 : Int32) = 0 := by decide
  unfold f_X8_command_j93 f_X8_command_j116 pNm
  rw [if_pos h6, hn, zbs]
  dsimp only
  generalize pDg (w 265) len 57 4 0 p 0 = D at *
  rw [zt255_23 hL, ztl266 hL, if_pos z0, z00, zlet_eq]
  by_cases h0 : D.2.2 = 0
  · rw [if_pos h0, if_pos h0, e8_takes1 (by rw [zput_ne (by omega), zput_at, upd_at]) (by decide), zbs]
    refine ⟨zput (zput (zput (zput w 255 25 (ii D.2.1)) 255 26 1) 266 0 D.1) 255 26 1, rfl, ?_, ?_, zPf_trans (zPf_trans (zPf_trans (zPf_5 (by omega)) (zPf_5 (by omega))) zPf_6) (zPf_5 (by omega)), ?_, fun a h => by cases h⟩
    · simp (disch := omega) only [zput_at, zput_ne, upd_ne, upd_at]
    · simp (disch := omega) only [zput_at, zput_ne, upd_ne, upd_at]
    · simp (disch := omega) only [zput_at, zput_ne, upd_ne, upd_at]
  · have ht := e8_takes (S := S) (w := zput (zput (zput w 255 25 (ii D.2.1)) 255 26 0) 266 0 D.1) (len := len) (p := D.2.1) hL (by rw [zput_ne (by omega), zput_at, upd_at]) (by rw [zput_ne (by omega), zput_at, upd_ne (by omega), zput_at, upd_ne (by omega)]; exact h4) hl (by rw [zput_ne (by omega), zput_at, upd_ne (by omega), zput_at, upd_at]) (by omega) 59
    rw [zput_ne (a := 266) (j := 265) (by omega), zput_ne (a := 255) (j := 265) (by omega), zput_ne (a := 255) (j := 265) (by omega)] at ht
    rw [if_neg h0, if_neg h0, ht, zbs]
    dsimp only
    by_cases h9 : pL (w 265) len D.2.1 = 59
    · rw [if_pos h9, if_pos h9]
      refine ⟨zput (zput (zput (zput w 255 25 (ii D.2.1)) 255 26 0) 266 0 D.1) 255 25 (ii (D.2.1 + 1)), rfl, ?_, ?_, zPf_trans (zPf_trans (zPf_trans (zPf_5 (by omega)) (zPf_5 (by omega))) zPf_6) (zPf_5 (by omega)), ?_, fun a h => ?_⟩
      · simp (disch := omega) only [zput_at, zput_ne, upd_ne, upd_at]
      · simp (disch := omega) only [zput_at, zput_ne, upd_ne, upd_at]
      · simp (disch := omega) only [zput_at, zput_ne, upd_ne, upd_at]
      · simp (disch := omega) only [zput_at, zput_ne, upd_ne, upd_at]
        exact (Option.some.inj h).symm
    · rw [if_neg h9, if_neg h9]
      refine ⟨zput (zput (zput (zput w 255 25 (ii D.2.1)) 255 26 0) 266 0 D.1) 255 26 1, rfl, ?_, ?_, zPf_trans (zPf_trans (zPf_trans (zPf_5 (by omega)) (zPf_5 (by omega))) zPf_6) (zPf_5 (by omega)), ?_, fun a h => by cases h⟩
      · simp (disch := omega) only [zput_at, zput_ne, upd_ne, upd_at]
      · simp (disch := omega) only [zput_at, zput_ne, upd_ne, upd_at]
      · simp (disch := omega) only [zput_at, zput_ne, upd_ne, upd_at]
theorem e8_j93e (hL : zLay S) (h6 : w 255 26 = 1) (c : Int32) : ∃ w', f_X8_command_j93 S w 255 c = some (c, w') ∧ w' 255 25 = w 255 25 ∧ w' 255 26 = 1 ∧ zPf w w' := by
  have z0 : zin (0 : Int32) 2 = true := by decide
  have z00 : zix (0 : Int32) = 0 := by decide
  unfold f_X8_command_j93 f_X8_command_j116
  rw [if_neg (by rw [h6]; decide), zt255_23 hL, ztl266 hL, if_pos z0, z00, zlet_eq, e8_takes1 (by rw [zput_ne (by omega)]; exact h6) (by decide), zbs]
  refine ⟨zput (zput w 266 0 0) 255 26 1, rfl, ?_, ?_, zPf_trans zPf_6 (zPf_5 (by omega))⟩
  · simp (disch := omega) only [zput_at, zput_ne, upd_ne, upd_at]
  · simp (disch := omega) only [zput_at, zput_ne, upd_ne, upd_at]
end ZTZ
