/-! COMMANDS AS TEXTS, one command on both sides. -/
section ZTY
variable {S : Zs} {w : Zw} {B B' n k v : Nat} {s t : Nat → Int32} {len p i : Nat}
theorem pKd_if {A : Type} (c : Int32) (a b : A) : (if c = 115 then a else if c = 114 then a else if c = 116 then a else if c = 99 then a else if c = 111 then a else b) = if pKd c = true then a else b := by
  unfold pKd
  by_cases h1 : c = 115
  · rw [if_pos h1, if_pos (decide_eq_true (Or.inl h1))]
  · by_cases h2 : c = 114
    · rw [if_neg h1, if_pos h2, if_pos (decide_eq_true (Or.inr (Or.inl h2)))]
    · by_cases h3 : c = 116
      · rw [if_neg h1, if_neg h2, if_pos h3, if_pos (decide_eq_true (Or.inr (Or.inr (Or.inl h3))))]
      · by_cases h4 : c = 99
        · rw [if_neg h1, if_neg h2, if_neg h3, if_pos h4, if_pos (decide_eq_true (Or.inr (Or.inr (Or.inr (Or.inl h4)))))]
        · by_cases h5 : c = 111
          · rw [if_neg h1, if_neg h2, if_neg h3, if_neg h4, if_pos h5, if_pos (decide_eq_true (Or.inr (Or.inr (Or.inr (Or.inr h5)))))]
          · rw [if_neg h1, if_neg h2, if_neg h3, if_neg h4, if_neg h5, if_neg]
            intro q
            rcases of_decide_eq_true q with q | q | q | q | q
            · exact h1 q
            · exact h2 q
            · exact h3 q
            · exact h4 q
            · exact h5 q
theorem pKd_ok {c : Int32} (h : pKd c = true) : vp_nar .char (zi2c c) = c ∧ zch c = true ∧ c ≠ -1 := by
  rcases of_decide_eq_true h with rfl | rfl | rfl | rfl | rfl <;> exact ⟨by decide, by decide, by decide⟩
theorem zTf_trans {a b c : Zw} (h : zTf i a b) (h' : zTf i b c) : zTf i a c := ⟨fun j p q => (h'.1 j p q).trans (h.1 j p q), fun q p => (h'.2.1 q p).trans (h.2.1 q p), fun j p q r => (h'.2.2 j p q r).trans (h.2.2 j p q r)⟩
theorem zTf_put {u x : Int32} {j : Nat} (hj : 251 ≤ j ∧ j < 254) : zTf i w (zput (zput w j i x) 249 5 u) := by
  refine ⟨fun j' a b => by rw [zput_ne a, zput_ne (by omega)], fun q hq => by rw [zput_at, upd_ne hq, zput_ne (by omega)], fun j' a q hq => ?_⟩
  rw [zput_ne (by omega)]
  by_cases e : j' = j
  · subst e
    rw [zput_at, upd_ne hq]
  · rw [zput_ne e]
theorem c7_size (hL : zLay S) (h4 : w 249 4 = ii len) (hl : len ≤ 60) (h5 : w 249 5 = ii p) (hp : p ≤ len) (hi : i < 20) :
    ∃ w', f_X0_readSize S w 249 (ii i) = some ((if (pL (w 250) len p = 48 ∨ pL (w 250) len p = 49) ∧ pL (w 250) len (p + 1) = 44 then 1 else 0), w') ∧ w' 249 5 = ii (if pL (w 250) len p = 48 ∨ pL (w 250) len p = 49 then (if pL (w 250) len (p + 1) = 44 then p + 2 else p + 1) else p) ∧ zTf i w w' ∧ w' 251 = w 251 ∧ (pL (w 250) len p = 48 ∨ pL (w 250) len p = 49 → w' 252 i = pL (w 250) len p - 48) := by
  have hz : zin (ii i) 20 = true := zin_t (by omega) (by omega)
  have hx : zix (ii i) = i := zix_ii (by omega)
  unfold f_X0_readSize
  rw [c7_letter hL h4 hl h5 (by omega), zbs]
  by_cases h : pL (w 250) len p = 48 ∨ pL (w 250) len p = 49
  · have hc : ∀ {A : Type} (a b : A), (if pL (w 250) len p = 48 then a else if pL (w 250) len p = 49 then a else b) = a := by
      intro A a b
      rcases h with h | h
      · rw [if_pos h]
      · rw [if_neg (by rw [h]; decide), if_pos h]
    have hpl : p < len := pL_lt rfl (fun q => by rcases h with h | h <;> rw [h] at q <;> exact absurd q (by decide))
    have e5 : zput w 252 i (pL (w 250) len p - 48) 249 5 = ii p := by rw [zput_ne (by omega)]; exact h5
    have hlet := c7_letter (S := S) (w := zput (zput w 252 i (pL (w 250) len p - 48)) 249 5 (ii (p + 1))) (len := len) (p := p + 1) hL (by rw [zput_at, upd_ne (by omega), zput_ne (by omega)]; exact h4) hl (by rw [zput_at, upd_at]) (by omega)
    rw [zput_ne (by omega), zput_ne (by omega)] at hlet
    have e6 : zput (zput w 252 i (pL (w 250) len p - 48)) 249 5 (ii (p + 1)) 249 5 = ii (p + 1) := by rw [zput_at, upd_at]
    rw [hc, if_pos h]
    unfold f_X0_readSize_j19 f_X0_readLetter
    rw [zt249_2 hL, ztl252 hL, if_pos hz, hx, zlet_eq, e5, ii_succ, zlet_eq, hlet, zbs, e6, zput_zput]
    by_cases h9 : pL (w 250) len (p + 1) = 44
    · rw [if_pos h9, if_pos ⟨h, h9⟩, zlet_eq, zbs, if_pos (show zb1 (1 : Int32) = true by decide), if_pos h9, ii_succ]
      exact ⟨_, rfl, by dsimp only; rw [zput_at, upd_at], zTf_put (by omega), by dsimp only; rw [zput_ne (by omega), zput_ne (by omega)], fun _ => by dsimp only; rw [zput_ne (by omega), zput_at, upd_at]⟩
    · rw [if_neg h9, if_neg (fun q => h9 q.2), zbs, if_pos (show zb1 (0 : Int32) = true by decide), if_neg h9]
      exact ⟨_, rfl, by dsimp only; rw [zput_at, upd_at], zTf_put (by omega), by dsimp only; rw [zput_ne (by omega), zput_ne (by omega)], fun _ => by dsimp only; rw [zput_ne (by omega), zput_at, upd_at]⟩
  · rw [if_neg (fun q => h (Or.inl q)), if_neg (fun q => h (Or.inr q)), if_neg (fun q => h q.1), if_neg h]
    exact ⟨w, rfl, h5, ⟨fun _ _ _ => rfl, fun _ _ => rfl, fun _ _ _ _ => rfl⟩, rfl, fun q => absurd q h⟩
theorem c7_cmd (hL : zLay S) (h4 : w 249 4 = ii len) (hl : len ≤ 60) (h5 : w 249 5 = ii p) (hp : p ≤ len) (hi : i < 20) :
    ∃ w', f_X0_readCommand S w 249 (ii i) = some ((match (pCmd (w 250) len p).2 with | none => 0 | some _ => 1), w') ∧ w' 249 5 = ii (pCmd (w 250) len p).1 ∧ zTf i w w' ∧ ∀ a, (pCmd (w 250) len p).2 = some a → w' 251 i = a.1 ∧ (a.1 = 115 → w' 252 i = a.2.1) ∧ w' 253 i = a.2.2 := by
  have hz : zin (ii i) 20 = true := zin_t (by omega) (by omega)
  have hx : zix (ii i) = i := zix_ii (by omega)
  unfold f_X0_readCommand pCmd
  rw [c7_letter hL h4 hl h5 (by omega), zbs, pKd_if]
  by_cases hk : pKd (pL (w 250) len p) = true
  · obtain ⟨k1, k2, k3⟩ := pKd_ok hk
    have hpl : p < len := pL_lt rfl k3
    have e5 : zput w 251 i (pL (w 250) len p) 249 5 = ii p := by rw [zput_ne (by omega)]; exact h5
    have h4' : zput (zput w 251 i (pL (w 250) len p)) 249 5 (ii (p + 1)) 249 4 = ii len := by rw [zput_at, upd_ne (by omega), zput_ne (by omega)]; exact h4
    have h5' : zput (zput w 251 i (pL (w 250) len p)) 249 5 (ii (p + 1)) 249 5 = ii (p + 1) := by rw [zput_at, upd_at]
    have h25 : zput (zput w 251 i (pL (w 250) len p)) 249 5 (ii (p + 1)) 250 = w 250 := by rw [zput_ne (by omega), zput_ne (by omega)]
    have h251 : zput (zput w 251 i (pL (w 250) len p)) 249 5 (ii (p + 1)) 251 i = pL (w 250) len p := by rw [zput_ne (by omega), zput_at, upd_at]
    have hf0 : zTf i w (zput (zput w 251 i (pL (w 250) len p)) 249 5 (ii (p + 1))) := zTf_put (by omega)
    rw [if_pos hk, if_pos hk]
    unfold f_X0_readCommand_j37
    rw [zt249_1 hL, ztl251 hL, if_pos hz, hx, k1, zlet_eq, e5, ii_succ, zlet_eq]
    generalize zput (zput w 251 i (pL (w 250) len p)) 249 5 (ii (p + 1)) = u at *
    by_cases h1 : pL (w 250) len p = 115
    · obtain ⟨w1, g1, g2, g3, g4, g5⟩ := c7_size (S := S) (w := u) (len := len) (p := p + 1) hL h4' hl h5' (by omega) hi
      rw [h25] at g1 g2 g5
      rw [if_pos h1, if_pos h1]
      by_cases h2 : pL (w 250) len (p + 1) = 48 ∨ pL (w 250) len (p + 1) = 49
      · by_cases h3 : pL (w 250) len (p + 1 + 1) = 44
        · have hp2 : p + 1 < len := pL_lt rfl (fun q => by rcases h2 with h | h <;> rw [h] at q <;> exact absurd q (by decide))
          have hp3 : p + 1 + 1 < len := pL_lt h3 (by decide)
          rw [if_pos h2, if_pos h3] at g2
          obtain ⟨w2, r1, r2, r3, r4, r5, r6⟩ := c7_j69 (S := S) (w := w1) (len := len) (p := p + 1 + 2) (i := i) hL (by rw [g3.2.1 4 (by omega), h4']) hl g2 (by omega) hi 115 (pL (w 250) len (p + 1) - 48)
          rw [g3.1 250 (by omega) (by omega), h25] at r1 r2 r6
          rw [if_pos ⟨h2, h3⟩] at g1
          rw [g1, zbs, if_neg (show ¬ (1 : Int32) = 0 by decide), if_pos h2, if_pos h3, show p + 3 = p + 1 + 2 by omega, r1]
          refine ⟨w2, rfl, r2, zTf_trans hf0 (zTf_trans g3 r3), fun a ha => ?_⟩
          have := r6 a ha
          rw [this]
          exact ⟨by rw [r4, g4, h251]; exact h1, fun _ => by rw [r5]; exact g5 h2, rfl⟩
        · rw [if_pos h2, if_neg h3] at g2
          rw [if_neg (fun q => h3 q.2)] at g1
          rw [g1, zbs, if_pos rfl, if_pos h2, if_neg h3]
          exact ⟨w1, rfl, g2, zTf_trans hf0 g3, fun a ha => by cases ha⟩
      · rw [if_neg h2] at g2
        rw [if_neg (fun q => h2 q.1)] at g1
        rw [g1, zbs, if_pos rfl, if_neg h2]
        exact ⟨w1, rfl, g2, zTf_trans hf0 g3, fun a ha => by cases ha⟩
    · obtain ⟨w2, r1, r2, r3, r4, r5, r6⟩ := c7_j69 (S := S) (w := u) (len := len) (p := p + 1) (i := i) hL h4' hl h5' (by omega) hi (pL (w 250) len p) 0
      rw [h25] at r1 r2 r6
      rw [if_neg h1, if_neg h1, r1]
      refine ⟨w2, rfl, r2, zTf_trans hf0 r3, fun a ha => ?_⟩
      have := r6 a ha
      rw [this]
      exact ⟨by rw [r4]; exact h251, fun q => absurd q h1, rfl⟩
  · rw [if_neg hk, if_neg hk]
    exact ⟨w, rfl, h5, ⟨fun _ _ _ => rfl, fun _ _ => rfl, fun _ _ _ _ => rfl⟩, fun a h => by cases h⟩
end ZTY
