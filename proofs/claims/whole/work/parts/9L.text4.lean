/-! COMMANDS AS TEXTS, the reference's command. -/
section ZTW
variable {S : Zs} {w : Zw} {B B' n k v : Nat} {s t : Nat → Int32} {len p i : Nat}
theorem pDg_1 (q : Nat) : (pL t len q = 48 ∨ pL t len q = 49) ∧ pDg t len 49 1 0 q 0 = (pL t len q - 48, q + 1, 1) ∨ ¬ (pL t len q = 48 ∨ pL t len q = 49) ∧ pDg t len 49 1 0 q 0 = (0, q, 0) := by
  have e : pDg t len 49 1 0 q 0 = if pL t len q < 48 ∨ 49 < pL t len q then (0, q, 0) else (10 * 0 + pL t len q - 48, q + 1, 0 + 1) := rfl
  by_cases h : pL t len q = 48 ∨ pL t len q = 49
  · refine Or.inl ⟨h, ?_⟩
    rw [e, if_neg]
    · congr 1
      grind
    · rcases h with h | h <;> rw [h] <;> decide
  · refine Or.inr ⟨h, ?_⟩
    rw [e, if_pos]
    have h1 : ¬ pL t len q = 48 := fun q => h (Or.inl q)
    have h2 : ¬ pL t len q = 49 := fun q => h (Or.inr q)
    by_cases h3 : pL t len q < 48
    · exact Or.inl h3
    · by_cases h4 : 49 < pL t len q
      · exact Or.inr h4
      · exfalso
        obtain ⟨m, hm, e⟩ := ii_rng (b := pL t len q) (m := 49) (by omega) ⟨by grind, by show pL t len q ≤ (49 : Int32); grind⟩
        rw [e] at h1 h2 h3
        have a1 : ¬ m = 48 := fun q => h1 (by rw [q]; rfl)
        have a2 : ¬ m = 49 := fun q => h2 (by rw [q]; rfl)
        have a3 : ¬ m < 48 := fun q => h3 (by rw [show (48 : Int32) = ii 48 from rfl, ii_lt (by omega) (by omega)]; exact q)
        omega
theorem e8_cmd (hL : zLay S) (h6 : w 255 26 = 0) (h4 : w 255 24 = ii len) (hl : len ≤ 60) (h5 : w 255 25 = ii p) (hp : p ≤ len) :
    ∃ k w', f_X8_command S w 255 = some (k, w') ∧ w' 255 25 = ii (pCmd (w 265) len p).1 ∧ w' 255 26 = (match (pCmd (w 265) len p).2 with | none => 1 | some _ => 0) ∧ zPf w w' ∧ ∀ a, (pCmd (w 265) len p).2 = some a → k = a.1 ∧ (a.1 = 115 → w' 266 1 = a.2.1) ∧ w' 266 0 = a.2.2 := by
  have z1 : zin (1 : Int32) 2 = true := by decide
  have z11 : zix (1 : Int32) = 1 := by decide
  unfold f_X8_command pCmd
  rw [e8_sign hL h6 h4 hl h5 (by omega), zbs, h6, pKd_if]
  by_cases hk : pKd (pL (w 265) len p) = true
  · obtain ⟨k1, k2, k3⟩ := pKd_ok hk
    have hpl : p < len := pL_lt rfl k3
    have ew : zput w 255 26 ((0 : Int32) ||| 0) = w := by
      rw [show (0 : Int32) ||| 0 = w 255 26 from h6.symm]
      exact zput_self
    rw [if_pos hk, if_pos hk]
    unfold f_X8_command_j44 f_X8_command_j45
    rw [if_pos (by decide), ew, zlet_eq, if_pos h6, h5, ii_succ, zlet_eq]
    have u6 : zput w 255 25 (ii (p + 1)) 255 26 = 0 := by rw [zput_at, upd_ne (by omega)]; exact h6
    have u4 : zput w 255 25 (ii (p + 1)) 255 24 = ii len := by rw [zput_at, upd_ne (by omega)]; exact h4
    have u5 : zput w 255 25 (ii (p + 1)) 255 25 = ii (p + 1) := by rw [zput_at, upd_at]
    have uf : zPf w (zput w 255 25 (ii (p + 1))) := zPf_5 (by omega)
    have ut : zput w 255 25 (ii (p + 1)) 265 = w 265 := zput_ne (by omega)
    generalize zput w 255 25 (ii (p + 1)) = u at *
    by_cases h1 : pL (w 265) len p = 115
    · have hn := e8_number (S := S) (w := u) hL u6 u4 hl u5 (by omega) (hi := 49) (m := 1) (by omega)
      have hn : f_X8_number S u 255 1 49 = _ := hn
      rw [ut] at hn
      rw [if_pos h1, if_pos h1, h1, hn, zbs, zt255_23 hL, ztl266 hL, if_pos z1, z11, zlet_eq]
      rcases pDg_1 (t := w 265) (len := len) (p + 1) with ⟨g, e⟩ | ⟨g, e⟩
      · rw [e]
        dsimp only
        rw [if_neg (show ¬ (1 : Nat) = 0 by decide), if_pos g]
        have hp2 : p + 1 < len := pL_lt rfl (fun q => by rcases g with h | h <;> rw [h] at q <;> exact absurd q (by decide))
        have ht := e8_takes (S := S) (w := zput (zput (zput u 255 25 (ii (p + 1 + 1))) 255 26 0) 266 1 (pL (w 265) len (p + 1) - 48)) (len := len) (p := p + 1 + 1) hL (by rw [zput_ne (by omega), zput_at, upd_at]) (by rw [zput_ne (by omega), zput_at, upd_ne (by omega), zput_at, upd_ne (by omega)]; exact u4) hl (by rw [zput_ne (by omega), zput_at, upd_ne (by omega), zput_at, upd_at]) (by omega) 44
        rw [zput_ne (a := 266) (j := 265) (by omega), zput_ne (a := 255) (j := 265) (by omega), zput_ne (a := 255) (j := 265) (by omega), ut] at ht
        have fF : zPf w (zput (zput (zput u 255 25 (ii (p + 1 + 1))) 255 26 0) 266 1 (pL (w 265) len (p + 1) - 48)) := zPf_trans uf (zPf_trans (zPf_trans (zPf_5 (by omega)) (zPf_5 (by omega))) zPf_6)
        rw [ht, zbs]
        dsimp only
        have v6 : zput (zput (zput u 255 25 (ii (p + 1 + 1))) 255 26 0) 266 1 (pL (w 265) len (p + 1) - 48) 255 26 = 0 := by simp (disch := omega) only [zput_at, zput_ne, upd_ne, upd_at]
        have v4 : zput (zput (zput u 255 25 (ii (p + 1 + 1))) 255 26 0) 266 1 (pL (w 265) len (p + 1) - 48) 255 24 = ii len := by simp (disch := omega) only [zput_at, zput_ne, upd_ne, upd_at]; exact u4
        have v5 : zput (zput (zput u 255 25 (ii (p + 1 + 1))) 255 26 0) 266 1 (pL (w 265) len (p + 1) - 48) 255 25 = ii (p + 1 + 1) := by simp (disch := omega) only [zput_at, zput_ne, upd_ne, upd_at]
        have v1 : zput (zput (zput u 255 25 (ii (p + 1 + 1))) 255 26 0) 266 1 (pL (w 265) len (p + 1) - 48) 266 1 = pL (w 265) len (p + 1) - 48 := by simp (disch := omega) only [zput_at, zput_ne, upd_ne, upd_at]
        generalize zput (zput (zput u 255 25 (ii (p + 1 + 1))) 255 26 0) 266 1 (pL (w 265) len (p + 1) - 48) = u2 at *
        by_cases h9 : pL (w 265) len (p + 1 + 1) = 44
        · have hp3 : p + 1 + 1 < len := pL_lt h9 (by decide)
          obtain ⟨w', r1, r2, r3, r4, r5, r6⟩ := e8_j93 (S := S) (w := zput u2 255 25 (ii (p + 1 + 1 + 1))) (len := len) (p := p + 1 + 1 + 1) hL (by rw [zput_at, upd_ne (by omega)]; exact v6) (by rw [zput_at, upd_ne (by omega)]; exact v4) hl (by rw [zput_at, upd_at]) (by omega) 115 (pL (w 265) len (p + 1) - 48)
          rw [zput_ne (a := 255) (j := 265) (by omega), fF.1 265 (by omega) (by omega)] at r2 r3 r6
          rw [if_pos h9, r1, if_pos h9, show p + 3 = p + 1 + 1 + 1 by omega]
          refine ⟨115, w', rfl, r2, r3, zPf_trans (zPf_trans fF (zPf_5 (by omega))) r4, fun a ha => ?_⟩
          have := r6 a ha
          rw [this]
          exact ⟨rfl, fun _ => by rw [r5, zput_ne (by omega)]; exact v1, rfl⟩
        · obtain ⟨w', r1, r2, r3, r4⟩ := e8_j93e (S := S) (w := zput u2 255 26 1) hL (by rw [zput_at, upd_at]) 115
          rw [if_neg h9, r1, if_neg h9]
          refine ⟨115, w', rfl, ?_, r3, zPf_trans (zPf_trans fF (zPf_5 (by omega))) r4, fun a ha => by cases ha⟩
          rw [r2, zput_at, upd_ne (by omega), v5]
      · rw [e]
        dsimp only
        rw [if_pos rfl, if_neg g, e8_takes1 (by rw [zput_ne (by omega), zput_at, upd_at]) (by decide), zbs]
        dsimp only
        have fF : zPf w (zput (zput (zput (zput u 255 25 (ii (p + 1))) 255 26 1) 266 1 0) 255 26 1) := zPf_trans uf (zPf_trans (zPf_trans (zPf_trans (zPf_5 (by omega)) (zPf_5 (by omega))) zPf_6) (zPf_5 (by omega)))
        obtain ⟨w', r1, r2, r3, r4⟩ := e8_j93e (S := S) (w := zput (zput (zput (zput u 255 25 (ii (p + 1))) 255 26 1) 266 1 0) 255 26 1) hL (by rw [zput_at, upd_at]) 115
        rw [r1]
        refine ⟨115, w', rfl, ?_, r3, zPf_trans fF r4, fun a ha => by cases ha⟩
        rw [r2]
        simp (disch := omega) only [zput_at, zput_ne, upd_ne, upd_at]
    · obtain ⟨w', r1, r2, r3, r4, r5, r6⟩ := e8_j93 (S := S) (w := u) (len := len) (p := p + 1) hL u6 u4 hl u5 (by omega) (pL (w 265) len p) 0
      rw [ut] at r2 r3 r6
      rw [if_neg h1, if_neg h1, r1]
      refine ⟨_, w', rfl, r2, r3, zPf_trans uf r4, fun a ha => ?_⟩
      have := r6 a ha
      rw [this]
      exact ⟨rfl, fun q => absurd q h1, rfl⟩
  · have ew : zput w 255 26 ((0 : Int32) ||| 1) = zput w 255 26 1 := rfl
    rw [if_neg hk, if_neg hk]
    unfold f_X8_command_j45
    rw [if_pos (by decide), ew, zlet_eq, if_neg (by rw [zput_at, upd_at]; decide)]
    exact ⟨_, zput w 255 26 1, rfl, by rw [zput_at, upd_ne (by omega)]; exact h5, by rw [zput_at, upd_at], zPf_5 (by omega), fun a ha => by cases ha⟩
end ZTW
