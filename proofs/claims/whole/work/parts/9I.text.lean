/-! COMMANDS AS TEXTS, how they are read. -/
section ZTX
variable {S : Zs} {w : Zw} {B B' n k v : Nat} {s t : Nat → Int32} {len p i : Nat}
def pL (t : Nat → Int32) (len p : Nat) : Int32 := if len ≤ p then -1 else t p
theorem pL_lt {c : Int32} (h : pL t len p = c) (hc : c ≠ -1) : p < len := by
  by_cases e : len ≤ p
  · unfold pL at h
    rw [if_pos e] at h
    exact absurd h.symm hc
  · omega
/-- digits: the number, the place behind them, how many -/
def pDg (t : Nat → Int32) (len : Nat) (hi : Int32) : Nat → Int32 → Nat → Nat → Int32 × Nat × Nat
  | 0, x, p, c => (x, p, c)
  | m + 1, x, p, c => if pL t len p < 48 ∨ hi < pL t len p then (x, p, c) else pDg t len hi m (10 * x + pL t len p - 48) (p + 1) (c + 1)
theorem pDg_ok {hi : Int32} (m : Nat) : ∀ (x : Int32) (p c : Nat), (pDg t len hi m x p c).2.1 + c = p + (pDg t len hi m x p c).2.2 ∧ c ≤ (pDg t len hi m x p c).2.2 ∧ (pDg t len hi m x p c).2.2 ≤ c + m ∧ (p ≤ len → (pDg t len hi m x p c).2.1 ≤ len) := by
  induction m with
  | zero => exact fun x p c => ⟨rfl, Nat.le_refl _, Nat.le_refl _, fun h => h⟩
  | succ m ih =>
    intro x p c
    unfold pDg
    split
    · exact ⟨rfl, Nat.le_refl _, Nat.le_add_right _ _, fun h => h⟩
    · rename_i h
      obtain ⟨h1, h2, h3, h4⟩ := ih (10 * x + pL t len p - 48) (p + 1) (c + 1)
      refine ⟨by omega, by omega, by omega, fun _ => h4 ?_⟩
      have : p < len := pL_lt rfl (fun q => h (Or.inl (by rw [q]; decide)))
      omega
def pNm (t : Nat → Int32) (len p : Nat) (c z : Int32) : Nat × Option (Int32 × Int32 × Int32) :=
  if (pDg t len 57 4 0 p 0).2.2 = 0 then ((pDg t len 57 4 0 p 0).2.1, none) else if pL t len (pDg t len 57 4 0 p 0).2.1 = 59 then ((pDg t len 57 4 0 p 0).2.1 + 1, some (c, z, (pDg t len 57 4 0 p 0).1)) else ((pDg t len 57 4 0 p 0).2.1, none)
def pKd (c : Int32) : Bool := decide (c = 115 ∨ c = 114 ∨ c = 116 ∨ c = 99 ∨ c = 111)
def pCmd (t : Nat → Int32) (len p : Nat) : Nat × Option (Int32 × Int32 × Int32) :=
  if pKd (pL t len p) = true then (if pL t len p = 115 then (if pL t len (p + 1) = 48 ∨ pL t len (p + 1) = 49 then (if pL t len (p + 2) = 44 then pNm t len (p + 3) 115 (pL t len (p + 1) - 48) else (p + 2, none)) else (p + 1, none)) else pNm t len (p + 1) (pL t len p) 0) else (p, none)
theorem c7_letter (hL : zLay S) (h4 : w 249 4 = ii len) (hl : len ≤ 60) (h5 : w 249 5 = ii p) (hp : p ≤ 70) : f_X0_letterHere S w 249 = some (pL (w 250) len p) := by
  unfold f_X0_letterHere pL
  rw [h4, h5]
  by_cases h : len ≤ p
  · rw [if_pos (by rw [ii_le (by omega) (by omega)]; exact h), if_pos h]
  · rw [if_neg (by rw [ii_le (by omega) (by omega)]; exact h), if_neg h, zt249_0 hL, ztl250 hL, if_pos (zin_t (by omega) (by omega)), zix_ii (by omega)]
theorem c7_digits (hL : zLay S) (h4 : w 249 4 = ii len) (hl : len ≤ 60) (i : Int32) (m : Nat) : ∀ (c : Nat) (x : Int32) (p : Nat), c + m = 4 → p ≤ len → ∀ N, m < N → zlp (fun k a => f_X0_readNumber_b4 S 249 i k a.1 a.2.1 a.2.2) N (x, ii c, zput w 249 5 (ii p)) = f_X0_readNumber_j56 S (zput w 249 5 (ii (pDg (w 250) len 57 m x p c).2.1)) 249 i (pDg (w 250) len 57 m x p c).1 (ii (pDg (w 250) len 57 m x p c).2.2) := by
  induction m with
  | zero =>
    intro c x p hc hp N hN
    obtain ⟨N, rfl⟩ : ∃ N', N = N' + 1 := ⟨N - 1, by omega⟩
    show f_X0_readNumber_b4 S 249 i _ x (ii c) (zput w 249 5 (ii p)) = _
    have hc : c = 4 := by omega
    subst hc
    unfold f_X0_readNumber_b4
    rw [if_pos (by decide)]
    rfl
  | succ m ih =>
    intro c x p hc hp N hN
    obtain ⟨N, rfl⟩ : ∃ N', N = N' + 1 := ⟨N - 1, by omega⟩
    show f_X0_readNumber_b4 S 249 i (zlp (fun k a => f_X0_readNumber_b4 S 249 i k a.1 a.2.1 a.2.2) N) x (ii c) (zput w 249 5 (ii p)) = _
    obtain ⟨KK, hKK⟩ : ∃ KK, KK = zlp (fun k a => f_X0_readNumber_b4 S 249 i k a.1 a.2.1 a.2.2) N := ⟨_, rfl⟩
    rw [← hKK]
    have hlet := c7_letter (S := S) (w := zput w 249 5 (ii p)) (len := len) (p := p) hL (by rw [zput_at, upd_ne (by omega)]; exact h4) hl (by rw [zput_at, upd_at]) (by omega)
    rw [zput_ne (by omega)] at hlet
    have h55 : zput w 249 5 (ii p) 249 5 = ii p := by rw [zput_at, upd_at]
    unfold f_X0_readNumber_b4
    rw [if_neg (by rw [show (4 : Int32) = ii 4 from rfl, ii_le (by omega) (by omega)]; omega), hlet, zbs, zbs, zbs, h55, zput_zput, zlet_eq, zlet_eq, ii_succ, ii_succ]
    unfold pDg
    by_cases h1 : pL (w 250) len p < 48
    · rw [if_pos h1, if_pos (Or.inl h1)]
    · by_cases h2 : 57 < pL (w 250) len p
      · rw [if_neg h1, if_pos h2, if_pos (Or.inr h2)]
      · have hlt : p < len := pL_lt rfl (fun q => h1 (by rw [q]; decide))
        rw [if_neg h1, if_neg h2, if_neg (fun q => q.elim h1 h2)]
        have := ih (c + 1) (10 * x + pL (w 250) len p - 48) (p + 1) (by omega) (by omega) N (by omega)
        rw [← hKK] at this
        rw [show x * 10 + pL (w 250) len p - 48 = 10 * x + pL (w 250) len p - 48 by grind]
        exact this
def zTf (i : Nat) (w w' : Zw) : Prop := (∀ j, j ≠ 249 → j < 251 ∨ 254 ≤ j → w' j = w j) ∧ (∀ q, q ≠ 5 → w' 249 q = w 249 q) ∧ ∀ j, (251 ≤ j ∧ j < 254) → ∀ q, q ≠ i → w' j q = w j q
theorem c7_j69 (hL : zLay S) (h4 : w 249 4 = ii len) (hl : len ≤ 60) (h5 : w 249 5 = ii p) (hp : p ≤ len) (hi : i < 20) (c z : Int32) :
    ∃ w', f_X0_readCommand_j69 S w 249 (ii i) = some ((match (pNm (w 250) len p c z).2 with | none => 0 | some _ => 1), w') ∧ w' 249 5 = ii (pNm (w 250) len p c z).1 ∧ zTf i w w' ∧ w' 251 = w 251 ∧ w' 252 = w 252 ∧ ∀ a, (pNm (w 250) len p c z).2 = some a → a = (c, z, w' 253 i) := by
  have hd := c7_digits (S := S) (w := w) hL h4 hl (ii i) 4 0 0 p (by omega) hp zFU (by unfold zFU; omega)
  have hself : zput w 249 5 (ii p) = w := by rw [← h5]; exact zput_self
  rw [hself] at hd
  obtain ⟨g1, g2, g3, g4⟩ := pDg_ok (t := w 250) (len := len) (hi := 57) 4 0 p 0
  have g4 := g4 hp
  have hz : zin (ii i) 20 = true := zin_t (by omega) (by omega)
  have hx : zix (ii i) = i := zix_ii (by omega)
  have hd : f_X0_readNumber S w 249 (ii i) = _ := hd
  unfold f_X0_readCommand_j69 pNm
  rw [hd]
  generalize pDg (w 250) len 57 4 0 p 0 = D at *
  unfold f_X0_readNumber_j56
  rw [zt249_3 hL, ztl253 hL, if_pos hz, zlet_eq, hx]
  by_cases h0 : D.2.2 = 0
  · rw [h0, if_pos (by decide), zbs, if_pos rfl, if_pos rfl]
    refine ⟨zput (zput w 249 5 (ii D.2.1)) 253 i D.1, rfl, by rw [zput_ne (by omega), zput_at, upd_at], ⟨fun j a b => by rw [zput_ne (by omega), zput_ne a], fun q hq => by rw [zput_ne (by omega), zput_at, upd_ne hq], fun j a q hq => ?_⟩, by rw [zput_ne (by omega), zput_ne (by omega)], by rw [zput_ne (by omega), zput_ne (by omega)], fun a h => by cases h⟩
    by_cases e : j = 253
    · subst e
      rw [zput_at, upd_ne hq, zput_ne (by omega)]
    · rw [zput_ne e, zput_ne (by omega)]
  · have hlet := c7_letter (S := S) (w := zput (zput w 249 5 (ii D.2.1)) 253 i D.1) (len := len) (p := D.2.1) hL (by rw [zput_ne (by omega), zput_at, upd_ne (by omega)]; exact h4) hl (by rw [zput_ne (by omega), zput_at, upd_at]) (by omega)
    rw [zput_ne (by omega), zput_ne (by omega)] at hlet
    have h55 : zput (zput w 249 5 (ii D.2.1)) 253 i D.1 249 5 = ii D.2.1 := by rw [zput_ne (by omega), zput_at, upd_at]
    unfold f_X0_readLetter
    rw [if_neg (by rw [show (0 : Int32) = ii 0 from rfl, ii_le (by omega) (by omega)]; omega), zbs, if_neg (show ¬ (1 : Int32) = 0 by decide), if_neg h0]
    dsimp only
    rw [hlet, zbs, h55]
    by_cases h9 : pL (w 250) len D.2.1 = 59
    · rw [if_pos h9, zlet_eq, zbs, if_neg (show ¬ (1 : Int32) = 0 by decide), if_pos h9]
      refine ⟨zput (zput (zput w 249 5 (ii D.2.1)) 253 i D.1) 249 5 (ii D.2.1 + 1), rfl, by rw [zput_at, upd_at, ii_succ], ⟨fun j a b => by rw [zput_ne (by omega), zput_ne (by omega), zput_ne a], fun q hq => by rw [zput_at, upd_ne hq, zput_ne (by omega), zput_at, upd_ne hq], fun j a q hq => ?_⟩, by rw [zput_ne (by omega), zput_ne (by omega), zput_ne (by omega)], by rw [zput_ne (by omega), zput_ne (by omega), zput_ne (by omega)], fun a h => ?_⟩
      · rw [zput_ne (by omega)]
        by_cases e : j = 253
        · subst e
          rw [zput_at, upd_ne hq, zput_ne (by omega)]
        · rw [zput_ne e, zput_ne (by omega)]
      · rw [zput_ne (by omega), zput_at, upd_at]
        exact (Option.some.inj h).symm
    · rw [if_neg h9, zbs, if_pos rfl, if_neg h9]
      refine ⟨zput (zput w 249 5 (ii D.2.1)) 253 i D.1, rfl, by rw [zput_ne (by omega), zput_at, upd_at], ⟨fun j a b => by rw [zput_ne (by omega), zput_ne a], fun q hq => by rw [zput_ne (by omega), zput_at, upd_ne hq], fun j a q hq => ?_⟩, by rw [zput_ne (by omega), zput_ne (by omega)], by rw [zput_ne (by omega), zput_ne (by omega)], fun a h => by cases h⟩
      by_cases e : j = 253
      · subst e
        rw [zput_at, upd_ne hq, zput_ne (by omega)]
      · rw [zput_ne e, zput_ne (by omega)]
end ZTX
