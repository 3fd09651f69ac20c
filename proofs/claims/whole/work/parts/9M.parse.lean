/-! COMMANDS AS TEXTS: the whole text, read on both sides. -/
section ZPR
variable {S : Zs} {w : Zw} {B B' n k v : Nat} {s t : Nat → Int32} {len p i : Nat}
abbrev Zcm : Type := Int32 × Int32 × Int32
theorem pow10 (c d : Nat) (h : c ≤ d) : 10 ^ c ≤ 10 ^ d := Nat.pow_le_pow_right (by omega) h
theorem pDg_x (m : Nat) : ∀ (X p c : Nat), c + m ≤ 4 → X < 10 ^ c → ∃ X', X' < 10 ^ (pDg t len 57 m (ii X) p c).2.2 ∧ (pDg t len 57 m (ii X) p c).1 = ii X' := by
  induction m with
  | zero => exact fun X p c _ h => ⟨X, h, rfl⟩
  | succ m ih =>
    intro X p c hc hX
    unfold pDg
    split
    · exact ⟨X, hX, rfl⟩
    · rename_i h
      have h1 : ¬ pL t len p < 48 := fun q => h (Or.inl q)
      have h2 : ¬ 57 < pL t len p := fun q => h (Or.inr q)
      obtain ⟨D, hD, e⟩ := ii_rng (b := pL t len p) (m := 57) (by omega) ⟨by grind, by show pL t len p ≤ (57 : Int32); grind⟩
      have h3 : 48 ≤ D := by
        have : (48 : Int32) ≤ ii D := by rw [← e]; grind
        rw [show (48 : Int32) = ii 48 from rfl, ii_le (by omega) (by omega)] at this
        exact this
      have e2 : 10 * ii X + pL t len p - 48 = ii (10 * X + (D - 48)) := by
        have e3 : ii D = ii (D - 48) + ii 48 := by rw [ii_add]; congr 1; omega
        rw [e, e3, ← ii_add, ← ii_mul 10 X]
        show 10 * ii X + (ii (D - 48) + 48) - 48 = 10 * ii X + ii (D - 48)
        grind
      rw [e2]
      refine ih (10 * X + (D - 48)) (p + 1) (c + 1) (by omega) ?_
      rw [Nat.pow_succ]
      omega
theorem pNm_ok {c z : Int32} (hp : p ≤ len) {a : Zcm} (h : (pNm t len p c z).2 = some a) : p + 2 ≤ (pNm t len p c z).1 ∧ (pNm t len p c z).1 ≤ len ∧ a.1 = c ∧ a.2.1 = z ∧ (0 ≤ a.2.2 ∧ a.2.2 ≤ 9999) := by
  obtain ⟨g1, g2, g3, g4⟩ := pDg_ok (t := t) (len := len) (hi := 57) 4 0 p 0
  have g4 := g4 hp
  obtain ⟨X, hX, e⟩ := pDg_x (t := t) (len := len) 4 0 p 0 (by omega) (by omega)
  have e : (pDg t len 57 4 0 p 0).1 = ii X := e
  have hX : X < 10 ^ (pDg t len 57 4 0 p 0).2.2 := hX
  unfold pNm at *
  generalize pDg t len 57 4 0 p 0 = D at *
  by_cases h0 : D.2.2 = 0
  · rw [if_pos h0] at h
    cases h
  · rw [if_neg h0] at h ⊢
    by_cases h9 : pL t len D.2.1 = 59
    · rw [if_pos h9] at h ⊢
      have e2 := (Option.some.inj h).symm
      have hlt : D.2.1 < len := pL_lt h9 (by decide)
      have hp := pow10 D.2.2 4 (by omega)
      have hX4 : X ≤ 9999 := by
        have : (10 : Nat) ^ 4 = 10000 := by decide
        omega
      rw [e2, e]
      exact ⟨by dsimp only; omega, hlt, rfl, rfl, ii_rng' (m := 9999) hX4 (by omega)⟩
    · rw [if_neg h9] at h
      cases h
theorem pCmd_ok {a : Zcm} (h : (pCmd t len p).2 = some a) : p + 3 ≤ (pCmd t len p).1 ∧ (pCmd t len p).1 ≤ len ∧ pKd a.1 = true ∧ (a.1 = 115 → 0 ≤ a.2.1 ∧ a.2.1 ≤ 1) ∧ (0 ≤ a.2.2 ∧ a.2.2 ≤ 9999) := by
  unfold pCmd at *
  by_cases hk : pKd (pL t len p) = true
  · have hpl : p < len := pL_lt rfl (pKd_ok hk).2.2
    rw [if_pos hk] at h ⊢
    by_cases h1 : pL t len p = 115
    · rw [if_pos h1] at h ⊢
      by_cases h2 : pL t len (p + 1) = 48 ∨ pL t len (p + 1) = 49
      · rw [if_pos h2] at h ⊢
        by_cases h3 : pL t len (p + 2) = 44
        · rw [if_pos h3] at h ⊢
          have hp3 : p + 2 < len := pL_lt h3 (by decide)
          obtain ⟨g1, g2, g3, g4, g5⟩ := pNm_ok (by omega) h
          refine ⟨by omega, g2, by rw [g3]; decide, fun _ => ?_, g5⟩
          rw [g4]
          rcases h2 with h2 | h2 <;> rw [h2] <;> decide
        · rw [if_neg h3] at h
          cases h
      · rw [if_neg h2] at h
        cases h
    · rw [if_neg h1] at h ⊢
      obtain ⟨g1, g2, g3, g4, g5⟩ := pNm_ok (by omega) h
      exact ⟨by omega, g2, by rw [g3]; exact hk, fun q => absurd (g3.symm.trans q) h1, g5⟩
  · rw [if_neg hk] at h
    cases h
/-- the commands from p on, at most m -/
def pCon (a : Zcm) (x : Nat × Option (List Zcm)) : Nat × Option (List Zcm) := (x.1, x.2.map (a :: ·))
def pPar (t : Nat → Int32) (len : Nat) : Nat → Nat → Nat × Option (List Zcm)
  | 0, p => (p, some [])
  | m + 1, p => if len ≤ p then (p, some []) else match (pCmd t len p).2 with
    | none => ((pCmd t len p).1, none)
    | some a => pCon a (pPar t len m (pCmd t len p).1)
theorem pPar_len (m : Nat) : ∀ (p : Nat) (L : List Zcm), (pPar t len m p).2 = some L → L.length ≤ m := by
  induction m with
  | zero =>
    intro p L h
    have e : [] = L := Option.some.inj h
    rw [← e]
    exact Nat.le_refl _
  | succ m ih =>
    intro p L h
    unfold pPar at h
    by_cases hp : len ≤ p
    · rw [if_pos hp] at h
      have e : [] = L := Option.some.inj h
      rw [← e]
      exact Nat.zero_le _
    · rw [if_neg hp] at h
      cases e : (pCmd t len p).2 with
      | none => rw [e] at h; cases h
      | some a =>
        rw [e] at h
        have h : (pPar t len m (pCmd t len p).1).2.map (a :: ·) = some L := h
        cases e2 : (pPar t len m (pCmd t len p).1).2 with
        | none => rw [e2] at h; cases h
        | some L' =>
          rw [e2] at h
          have e3 : a :: L' = L := Option.some.inj h
          rw [← e3]
          have := ih _ _ e2
          rw [List.length_cons]
          omega
def zCm (u : Zw) : Nat → List Zcm → Prop
  | _, [] => True
  | i, a :: L => (u 251 i = a.1 ∧ (a.1 = 115 → u 252 i = a.2.1) ∧ u 253 i = a.2.2) ∧ zCm u (i + 1) L
theorem zCm_w {u u' : Zw} (h : ∀ j, 251 ≤ j → j < 254 → u' j = u j) (L : List Zcm) : ∀ i, zCm u i L → zCm u' i L := by
  induction L with
  | nil => exact fun _ _ => trivial
  | cons a L ih =>
    intro i hc
    obtain ⟨⟨h1, h2, h3⟩, h4⟩ := hc
    exact ⟨⟨by rw [h 251 (by omega) (by omega)]; exact h1, fun q => by rw [h 252 (by omega) (by omega)]; exact h2 q, by rw [h 253 (by omega) (by omega)]; exact h3⟩, ih (i + 1) h4⟩
theorem c7_par (hL : zLay S) (hl : len ≤ 60) (m : Nat) : ∀ (i p : Nat) (u : Zw), i + m = 20 → 3 * i ≤ p → p ≤ len → (i = 0 → p < len) → u 249 4 = ii len → u 249 5 = ii p → u 249 6 = ii i → ∀ N, m < N →
    ∃ u', zlp (fun k a => f_X0_parse_b12 S 249 k a.1 a.2) N (ii i, u) = some ((match (pPar (u 250) len m p).2 with | none => ii (pPar (u 250) len m p).1 | some _ => -1), u') ∧ (∀ j, j ≠ 249 → j < 251 ∨ 254 ≤ j → u' j = u j) ∧ (∀ q, q ≠ 5 → q ≠ 6 → u' 249 q = u 249 q) ∧ (∀ j, 251 ≤ j → j < 254 → ∀ q, q < i → u' j q = u j q) ∧ ∀ L, (pPar (u 250) len m p).2 = some L → u' 249 6 = ii (i + L.length) ∧ zCm u' i L := by
  induction m with
  | zero =>
    intro i p u hi h3 hp h0 h4 h5 h6 N hN
    obtain ⟨N, rfl⟩ : ∃ N', N = N' + 1 := ⟨N - 1, by omega⟩
    refine ⟨u, ?_, fun _ _ _ => rfl, fun _ _ _ => rfl, fun _ _ _ _ _ => rfl, fun L hLl => ?_⟩
    · show f_X0_parse_b12 S 249 _ (ii i) u = some (-1, u)
      unfold f_X0_parse_b12
      rw [if_pos (by rw [show (20 : Int32) = ii 20 from rfl, ii_le (by omega) (by omega)]; omega)]
    · have e : [] = L := Option.some.inj hLl
      rw [← e]
      exact ⟨h6, trivial⟩
  | succ m ih =>
    intro i p u hi h3 hp h0 h4 h5 h6 N hN
    obtain ⟨N, rfl⟩ : ∃ N', N = N' + 1 := ⟨N - 1, by omega⟩
    have hF : zlp (fun k a => f_X0_parse_b12 S 249 k a.1 a.2) (N + 1) (ii i, u) = f_X0_parse_b12 S 249 (zlp (fun k a => f_X0_parse_b12 S 249 k a.1 a.2) N) (ii i) u := rfl
    obtain ⟨KK, hKK⟩ : ∃ KK, KK = zlp (fun k a => f_X0_parse_b12 S 249 k a.1 a.2) N := ⟨_, rfl⟩
    rw [hF, ← hKK]
    have hb : ∀ (x y : Option (Int32 × Zw)), (len ≤ p → False) → (if ii i = 0 then x else if u 249 4 ≤ u 249 5 then y else x) = x := by
      intro x y hlp
      by_cases e : ii i = 0
      · rw [if_pos e]
      · rw [if_neg e, h4, h5, if_neg (by rw [ii_le (by omega) (by omega)]; exact hlp)]
    unfold f_X0_parse_b12
    rw [if_neg (by rw [show (20 : Int32) = ii 20 from rfl, ii_le (by omega) (by omega)]; omega)]
    by_cases hlp : len ≤ p
    · have hi0 : ¬ ii i = 0 := by
        rw [show (0 : Int32) = ii 0 from rfl, ii_iff (by omega) (by omega)]
        intro q
        have := h0 q
        omega
      have e : pPar (u 250) len (m + 1) p = (p, some []) := by
        unfold pPar
        rw [if_pos hlp]
      rw [if_neg hi0, h4, h5, if_pos (by rw [ii_le (by omega) (by omega)]; exact hlp), e]
      refine ⟨u, rfl, fun _ _ _ => rfl, fun _ _ _ => rfl, fun _ _ _ _ _ => rfl, fun L hLl => ?_⟩
      have e : [] = L := Option.some.inj hLl
      rw [← e]
      exact ⟨h6, trivial⟩
    · obtain ⟨u1, g1, g2, ⟨g31, g32, g33⟩, g4⟩ := c7_cmd (S := S) (w := u) (len := len) (p := p) (i := i) hL h4 hl h5 hp (by omega)
      rw [hb _ _ hlp]
      unfold f_X0_parse_j33
      rw [g1, zbs]
      have ep : pPar (u 250) len (m + 1) p = match (pCmd (u 250) len p).2 with
        | none => ((pCmd (u 250) len p).1, none)
        | some a => pCon a (pPar (u 250) len m (pCmd (u 250) len p).1) := by
        show (if len ≤ p then _ else _) = _
        rw [if_neg hlp]
      rw [ep]
      cases ec : (pCmd (u 250) len p).2 with
      | none =>
        dsimp only
        rw [if_pos rfl, g2]
        exact ⟨u1, rfl, g31, fun q a b => g32 q a, fun j a b q hq => g33 j ⟨a, b⟩ q (by omega), fun L h => by cases h⟩
      | some a =>
        obtain ⟨c1, c2, c3, c4, c5⟩ := pCmd_ok ec
        have g6 : u1 249 6 = ii i := by rw [g32 6 (by omega), h6]
        dsimp only
        rw [if_neg (show ¬ (1 : Int32) = 0 by decide), g6, ii_succ, zlet_eq]
        obtain ⟨u', r1, r2, r3, r4, r5⟩ := ih (i + 1) (pCmd (u 250) len p).1 (zput u1 249 6 (ii (i + 1))) (by omega) (by omega) c2 (fun q => by omega) (by rw [zput_at, upd_ne (by omega), g32 4 (by omega), h4]) (by rw [zput_at, upd_ne (by omega), g2]) (by rw [zput_at, upd_at]) N (by omega)
        have e25 : zput u1 249 6 (ii (i + 1)) 250 = u 250 := by rw [zput_ne (by omega), g31 250 (by omega) (by omega)]
        rw [e25] at r1 r5
        rw [← hKK] at r1
        rw [r1]
        refine ⟨u', ?_, fun j a b => by rw [r2 j a b, zput_ne a, g31 j a b], fun q a b => by rw [r3 q a b, zput_at, upd_ne b, g32 q a], fun j a b q hq => by rw [r4 j a b q (by omega), zput_ne (by omega), g33 j ⟨a, b⟩ q (by omega)], fun L hLl => ?_⟩
        · unfold pCon
          cases (pPar (u 250) len m (pCmd (u 250) len p).1).2 <;> rfl
        · have hLl : (pPar (u 250) len m (pCmd (u 250) len p).1).2.map (a :: ·) = some L := hLl
          cases e2 : (pPar (u 250) len m (pCmd (u 250) len p).1).2 with
          | none => rw [e2] at hLl; cases hLl
          | some L' =>
            rw [e2] at hLl
            have e3 : a :: L' = L := Option.some.inj hLl
            obtain ⟨q1, q2⟩ := r5 L' e2
            obtain ⟨k1, k2, k3⟩ := g4 a ec
            have hr : ∀ j, 251 ≤ j → j < 254 → u' j i = u1 j i := fun j a b => by rw [r4 j a b i (by omega), zput_ne (by omega)]
            rw [← e3, List.length_cons]
            refine ⟨by rw [q1]; congr 1; omega, ⟨by rw [hr 251 (by omega) (by omega)]; exact k1, fun q => by rw [hr 252 (by omega) (by omega)]; exact k2 q, by rw [hr 253 (by omega) (by omega)]; exact k3⟩, q2⟩
theorem e8_par (hL : zLay S) (hl : len ≤ 60) (m : Nat) : ∀ (i p : Nat) (u : Zw), i + m = 20 → 3 * i ≤ p → p ≤ len → u 255 26 = 0 → u 255 24 = ii len → u 255 25 = ii p → ∀ N, m + 1 < N →
    ∃ u', zlp (fun k a => f_X8_perform_b19 S 255 k a) N u = f_X8_perform_j45 S u' 255 ∧ u' 255 25 = ii (pPar (u 265) len m p).1 ∧ u' 255 26 = (match (pPar (u 265) len m p).2 with | none => 1 | some _ => 0) ∧ zPf u u' := by
  induction m with
  | zero =>
    intro i p u hi h3 hp h6 h4 h5 N hN
    obtain ⟨N, rfl⟩ : ∃ N', N = N' + 1 := ⟨N - 1, by omega⟩
    refine ⟨u, ?_, h5, h6, fun _ _ _ => rfl, fun _ _ _ => rfl⟩
    show f_X8_perform_b19 S 255 _ u = _
    unfold f_X8_perform_b19
    rw [if_pos h6, h4, h5, if_pos (by rw [ii_le (by omega) (by omega)]; omega)]
  | succ m ih =>
    intro i p u hi h3 hp h6 h4 h5 N hN
    obtain ⟨N, rfl⟩ : ∃ N', N = N' + 1 := ⟨N - 1, by omega⟩
    have hF : zlp (fun k a => f_X8_perform_b19 S 255 k a) (N + 1) u = f_X8_perform_b19 S 255 (zlp (fun k a => f_X8_perform_b19 S 255 k a) N) u := rfl
    obtain ⟨KK, hKK⟩ : ∃ KK, KK = zlp (fun k a => f_X8_perform_b19 S 255 k a) N := ⟨_, rfl⟩
    rw [hF, ← hKK]
    unfold f_X8_perform_b19
    rw [if_pos h6, h4, h5]
    by_cases hlp : len ≤ p
    · have e : pPar (u 265) len (m + 1) p = (p, some []) := by
        unfold pPar
        rw [if_pos hlp]
      rw [if_pos (by rw [ii_le (by omega) (by omega)]; exact hlp), e]
      exact ⟨u, rfl, h5, h6, fun _ _ _ => rfl, fun _ _ _ => rfl⟩
    · have ep : pPar (u 265) len (m + 1) p = match (pCmd (u 265) len p).2 with
        | none => ((pCmd (u 265) len p).1, none)
        | some a => pCon a (pPar (u 265) len m (pCmd (u 265) len p).1) := by
        show (if len ≤ p then _ else _) = _
        rw [if_neg hlp]
      obtain ⟨k, u1, g1, g2, g3, g4, g5⟩ := e8_cmd (S := S) (w := u) (len := len) (p := p) hL h6 h4 hl h5 hp
      rw [if_neg (by rw [ii_le (by omega) (by omega)]; exact hlp), g1, zbs, ep]
      dsimp only
      cases ec : (pCmd (u 265) len p).2 with
      | none =>
        rw [ec] at g3
        obtain ⟨N, rfl⟩ : ∃ N', N = N' + 1 := ⟨N - 1, by omega⟩
        refine ⟨u1, ?_, g2, g3, g4⟩
        rw [hKK]
        show f_X8_perform_b19 S 255 _ u1 = _
        unfold f_X8_perform_b19
        rw [if_neg (by rw [g3]; decide)]
      | some a =>
        obtain ⟨c1, c2, c3, c4, c5⟩ := pCmd_ok ec
        rw [ec] at g3
        obtain ⟨u', r1, r2, r3, r4⟩ := ih (i + 1) (pCmd (u 265) len p).1 u1 (by omega) (by omega) c2 g3 (by rw [g4.2 24 (by omega) (by omega), h4]) g2 N (by omega)
        rw [g4.1 265 (by omega) (by omega)] at r2 r3
        rw [← hKK] at r1
        rw [r1]
        refine ⟨u', rfl, ?_, ?_, zPf_trans g4 r4⟩
        · exact r2
        · rw [r3]
          unfold pCon
          cases (pPar (u 265) len m (pCmd (u 265) len p).1).2 <;> rfl
end ZPR
