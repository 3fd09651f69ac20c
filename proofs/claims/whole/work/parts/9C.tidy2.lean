/-! TIDYING, the reference's list of bays. -/
section ZT2
variable {S : Zs} {w : Zw} {B n k v : Nat} {s : Nat → Int32}
def cOf (s : Nat → Int32) (b : Nat) : Nat := zix (s (79 + b))
def pkc (s : Nat → Int32) (c : Nat) : Int32 := s (139 + 4 * c + 1)
def cLt (s : Nat → Int32) (c c' : Nat) : Bool := decide (pkc s c < pkc s c') || (decide (pkc s c = pkc s c') && decide (c < c'))
theorem cLt_ir (s : Nat → Int32) (c : Nat) : ¬ cLt s c c = true := by
  unfold cLt
  intro h
  simp only [Bool.or_eq_true, Bool.and_eq_true, decide_eq_true_eq] at h
  rcases h with h | h
  · grind
  · omega
theorem cLt_tr (s : Nat → Int32) (a b c : Nat) (h1 : cLt s a b = true) (h2 : cLt s b c = true) : cLt s a c = true := by
  unfold cLt at *
  simp only [Bool.or_eq_true, Bool.and_eq_true, decide_eq_true_eq] at *
  rcases h1 with h1 | ⟨h1, h1'⟩ <;> rcases h2 with h2 | ⟨h2, h2'⟩
  · exact Or.inl (by grind)
  · exact Or.inl (by grind)
  · exact Or.inl (by grind)
  · exact Or.inr ⟨by grind, by omega⟩
theorem cLt_tot (s : Nat → Int32) (a b : Nat) (h : a ≠ b) (h1 : ¬ cLt s a b = true) : cLt s b a = true := by
  unfold cLt at *
  simp only [Bool.or_eq_true, Bool.and_eq_true, decide_eq_true_eq] at *
  by_cases e1 : pkc s b < pkc s a
  · exact Or.inl e1
  · refine Or.inr ⟨?_, ?_⟩
    · have : ¬ pkc s a < pkc s b := fun q => h1 (Or.inl q)
      grind
    · have : ¬ pkc s a < pkc s b := fun q => h1 (Or.inl q)
      have e : pkc s a = pkc s b := by grind
      have : ¬ a < b := fun q => h1 (Or.inr ⟨e, q⟩)
      omega
def pWr (s : Nat → Int32) (b : Nat) : Bool := decide (s (79 + b) ≠ -1) && (decide (s (79 + (b - 1)) ≠ -1) && decide (pkc s (cOf s b) < pkc s (cOf s (b - 1))))
theorem zI_cOf {b : Nat} (hI : zI s n k v) (hb : b < 60) (h : s (79 + b) ≠ -1) : cOf s b < n ∧ s (79 + b) = ii (cOf s b) ∧ s (139 + 4 * cOf s b + 2) = ii b := by
  have hn := zI_n hI
  rcases zI_carIn hI hb with g | ⟨c, hc, g1, g2⟩
  · exact absurd g h
  · have : cOf s b = c := by
      unfold cOf
      rw [g1, zix_ii (by omega)]
    rw [this]
    exact ⟨hc, g1, g2⟩
theorem c8_isWrong (hL : zLay S) (hI : zI (w 256) n k v) {b : Nat} (hb : b < 60) (h0 : 0 < b) : f_X8_isWrong S w 255 (ii b) = some (if pWr (w 256) b = true then 1 else 0) := by
  have hn := zI_n hI
  unfold f_X8_isWrong pWr
  have e1 : (79 : Int32) + ii b = ii (79 + b) := ii_add 79 b
  have e2 : ii (79 + b) - 1 = ii (79 + (b - 1)) := by rw [ii_sub1 (by omega)]; congr 1; omega
  rw [c8_isEmpty hL hI hb, zbs, ii_sub1 h0, c8_isEmpty hL hI (by omega), zbs, e1, e2, zt255_1 hL, ztl256 hL, if_pos (zin_t (show 79 + b < 399 by omega) (by omega)), zix_ii (show 79 + b < 2147483648 by omega)]
  by_cases h1 : w 256 (79 + b) = -1
  · rw [if_pos h1, if_neg (by decide), if_neg (by simp [h1])]
  · obtain ⟨q1, q2, q3⟩ := zI_cOf hI hb h1
    rw [if_neg h1, if_pos rfl]
    by_cases h2 : w 256 (79 + (b - 1)) = -1
    · rw [if_pos h2, if_neg (by decide), if_neg (by simp [h2])]
    · obtain ⟨p1, p2, p3⟩ := zI_cOf hI (b := b - 1) (by omega) h2
      rw [if_neg h2, if_pos rfl, q2, c8_pickup hL (by omega), zbs, if_pos (zin_t (show 79 + (b - 1) < 399 by omega) (by omega)), zix_ii (show 79 + (b - 1) < 2147483648 by omega), p2, c8_pickup hL (by omega), zbs]
      have hd1 : decide (ii (cOf (w 256) b) ≠ -1) = true := decide_eq_true (ii_ne (by omega))
      have hd2 : decide (ii (cOf (w 256) (b - 1)) ≠ -1) = true := decide_eq_true (ii_ne (by omega))
      rw [hd1, hd2, Bool.true_and, Bool.true_and]
      unfold pkc
      by_cases h3 : w 256 (139 + 4 * cOf (w 256) b + 1) < w 256 (139 + 4 * cOf (w 256) (b - 1) + 1)
      · rw [if_neg (by grind), if_pos (by simp [h3])]
      · rw [if_pos (by grind), if_neg (by simp [h3])]
def ahB (s : Nat → Int32) (b x : Nat) : Bool := cLt s (cOf s b) (cOf s x)
theorem c8_isAhead (hL : zLay S) (hI : zI (w 256) n k v) {b x : Nat} (hb : b < 60) (hx : x < 60) (h1 : w 256 (79 + b) ≠ -1) (h2 : w 256 (79 + x) ≠ -1) : f_X8_isAhead S w 255 (ii b) (ii x) = some (if ahB (w 256) b x = true then 1 else 0) := by
  have hn := zI_n hI
  obtain ⟨q1, q2, q3⟩ := zI_cOf hI hb h1
  obtain ⟨p1, p2, p3⟩ := zI_cOf hI hx h2
  unfold f_X8_isAhead ahB cLt
  have e1 : (79 : Int32) + ii b = ii (79 + b) := ii_add 79 b
  have e2 : (79 : Int32) + ii x = ii (79 + x) := ii_add 79 x
  rw [e1, e2, zt255_1 hL, ztl256 hL, if_pos (zin_t (show 79 + b < 399 by omega) (by omega)), zix_ii (show 79 + b < 2147483648 by omega), q2, zlet_eq, if_pos (zin_t (show 79 + x < 399 by omega) (by omega)), zix_ii (show 79 + x < 2147483648 by omega), p2, zlet_eq, c8_pickup hL (by omega), zbs, c8_pickup hL (by omega), zbs]
  have f1 : w 256 (139 + 4 * cOf (w 256) b + 1) = pkc (w 256) (cOf (w 256) b) := rfl
  have f2 : w 256 (139 + 4 * cOf (w 256) x + 1) = pkc (w 256) (cOf (w 256) x) := rfl
  rw [f1, f2]
  generalize cOf (w 256) b = c at *
  generalize cOf (w 256) x = d at *
  by_cases he : pkc (w 256) c = pkc (w 256) d
  · rw [if_pos he]
    by_cases hlt : c < d
    · rw [if_neg (by rw [ii_le (by omega) (by omega)]; omega), if_pos (by simp [he, hlt])]
    · have : ¬ pkc (w 256) d < pkc (w 256) d := by grind
      rw [if_pos (by rw [ii_le (by omega) (by omega)]; omega), if_neg (by simp [he, hlt, this])]
  · rw [if_neg he, zbs, zbs]
    by_cases hlt : pkc (w 256) c < pkc (w 256) d
    · rw [if_neg (by grind), if_pos (by simp [hlt])]
    · rw [if_pos (by grind), if_neg (by simp [hlt, he])]
/-- the bays that are wrong, in their order -/
def pLb (s : Nat → Int32) : Nat → List Nat
  | 0 => []
  | i + 1 => if pWr s (2 * i + 1) = true then pInsB (ahB s) (pLb s i) (2 * i + 1) else pLb s i
theorem pLb_mem (s : Nat → Int32) (m x : Nat) : x ∈ pLb s m ↔ ∃ i, i < m ∧ x = 2 * i + 1 ∧ pWr s x = true := by
  induction m with
  | zero =>
    constructor
    · exact fun h => absurd h List.not_mem_nil
    · rintro ⟨i, h, -⟩
      exact absurd h (Nat.not_lt_zero i)
  | succ m ih =>
    unfold pLb
    by_cases h : pWr s (2 * m + 1) = true
    · rw [if_pos h, pInsB_mem, ih]
      constructor
      · rintro (e | ⟨i, h1, h2, h3⟩)
        · exact ⟨m, by omega, e, e ▸ h⟩
        · exact ⟨i, by omega, h2, h3⟩
      · rintro ⟨i, h1, h2, h3⟩
        by_cases e : i = m
        · subst e
          exact Or.inl h2
        · exact Or.inr ⟨i, by omega, h2, h3⟩
    · rw [if_neg h, ih]
      constructor
      · rintro ⟨i, h1, h2, h3⟩
        exact ⟨i, by omega, h2, h3⟩
      · rintro ⟨i, h1, h2, h3⟩
        by_cases e : i = m
        · subst e
          rw [h2] at h3
          exact absurd h3 h
        · exact ⟨i, by omega, h2, h3⟩
theorem pLb_len (s : Nat → Int32) (m : Nat) : (pLb s m).length ≤ m := by
  induction m with
  | zero => exact Nat.le_refl 0
  | succ m ih =>
    unfold pLb
    split
    · rw [pInsB_len]
      omega
    · omega
theorem e8_l27 (hL : zLay S) (hI : zI (w 256) n k v) {l : List Nat} {b a1 : Nat} (hll : l.length < 60) (hb : b < 60) (hbn : w 256 (79 + b) ≠ -1) (hln : ∀ x, x ∈ l → x < 60 ∧ w 256 (79 + x) ≠ -1) (hrow : zRow (w 264) l) (k8 : (Int32 × Int32 × Zw) → Option (Int32 × Zw)) :
    f_X8_tidy_l27 S 255 (ii a1) (ii b) k8 (ii l.length, w) = k8 (ii (a1 + 1), ii b + 2, zput (zwup w 264 (shA (w 264) l.length (pPosB (ahB (w 256)) l b l.length))) 264 (pPosB (ahB (w 256)) l b l.length) (ii b)) := by
  have zw6 : ∀ f : Nat → Int32, zwup w 264 f 256 = w 256 := fun f => by unfold zwup; rw [if_neg (by omega)]
  have zw2 : ∀ f : Nat → Int32, zwup w 264 f 264 = f := fun f => by unfold zwup; rw [if_pos rfl]
  have key : ∀ q, q ≤ l.length → pPosB (ahB (w 256)) l b q = pPosB (ahB (w 256)) l b l.length → ∀ N, q < N → zlp (fun kk x => f_X8_tidy_b27 S 255 (ii a1) (ii b) k8 kk x.1 x.2) N (ii q, zwup w 264 (shA (w 264) l.length q)) = k8 (ii (a1 + 1), ii b + 2, zput (zwup w 264 (shA (w 264) l.length (pPosB (ahB (w 256)) l b l.length))) 264 (pPosB (ahB (w 256)) l b l.length) (ii b)) := by
    intro q
    induction q with
    | zero =>
      intro hq hp N hN
      obtain ⟨N, rfl⟩ : ∃ N', N = N' + 1 := ⟨N - 1, by omega⟩
      have h0 : pPosB (ahB (w 256)) l b l.length = 0 := hp.symm
      show f_X8_tidy_b27 S 255 (ii a1) (ii b) k8 _ (ii 0) (zwup w 264 (shA (w 264) l.length 0)) = _
      unfold f_X8_tidy_b27 f_X8_tidy_j67
      rw [if_pos (by decide), h0, zt255_21 hL, ztl264 hL, if_pos (zin_t (show 0 < 60 by omega) (by omega)), zix_ii (by omega), zlet_eq, ii_succ]
    | succ q ih =>
      intro hq hp N hN
      obtain ⟨N, rfl⟩ : ∃ N', N = N' + 1 := ⟨N - 1, by omega⟩
      show f_X8_tidy_b27 S 255 (ii a1) (ii b) k8 (zlp (fun kk x => f_X8_tidy_b27 S 255 (ii a1) (ii b) k8 kk x.1 x.2) N) (ii (q + 1)) (zwup w 264 (shA (w 264) l.length (q + 1))) = _
      obtain ⟨KK, hKK⟩ : ∃ KK, KK = zlp (fun kk x => f_X8_tidy_b27 S 255 (ii a1) (ii b) k8 kk x.1 x.2) N := ⟨_, rfl⟩
      rw [← hKK]
      unfold f_X8_tidy_b27 f_X8_tidy_j67
      have em : ii (q + 1) + -1 = ii q := by rw [← ii_succ]; grind
      have erow : shA (w 264) l.length (q + 1) q = ii (l.getD q 0) := by
        unfold shA
        rw [if_neg (by omega)]
        exact hrow q (by omega)
      obtain ⟨hq60, hqn⟩ := hln _ (getD_mem (show q < l.length by omega))
      have hu2 : zput (zwup w 264 (shA (w 264) l.length (q + 1))) 264 (q + 1) (ii (l.getD q 0)) = zwup w 264 (shA (w 264) l.length q) := by
        rw [← shA_stp (w 264) l.length q hq, erow]
        funext j i
        by_cases e : j = 264
        · subst e
          rw [zput_at, zw2, zw2]
        · rw [zput_ne e]
          unfold zwup
          rw [if_neg e, if_neg e]
      have ha := c8_isAhead (S := S) (w := zwup w 264 (shA (w 264) l.length (q + 1))) (n := n) (k := k) (v := v) hL (by rw [zw6]; exact hI) hb hq60 (by rw [zw6]; exact hbn) (by rw [zw6]; exact hqn)
      rw [zw6] at ha
      have hz1 : zin (ii q) 60 = true := zin_t (by omega) (by omega)
      have hz2 : zin (ii (q + 1)) 60 = true := zin_t (by omega) (by omega)
      have hx1 : zix (ii q) = q := zix_ii (by omega)
      have hx2 : zix (ii (q + 1)) = q + 1 := zix_ii (by omega)
      rw [if_neg (by rw [show (0 : Int32) = ii 0 from rfl, ii_le (by omega) (by omega)]; omega), ii_sub1 (by omega), Nat.add_sub_cancel, zt255_21 hL, ztl264 hL]
      simp only [hz1, hz2, hx1, hx2, if_true, zw2, erow, ha, zbs, zlet_eq, em, hu2, ii_succ]
      by_cases hlt : ahB (w 256) b (l.getD q 0) = true
      · have hp' : pPosB (ahB (w 256)) l b q = pPosB (ahB (w 256)) l b l.length := by
          rw [← hp]
          show _ = (if _ then _ else _)
          rw [if_pos hlt]
        rw [if_pos hlt, if_neg (show ¬ (1 : Int32) = 0 by decide)]
        have := ih (by omega) hp' N (by omega)
        rw [← hKK] at this
        exact this
      · have hp' : pPosB (ahB (w 256)) l b l.length = q + 1 := by
          rw [← hp]
          show (if _ then _ else _) = _
          rw [if_neg hlt]
        rw [if_neg hlt, if_pos (show (0 : Int32) = 0 from rfl), hp']
  unfold f_X8_tidy_l27
  have := key l.length (Nat.le_refl _) rfl zFU (by unfold zFU; omega)
  have e : zwup w 264 (shA (w 264) l.length l.length) = w := by
    rw [shA_len]
    funext j
    unfold zwup
    by_cases e : j = 264
    · rw [if_pos e, e]
    · rw [if_neg e]
  rw [e] at this
  exact this
theorem e8_l8 (hL : zLay S) (hI : zI (w 256) n k v) : ∃ u, f_X8_tidy_l8 S 255 (0, 1, w) = f_X8_tidy_l87 S 255 (ii (pLb (w 256) 30).length) (0, 0, u) ∧ zRow (u 264) (pLb (w 256) 30) ∧ ∀ j, j ≠ 264 → u j = w j := by
  have key : ∀ m i u, i + m = 30 → zRow (u 264) (pLb (w 256) i) → (∀ j, j ≠ 264 → u j = w j) → ∀ N, m < N → ∃ u', zlp (fun kk x => f_X8_tidy_b8 S 255 kk x.1 x.2.1 x.2.2) N (ii (pLb (w 256) i).length, ii (2 * i + 1), u) = f_X8_tidy_l87 S 255 (ii (pLb (w 256) 30).length) (0, 0, u') ∧ zRow (u' 264) (pLb (w 256) 30) ∧ ∀ j, j ≠ 264 → u' j = w j := by
    intro m
    induction m with
    | zero =>
      intro i u hi hr ho N hN
      obtain ⟨N, rfl⟩ : ∃ N', N = N' + 1 := ⟨N - 1, by omega⟩
      have hi : i = 30 := by omega
      subst hi
      refine ⟨u, ?_, hr, ho⟩
      show f_X8_tidy_b8 S 255 _ (ii (pLb (w 256) 30).length) (ii (2 * 30 + 1)) u = _
      unfold f_X8_tidy_b8
      rw [if_pos (by decide)]
    | succ m ih =>
      intro i u hi hr ho N hN
      obtain ⟨N, rfl⟩ : ∃ N', N = N' + 1 := ⟨N - 1, by omega⟩
      show ∃ u', f_X8_tidy_b8 S 255 (zlp (fun kk x => f_X8_tidy_b8 S 255 kk x.1 x.2.1 x.2.2) N) (ii (pLb (w 256) i).length) (ii (2 * i + 1)) u = _ ∧ _
      obtain ⟨KK, hKK⟩ : ∃ KK, KK = zlp (fun kk x => f_X8_tidy_b8 S 255 kk x.1 x.2.1 x.2.2) N := ⟨_, rfl⟩
      rw [← hKK]
      have hlen := pLb_len (w 256) i
      have u6 : u 256 = w 256 := ho 256 (by omega)
      have e2 : ii (2 * i + 1) + 2 = ii (2 * (i + 1) + 1) := by rw [show (2 : Int32) = ii 2 from rfl, ii_add]; congr 1
      have hw := c8_isWrong (S := S) (w := u) (n := n) (k := k) (v := v) hL (by rw [u6]; exact hI) (b := 2 * i + 1) (by omega) (by omega)
      rw [u6] at hw
      unfold f_X8_tidy_b8
      rw [if_neg (by rw [show (60 : Int32) = ii 60 from rfl, ii_le (by omega) (by omega)]; omega), hw, zbs]
      by_cases h : pWr (w 256) (2 * i + 1) = true
      · have hbn : w 256 (79 + (2 * i + 1)) ≠ -1 := by
          unfold pWr at h
          simp only [Bool.and_eq_true, decide_eq_true_eq] at h
          exact h.1
        have hl27 := e8_l27 (S := S) (w := u) (n := n) (k := k) (v := v) hL (by rw [u6]; exact hI) (l := pLb (w 256) i) (b := 2 * i + 1) (a1 := (pLb (w 256) i).length) (by omega) (by omega) (by rw [u6]; exact hbn) (fun x hx => by
          obtain ⟨i', h1, h2, h3⟩ := (pLb_mem _ _ _).mp hx
          rw [u6]
          unfold pWr at h3
          simp only [Bool.and_eq_true, decide_eq_true_eq] at h3
          exact ⟨by omega, h3.1⟩) hr KK
        rw [u6, e2] at hl27
        have el : pLb (w 256) (i + 1) = pInsB (ahB (w 256)) (pLb (w 256) i) (2 * i + 1) := by
          show (if _ then _ else _) = _
          rw [if_pos h]
        rw [if_pos h, if_neg (show ¬ (1 : Int32) = 0 by decide), hl27]
        have hp := pPosB_le (ahB (w 256)) (pLb (w 256) i) (2 * i + 1) (pLb (w 256) i).length
        have := ih (i + 1) (zput (zwup u 264 (shA (u 264) (pLb (w 256) i).length (pPosB (ahB (w 256)) (pLb (w 256) i) (2 * i + 1) (pLb (w 256) i).length))) 264 (pPosB (ahB (w 256)) (pLb (w 256) i) (2 * i + 1) (pLb (w 256) i).length) (ii (2 * i + 1))) (by omega) (by
          rw [el, zput_at]
          have e9 : ∀ f : Nat → Int32, zwup u 264 f 264 = f := fun f => by unfold zwup; rw [if_pos rfl]
          rw [e9]
          exact zRow_ins hr hp) (fun j hj => by
          rw [zput_ne hj]
          unfold zwup
          rw [if_neg hj, ho j hj]) N (by omega)
        rw [el, pInsB_len, ← hKK] at this
        exact this
      · have el : pLb (w 256) (i + 1) = pLb (w 256) i := by
          show (if _ then _ else _) = _
          rw [if_neg h]
        rw [if_neg h, if_pos (show (0 : Int32) = 0 from rfl), e2]
        have := ih (i + 1) u (by omega) (by rw [el]; exact hr) ho N (by omega)
        rw [el, ← hKK] at this
        exact this
  unfold f_X8_tidy_l8
  exact key 30 0 w (by omega) (fun j hj => absurd hj (Nat.not_lt_zero j)) (fun _ _ => rfl) zFU (by decide)
end ZT2
