/-! COPIES of garages. -/
section ZCP
/-- a loop by what holds at each turn -/
theorem zlp_to {A I : Type} {F : (A → Option I) → A → Option I} (N : Nat) (Q : Nat → A → Prop) (hs : ∀ k i a, i < N → Q i a → ∃ a', Q (i + 1) a' ∧ F k a = k a') (m i : Nat) (a : A) (hi : i + m = N) (hQ : Q i a) (n : Nat) (hn : m < n) : ∃ a' K, Q N a' ∧ zlp F n a = F K a' := by
  induction m generalizing i a n with
  | zero =>
    obtain ⟨n, rfl⟩ : ∃ n', n = n' + 1 := ⟨n - 1, by omega⟩
    have hi : i = N := hi
    subst hi
    exact ⟨a, zlp F n, hQ, rfl⟩
  | succ m ih =>
    obtain ⟨n, rfl⟩ : ∃ n', n = n' + 1 := ⟨n - 1, by omega⟩
    obtain ⟨a', h1, h2⟩ := hs (zlp F n) i a (by omega) hQ
    obtain ⟨a9, K, h3, h4⟩ := ih (i + 1) a' (by omega) h1 n (by omega)
    exact ⟨a9, K, h3, by show F (zlp F n) a = _; rw [h2]; exact h4⟩
theorem zcpk_i {S : Zs} {w : Zw} {a b n : Nat} (ha : n ≤ zlen S a) (hb : n ≤ zlen S b) (hn : n < 2147483648) : zcpk S w 0 a b 0 0 (ii n) = true := by
  have h0 : ¬ (0 : Int32) < 0 := by decide
  have h00 : zix (0 : Int32) = 0 := by decide
  have hnn : ¬ ii n < 0 := by have := ii_nn hn; grind
  have hfit : ∀ x : Int32, fits (zAty 0) (.int x) = true := fun x => rfl
  simp [zcpk, h0, h00, hnn, zix_ii hn, ha, hb, hfit]
theorem zcpk_b {S : Zs} {w : Zw} {a b n : Nat} (ha : n ≤ zlen S a) (hb : n ≤ zlen S b) (hn : n < 2147483648) (hw : ∀ i, i < n → w a i = 0 ∨ w a i = 1) : zcpk S w 1 a b 0 0 (ii n) = true := by
  have h0 : ¬ (0 : Int32) < 0 := by decide
  have h00 : zix (0 : Int32) = 0 := by decide
  have hnn : ¬ ii n < 0 := by have := ii_nn hn; grind
  have hfit : ∀ i, i < n → fits (zAty 1) (.int (w a i)) = true := by
    intro i hi
    rcases hw i hi with h | h <;> rw [h] <;> rfl
  simp only [zcpk, h0, h00, hnn, zix_ii hn, not_false_eq_true, decide_true, Bool.true_and, Nat.zero_add, ha, hb, List.all_eq_true, List.mem_range]
  exact hfit
theorem zcpy_at {w : Zw} {a b n i : Nat} (hn : n < 2147483648) (hi : i < n) : zcpy w a b 0 0 (ii n) b i = w a i := by
  have h00 : zix (0 : Int32) = 0 := by decide
  simp [zcpy, zwup, va_cpy, h00, zix_ii hn, hi]
theorem zcpy_ne {w : Zw} {a b j : Nat} {x y n : Int32} (h : j ≠ b) : zcpy w a b x y n j = w j := by
  simp [zcpy, zwup, h]
section
variable {S : Zs} {w : Zw} {g : Nat}
theorem zmcr (hG : zGar S g) {m : Nat} (hm : m < 4) : zr S (g + 9) m = zmc g m := by
  have h : m = 0 ∨ m = 1 ∨ m = 2 ∨ m = 3 := by omega
  rcases h with rfl | rfl | rfl | rfl
  · exact zg9_0 hG
  · exact zg9_1 hG
  · exact zg9_2 hG
  · exact zg9_3 hG
theorem zmc_inj {g m m' : Nat} (hm : m < 4) (hm' : m' < 4) (h : m ≠ m') : zmc g m ≠ zmc g m' := by
  unfold zmc
  split <;> split <;> omega
theorem d7_copy4 {x y : Nat} (h : x ≠ y) : ∃ w', f_X4_copyFrom S w x y = some ((), w') ∧ (w' x 0 = w x 0 ∧ w' x 1 = w y 1 ∧ w' x 2 = w y 2 ∧ w' x 3 = w y 3) ∧ ∀ j, j ≠ x → w' j = w j := by
  have h' : y ≠ x := Ne.symm h
  unfold f_X4_copyFrom
  simp only [zlet_eq]
  refine ⟨_, rfl, ⟨?_, ?_, ?_, ?_⟩, fun j hj => ?_⟩
  · simp (disch := omega) only [zput_at, zput_ne, upd_ne]
  · simp (disch := omega) only [zput_at, zput_ne, upd_ne, upd_at]
  · simp (disch := omega) only [zput_at, zput_ne, upd_ne, upd_at]
  · simp (disch := omega) only [zput_at, zput_ne, upd_ne, upd_at]
  · simp (disch := omega) only [zput_ne]
theorem d7_copy3 (hG : zGar S g) {g' : Nat} (hG' : zGar S g') (hap : g + 16 ≤ g' ∨ g' + 16 ≤ g) : ∃ w', f_X3_copyFrom S w (g + 11) (g' + 11) = some ((), w') ∧ (∀ i, i < 100 → w' (g + 12) i = w (g' + 12) i) ∧ (w' (g + 11) 1 = w (g' + 11) 1 ∧ w' (g + 11) 2 = w (g' + 11) 2 ∧ w' (g + 11) 3 = w (g' + 11) 3) ∧ ∀ j, j ≠ g + 11 → j ≠ g + 12 → w' j = w j := by
  unfold f_X3_copyFrom
  rw [zg11_0 hG, zg11_0 hG', zgl12 hG, show Int32.ofNat 100 = ii 100 from rfl, if_pos (zcpk_i (by rw [zgl12 hG']; omega) (by rw [zgl12 hG]; omega) (by omega))]
  simp only [zlet_eq]
  refine ⟨_, rfl, fun i hi => ?_, ⟨?_, ?_, ?_⟩, fun j h1 h2 => ?_⟩
  · simp (disch := omega) only [zput_ne]
    rw [zcpy_at (by omega) hi]
  · simp (disch := omega) only [zput_at, zput_ne, upd_ne, upd_at, zcpy_ne]
  · simp (disch := omega) only [zput_at, zput_ne, upd_ne, upd_at, zcpy_ne]
  · simp (disch := omega) only [zput_at, zput_ne, upd_ne, upd_at, zcpy_ne]
  · simp (disch := omega) only [zput_ne, zcpy_ne]
theorem d7_copy6 (hG : zGar S g) {g' : Nat} (hG' : zGar S g') (hap : g + 16 ≤ g' ∨ g' + 16 ≤ g) : ∃ w', f_X6_copyFrom S w (g + 8) (g' + 8) = some ((), w') ∧
    (∀ m, m < 4 → w' (zmc g m) 0 = w (zmc g m) 0 ∧ w' (zmc g m) 1 = w (zmc g' m) 1 ∧ w' (zmc g m) 2 = w (zmc g' m) 2 ∧ w' (zmc g m) 3 = w (zmc g' m) 3) ∧
    (∀ i, i < 100 → w' (g + 12) i = w (g' + 12) i) ∧ (w' (g + 11) 1 = w (g' + 11) 1 ∧ w' (g + 11) 2 = w (g' + 11) 2 ∧ w' (g + 11) 3 = w (g' + 11) 3) ∧ w' (g + 8) 3 = w (g' + 8) 3 ∧ ∀ j, j < g + 8 ∨ g + 16 ≤ j → w' j = w j := by
  unfold f_X6_copyFrom f_X6_copyFrom_l2
  have hs : ∀ (K : (Int32 × Zw) → Option (Unit × Zw)) (i : Nat) (a : Int32 × Zw), i < 4 → (a.1 = ii i ∧ (∀ m, m < 4 → a.2 (zmc g m) 0 = w (zmc g m) 0) ∧ (∀ m, m < i → m < 4 → a.2 (zmc g m) 1 = w (zmc g' m) 1 ∧ a.2 (zmc g m) 2 = w (zmc g' m) 2 ∧ a.2 (zmc g m) 3 = w (zmc g' m) 3) ∧ ∀ j, (∀ m, m < 4 → j ≠ zmc g m) → a.2 j = w j) →
      ∃ a' : Int32 × Zw, (a'.1 = ii (i + 1) ∧ (∀ m, m < 4 → a'.2 (zmc g m) 0 = w (zmc g m) 0) ∧ (∀ m, m < i + 1 → m < 4 → a'.2 (zmc g m) 1 = w (zmc g' m) 1 ∧ a'.2 (zmc g m) 2 = w (zmc g' m) 2 ∧ a'.2 (zmc g m) 3 = w (zmc g' m) 3) ∧ ∀ j, (∀ m, m < 4 → j ≠ zmc g m) → a'.2 j = w j) ∧ f_X6_copyFrom_b2 S (g + 8) (g' + 8) K a.1 a.2 = K a' := by
    rintro K i ⟨x, u⟩ hi ⟨rfl, q0, q1, q2⟩
    have q2 : ∀ j, (∀ m, m < 4 → j ≠ zmc g m) → u j = w j := q2
    have q1 : ∀ m, m < i → m < 4 → u (zmc g m) 1 = w (zmc g' m) 1 ∧ u (zmc g m) 2 = w (zmc g' m) 2 ∧ u (zmc g m) 3 = w (zmc g' m) 3 := q1
    have q0 : ∀ m, m < 4 → u (zmc g m) 0 = w (zmc g m) 0 := q0
    have hz := zmc_rg (g := g) hi
    have hz' := zmc_rg (g := g') hi
    obtain ⟨w', h1, ⟨h2, h3, h4, h5⟩, h6⟩ := d7_copy4 (S := S) (w := u) (x := zmc g i) (y := zmc g' i) (by omega)
    have hsrc : u (zmc g' i) = w (zmc g' i) := q2 _ (fun m hm => by have := zmc_rg (g := g) hm; omega)
    refine ⟨(ii (i + 1), w'), ⟨rfl, fun m hm => ?_, fun m hm hm4 => ?_, fun j hj => ?_⟩, ?_⟩
    · show w' (zmc g m) 0 = _
      by_cases e : m = i
      · subst e
        rw [h2]
        exact q0 m hm
      · rw [h6 _ (zmc_inj hm hi e)]
        exact q0 m hm
    · show w' (zmc g m) 1 = _ ∧ w' (zmc g m) 2 = _ ∧ w' (zmc g m) 3 = _
      by_cases e : m = i
      · subst e
        rw [h3, h4, h5, hsrc]
        exact ⟨rfl, rfl, rfl⟩
      · rw [h6 _ (zmc_inj hm4 hi e)]
        exact q1 m (by omega) hm4
    · show w' j = w j
      rw [h6 j (hj i hi), q2 j hj]
    · show f_X6_copyFrom_b2 S (g + 8) (g' + 8) K (ii i) u = _
      unfold f_X6_copyFrom_b2
      rw [if_neg (by rw [show (4 : Int32) = ii 4 from rfl, ii_le (by omega) (by omega)]; omega), zg8_0 hG, zg8_0 hG', zgl9 hG, zgl9 hG', if_pos (zin_t hi (by omega)), if_pos (zin_t hi (by omega)), zix_ii (by omega), zmcr hG hi, zmcr hG' hi, h1, zbs, ii_succ]
  obtain ⟨⟨x, u⟩, K, ⟨rfl, q0, q1, q2⟩, e⟩ := zlp_to (F := fun K a => f_X6_copyFrom_b2 S (g + 8) (g' + 8) K a.1 a.2) 4 (fun i a => a.1 = ii i ∧ (∀ m, m < 4 → a.2 (zmc g m) 0 = w (zmc g m) 0) ∧ (∀ m, m < i → m < 4 → a.2 (zmc g m) 1 = w (zmc g' m) 1 ∧ a.2 (zmc g m) 2 = w (zmc g' m) 2 ∧ a.2 (zmc g m) 3 = w (zmc g' m) 3) ∧ ∀ j, (∀ m, m < 4 → j ≠ zmc g m) → a.2 j = w j) hs 4 0 (0, w) rfl ⟨rfl, fun _ _ => rfl, fun m h => absurd h (Nat.not_lt_zero m), fun _ _ => rfl⟩ zFU (by decide)
  rw [e]
  · have q2 : ∀ j, (∀ m, m < 4 → j ≠ zmc g m) → u j = w j := q2
    have q1 : ∀ m, m < 4 → m < 4 → u (zmc g m) 1 = w (zmc g' m) 1 ∧ u (zmc g m) 2 = w (zmc g' m) 2 ∧ u (zmc g m) 3 = w (zmc g' m) 3 := q1
    have q0 : ∀ m, m < 4 → u (zmc g m) 0 = w (zmc g m) 0 := q0
    obtain ⟨w', h1, h2, h3, h4⟩ := d7_copy3 (w := u) hG hG' hap
    have hne : ∀ j, j < g + 10 ∨ j = g + 11 ∨ j = g + 12 ∨ g + 16 ≤ j → u j = w j := fun j hj => q2 j (fun m hm => by have := zmc_rg (g := g) hm; omega)
    show ∃ w', f_X6_copyFrom_b2 S (g + 8) (g' + 8) K (ii 4) u = some ((), w') ∧ _
    unfold f_X6_copyFrom_b2
    rw [if_pos (by decide), zg8_2 hG, zg8_2 hG', h1, zbs, zlet_eq]
    dsimp only
    refine ⟨_, rfl, fun m hm => ?_, fun i hi => ?_, ⟨?_, ?_, ?_⟩, ?_, fun j hj => ?_⟩
    · have hz := zmc_rg (g := g) hm
      rw [zput_ne (by omega), h4 _ (by omega) (by omega), q0 m hm]
      exact ⟨rfl, q1 m hm hm⟩
    · rw [zput_ne (by omega), h2 i hi, hne _ (by omega)]
    · rw [zput_ne (by omega), h3.1, hne _ (by omega)]
    · rw [zput_ne (by omega), h3.2.1, hne _ (by omega)]
    · rw [zput_ne (by omega), h3.2.2, hne _ (by omega)]
    · rw [zput_at, upd_at, h4 _ (by omega) (by omega), hne _ (by omega)]
    · rw [zput_ne (by omega), h4 _ (by omega) (by omega), hne _ (by omega)]
def zPac (w : Zw) (g : Nat) : Prop := ∀ m, m < 4 → w (zmc g m) 0 = if m = 3 then 3 else 1
theorem c7_copy (hG : zGar S g) {g' T : Nat} {s : Nat → Int32} (hG' : zGar S g') (hap : g + 16 ≤ g' ∨ g' + 16 ≤ g) (hP : zPac w g) (hR : RG w g' s T) (hcl : ∀ b, b < 60 → s (19 + b) = 0 ∨ s (19 + b) = 1) :
    ∃ w', f_X1_copyFrom S w g g' = some ((), w') ∧ RG w' g s T ∧ ∀ j, j < g ∨ g + 16 ≤ j → w' j = w j := by
  obtain ⟨r1, r2, r3, ⟨r41, r42, r43, r44, r45, r46, r47⟩, r5, r6⟩ := hR
  have l1 := zgl1 hG
  have l2 := zgl2 hG
  have l3 := zgl3 hG
  have l4 := zgl4 hG
  have l5 := zgl5 hG
  have l6 := zgl6 hG
  have m1 := zgl1 hG'
  have m2 := zgl2 hG'
  have m3 := zgl3 hG'
  have m4 := zgl4 hG'
  have m5 := zgl5 hG'
  have m6 := zgl6 hG'
  have i60 : (60 : Int32) = ii 60 := rfl
  have i40 : (40 : Int32) = ii 40 := rfl
  unfold f_X1_copyFrom
  rw [zg0_0 hG, zg0_0 hG', zg0_1 hG, zg0_1 hG', zg0_2 hG, zg0_2 hG', zg0_3 hG, zg0_3 hG', zg0_4 hG, zg0_4 hG', zg0_5 hG, zg0_5 hG', zg0_7 hG, zg0_7 hG', i60, i40]
  rw [if_pos (zcpk_b (by omega) (by omega) (by omega) (fun i hi => by rw [r1 i hi]; exact hcl i hi)), zlet_eq, if_pos (zcpk_i (by omega) (by omega) (by omega)), zlet_eq, if_pos (zcpk_i (by omega) (by omega) (by omega)), zlet_eq, if_pos (zcpk_i (by omega) (by omega) (by omega)), zlet_eq, if_pos (zcpk_i (by omega) (by omega) (by omega)), zlet_eq, if_pos (zcpk_i (by omega) (by omega) (by omega)), zlet_eq]
  generalize hu : zcpy (zcpy (zcpy (zcpy (zcpy (zcpy w (g' + 1) (g + 1) 0 0 (ii 60)) (g' + 2) (g + 2) 0 0 (ii 60)) (g' + 3) (g + 3) 0 0 (ii 40)) (g' + 4) (g + 4) 0 0 (ii 40)) (g' + 5) (g + 5) 0 0 (ii 40)) (g' + 6) (g + 6) 0 0 (ii 40) = u
  have u0 : ∀ j, j < g + 1 ∨ g + 7 ≤ j → u j = w j := by
    intro j hj
    rw [← hu]
    simp (disch := omega) only [zcpy_ne]
  have u1 : ∀ i, i < 60 → u (g + 1) i = w (g' + 1) i := by
    intro i hi
    rw [← hu]
    simp (disch := omega) only [zcpy_ne]
    rw [zcpy_at (by omega) hi]
  have u2 : ∀ i, i < 60 → u (g + 2) i = w (g' + 2) i := by
    intro i hi
    rw [← hu]
    simp (disch := omega) only [zcpy_ne]
    rw [zcpy_at (by omega) hi]
    simp (disch := omega) only [zcpy_ne]
  have u3 : ∀ i, i < 40 → u (g + 3) i = w (g' + 3) i := by
    intro i hi
    rw [← hu]
    simp (disch := omega) only [zcpy_ne]
    rw [zcpy_at (by omega) hi]
    simp (disch := omega) only [zcpy_ne]
  have u4 : ∀ i, i < 40 → u (g + 4) i = w (g' + 4) i := by
    intro i hi
    rw [← hu]
    simp (disch := omega) only [zcpy_ne]
    rw [zcpy_at (by omega) hi]
    simp (disch := omega) only [zcpy_ne]
  have u5 : ∀ i, i < 40 → u (g + 5) i = w (g' + 5) i := by
    intro i hi
    rw [← hu]
    simp (disch := omega) only [zcpy_ne]
    rw [zcpy_at (by omega) hi]
    simp (disch := omega) only [zcpy_ne]
  have u6 : ∀ i, i < 40 → u (g + 6) i = w (g' + 6) i := by
    intro i hi
    rw [← hu]
    rw [zcpy_at (by omega) hi]
    simp (disch := omega) only [zcpy_ne]
  obtain ⟨w', h1, h2, h3, h4, h5, h6⟩ := d7_copy6 (w := u) hG hG' hap
  rw [h1, zbs, zlet_eq, zlet_eq, zlet_eq]
  dsimp only
  have mz : ∀ m, m < 4 → u (zmc g m) = w (zmc g m) ∧ u (zmc g' m) = w (zmc g' m) := by
    intro m hm
    have a1 := zmc_rg (g := g) hm
    have a2 := zmc_rg (g := g') hm
    exact ⟨u0 _ (by omega), u0 _ (by omega)⟩
  refine ⟨_, rfl, ⟨fun b hb => ?_, fun b hb => ?_, fun c hc => ?_, ⟨?_, ?_, ?_, ?_, ?_, ?_, ?_⟩, fun m hm => ?_, fun j p hj hp => ?_⟩, fun j hj => ?_⟩
  · simp (disch := omega) only [zput_ne]
    rw [h6 _ (by omega), u1 b hb, r1 b hb]
  · simp (disch := omega) only [zput_ne]
    rw [h6 _ (by omega), u2 b hb, r2 b hb]
  · simp (disch := omega) only [zput_ne]
    rw [h6 _ (by omega), h6 _ (by omega), h6 _ (by omega), h6 _ (by omega), u3 c hc, u4 c hc, u5 c hc, u6 c hc]
    exact r3 c hc
  · simp (disch := omega) only [zput_ne, zput_at, upd_at, upd_ne]
    rw [h6 _ (by omega), u0 _ (by omega), r41]
  · simp (disch := omega) only [zput_ne, zput_at, upd_at, upd_ne]
    rw [h6 _ (by omega), u0 _ (by omega), r42]
  · simp (disch := omega) only [zput_ne, zput_at, upd_at, upd_ne]
    rw [h6 _ (by omega), u0 _ (by omega), r43]
  · simp (disch := omega) only [zput_ne]
    rw [h5, u0 _ (by omega), r44]
  · simp (disch := omega) only [zput_ne]
    rw [h4.1, u0 _ (by omega), r45]
  · simp (disch := omega) only [zput_ne]
    rw [h4.2.1, u0 _ (by omega), r46]
  · simp (disch := omega) only [zput_ne]
    rw [h4.2.2, u0 _ (by omega), r47]
  · have a1 := zmc_rg (g := g) hm
    simp (disch := omega) only [zput_ne]
    obtain ⟨q0, q1, q2, q3⟩ := h2 m hm
    obtain ⟨-, p1, p2, p3⟩ := r5 m hm
    rw [q0, q1, q2, q3, (mz m hm).1, (mz m hm).2, p1, p2, p3]
    exact ⟨hP m hm, rfl, rfl, rfl⟩
  · simp (disch := omega) only [zput_ne]
    rw [h3 _ (by omega), u0 _ (by omega)]
    exact r6 j p hj hp
  · simp (disch := omega) only [zput_ne]
    rw [h6 _ (by omega), u0 _ (by omega)]
end
end ZCP
