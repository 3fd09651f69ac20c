/-! THE REFERENCE checks a set. -/
section ZIS
variable {S : Zs} {w : Zw} {B n k v : Nat}
theorem e8_isSet (hL : zLay S) (hI : zI (w 256) n k v) (a : Int64) :
    (pSet (w 256) n a → cb (tb a) 64 ≤ 5 → ∃ w', f_X8_isSet S w 255 a = some (1, w') ∧ w' 255 0 = 0 ∧ w' 255 16 = ii (wls (tb a) 40).length ∧ zRow (w' 261) (wls (tb a) 40) ∧ (∀ i, i ≠ 0 → i ≠ 16 → w' 255 i = w 255 i) ∧ ∀ j, j ≠ 255 → j ≠ 261 → w' j = w j) ∧
    (pSet (w 256) n a → ¬ cb (tb a) 64 ≤ 5 → f_X8_isSet S w 255 a = some (0, zput w 255 0 2)) ∧ (¬ pSet (w 256) n a → f_X8_isSet S w 255 a = some (0, zput w 255 0 1)) := by
  have hn := zI_n hI
  have hu : zput w 255 0 0 256 = w 256 := zput_ne (by omega)
  have hIu : zI (zput w 255 0 0 256) n k v := by rw [hu]; exact hI
  have hu0 : zput w 255 0 0 255 0 = 0 := by rw [zput_at, upd_at]
  have hcb : cb (tb a) 64 < 65 := by
    have : ∀ (p : Nat → Bool) m, cb p m ≤ m := by
      intro p m
      induction m with
      | zero => exact Nat.le_refl 0
      | succ m ih =>
        unfold cb
        split <;> omega
    have := this (tb a) 64
    omega
  have h5 : (f_J13_bitCount_95d88 a ≤ (5 : Int32)) ↔ cb (tb a) 64 ≤ 5 := by
    rw [bitCount_cb, show (5 : Int32) = ii 5 from rfl, ii_le (by omega) (by omega)]
  have hun : ∀ i, i < 64 → tb (zlushr a (40 : Int32)) i = tb a (40 + i) := fun i hi => tb_ushr (n := 40) (by omega) a i
  have hini : (a ≠ 0 ∧ zlushr a (40 : Int32) = 0 ∧ ∀ c, c < 40 → tb a c = true → pStored (w 256) n (ii c) = true) ↔ pSet (w 256) n a := by
    constructor
    · rintro ⟨h1, h2, h3⟩
      refine ⟨h1, fun i hi hb => ?_⟩
      by_cases h40 : i < 40
      · exact (pStored_ii (by omega)).mp (h3 i h40 hb)
      · have e := hun (i - 40) (by omega)
        rw [h2, tb_0, show 40 + (i - 40) = i by omega, hb] at e
        cases e
    · rintro ⟨h1, h2⟩
      refine ⟨h1, tb_ext (fun i hi => ?_), fun c hc hb => (pStored_ii (by omega)).mpr (h2 c (by omega) hb)⟩
      rw [hun i hi, tb_0]
      by_cases h24 : 40 + i < 64
      · cases e : tb a (40 + i) with
        | false => rfl
        | true =>
          have := (h2 _ h24 e).1
          omega
      · exact BitVec.getLsbD_of_ge _ _ (by omega)
  -- the loop
  have loop : ∀ (x0 : Int32) (P : Prop), (x0 = 1 ∧ P) ∨ (x0 = 0 ∧ ¬ P) → ∃ x3 K, ((x3 = 1 ∧ P ∧ ∀ c, c < 40 → tb a c = true → pStored (w 256) n (ii c) = true) ∨ (x3 = 0 ∧ ¬ (P ∧ ∀ c, c < 40 → tb a c = true → pStored (w 256) n (ii c) = true))) ∧ f_X8_isSet_l29 S (zput w 255 0 0) 255 a (x0, 0) = f_X8_isSet_b29 S (zput w 255 0 0) 255 a K x3 40 := by
    intro x0 P h0
    have hs : ∀ (K : (Int32 × Int32) → Option (Int32 × Zw)) (i : Nat) (x : Int32 × Int32), i < 40 → (x.2 = ii i ∧ ((x.1 = 1 ∧ P ∧ ∀ c, c < i → tb a c = true → pStored (w 256) n (ii c) = true) ∨ (x.1 = 0 ∧ ¬ (P ∧ ∀ c, c < i → tb a c = true → pStored (w 256) n (ii c) = true)))) →
        ∃ x' : Int32 × Int32, (x'.2 = ii (i + 1) ∧ ((x'.1 = 1 ∧ P ∧ ∀ c, c < i + 1 → tb a c = true → pStored (w 256) n (ii c) = true) ∨ (x'.1 = 0 ∧ ¬ (P ∧ ∀ c, c < i + 1 → tb a c = true → pStored (w 256) n (ii c) = true)))) ∧ f_X8_isSet_b29 S (zput w 255 0 0) 255 a K x.1 x.2 = K x' := by
      rintro K i ⟨x, y⟩ hi ⟨rfl, hx⟩
      have hx : (x = 1 ∧ P ∧ ∀ c, c < i → tb a c = true → pStored (w 256) n (ii c) = true) ∨ (x = 0 ∧ ¬ (P ∧ ∀ c, c < i → tb a c = true → pStored (w 256) n (ii c) = true)) := hx
      have hc : ¬ (40 : Int32) ≤ ii i := by rw [show (40 : Int32) = ii 40 from rfl, ii_le (by omega) (by omega)]; omega
      have x1 : x &&& 1 = x := by rcases hx with ⟨rfl, -⟩ | ⟨rfl, -⟩ <;> decide
      have x0' : x &&& 0 = 0 := by rcases hx with ⟨rfl, -⟩ | ⟨rfl, -⟩ <;> decide
      have hgo : (tb a i = true → pStored (w 256) n (ii i) = true) → (x = 1 ∧ P ∧ ∀ c, c < i + 1 → tb a c = true → pStored (w 256) n (ii c) = true) ∨ (x = 0 ∧ ¬ (P ∧ ∀ c, c < i + 1 → tb a c = true → pStored (w 256) n (ii c) = true)) := by
        intro hi9
        rcases hx with ⟨e, hp, hg⟩ | ⟨e, hg⟩
        · refine Or.inl ⟨e, hp, fun c hc hb => ?_⟩
          by_cases ec : c = i
          · subst ec
            exact hi9 hb
          · exact hg c (by omega) hb
        · exact Or.inr ⟨e, fun q => hg ⟨q.1, fun c hc hb => q.2 c (by omega) hb⟩⟩
      show ∃ x' : Int32 × Int32, _ ∧ f_X8_isSet_b29 S (zput w 255 0 0) 255 a K x (ii i) = K x'
      unfold f_X8_isSet_b29
      rw [if_neg hc]
      by_cases hb : tb a i = true
      · rw [if_neg (by rw [tb_u (by omega)]; rw [hb]; decide), c8_isCar hL hIu, hu, zbs, zlet_eq, zlet_eq, x1, x0', ii_succ]
        by_cases hst : pStored (w 256) n (ii i) = true
        · rw [if_pos hst, if_neg (by decide)]
          exact ⟨(x, ii (i + 1)), ⟨rfl, hgo (fun _ => hst)⟩, rfl⟩
        · rw [if_neg hst, if_pos rfl]
          exact ⟨(0, ii (i + 1)), ⟨rfl, Or.inr ⟨rfl, fun q => hst (q.2 i (by omega) hb)⟩⟩, rfl⟩
      · have hb' : tb a i = false := by
          cases e : tb a i with
          | false => rfl
          | true => exact absurd e hb
        rw [if_pos ((tb_u (by omega) a).mpr hb'), zlet_eq, x1, ii_succ]
        exact ⟨(x, ii (i + 1)), ⟨rfl, hgo (fun q => absurd q hb)⟩, rfl⟩
    obtain ⟨⟨x3, x4⟩, K, ⟨rfl, h1⟩, e⟩ := zlp_to (F := fun K x => f_X8_isSet_b29 S (zput w 255 0 0) 255 a K x.1 x.2) 40 (fun i x => x.2 = ii i ∧ ((x.1 = 1 ∧ P ∧ ∀ c, c < i → tb a c = true → pStored (w 256) n (ii c) = true) ∨ (x.1 = 0 ∧ ¬ (P ∧ ∀ c, c < i → tb a c = true → pStored (w 256) n (ii c) = true)))) hs 40 0 (x0, 0) rfl ⟨rfl, by
      rcases h0 with ⟨e, hp⟩ | ⟨e, hp⟩
      · exact Or.inl ⟨e, hp, fun c hc => absurd hc (Nat.not_lt_zero c)⟩
      · exact Or.inr ⟨e, fun q => hp q.1⟩⟩ zFU (by decide)
    exact ⟨x3, K, h1, e⟩
  have start : ∃ x0, ((x0 = 1 ∧ (a ≠ 0 ∧ zlushr a (40 : Int32) = 0)) ∨ (x0 = 0 ∧ ¬ (a ≠ 0 ∧ zlushr a (40 : Int32) = 0))) ∧ f_X8_isSet S w 255 a = f_X8_isSet_l29 S (zput w 255 0 0) 255 a (x0, 0) := by
    unfold f_X8_isSet f_X8_isSet_j24 f_X8_isSet_j25
    rw [zlet_eq]
    by_cases h0 : a = 0
    · exact ⟨0, Or.inr ⟨rfl, fun q => q.1 h0⟩, by rw [if_pos ((lg_cmp_eq a 0).mpr h0)]⟩
    · by_cases h1 : zlushr a (40 : Int32) = 0
      · exact ⟨1, Or.inl ⟨rfl, h0, h1⟩, by rw [if_neg (fun q => h0 ((lg_cmp_eq a 0).mp q)), if_pos ((lg_cmp_eq _ 0).mpr h1)]⟩
      · exact ⟨0, Or.inr ⟨rfl, fun q => h1 q.2⟩, by rw [if_neg (fun q => h0 ((lg_cmp_eq a 0).mp q)), if_neg (fun q => h1 ((lg_cmp_eq _ 0).mp q))]⟩
  obtain ⟨x0, hx0, e0⟩ := start
  obtain ⟨x3, K, hx3, e3⟩ := loop x0 _ hx0
  rw [e0, e3]
  have hset : (x3 = 1 ∧ pSet (w 256) n a) ∨ (x3 = 0 ∧ ¬ pSet (w 256) n a) := by
    rcases hx3 with ⟨h1, h2, h3⟩ | ⟨h1, h2⟩
    · exact Or.inl ⟨h1, hini.mp ⟨h2.1, h2.2, h3⟩⟩
    · refine Or.inr ⟨h1, fun q => h2 ?_⟩
      have := hini.mpr q
      exact ⟨⟨this.1, this.2.1⟩, this.2.2⟩
  unfold f_X8_isSet_b29
  rw [if_pos (by decide)]
  have h01 : zput (zput w 255 0 0) 255 0 1 255 0 = 1 := by rw [zput_at, upd_at]
  have h02 : zput (zput w 255 0 0) 255 0 2 255 0 = 2 := by rw [zput_at, upd_at]
  refine ⟨fun h1 h2 => ?_, fun h1 h2 => ?_, fun h1 => ?_⟩
  · have hx : x3 = 1 := by rcases hset with ⟨q, -⟩ | ⟨-, q⟩; exact q; exact absurd h1 q
    subst hx
    have h40 : cb (tb a) 40 ≤ 5 := by rw [← cb_set h1 hn]; exact h2
    obtain ⟨w', g1, g2, g3, g4, g5⟩ := e8_wanted (S := S) (w := zput (zput w 255 0 0) 255 16 0) hL a h40 (by rw [zput_at, upd_at])
    refine ⟨w', ?_, ?_, by rw [wls_len]; exact g2, g3, fun i hi0 hi16 => ?_, fun j hj1 hj2 => ?_⟩
    · unfold f_X8_isSet_j95
      rw [if_neg (by decide), if_pos (h5.mpr h2), if_pos hu0, zlet_eq, g1]
    · rw [g4 0 (by omega), zput_at, upd_ne (by omega), hu0]
    · rw [g4 i hi16, zput_at, upd_ne hi16, zput_at, upd_ne hi0]
    · rw [g5 j hj1 hj2, zput_ne hj1, zput_ne hj1]
  · have hx : x3 = 1 := by rcases hset with ⟨q, -⟩ | ⟨-, q⟩; exact q; exact absurd h1 q
    subst hx
    unfold f_X8_isSet_j95
    rw [if_neg (by decide), if_neg (fun q => h2 (h5.mp q)), zlet_eq, if_neg (by rw [h02]; decide), zput_zput]
  · have hx : x3 = 0 := by rcases hset with ⟨-, q⟩ | ⟨q, -⟩; exact absurd q h1; exact q
    subst hx
    unfold f_X8_isSet_j95
    rw [if_pos rfl, zlet_eq, if_neg (by rw [h01]; decide), zput_zput]
end ZIS
