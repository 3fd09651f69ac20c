/-! OPERATIONS on both sides: store, pass, close, retrieve. -/
section ZOP
variable {S : Zs} {w wd r : Zw} {B B' n k v : Nat} {s : Nat → Int32}
theorem RG_closed {g T b : Nat} {x : Int32} (hR : RG w g s T) (hb : b < 60) : RG (zput w (g + 1) b x) g (upd s (19 + b) x) T := by
  obtain ⟨r1, r2, r3, ⟨r41, r42, r43, r44, r45, r46, r47⟩, r5, r6⟩ := hR
  refine ⟨fun b' hb' => ?_, fun b' hb' => by rw [zput_ne (by omega), upd_ne (by omega)]; exact r2 b' hb', fun c hc => ?_, ⟨?_, ?_, ?_, ?_, ?_, ?_, ?_⟩, fun m hm => ?_, fun j p hj hp => by rw [zput_ne (by omega), upd_ne (by omega)]; exact r6 j p hj hp⟩
  · rw [zput_at]
    by_cases e : b' = b
    · subst e
      rw [upd_at, upd_at]
    · rw [upd_ne e, upd_ne (by omega)]
      exact r1 b' hb'
  · rw [zput_ne (by omega), zput_ne (by omega), zput_ne (by omega), zput_ne (by omega), upd_ne (by omega), upd_ne (by omega), upd_ne (by omega), upd_ne (by omega)]
    exact r3 c hc
  · rw [zput_ne (by omega), upd_ne (by omega)]; exact r41
  · rw [zput_ne (by omega), upd_ne (by omega), upd_ne (by omega)]; exact r42
  · rw [zput_ne (by omega), upd_ne (by omega)]; exact r43
  · rw [zput_ne (by omega), upd_ne (by omega)]; exact r44
  · rw [zput_ne (by omega), upd_ne (by omega), upd_ne (by omega), upd_ne (by omega)]; exact r45
  · rw [zput_ne (by omega), upd_ne (by omega)]; exact r46
  · rw [zput_ne (by omega), upd_ne (by omega)]; exact r47
  · have hz := zmc_rg (g := g) hm
    rw [zput_ne (by omega), upd_ne (by omega), upd_ne (by omega), upd_ne (by omega)]
    exact r5 m hm
theorem RG_time {g T : Nat} {x : Int32} (hR : RG w g s T) : RG (zput w (g + 8) 3 x) g (upd s 0 x) T := by
  obtain ⟨r1, r2, r3, ⟨r41, r42, r43, r44, r45, r46, r47⟩, r5, r6⟩ := hR
  refine ⟨fun b' hb' => by rw [zput_ne (by omega), upd_ne (by omega)]; exact r1 b' hb', fun b' hb' => by rw [zput_ne (by omega), upd_ne (by omega)]; exact r2 b' hb', fun c hc => ?_, ⟨?_, ?_, ?_, ?_, ?_, ?_, ?_⟩, fun m hm => ?_, fun j p hj hp => by rw [zput_ne (by omega), upd_ne (by omega)]; exact r6 j p hj hp⟩
  · rw [zput_ne (by omega), zput_ne (by omega), zput_ne (by omega), zput_ne (by omega), upd_ne (by omega), upd_ne (by omega), upd_ne (by omega), upd_ne (by omega)]
    exact r3 c hc
  · rw [zput_ne (by omega), upd_ne (by omega)]; exact r41
  · rw [zput_ne (by omega), upd_ne (by omega), upd_ne (by omega)]; exact r42
  · rw [zput_ne (by omega), upd_ne (by omega)]; exact r43
  · rw [zput_at, upd_at, upd_at]
  · rw [zput_ne (by omega), upd_ne (by omega), upd_ne (by omega), upd_ne (by omega)]; exact r45
  · rw [zput_ne (by omega), upd_ne (by omega)]; exact r46
  · rw [zput_ne (by omega), upd_ne (by omega)]; exact r47
  · have hz := zmc_rg (g := g) hm
    rw [zput_ne (by omega), upd_ne (by omega), upd_ne (by omega), upd_ne (by omega)]
    exact r5 m hm
theorem zI9_upd {i : Nat} {x : Int32} (hI : zI9 s n k v) (hi : (i = 0 ∧ 0 ≤ x ∧ x ≤ 9999) ∨ (19 ≤ i ∧ i < 79 ∧ (x = 0 ∨ x = 1))) : zI9 (upd s i x) n k v := by
  have hn := zI_n hI.1
  obtain ⟨⟨i1, i2, i3, i4, i5, i6, i7, i8, i9, i10, i11, i12⟩, hpk, hct⟩ := hI
  refine ⟨⟨by rw [upd_ne (by omega)]; exact i1, by rw [upd_ne (by omega)]; exact i2, by rw [upd_ne (by omega)]; exact i3, i4, i5, i6, by rw [upd_ne (by omega)]; exact i7, ?_, fun b hb => ?_, fun b hb => ?_, fun c hc => ?_, fun m hm => by rw [upd_ne (by omega), upd_ne (by omega)]; exact i12 m hm⟩, fun c hc => by rw [upd_ne (by omega)]; exact hpk c hc, ?_⟩
  · rcases hi with ⟨rfl, h1, h2⟩ | ⟨h1, h2, h3⟩
    · rw [upd_at]
      exact ⟨h1, h2⟩
    · rw [upd_ne (by omega)]
      exact i8
  · by_cases e : 19 + b = i
    · subst e
      rw [upd_at]
      rcases hi with ⟨h, -⟩ | ⟨-, -, h3⟩
      · omega
      · exact h3
    · rw [upd_ne e]
      exact i9 b hb
  · rw [upd_ne (by omega)]
    rcases i10 b hb with g | ⟨c, hc, g1, g2⟩
    · exact Or.inl g
    · exact Or.inr ⟨c, hc, g1, by rw [upd_ne (by omega)]; exact g2⟩
  · rw [upd_ne (by omega)]
    rcases i11 c hc with g | ⟨b, hb, g1, g2⟩
    · exact Or.inl g
    · exact Or.inr ⟨b, hb, g1, by rw [upd_ne (by omega)]; exact g2⟩
  · rw [pCnt_eq (s := s) (fun b hb => by rw [upd_ne (by omega)])]
    exact hct
theorem Sh_R {g : Nat} (hI : zI s n k v) (hR : RG w g s (n + k + v)) : Sh w g s := by
  unfold Sh
  rw [pT_I hI]
  exact hR
theorem R_Sh {g : Nat} (hI : zI s n k v) (hS : Sh w g s) : RG w g s (n + k + v) := by
  rw [← pT_I hI]
  exact hS
/-- storing, size and pickup in range -/
theorem o_store (hL : zLay S) (hI : zI9 (r 256) n k v) (hR : RG wd 2 (r 256) (n + k + v)) {size pk : Int32} (h1 : 0 ≤ size ∧ size ≤ 1) (h2 : 0 ≤ pk ∧ pk ≤ 9999) (hn : n < 40) :
    (∃ b wo r2, b < 60 ∧ f_X1_takeIn S wd 2 size pk = some (ii b, wo) ∧ f_X8_stores S r 255 size pk = some (ii b, r2) ∧ zI9 (r2 256) (n + 1) k v ∧ RG wo 2 (r2 256) (n + 1 + k + v) ∧ (∀ j, j < 2 ∨ 18 ≤ j → wo j = wd j) ∧ zE8 r r2) ∨
    (f_X1_takeIn S wd 2 size pk = some (-1, wd) ∧ f_X8_stores S r 255 size pk = some (0, zput r 255 0 3)) := by
  have z1 : zin (1 : Int32) 399 = true := by decide
  have z11 : zix (1 : Int32) = 1 := by decide
  have hch := (c8_choose (S := S) (w := r) hL hI.1 (size := size) (pk := pk) (fr := -1) (Or.inl rfl)).1
  have h40 : ¬ ii n = 40 := by
    rw [show (40 : Int32) = ii 40 from rfl, ii_iff (by omega) (by omega)]
    omega
  rcases pCh_ok (s := r 256) (size := size) (pk := pk) (fr := -1) with g | ⟨b, hb, g, g2⟩
  · refine Or.inr ⟨c7_takeIn0 (zG2 hL) hR hI.1 (Or.inl g), ?_⟩
    unfold f_X8_stores
    rw [c8_isSize, if_pos h1, zbs, if_neg (by decide), c8_isPickup, if_pos h2, zbs, if_neg (by decide), zt255_1 hL, ztl256 hL, if_pos z1, zlet_eq, z11, hI.1.1, if_neg h40, hch, zbs, g, if_neg (by decide), e8_fails, zbs]
  · obtain ⟨wo, a1, a2, a3⟩ := c7_takeIn (S := S) (w := wd) (zG2 hL) hR hI.1 hb g hn
    obtain ⟨r2, c1, c2, c3⟩ := e8_in (S := S) (w := r) (size := size) (pk := pk) hL hI.1 hb hn rfl
    have hI2 := pIn_I (size := size) (pk := pk) hI hb hn (pCand_emp g2) h2.1 h2.2
    refine Or.inl ⟨b, wo, r2, hb, a1, ?_, by rw [c2]; exact hI2, ?_, a3, c3⟩
    · unfold f_X8_stores
      have e0 : (139 : Int32) + (4 : Int32) * ii n = ii (139 + 4 * n) := by
        rw [show (139 : Int32) = ii 139 from rfl, show (4 : Int32) = ii 4 from rfl, ii_mul, ii_add]
      have e1 : ii (139 + 4 * n) + 1 = ii (139 + 4 * n + 1) := ii_add _ 1
      have e3 : ii (139 + 4 * n) + 3 = ii (139 + 4 * n + 3) := ii_add _ 3
      have e9 : zput (zput (zput r 256 (139 + 4 * n) size) 256 (139 + 4 * n + 1) pk) 256 (139 + 4 * n + 3) 0 256 1 = r 256 1 := by
        rw [zput_at, upd_ne (by omega), zput_at, upd_ne (by omega), zput_at, upd_ne (by omega)]
      have e8 : r 256 1 = ii n := hI.1.1
      rw [c8_isSize, if_pos h1, zbs, if_neg (by decide), c8_isPickup, if_pos h2, zbs, if_neg (by decide), zt255_1 hL, ztl256 hL, if_pos z1, zlet_eq, z11, e8, if_neg h40, hch, zbs, g, if_pos (ii_nn (by omega)), e0, e1, e3, if_pos (zin_t (by omega) (by omega)), zlet_eq, if_pos (zin_t (by omega) (by omega)), zlet_eq, if_pos (zin_t (by omega) (by omega)), zlet_eq, if_pos z1, if_pos z1, zlet_eq, zix_ii (by omega), zix_ii (by omega), zix_ii (by omega), e9, c1, zbs]
    · rw [c2]
      have : n + 1 + k + v = n + k + v + 1 := by omega
      rw [this]
      exact a2
theorem e8_stores1 {size pk : Int32} (h : ¬ ((0 ≤ size ∧ size ≤ 1) ∧ (0 ≤ pk ∧ pk ≤ 9999))) : f_X8_stores S r 255 size pk = some (0, zput r 255 0 1) := by
  unfold f_X8_stores f_X8_stores_j14
  rw [c8_isSize, zbs]
  by_cases h1 : 0 ≤ size ∧ size ≤ 1
  · rw [if_pos h1, if_neg (by decide), c8_isPickup, zbs, if_neg (fun q => h ⟨h1, q⟩), if_pos rfl, e8_fails, zbs]
  · rw [if_neg h1, if_pos rfl, e8_fails, zbs]
theorem e8_stores2 (hL : zLay S) {size pk : Int32} (h1 : 0 ≤ size ∧ size ≤ 1) (h2 : 0 ≤ pk ∧ pk ≤ 9999) (hn : r 256 1 = ii 40) : f_X8_stores S r 255 size pk = some (0, zput r 255 0 2) := by
  have z1 : zin (1 : Int32) 399 = true := by decide
  have z11 : zix (1 : Int32) = 1 := by decide
  unfold f_X8_stores
  rw [c8_isSize, if_pos h1, zbs, if_neg (by decide), c8_isPickup, if_pos h2, zbs, if_neg (by decide), zt255_1 hL, ztl256 hL, if_pos z1, zlet_eq, z11, hn, if_pos (by decide), e8_fails, zbs]
/-- time passes -/
theorem o_pass (hL : zLay S) (hI : zI9 (r 256) n k v) (hR : RG wd 2 (r 256) (n + k + v)) {a : Int32} (ha : 1 ≤ a ∧ a ≤ 999) :
    (∃ wo r2, f_X1_letPass S wd 2 a = some (1, wo) ∧ f_X8_passes S r 255 a = some (r2 256 0, r2) ∧ zI9 (r2 256) n k v ∧ RG wo 2 (r2 256) (n + k + v) ∧ (∀ j, j < 2 ∨ 18 ≤ j → wo j = wd j) ∧ zE8 r r2) ∨
    (f_X1_letPass S wd 2 a = some (0, wd) ∧ f_X8_passes S r 255 a = some (0, zput r 255 0 2)) := by
  have z0 : zin (0 : Int32) 399 = true := by decide
  have z00 : zix (0 : Int32) = 0 := by decide
  have t0 : wd (2 + 8) 3 = r 256 0 := hR.2.2.2.1.2.2.2.1
  have hsum : 0 ≤ r 256 0 + a := by
    obtain ⟨g1, g2, -⟩ := zN_of hI.1
    obtain ⟨m, hm, rfl⟩ := ii_of (show (0 : Int32) ≤ a by have := ha.1; grind)
    have h9 := ha.2
    rw [show (999 : Int32) = ii 999 from rfl, ii_le hm (by omega)] at h9
    rw [g1, ii_add]
    exact ii_nn (by omega)
  by_cases hle : r 256 0 + a ≤ 9999
  · refine Or.inl ⟨zput wd 10 3 (r 256 0 + a), zput r 256 0 (r 256 0 + a), ?_, ?_, ?_, ?_, fun j hj => zput_ne (by omega), fun j a b => zput_ne (by omega), fun i a b => by rw [zput_ne (by omega)]⟩
    · unfold f_X1_letPass
      rw [zg0_7 (zG2 hL), t0, if_pos hle, zlet_eq]
    · unfold f_X8_passes
      rw [c8_inn, if_pos ha, zbs, if_neg (by decide), zt255_1 hL, ztl256 hL, if_pos z0, z00, if_pos hle, if_pos z0, if_pos z0, zlet_eq, if_pos z0]
    · rw [zput_at]
      exact zI9_upd hI (Or.inl ⟨rfl, hsum, hle⟩)
    · rw [zput_at]
      exact RG_time (g := 2) hR
  · refine Or.inr ⟨?_, ?_⟩
    · unfold f_X1_letPass
      rw [zg0_7 (zG2 hL), t0, if_neg hle]
    · unfold f_X8_passes
      rw [c8_inn, if_pos ha, zbs, if_neg (by decide), zt255_1 hL, ztl256 hL, if_pos z0, z00, if_neg hle, e8_fails, zbs]
theorem e8_passes1 {a : Int32} (ha : ¬ (1 ≤ a ∧ a ≤ 999)) : f_X8_passes S r 255 a = some (0, zput r 255 0 1) := by
  unfold f_X8_passes
  rw [c8_inn, if_neg ha, zbs, if_pos rfl, e8_fails, zbs]
theorem c7_isPass (a : Int32) : f_X7_isPass a = some (if 1 ≤ a ∧ a ≤ 999 then 1 else 0) := by
  unfold f_X7_isPass
  by_cases h1 : a < 1
  · rw [if_pos h1, if_neg (by intro q; have := q.1; grind)]
  · rw [if_neg h1]
    by_cases h2 : (999 : Int32) < a
    · rw [if_pos h2, if_neg (by intro q; have := q.2; grind)]
    · rw [if_neg h2, if_pos ⟨by grind, by grind⟩]
/-- a bay is closed or opened -/
theorem o_close (hL : zLay S) (hI : zI9 (r 256) n k v) (hR : RG wd 2 (r 256) (n + k + v)) {b : Nat} (hb : b < 60) {x : Int32} (hx : x = 0 ∨ x = 1) :
    ∃ wo r2, f_X1_changeClosed S wd 2 (ii b) x = some (r 256 (19 + b), wo) ∧ f_X8_closes S r 255 (ii b) x = some (r 256 (19 + b), r2) ∧ zI9 (r2 256) n k v ∧ RG wo 2 (r2 256) (n + k + v) ∧ (∀ j, j < 2 ∨ 18 ≤ j → wo j = wd j) ∧ zE8 r r2 := by
  have hcl := hI.1.2.2.2.2.2.2.2.2.1 b hb
  have hb1 : zb1 (r 256 (19 + b)) = true := by rcases hcl with e | e <;> rw [e] <;> decide
  have hnar : vp_nar .boolean x = x := by rcases hx with rfl | rfl <;> rfl
  have hz : zin (ii b) 60 = true := zin_t hb (by omega)
  refine ⟨zput wd 3 b x, zput r 256 (19 + b) x, ?_, ?_, ?_, ?_, fun j hj => zput_ne (by omega), fun j a b => zput_ne (by omega), fun i a b => by rw [zput_ne (by omega)]⟩
  · unfold f_X1_changeClosed
    rw [zg0_0 (zG2 hL), zgl1 (zG2 hL), if_pos hz, zlet_eq, if_pos hz, zlet_eq, zix_ii (by omega), hR.1 b hb, if_pos hb1, hnar]
  · unfold f_X8_closes
    rw [c8_isBay, if_pos (show 0 ≤ ii b ∧ ii b ≤ 59 from ii_rng' (m := 59) (by omega) (by omega)), zbs, if_neg (by decide), show (19 : Int32) = ii 19 from rfl, ii_add, zt255_1 hL, ztl256 hL, if_pos (zin_t (by omega) (by omega)), zlet_eq, if_pos (zin_t (by omega) (by omega)), zlet_eq, zix_ii (by omega)]
  · rw [zput_at]
    exact zI9_upd hI (Or.inr ⟨by omega, by omega, hx⟩)
  · rw [zput_at]
    exact RG_closed (g := 2) hR hb
theorem e8_closes1 {a x : Int32} (ha : ¬ (0 ≤ a ∧ a ≤ 59)) : f_X8_closes S r 255 a x = some (0, zput r 255 0 1) := by
  unfold f_X8_closes
  rw [c8_isBay, if_neg ha, zbs, if_pos rfl, e8_fails, zbs]
/-- open bays without a car -/
def pOpS (s : Nat → Int32) (i : Nat) (a : Int32) : Int32 := if s (19 + i) = 0 ∧ s (79 + i) = -1 then a + 1 else a
def pOpen (s : Nat → Int32) : Int32 := zfold (pOpS s) 0 60 0
theorem c7_open {g T : Nat} (hG : zGar S g) (hR : RG w g s T) : f_X1_countOpenWithoutCar S w g 0 = some (pOpen s) := by
  have hs : ∀ (K : (Int32 × Int32) → Option Int32) (i : Nat) (a : Int32), i < 60 → True → f_X1_countOpenWithoutCar_b4 S w g 0 K a (ii i) = K (pOpS s i a, ii (i + 1)) ∧ True := by
    intro K i a hi _
    refine ⟨?_, trivial⟩
    unfold f_X1_countOpenWithoutCar_b4 pOpS
    rw [if_neg (by rw [show (60 : Int32) = ii 60 from rfl, ii_le (by omega) (by omega)]; omega), zg0_0 hG, zgl1 hG, if_pos (zin_t hi (by omega)), zix_ii (by omega), hR.1 i hi, zg0_1 hG, zgl2 hG, if_pos (zin_t hi (by omega)), hR.2.1 i hi, ii_succ, if_pos rfl]
    by_cases h1 : s (19 + i) = 0
    · rw [if_pos h1]
      by_cases h2 : s (79 + i) = -1
      · rw [if_pos h2, if_pos ⟨h1, h2⟩]
      · rw [if_neg h2, if_neg (fun q => h2 q.2)]
    · rw [if_neg h1, if_neg (fun q => h1 q.1)]
  have he : ∀ (K : (Int32 × Int32) → Option Int32) (a : Int32), True → f_X1_countOpenWithoutCar_b4 S w g 0 K a (ii 60) = some a := by
    intro K a _
    unfold f_X1_countOpenWithoutCar_b4
    rw [if_pos (by decide)]
  exact (zlp_for (F := fun K a => f_X1_countOpenWithoutCar_b4 S w g 0 K a.1 a.2) (fun i (a : Int32) => (a, ii i)) 60 (pOpS s) (fun a => some a) (fun _ _ => True) hs he 60 0 0 rfl trivial zFU (by decide)).1
theorem c8_open (hL : zLay S) (hI : zI (w 256) n k v) : f_X8_open S w 255 = some (pOpen (w 256)) := by
  have hs : ∀ (K : (Int32 × Int32) → Option Int32) (i : Nat) (a : Int32), i < 60 → True → f_X8_open_b4 S w 255 K a (ii i) = K (pOpS (w 256) i a, ii (i + 1)) ∧ True := by
    intro K i a hi _
    refine ⟨?_, trivial⟩
    have z0 : a + 0 = a := by grind
    unfold f_X8_open_b4 pOpS
    rw [if_neg (by rw [show (60 : Int32) = ii 60 from rfl, ii_le (by omega) (by omega)]; omega), show (19 : Int32) = ii 19 from rfl, ii_add, zt255_1 hL, ztl256 hL, if_pos (zin_t (by omega) (by omega)), zix_ii (by omega), c8_isEmpty hL hI hi, zbs, ii_succ, zlet_eq, zlet_eq, z0]
    by_cases h1 : w 256 (19 + i) = 0
    · rw [if_pos h1]
      by_cases h2 : w 256 (79 + i) = -1
      · rw [if_pos h2, if_neg (by decide), if_pos ⟨h1, h2⟩]
      · rw [if_neg h2, if_pos rfl, if_neg (fun q => h2 q.2)]
    · rw [if_neg h1, if_neg (fun q => h1 q.1)]
  have he : ∀ (K : (Int32 × Int32) → Option Int32) (a : Int32), True → f_X8_open_b4 S w 255 K a (ii 60) = some a := by
    intro K a _
    unfold f_X8_open_b4
    rw [if_pos (by decide)]
  exact (zlp_for (F := fun K a => f_X8_open_b4 S w 255 K a.1 a.2) (fun i (a : Int32) => (a, ii i)) 60 (pOpS (w 256)) (fun a => some a) (fun _ _ => True) hs he 60 0 0 rfl trivial zFU (by decide)).1
end ZOP
