/-! SETS OF CARS: due; the check of a set; the cars of a set. -/
section ZSE
variable {S : Zs} {w : Zw} {B n k v : Nat} {s : Nat → Int32}
def pSu (s : Nat → Int32) (t : Int32) (i : Nat) (a : Int64) : Int64 := if s (139 + 4 * i + 2) ≠ -1 ∧ s (139 + 4 * i + 1) ≤ t then a ||| zlshl 1 (ii i) else a
def pDue (s : Nat → Int32) (n : Nat) (t : Int32) : Int64 := zfold (pSu s t) 0 n 0
theorem pDue_tb (t : Int32) (m : Nat) (hm : m ≤ 40) {i : Nat} (hi : i < 64) : tb (pDue s m t) i = true ↔ i < m ∧ s (139 + 4 * i + 2) ≠ -1 ∧ s (139 + 4 * i + 1) ≤ t := by
  induction m with
  | zero =>
    have : tb (pDue s 0 t) i = false := tb_0 i
    rw [this]
    simp
  | succ m ih =>
    have ih := ih (by omega)
    have e : pDue s (m + 1) t = pSu s t m (pDue s m t) := by
      unfold pDue
      rw [zfold_succ, Nat.zero_add]
    rw [e]
    unfold pSu
    by_cases h : s (139 + 4 * m + 2) ≠ -1 ∧ s (139 + 4 * m + 1) ≤ t
    · rw [if_pos h, tb_or, tb_shl (by omega) hi]
      by_cases em : m = i
      · subst em
        simp [h.1, h.2]
      · simp only [em, decide_false, Bool.or_false]
        rw [ih]
        constructor
        · exact fun q => ⟨by omega, q.2⟩
        · exact fun q => ⟨by omega, q.2⟩
    · rw [if_neg h, ih]
      constructor
      · exact fun q => ⟨by omega, q.2⟩
      · intro q
        by_cases em : i = m
        · subst em
          exact absurd q.2 h
        · exact ⟨by omega, q.2⟩
theorem c7_due {g : Nat} (hG : zGar S g) (hR : RG w g s (n + k + v)) (hI : zI s n k v) (t : Int32) : f_X1_storedUntil S w g t = some (pDue s n t) := by
  have hn := zI_n hI
  have hs : ∀ (K : (Int64 × Int32) → Option Int64) (i : Nat) (a : Int64), i < n → True → f_X1_storedUntil_b5 S w g t K a (ii i) = K (pSu s t i a, ii (i + 1)) ∧ True := by
    intro K i a hi _
    refine ⟨?_, trivial⟩
    unfold f_X1_storedUntil_b5 pSu
    rw [hR.2.2.2.1.1, hI.1, if_neg (by rw [ii_le (by omega) (by omega)]; omega), c7_isStored hG hR hI, zbs, zg0_3 hG, zgl4 hG, if_pos (zin_t (show i < 40 by omega) (by omega)), zix_ii (by omega), (hR.2.2.1 i (by omega)).2.1, ii_succ, zlet_eq]
    by_cases h1 : s (139 + 4 * i + 2) = -1
    · rw [if_neg (fun q => ((pStored_ii (by omega)).mp q).2 h1), if_pos rfl, if_neg (fun q => q.1 h1)]
    · rw [if_pos ((pStored_ii (by omega)).mpr ⟨hi, h1⟩), if_neg (by decide)]
      by_cases h2 : t < s (139 + 4 * i + 1)
      · rw [if_pos h2, if_neg (fun q => by have := q.2; grind)]
      · rw [if_neg h2, if_pos ⟨h1, by grind⟩]
  have he : ∀ (K : (Int64 × Int32) → Option Int64) (a : Int64), True → f_X1_storedUntil_b5 S w g t K a (ii n) = some a := by
    intro K a _
    unfold f_X1_storedUntil_b5
    rw [hR.2.2.2.1.1, hI.1, if_pos (by rw [ii_le (by omega) (by omega)]; omega)]
  exact (zlp_for (F := fun K a => f_X1_storedUntil_b5 S w g t K a.1 a.2) (fun i (a : Int64) => (a, ii i)) n (pSu s t) (fun a => some a) (fun _ _ => True) hs he n 0 0 (by omega) trivial zFU (by unfold zFU; omega)).1
theorem c8_due (hL : zLay S) (hI : zI (w 256) n k v) (t : Int32) : f_X8_due_l24 S w 255 t (0, 0) = some (pDue (w 256) n t, w) := by
  have hn := zI_n hI
  have z1 : zin (1 : Int32) 399 = true := by decide
  have z11 : zix (1 : Int32) = 1 := by decide
  have o0 : ∀ a : Int64, a ||| 0 = a := by
    intro a
    refine tb_ext (fun i hi => ?_)
    rw [tb_or, tb_0, Bool.or_false]
  have hs : ∀ (K : (Int64 × Int32) → Option (Int64 × Zw)) (i : Nat) (a : Int64), i < n → True → f_X8_due_b24 S w 255 t K a (ii i) = K (pSu (w 256) t i a, ii (i + 1)) ∧ True := by
    intro K i a hi _
    refine ⟨?_, trivial⟩
    unfold f_X8_due_b24 pSu
    rw [zt255_1 hL, ztl256 hL, if_pos z1, z11, hI.1, if_neg (by rw [ii_le (by omega) (by omega)]; omega), c8_isCar hL hI, zbs, c8_pickup hL (by omega), zbs, ii_succ, zlet_eq, zlet_eq, o0]
    by_cases h1 : w 256 (139 + 4 * i + 2) = -1
    · rw [if_neg (fun q => ((pStored_ii (by omega)).mp q).2 h1), if_pos rfl, if_neg (fun q => q.1 h1)]
    · rw [if_pos ((pStored_ii (by omega)).mpr ⟨hi, h1⟩), if_neg (by decide)]
      by_cases h2 : t < w 256 (139 + 4 * i + 1)
      · rw [if_pos h2, if_neg (fun q => by have := q.2; grind)]
      · rw [if_neg h2, if_pos ⟨h1, by grind⟩]
  have he : ∀ (K : (Int64 × Int32) → Option (Int64 × Zw)) (a : Int64), True → f_X8_due_b24 S w 255 t K a (ii n) = some (a, w) := by
    intro K a _
    unfold f_X8_due_b24
    rw [zt255_1 hL, ztl256 hL, if_pos z1, z11, hI.1, if_pos (by rw [ii_le (by omega) (by omega)]; omega)]
  exact (zlp_for (F := fun K a => f_X8_due_b24 S w 255 t K a.1 a.2) (fun i (a : Int64) => (a, ii i)) n (pSu (w 256) t) (fun a => some (a, w)) (fun _ _ => True) hs he n 0 0 (by omega) trivial zFU (by unfold zFU; omega)).1
theorem P_due (hL : zLay S) (h : INV B w) (a : Int32) : Pair B (f_X7_due S w 1 a) (fun w1 => f_X8_due S w1 255 a) [("java/lang/IllegalArgumentException", 1)] := by
  obtain ⟨n, k, v, hI, hv, hS⟩ := IG_get h
  have hu : zput w 255 0 0 256 = w 256 := zput_ne (by omega)
  have hIu : zI (zput w 255 0 0 256) n k v := by rw [hu]; exact hI.1
  by_cases ha : 0 ≤ a ∧ a ≤ 9999
  · refine Pair_ok h (pDue (w 256) n a) ?_ ?_
    · have hct : f_X7_checkTime w 1 a = some (.inl (), w) := by
        unfold f_X7_checkTime
        rw [c7_isTime, if_pos ha, zbs, if_neg (by decide)]
      unfold f_X7_due
      rw [hct, zbx_inl, zt1_0 hL, c7_due (zG2 hL) hS hI.1, zbs]
    · have := c8_due (S := S) hL hIu a
      rw [hu] at this
      unfold f_X8_due
      rw [zlet_eq, c8_isPickup, if_pos ha, zbs, if_neg (by decide), this]
  · refine Pair_ex h "java/lang/IllegalArgumentException" 1 ((0 : Int32).toInt64) ?_ ?_ (by simp)
    · have hct : f_X7_checkTime w 1 a = some (.inr "java/lang/IllegalArgumentException", w) := by
        unfold f_X7_checkTime
        rw [c7_isTime, if_neg ha, zbs, if_pos rfl]
      unfold f_X7_due
      rw [hct, zbx_inr]
    · unfold f_X8_due
      rw [zlet_eq, c8_isPickup, if_neg ha, zbs, if_pos rfl, e8_fails, zbs, zput_zput]
/-- a set of stored cars -/
def pSet (s : Nat → Int32) (n : Nat) (a : Int64) : Prop := a ≠ 0 ∧ ∀ i, i < 64 → tb a i = true → i < n ∧ s (139 + 4 * i + 2) ≠ -1
theorem tb_ne {a : Int64} (h : a ≠ 0) : ∃ i, i < 64 ∧ tb a i = true := by
  refine Classical.byContradiction (fun hn => h (tb_ext (fun i hi => ?_)))
  rw [tb_0]
  cases e : tb a i with
  | false => rfl
  | true => exact absurd ⟨i, hi, e⟩ hn
theorem c7_checkSet (hL : zLay S) (hR : RG w 2 s (n + k + v)) (hI : zI9 s n k v) (a : Int64) :
    (pSet s n a → cb (tb a) 64 ≤ 5 → f_X7_checkSet S w 1 a = some (.inl (), w)) ∧ (pSet s n a → ¬ cb (tb a) 64 ≤ 5 → f_X7_checkSet S w 1 a = some (.inr "java/lang/IllegalArgumentException", w)) ∧ (¬ pSet s n a → f_X7_checkSet S w 1 a = some (.inr "java/lang/IndexOutOfBoundsException", w)) := by
  have hn := zI_n hI.1
  have hcb : cb (tb a) 64 < 65 := by
    have : ∀ (p : Nat → Bool) m, cb p m ≤ m := by
      intro p m
      induction m with
      | zero => exact Nat.le_refl 0
      | succ m ih =>
        unfold cb
        split <;> omega
    have := this (tb a) 64
    omega
  have hM : ∀ i, i < 64 → (tb (pDue s n 9999) i = true ↔ i < n ∧ s (139 + 4 * i + 2) ≠ -1) := by
    intro i hi
    rw [pDue_tb 9999 n hn hi]
    constructor
    · exact fun q => ⟨q.1, q.2.1⟩
    · exact fun q => ⟨q.1, q.2, (hI.2.1 i q.1).2⟩
  have hand : (a &&& (pDue s n 9999 ^^^ (-1)) = 0) ↔ ∀ i, i < 64 → tb a i = true → i < n ∧ s (139 + 4 * i + 2) ≠ -1 := by
    constructor
    · intro h i hi ha
      have := congrArg (fun z => tb z i) h
      simp only [tb_and, tb_xor, tb_m1 i hi, tb_0, ha, Bool.true_and] at this
      have h2 : tb (pDue s n 9999) i = true := by
        cases e : tb (pDue s n 9999) i with
        | true => rfl
        | false => rw [e] at this; cases this
      exact (hM i hi).mp h2
    · intro h
      refine tb_ext (fun i hi => ?_)
      rw [tb_and, tb_xor, tb_m1 i hi, tb_0]
      cases ha : tb a i with
      | false => rfl
      | true =>
        rw [(hM i hi).mpr (h i hi ha)]
        rfl
  have h5 : (f_J13_bitCount_95d88 a ≤ (5 : Int32)) ↔ cb (tb a) 64 ≤ 5 := by
    rw [bitCount_cb, show (5 : Int32) = ii 5 from rfl, ii_le (by omega) (by omega)]
  unfold f_X7_checkSet f_X7_checkSet_j27
  rw [zt1_0 hL, c7_due (zG2 hL) hR hI.1, zbs]
  refine ⟨fun h1 h2 => ?_, fun h1 h2 => ?_, fun h1 => ?_⟩
  · rw [if_neg (fun q => h1.1 ((lg_cmp_eq a 0).mp q)), if_pos ((lg_cmp_eq _ 0).mpr (hand.mpr h1.2)), if_pos (h5.mpr h2)]
  · rw [if_neg (fun q => h1.1 ((lg_cmp_eq a 0).mp q)), if_pos ((lg_cmp_eq _ 0).mpr (hand.mpr h1.2)), if_neg (fun q => h2 (h5.mp q))]
  · by_cases h0 : a = 0
    · rw [if_pos ((lg_cmp_eq a 0).mpr h0)]
    · rw [if_neg (fun q => h0 ((lg_cmp_eq a 0).mp q)), if_neg (fun q => h1 ⟨h0, hand.mp ((lg_cmp_eq _ 0).mp q)⟩)]
/-- the cars of a set -/
def wls (p : Nat → Bool) : Nat → List Nat
  | 0 => []
  | m + 1 => if p m = true then wls p m ++ [m] else wls p m
theorem wls_len (p : Nat → Bool) (m : Nat) : (wls p m).length = cb p m := by
  induction m with
  | zero => rfl
  | succ m ih =>
    unfold wls cb
    by_cases h : p m = true
    · rw [if_pos h, if_pos h, List.length_append, ih]
      rfl
    · rw [if_neg h, if_neg h, ih]
      rfl
theorem wls_mem (p : Nat → Bool) (m c : Nat) : c ∈ wls p m ↔ c < m ∧ p c = true := by
  induction m with
  | zero => simp [wls]
  | succ m ih =>
    unfold wls
    by_cases h : p m = true
    · rw [if_pos h, List.mem_append, ih, List.mem_singleton]
      constructor
      · rintro (q | q)
        · exact ⟨by omega, q.2⟩
        · subst q
          exact ⟨by omega, h⟩
      · intro q
        by_cases e : c = m
        · exact Or.inr e
        · exact Or.inl ⟨by omega, q.2⟩
    · rw [if_neg h, ih]
      constructor
      · exact fun q => ⟨by omega, q.2⟩
      · intro q
        by_cases e : c = m
        · subst e
          exact absurd q.2 h
        · exact ⟨by omega, q.2⟩
theorem wls_nd (p : Nat → Bool) (m : Nat) : (wls p m).Pairwise (· < ·) := by
  induction m with
  | zero => exact List.Pairwise.nil
  | succ m ih =>
    unfold wls
    by_cases h : p m = true
    · rw [if_pos h, List.pairwise_append]
      exact ⟨ih, List.pairwise_singleton _ _, fun a ha b hb => by rw [List.mem_singleton] at hb; rw [hb]; exact ((wls_mem p m a).mp ha).1⟩
    · rw [if_neg h]
      exact ih
theorem cb_mono (p : Nat → Bool) {m k : Nat} (h : m ≤ k) : cb p m ≤ cb p k := by
  have := cb_add p m (k - m)
  rw [show m + (k - m) = k by omega] at this
  omega
/-- a row that holds a list -/
def zRow (f : Nat → Int32) (l : List Nat) : Prop := ∀ j, j < l.length → f j = ii (l.getD j 0)
theorem zRow_snoc {f : Nat → Int32} {l : List Nat} {c : Nat} (h : zRow f l) : zRow (upd f l.length (ii c)) (l ++ [c]) := by
  intro j hj
  rw [List.length_append, List.length_singleton] at hj
  by_cases e : j = l.length
  · subst e
    rw [upd_at]
    simp
  · rw [upd_ne e, h j (by omega)]
    have hj' : j < l.length := by omega
    simp [List.getElem?_append, hj']
theorem cb_set {a : Int64} (h : pSet s n a) (hn : n ≤ 40) : cb (tb a) 64 = cb (tb a) 40 := by
  have := cb_add (tb a) 40 24
  rw [show 40 + 24 = 64 from rfl] at this
  have hz : cb (fun i => tb a (40 + i)) 24 = 0 := by
    refine cb_zero (fun i hi => ?_)
    cases e : tb a (40 + i) with
    | false => rfl
    | true =>
      have := (h.2 (40 + i) (by omega) e).1
      omega
  omega
/-- the reference's cars of a set -/
theorem e8_wanted (hL : zLay S) (a : Int64) (h5 : cb (tb a) 40 ≤ 5) (h16 : w 255 16 = 0) : ∃ w', f_X8_isSet_l112 S 255 a (0, w) = some (1, w') ∧ w' 255 16 = ii (cb (tb a) 40) ∧ zRow (w' 261) (wls (tb a) 40) ∧ (∀ i, i ≠ 16 → w' 255 i = w 255 i) ∧ ∀ j, j ≠ 255 → j ≠ 261 → w' j = w j := by
  have hs : ∀ (K : (Int32 × Zw) → Option (Int32 × Zw)) (i : Nat) (x : Int32 × Zw), i < 40 → (x.1 = ii i ∧ x.2 255 16 = ii (cb (tb a) i) ∧ zRow (x.2 261) (wls (tb a) i) ∧ (∀ i, i ≠ 16 → x.2 255 i = w 255 i) ∧ ∀ j, j ≠ 255 → j ≠ 261 → x.2 j = w j) →
      ∃ x' : Int32 × Zw, (x'.1 = ii (i + 1) ∧ x'.2 255 16 = ii (cb (tb a) (i + 1)) ∧ zRow (x'.2 261) (wls (tb a) (i + 1)) ∧ (∀ i, i ≠ 16 → x'.2 255 i = w 255 i) ∧ ∀ j, j ≠ 255 → j ≠ 261 → x'.2 j = w j) ∧ f_X8_isSet_b112 S 255 a K x.1 x.2 = K x' := by
    rintro K i ⟨x, u⟩ hi ⟨rfl, h1, h2, h3, h4⟩
    have h1 : u 255 16 = ii (cb (tb a) i) := h1
    have h2 : zRow (u 261) (wls (tb a) i) := h2
    have h3 : ∀ i, i ≠ 16 → u 255 i = w 255 i := h3
    have h4 : ∀ j, j ≠ 255 → j ≠ 261 → u j = w j := h4
    have hc : ¬ (40 : Int32) ≤ ii i := by rw [show (40 : Int32) = ii 40 from rfl, ii_le (by omega) (by omega)]; omega
    by_cases hb : tb a i = true
    · have hlt : cb (tb a) i < 5 := by
        have := cb_mono (tb a) (show i + 1 ≤ 40 by omega)
        have e : cb (tb a) (i + 1) = cb (tb a) i + 1 := by
          show cb (tb a) i + (if tb a i = true then 1 else 0) = _
          rw [if_pos hb]
        omega
      have e : cb (tb a) (i + 1) = cb (tb a) i + 1 := by
        show cb (tb a) i + (if tb a i = true then 1 else 0) = _
        rw [if_pos hb]
      have el : wls (tb a) (i + 1) = wls (tb a) i ++ [i] := by
        show (if tb a i = true then _ else _) = _
        rw [if_pos hb]
      refine ⟨(ii (i + 1), zput (zput u 261 (cb (tb a) i) (ii i)) 255 16 (ii (cb (tb a) i + 1))), ⟨rfl, ?_, ?_, fun j hj => ?_, fun j hj1 hj2 => ?_⟩, ?_⟩
      · dsimp only
        rw [zput_at, upd_at, e]
      · show zRow (zput (zput u 261 (cb (tb a) i) (ii i)) 255 16 (ii (cb (tb a) i + 1)) 261) _
        rw [zput_ne (by omega), zput_at, el, ← wls_len]
        exact zRow_snoc h2
      · dsimp only
        rw [zput_at, upd_ne hj, zput_ne (by omega), h3 j hj]
      · dsimp only
        rw [zput_ne hj1, zput_ne hj2, h4 j hj1 hj2]
      · show f_X8_isSet_b112 S 255 a K (ii i) u = _
        unfold f_X8_isSet_b112
        have e9 : zput u 261 (cb (tb a) i) (ii i) 255 16 = ii (cb (tb a) i) := by rw [zput_ne (by omega), h1]
        rw [if_neg hc, if_neg (by rw [tb_u (by omega)]; rw [hb]; decide), h1, zt255_13 hL, ztl261 hL, if_pos (zin_t hlt (by omega)), zlet_eq, zix_ii (by omega), e9, zlet_eq, ii_succ, ii_succ]
    · have hb' : tb a i = false := by
        cases e : tb a i with
        | false => rfl
        | true => exact absurd e hb
      have e : cb (tb a) (i + 1) = cb (tb a) i := by
        show cb (tb a) i + (if tb a i = true then 1 else 0) = _
        rw [if_neg hb]
        rfl
      have el : wls (tb a) (i + 1) = wls (tb a) i := by
        show (if tb a i = true then _ else _) = _
        rw [if_neg hb]
      refine ⟨(ii (i + 1), u), ⟨rfl, by rw [e]; exact h1, by rw [el]; exact h2, h3, h4⟩, ?_⟩
      show f_X8_isSet_b112 S 255 a K (ii i) u = _
      unfold f_X8_isSet_b112
      rw [if_neg hc, if_pos ((tb_u (by omega) a).mpr hb'), ii_succ]
  obtain ⟨⟨x, u⟩, K, ⟨rfl, h1, h2, h3, h4⟩, e⟩ := zlp_to (F := fun K x => f_X8_isSet_b112 S 255 a K x.1 x.2) 40 (fun i x => x.1 = ii i ∧ x.2 255 16 = ii (cb (tb a) i) ∧ zRow (x.2 261) (wls (tb a) i) ∧ (∀ i, i ≠ 16 → x.2 255 i = w 255 i) ∧ ∀ j, j ≠ 255 → j ≠ 261 → x.2 j = w j) hs 40 0 (0, w) rfl ⟨rfl, h16, fun j hj => absurd hj (Nat.not_lt_zero j), fun _ _ => rfl, fun _ _ _ => rfl⟩ zFU (by decide)
  unfold f_X8_isSet_l112
  rw [e]
  refine ⟨u, ?_, h1, h2, h3, h4⟩
  show f_X8_isSet_b112 S 255 a K (ii 40) u = _
  unfold f_X8_isSet_b112
  rw [if_pos (by decide)]
end ZSE
