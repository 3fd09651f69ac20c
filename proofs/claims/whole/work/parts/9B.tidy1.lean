/-! TIDYING: the list of cars to free, on both sides the same. -/
section ZT1
variable {S : Zs} {w : Zw} {B n k v : Nat} {s : Nat → Int32}
def pPosB (ah : Nat → Nat → Bool) (l : List Nat) (c : Nat) : Nat → Nat
  | 0 => 0
  | p + 1 => if ah c (l.getD p 0) = true then pPosB ah l c p else p + 1
def pInsB (ah : Nat → Nat → Bool) (l : List Nat) (c : Nat) : List Nat := l.take (pPosB ah l c l.length) ++ c :: l.drop (pPosB ah l c l.length)
theorem pPosB_le (ah : Nat → Nat → Bool) (l : List Nat) (c p : Nat) : pPosB ah l c p ≤ p := by
  induction p with
  | zero => exact Nat.le_refl 0
  | succ p ih =>
    show (if _ then _ else _) ≤ _
    split
    · omega
    · exact Nat.le_refl _
theorem pIns_B (pk : Nat → Int32) (l : List Nat) (c : Nat) : pIns pk l c = pInsB (fun c x => decide (pk c < pk x)) l c := by
  have h : ∀ p, pPos pk l c p = pPosB (fun c x => decide (pk c < pk x)) l c p := by
    intro p
    induction p with
    | zero => rfl
    | succ p ih =>
      show (if _ then _ else _) = (if _ then _ else _)
      simp only [decide_eq_true_eq]
      rw [ih]
  unfold pIns pInsB
  rw [h]
theorem pInsB_mem (ah : Nat → Nat → Bool) (l : List Nat) (c x : Nat) : x ∈ pInsB ah l c ↔ x = c ∨ x ∈ l := by
  unfold pInsB
  rw [List.mem_append, List.mem_cons]
  have : x ∈ l ↔ x ∈ l.take (pPosB ah l c l.length) ∨ x ∈ l.drop (pPosB ah l c l.length) := by
    rw [← List.mem_append, List.take_append_drop]
  rw [this]
  constructor
  · rintro (q | q | q)
    · exact Or.inr (Or.inl q)
    · exact Or.inl q
    · exact Or.inr (Or.inr q)
  · rintro (q | q | q)
    · exact Or.inr (Or.inl q)
    · exact Or.inl q
    · exact Or.inr (Or.inr q)
theorem pInsB_len (ah : Nat → Nat → Bool) (l : List Nat) (c : Nat) : (pInsB ah l c).length = l.length + 1 := by
  have := pPosB_le ah l c l.length
  unfold pInsB
  rw [List.length_append, List.length_cons, List.length_take, List.length_drop]
  omega
/-- right of the place all are behind, left of it the last one isn't -/
theorem pPosB_r (ah : Nat → Nat → Bool) (l : List Nat) (c q : Nat) : (∀ j, pPosB ah l c q ≤ j → j < q → ah c (l.getD j 0) = true) ∧ (0 < pPosB ah l c q → ah c (l.getD (pPosB ah l c q - 1) 0) = false) := by
  induction q with
  | zero => exact ⟨fun j _ h => absurd h (Nat.not_lt_zero j), fun h => absurd h (Nat.lt_irrefl 0)⟩
  | succ q ih =>
    by_cases h : ah c (l.getD q 0) = true
    · have e : pPosB ah l c (q + 1) = pPosB ah l c q := by
        show (if _ then _ else _) = _
        rw [if_pos h]
      rw [e]
      refine ⟨fun j h1 h2 => ?_, ih.2⟩
      by_cases ej : j = q
      · rw [ej]
        exact h
      · exact ih.1 j h1 (by omega)
    · have e : pPosB ah l c (q + 1) = q + 1 := by
        show (if _ then _ else _) = _
        rw [if_neg h]
      rw [e]
      refine ⟨fun j h1 h2 => by omega, fun _ => ?_⟩
      rw [Nat.add_sub_cancel]
      cases e9 : ah c (l.getD q 0) with
      | true => exact absurd e9 h
      | false => rfl
theorem pInsB_sorted {ah : Nat → Nat → Bool} {lt : Nat → Nat → Prop} (htr : ∀ a b c, lt a b → lt b c → lt a c) {l : List Nat} {c : Nat} (h : l.Pairwise lt) (h1 : ∀ x, x ∈ l → ah c x = true → lt c x) (h2 : ∀ x, x ∈ l → ah c x = false → lt x c) : (pInsB ah l c).Pairwise lt := by
  obtain ⟨r1, r2⟩ := pPosB_r ah l c l.length
  have hple := pPosB_le ah l c l.length
  unfold pInsB
  generalize pPosB ah l c l.length = p at r1 r2 hple
  have hsp := h
  rw [← List.take_append_drop p l, List.pairwise_append] at hsp
  obtain ⟨s1, s2, s3⟩ := hsp
  have hr : ∀ y, y ∈ l.drop p → lt c y := by
    intro y hy
    obtain ⟨i, hi, rfl⟩ := List.getElem_of_mem hy
    rw [List.length_drop] at hi
    have e : (l.drop p)[i] = l.getD (p + i) 0 := by
      rw [List.getElem_drop, List.getD_eq_getElem?_getD, List.getElem?_eq_getElem (by omega)]
      rfl
    rw [e]
    exact h1 _ (getD_mem (by omega)) (r1 (p + i) (by omega) (by omega))
  have hl : ∀ x, x ∈ l.take p → lt x c := by
    intro x hx
    obtain ⟨i, hi, rfl⟩ := List.getElem_of_mem hx
    rw [List.length_take] at hi
    have hp0 : 0 < p := by omega
    have hlast := h2 _ (getD_mem (show p - 1 < l.length by omega)) (r2 hp0)
    have e : (l.take p)[i] = l[i] := List.getElem_take
    rw [e]
    by_cases ei : i = p - 1
    · subst ei
      rw [List.getD_eq_getElem?_getD, List.getElem?_eq_getElem (by omega)] at hlast
      exact hlast
    · have := List.pairwise_iff_getElem.mp h i (p - 1) (by omega) (by omega) (by omega)
      rw [List.getD_eq_getElem?_getD, List.getElem?_eq_getElem (show p - 1 < l.length by omega)] at hlast
      exact htr _ _ _ this hlast
  rw [List.pairwise_append, List.pairwise_cons]
  refine ⟨s1, ⟨hr, s2⟩, fun x hx y hy => ?_⟩
  rw [List.mem_cons] at hy
  rcases hy with rfl | hy
  · exact hl x hx
  · exact s3 x hx y hy
theorem sorted_eq {lt : Nat → Nat → Prop} (hir : ∀ a, ¬ lt a a) (htr : ∀ a b c, lt a b → lt b c → lt a c) (l1 : List Nat) : ∀ l2 : List Nat, l1.Pairwise lt → l2.Pairwise lt → (∀ x, x ∈ l1 ↔ x ∈ l2) → l1 = l2 := by
  induction l1 with
  | nil =>
    intro l2 _ _ hm
    cases l2 with
    | nil => rfl
    | cons b l2 => exact absurd ((hm b).mpr List.mem_cons_self) List.not_mem_nil
  | cons a l1 ih =>
    intro l2 h1 h2 hm
    cases l2 with
    | nil => exact absurd ((hm a).mp List.mem_cons_self) List.not_mem_nil
    | cons b l2 =>
      rw [List.pairwise_cons] at h1 h2
      have hab : a = b := by
        rcases List.mem_cons.mp ((hm a).mp List.mem_cons_self) with e | e
        · exact e
        · rcases List.mem_cons.mp ((hm b).mpr List.mem_cons_self) with e' | e'
          · exact e'.symm
          · exact absurd (htr _ _ _ (h1.1 b e') (h2.1 a e)) (hir a)
      subst hab
      congr 1
      refine ih l2 h1.2 h2.2 (fun x => ?_)
      have := hm x
      rw [List.mem_cons, List.mem_cons] at this
      constructor
      · intro hx
        rcases this.mp (Or.inr hx) with e | e
        · subst e
          exact absurd (h1.1 x hx) (hir x)
        · exact e
      · intro hx
        rcases this.mpr (Or.inr hx) with e | e
        · subst e
          exact absurd (h2.1 x hx) (hir x)
        · exact e
/-- blocked cars; with o ≠ 0 those with an earlier pickup than their blocker -/
def pBk (s : Nat → Int32) (n : Nat) (o : Int32) (i : Nat) : Bool := pStored s n (ii i) && (decide (pBl s (pBay s i) ≠ -1) && (decide (o = 0) || decide (s (139 + 4 * i + 1) < s (139 + 4 * zix (pBl s (pBay s i)) + 1))))
def pBkS (s : Nat → Int32) (n : Nat) (o : Int32) (i : Nat) (a : Int64) : Int64 := if pBk s n o i = true then a ||| zlshl 1 (ii i) else a
def pBkM (s : Nat → Int32) (n : Nat) (o : Int32) : Int64 := zfold (pBkS s n o) 0 n 0
theorem pBkM_tb (o : Int32) (hn : n ≤ 40) {i : Nat} (hi : i < 64) : tb (pBkM s n o) i = (decide (i < n) && pBk s n o i) := by
  have key : ∀ m, m ≤ n → tb (zfold (pBkS s n o) 0 m 0) i = (decide (i < m) && pBk s n o i) := by
    intro m
    induction m with
    | zero =>
      intro _
      have : tb (zfold (pBkS s n o) 0 0 0) i = false := tb_0 i
      rw [this]
      simp
    | succ m ih =>
      intro hm
      have ih := ih (by omega)
      rw [zfold_succ, Nat.zero_add]
      unfold pBkS at ih ⊢
      by_cases h : pBk s n o m = true
      · rw [if_pos h, tb_or, tb_shl (by omega) hi, ih]
        by_cases e : m = i
        · subst e
          rw [h]
          simp
        · have : decide (i < m + 1) = decide (i < m) := by
            congr 1
            apply propext
            omega
          rw [this]
          simp [e]
      · rw [if_neg h, ih]
        by_cases e : i = m
        · subst e
          have : pBk s n o i = false := by
            cases e9 : pBk s n o i with
            | true => exact absurd e9 h
            | false => rfl
          rw [this]
          simp
        · have : decide (i < m + 1) = decide (i < m) := by
            congr 1
            apply propext
            omega
          rw [this]
  exact key n (Nat.le_refl n)
theorem c7_blocked {g : Nat} (hG : zGar S g) (hR : RG w g s (n + k + v)) (hI : zI s n k v) (o : Int32) : f_X1_blockedCars S w g o = some (pBkM s n o) := by
  have hn := zI_n hI
  have hs : ∀ (K : (Int64 × Int32) → Option Int64) (i : Nat) (a : Int64), i < n → True → f_X1_blockedCars_b5 S w g o K a (ii i) = K (pBkS s n o i a, ii (i + 1)) ∧ True := by
    intro K i a hi _
    refine ⟨?_, trivial⟩
    unfold f_X1_blockedCars_b5 f_X1_blockedCars_j49 pBkS
    rw [hR.2.2.2.1.1, hI.1, if_neg (by rw [ii_le (by omega) (by omega)]; omega)]
    by_cases hst : pStored s n (ii i) = true
    · obtain ⟨c, b, hc, e9, hb, hbay, hin⟩ := pStored_of hI hst
      have e9 : i = c := (ii_iff (by omega) (by omega)).mp e9
      subst e9
      have hpb : pBay s i = b := by
        unfold pBay
        rw [hbay, zix_ii (by omega)]
      rw [c7_blocker hG hR hI hb hi hbay, zbs, ii_succ]
      have hbk : pBk s n o i = (decide (pBl s b ≠ -1) && (decide (o = 0) || decide (s (139 + 4 * i + 1) < s (139 + 4 * zix (pBl s b) + 1)))) := by
        unfold pBk
        rw [hst, hpb, Bool.true_and]
      rw [hbk]
      rcases pBl_cases hI hb with h | ⟨x, hx, h1, h2, h3⟩
      · rw [h, if_pos rfl, if_neg (by simp)]
      · rw [h1, if_neg (ii_ne (by omega)), zix_ii (by omega), zg0_3 hG, zgl4 hG, if_pos (zin_t (show i < 40 by omega) (by omega)), if_pos (zin_t (show x < 40 by omega) (by omega)), zix_ii (by omega), (hR.2.2.1 i (by omega)).2.1, (hR.2.2.1 x (by omega)).2.1, zlet_eq]
        have hne : ii x ≠ -1 := ii_ne (by omega)
        by_cases h0 : o = 0
        · rw [if_pos h0, if_pos (by simp [hne, h0])]
        · rw [if_neg h0]
          by_cases hlt : s (139 + 4 * i + 1) < s (139 + 4 * x + 1)
          · rw [if_neg (by grind), if_pos (by simp [hne, hlt])]
          · rw [if_pos (by grind), if_neg (by simp [h0, hlt])]
    · have hbk : ¬ pBk s n o i = true := by
        unfold pBk
        cases e : pStored s n (ii i) with
        | true => exact absurd e hst
        | false => simp
      have hbl : f_X1_blockerOf S w g (ii i) = some (-1) := by
        unfold f_X1_blockerOf
        rw [c7_isStored hG hR hI, if_neg hst, zbs, if_pos rfl]
      rw [hbl, zbs, if_pos rfl, if_neg hbk, ii_succ]
  have he : ∀ (K : (Int64 × Int32) → Option Int64) (a : Int64), True → f_X1_blockedCars_b5 S w g o K a (ii n) = some a := by
    intro K a _
    unfold f_X1_blockedCars_b5
    rw [hR.2.2.2.1.1, hI.1, if_pos (by rw [ii_le (by omega) (by omega)]; omega)]
  exact (zlp_for (F := fun K a => f_X1_blockedCars_b5 S w g o K a.1 a.2) (fun i (a : Int64) => (a, ii i)) n (pBkS s n o) (fun a => some a) (fun _ _ => True) hs he n 0 0 (by omega) trivial zFU (by unfold zFU; omega)).1
end ZT1
