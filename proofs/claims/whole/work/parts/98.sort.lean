/-! SORTING by insertion. -/
section ZSO
variable {S : Zs} {w : Zw} {n : Nat}
def pPos (pk : Nat → Int32) (l : List Nat) (c : Nat) : Nat → Nat
  | 0 => 0
  | p + 1 => if pk c < pk (l.getD p 0) then pPos pk l c p else p + 1
def pIns (pk : Nat → Int32) (l : List Nat) (c : Nat) : List Nat := l.take (pPos pk l c l.length) ++ c :: l.drop (pPos pk l c l.length)
theorem pPos_le (pk : Nat → Int32) (l : List Nat) (c p : Nat) : pPos pk l c p ≤ p := by
  induction p with
  | zero => exact Nat.le_refl 0
  | succ p ih =>
    show (if _ then _ else _) ≤ _
    split
    · omega
    · exact Nat.le_refl _
theorem pIns_mem (pk : Nat → Int32) (l : List Nat) (c x : Nat) : x ∈ pIns pk l c ↔ x = c ∨ x ∈ l := by
  unfold pIns
  rw [List.mem_append, List.mem_cons]
  have : x ∈ l ↔ x ∈ l.take (pPos pk l c l.length) ∨ x ∈ l.drop (pPos pk l c l.length) := by
    rw [← List.mem_append, List.take_append_drop]
  rw [this]
  constructor
  · rintro (q | q | q)
    · exact Or.inr (Or.inl q)
    · exact Or.inl q
    · exact Or.inr (Or.inr q)
  · rintro (q | q | q)
    · exact Or.inr (Or.inl q)
    · exact Or.inl q
    · exact Or.inr (Or.inr q)
theorem pIns_len (pk : Nat → Int32) (l : List Nat) (c : Nat) : (pIns pk l c).length = l.length + 1 := by
  have := pPos_le pk l c l.length
  unfold pIns
  rw [List.length_append, List.length_cons, List.length_take, List.length_drop]
  omega
theorem pIns_nd (pk : Nat → Int32) (l : List Nat) (c : Nat) (h : l.Pairwise (· ≠ ·)) (hc : ¬ c ∈ l) : (pIns pk l c).Pairwise (· ≠ ·) := by
  unfold pIns
  generalize pPos pk l c l.length = p
  rw [← List.take_append_drop p l, List.pairwise_append] at h
  obtain ⟨h1, h2, h3⟩ := h
  rw [List.pairwise_append, List.pairwise_cons]
  refine ⟨h1, ⟨fun y hy e => hc (e ▸ List.mem_of_mem_drop hy), h2⟩, fun x hx y hy => ?_⟩
  rw [List.mem_cons] at hy
  rcases hy with rfl | hy
  · exact fun e => hc (e ▸ List.mem_of_mem_take hx)
  · exact h3 x hx y hy
def shA (f : Nat → Int32) (len q : Nat) : Nat → Int32 := fun j => if q < j ∧ j ≤ len then f (j - 1) else f j
theorem shA_len (f : Nat → Int32) (len : Nat) : shA f len len = f := by
  funext j
  unfold shA
  rw [if_neg (by omega)]
theorem shA_stp (f : Nat → Int32) (len q : Nat) (hq : q + 1 ≤ len) : upd (shA f len (q + 1)) (q + 1) (shA f len (q + 1) q) = shA f len q := by
  funext j
  unfold upd shA
  by_cases h : j = q + 1
  · subst h
    rw [if_pos rfl, if_neg (by omega), if_pos (by omega)]
    rfl
  · rw [if_neg h]
    by_cases h2 : q + 1 < j ∧ j ≤ len
    · rw [if_pos h2, if_pos (by omega)]
    · rw [if_neg h2, if_neg (by omega)]
theorem zRow_ins {f : Nat → Int32} {l : List Nat} {c p : Nat} (h : zRow f l) (hp : p ≤ l.length) : zRow (upd (shA f l.length p) p (ii c)) (l.take p ++ c :: l.drop p) := by
  intro j hj
  rw [List.length_append, List.length_cons, List.length_take, List.length_drop] at hj
  have hlt : (l.take p).length = p := by rw [List.length_take]; omega
  rw [List.getD_eq_getElem?_getD, List.getElem?_append, hlt]
  by_cases h1 : j < p
  · rw [upd_ne (by omega), if_pos h1, List.getElem?_take, if_pos h1]
    unfold shA
    rw [if_neg (by omega), h j (by omega), List.getD_eq_getElem?_getD]
  · rw [if_neg h1]
    by_cases h2 : j = p
    · subst h2
      rw [upd_at, Nat.sub_self]
      rfl
    · rw [upd_ne h2]
      unfold shA
      obtain ⟨m, hm⟩ : ∃ m, j - p = m + 1 := ⟨j - p - 1, by omega⟩
      rw [if_pos (by omega), hm, List.getElem?_cons_succ, List.getElem?_drop, show p + m = j - 1 by omega, h (j - 1) (by omega), List.getD_eq_getElem?_getD]
theorem getD_mem {l : List Nat} {p : Nat} (hp : p < l.length) : l.getD p 0 ∈ l := by
  rw [List.getD_eq_getElem?_getD, List.getElem?_eq_getElem hp]
  exact List.getElem_mem hp
/-- the class's inner loop -/
theorem c7_l40 {g ra len a4 : Nat} {a : Int64} {pk : Nat → Int32} {l : List Nat} {c : Nat} (hG : zGar S g) (hra : ra ≠ g + 4) (hlen : zlen S ra = len) (hll : l.length < len) (hl100 : len ≤ 100) (hpk : ∀ c, c < 40 → w (g + 4) c = pk c) (hln : ∀ x, x ∈ l → x < 40) (hc : c < 40) (hrow : zRow (w ra) l) (k6 : (Int32 × Int32 × Zw) → Option (Int32 × Zw)) :
    f_X1_listByPickup_l40 S g a ra (ii a4) (ii c) k6 (ii l.length, w) = k6 (ii (a4 + 1), ii (c + 1), zput (zwup w ra (shA (w ra) l.length (pPos pk l c l.length))) ra (pPos pk l c l.length) (ii c)) := by
  have key : ∀ q, q ≤ l.length → pPos pk l c q = pPos pk l c l.length → ∀ N, q < N → zlp (fun kk x => f_X1_listByPickup_b40 S g a ra (ii a4) (ii c) k6 kk x.1 x.2) N (ii q, zwup w ra (shA (w ra) l.length q)) = k6 (ii (a4 + 1), ii (c + 1), zput (zwup w ra (shA (w ra) l.length (pPos pk l c l.length))) ra (pPos pk l c l.length) (ii c)) := by
    intro q
    induction q with
    | zero =>
      intro hq hp N hN
      obtain ⟨N, rfl⟩ : ∃ N', N = N' + 1 := ⟨N - 1, by omega⟩
      have h0 : pPos pk l c l.length = 0 := hp.symm
      show f_X1_listByPickup_b40 S g a ra (ii a4) (ii c) k6 _ (ii 0) _ = _
      unfold f_X1_listByPickup_b40 f_X1_listByPickup_j82
      rw [if_pos (by decide), h0, hlen, if_pos (zin_t (by omega) (by omega)), zlet_eq, zix_ii (by omega), ii_succ, ii_succ]
    | succ q ih =>
      intro hq hp N hN
      obtain ⟨N, rfl⟩ : ∃ N', N = N' + 1 := ⟨N - 1, by omega⟩
      show f_X1_listByPickup_b40 S g a ra (ii a4) (ii c) k6 (zlp (fun kk x => f_X1_listByPickup_b40 S g a ra (ii a4) (ii c) k6 kk x.1 x.2) N) (ii (q + 1)) (zwup w ra (shA (w ra) l.length (q + 1))) = _
      obtain ⟨KK, hKK⟩ : ∃ KK, KK = zlp (fun kk x => f_X1_listByPickup_b40 S g a ra (ii a4) (ii c) k6 kk x.1 x.2) N := ⟨_, rfl⟩
      rw [← hKK]
      unfold f_X1_listByPickup_b40 f_X1_listByPickup_j82
      have eu : zwup w ra (shA (w ra) l.length (q + 1)) ra = shA (w ra) l.length (q + 1) := by
        unfold zwup
        rw [if_pos rfl]
      have e4 : zwup w ra (shA (w ra) l.length (q + 1)) (g + 4) = w (g + 4) := by
        unfold zwup
        rw [if_neg (fun e => hra e.symm)]
      have em : ii (q + 1) + -1 = ii q := by rw [← ii_succ]; grind
      have erow : shA (w ra) l.length (q + 1) q = ii (l.getD q 0) := by
        unfold shA
        rw [if_neg (by omega)]
        exact hrow q (by omega)
      have hq40 : l.getD q 0 < 40 := hln _ (getD_mem (by omega))
      have hu2 : zput (zwup w ra (shA (w ra) l.length (q + 1))) ra (q + 1) (ii (l.getD q 0)) = zwup w ra (shA (w ra) l.length q) := by
        rw [← shA_stp (w ra) l.length q hq, erow]
        funext j i
        by_cases e : j = ra
        · subst e
          rw [zput_at, eu]
          unfold zwup
          rw [if_pos rfl]
        · rw [zput_ne e]
          unfold zwup
          rw [if_neg e, if_neg e]
      rw [if_neg (by rw [show (0 : Int32) = ii 0 from rfl, ii_le (by omega) (by omega)]; omega), ii_sub1 (by omega), hlen, Nat.add_sub_cancel, if_pos (zin_t (by omega) (by omega)), zix_ii (by omega), eu, erow, zg0_3 hG, zgl4 hG, if_pos (zin_t hq40 (by omega)), zix_ii (by omega), if_pos (zin_t hc (by omega)), zix_ii (by omega), e4, hpk _ hq40, hpk _ hc, if_pos (zin_t (show q < len by omega) (by omega)), if_pos (zin_t (show q + 1 < len by omega) (by omega)), zix_ii (by omega), zlet_eq, zlet_eq, em, hu2, ii_succ, ii_succ]
      by_cases hlt : pk c < pk (l.getD q 0)
      · have hp' : pPos pk l c q = pPos pk l c l.length := by
          rw [← hp]
          show _ = (if _ then _ else _)
          rw [if_pos hlt]
        rw [if_neg (by grind), if_pos (zin_t (show q + 1 < len by omega) (by omega))]
        have := ih (by omega) hp' N (by omega)
        rw [← hKK] at this
        exact this
      · have hp' : pPos pk l c l.length = q + 1 := by
          rw [← hp]
          show (if _ then _ else _) = _
          rw [if_neg hlt]
        rw [if_pos (by grind), hp']
  unfold f_X1_listByPickup_l40
  have := key l.length (Nat.le_refl _) rfl zFU (by unfold zFU; omega)
  have e : zwup w ra (shA (w ra) l.length l.length) = w := by
    rw [shA_len]
    funext j
    unfold zwup
    by_cases e : j = ra
    · rw [if_pos e, e]
    · rw [if_neg e]
  rw [e] at this
  exact this
theorem pIns_fold (pk : Nat → Int32) (L : List Nat) (l : List Nat) : (∀ x, x ∈ L.foldl (pIns pk) l ↔ x ∈ l ∨ x ∈ L) ∧ (L.foldl (pIns pk) l).length = l.length + L.length := by
  induction L generalizing l with
  | nil =>
    refine ⟨fun x => ?_, rfl⟩
    simp
  | cons c L ih =>
    obtain ⟨h1, h2⟩ := ih (pIns pk l c)
    rw [List.foldl_cons]
    refine ⟨fun x => ?_, ?_⟩
    · rw [h1 x, pIns_mem, List.mem_cons]
      constructor
      · rintro ((q | q) | q)
        · exact Or.inr (Or.inl q)
        · exact Or.inl q
        · exact Or.inr (Or.inr q)
      · rintro (q | q | q)
        · exact Or.inl (Or.inr q)
        · exact Or.inl (Or.inl q)
        · exact Or.inr q
    · rw [h2, pIns_len, List.length_cons]
      omega
theorem pIns_fold_nd (pk : Nat → Int32) (L : List Nat) (l : List Nat) (h : (l ++ L).Pairwise (· ≠ ·)) : (L.foldl (pIns pk) l).Pairwise (· ≠ ·) := by
  induction L generalizing l with
  | nil =>
    rw [List.append_nil] at h
    exact h
  | cons c L ih =>
    rw [List.pairwise_append, List.pairwise_cons] at h
    obtain ⟨h1, ⟨h2, h3⟩, h4⟩ := h
    refine ih (pIns pk l c) ?_
    rw [List.pairwise_append]
    refine ⟨pIns_nd pk l c h1 (fun q => h4 c q c List.mem_cons_self rfl), h3, fun x hx y hy => ?_⟩
    rw [pIns_mem] at hx
    rcases hx with rfl | hx
    · exact h2 y hy
    · exact h4 x hx y (List.mem_cons_of_mem c hy)
/-- the class lists a set by pickups -/
theorem c7_list {g ra len : Nat} {a : Int64} {pk : Nat → Int32} (hG : zGar S g) (hra : ra ≠ g + 4) (hra2 : ra ≠ g) (hlen : zlen S ra = len) (hl100 : len ≤ 100) (h8 : w g 8 = ii n) (hn : n ≤ 40) (hpk : ∀ c, c < 40 → w (g + 4) c = pk c) (hcb : cb (tb a) n ≤ len) :
    ∃ w', f_X1_listByPickup S w g a ra = some (ii (cb (tb a) n), w') ∧ zRow (w' ra) ((wls (tb a) n).foldl (pIns pk) []) ∧ ∀ j, j ≠ ra → w' j = w j := by
  have key : ∀ m i u, i + m = n → zRow (u ra) ((wls (tb a) i).foldl (pIns pk) []) → (∀ j, j ≠ ra → u j = w j) → ∀ N, m < N → ∃ w', zlp (fun kk x => f_X1_listByPickup_b6 S g a ra kk x.1 x.2.1 x.2.2) N (ii (cb (tb a) i), ii i, u) = some (ii (cb (tb a) n), w') ∧ zRow (w' ra) ((wls (tb a) n).foldl (pIns pk) []) ∧ ∀ j, j ≠ ra → w' j = w j := by
    intro m
    induction m with
    | zero =>
      intro i u hi hr ho N hN
      obtain ⟨N, rfl⟩ : ∃ N', N = N' + 1 := ⟨N - 1, by omega⟩
      have hi : i = n := by omega
      subst hi
      refine ⟨u, ?_, hr, ho⟩
      show f_X1_listByPickup_b6 S g a ra _ (ii (cb (tb a) i)) (ii i) u = _
      unfold f_X1_listByPickup_b6
      rw [ho g (fun e => hra2 e.symm), h8, if_pos (by rw [ii_le (by omega) (by omega)]; omega)]
    | succ m ih =>
      intro i u hi hr ho N hN
      obtain ⟨N, rfl⟩ : ∃ N', N = N' + 1 := ⟨N - 1, by omega⟩
      have hm := cb_mono (tb a) (show i ≤ n by omega)
      show ∃ w', f_X1_listByPickup_b6 S g a ra (zlp (fun kk x => f_X1_listByPickup_b6 S g a ra kk x.1 x.2.1 x.2.2) N) (ii (cb (tb a) i)) (ii i) u = _ ∧ _
      obtain ⟨KK, hKK⟩ : ∃ KK, KK = zlp (fun kk x => f_X1_listByPickup_b6 S g a ra kk x.1 x.2.1 x.2.2) N := ⟨_, rfl⟩
      rw [← hKK]
      unfold f_X1_listByPickup_b6
      rw [ho g (fun e => hra2 e.symm), h8, if_neg (by rw [ii_le (by omega) (by omega)]; omega), hlen]
      by_cases hfull : cb (tb a) i = len
      · have e40 : cb (tb a) n = cb (tb a) i := by omega
        have ew : wls (tb a) n = wls (tb a) i := by
          have := wls_cb (tb a) i (n - i) (by rw [show i + (n - i) = n by omega]; exact e40)
          rw [show i + (n - i) = n by omega] at this
          exact this
        rw [if_pos (show Int32.ofNat len ≤ ii (cb (tb a) i) by rw [ii_le (by omega) (by omega)]; omega)]
        exact ⟨u, by rw [e40], by rw [ew]; exact hr, ho⟩
      · rw [if_neg (show ¬ Int32.ofNat len ≤ ii (cb (tb a) i) by rw [ii_le (by omega) (by omega)]; omega)]
        by_cases hb : tb a i = true
        · have e : cb (tb a) (i + 1) = cb (tb a) i + 1 := by
            show cb (tb a) i + (if tb a i = true then 1 else 0) = _
            rw [if_pos hb]
          have el : wls (tb a) (i + 1) = wls (tb a) i ++ [i] := by
            show (if tb a i = true then _ else _) = _
            rw [if_pos hb]
          have hlen2 : ((wls (tb a) i).foldl (pIns pk) []).length = cb (tb a) i := by
            rw [(pIns_fold pk _ _).2, wls_len]
            exact Nat.zero_add _
          have hmem : ∀ x, x ∈ (wls (tb a) i).foldl (pIns pk) [] → x < 40 := by
            intro x hx
            rw [(pIns_fold pk _ _).1] at hx
            rcases hx with hx | hx
            · exact absurd hx List.not_mem_nil
            · have := (wls_mem _ _ _).mp hx
              omega
          have h40 := c7_l40 (S := S) (w := u) (g := g) (ra := ra) (a4 := cb (tb a) i) (a := a) (pk := pk) (c := i) hG hra hlen (l := (wls (tb a) i).foldl (pIns pk) []) (by omega) hl100 (fun c hc => by rw [ho (g + 4) (fun e => hra e.symm)]; exact hpk c hc) hmem (by omega) hr KK
          rw [hlen2] at h40
          rw [if_neg (by rw [tb_s (by omega)]; rw [hb]; decide), h40]
          have hp : pPos pk ((wls (tb a) i).foldl (pIns pk) []) i (cb (tb a) i) ≤ cb (tb a) i := pPos_le _ _ _ _
          have := ih (i + 1) (zput (zwup u ra (shA (u ra) (cb (tb a) i) (pPos pk ((wls (tb a) i).foldl (pIns pk) []) i (cb (tb a) i)))) ra (pPos pk ((wls (tb a) i).foldl (pIns pk) []) i (cb (tb a) i)) (ii i)) (by omega) (by
            rw [el, List.foldl_append]
            show zRow _ (pIns pk ((wls (tb a) i).foldl (pIns pk) []) i)
            have hins : ∀ l : List Nat, pIns pk l i = l.take (pPos pk l i l.length) ++ i :: l.drop (pPos pk l i l.length) := fun _ => rfl
            rw [hins, hlen2, zput_at]
            have e9 : zwup u ra (shA (u ra) (cb (tb a) i) (pPos pk ((wls (tb a) i).foldl (pIns pk) []) i (cb (tb a) i))) ra = shA (u ra) ((wls (tb a) i).foldl (pIns pk) []).length (pPos pk ((wls (tb a) i).foldl (pIns pk) []) i (cb (tb a) i)) := by
              rw [hlen2]
              unfold zwup
              rw [if_pos rfl]
            rw [e9]
            exact zRow_ins hr (by omega)) (fun j hj => by
            rw [zput_ne hj]
            unfold zwup
            rw [if_neg hj, ho j hj]) N (by omega)
          rw [← hKK, e] at this
          exact this
        · have hb' : tb a i = false := by
            cases e : tb a i with
            | false => rfl
            | true => exact absurd e hb
          have e : cb (tb a) (i + 1) = cb (tb a) i := by
            show cb (tb a) i + (if tb a i = true then 1 else 0) = _
            rw [if_neg hb]
            rfl
          have el : wls (tb a) (i + 1) = wls (tb a) i := by
            show (if tb a i = true then _ else _) = _
            rw [if_neg hb]
          rw [if_pos ((tb_s (by omega) a).mpr hb'), ii_succ]
          have := ih (i + 1) u (by omega) (by rw [el]; exact hr) ho N (by omega)
          rw [← hKK, e] at this
          exact this
  unfold f_X1_listByPickup f_X1_listByPickup_l6
  exact key n 0 w (by omega) (fun j hj => absurd hj (Nat.not_lt_zero j)) (fun _ _ => rfl) zFU (by unfold zFU; omega)
end ZSO
