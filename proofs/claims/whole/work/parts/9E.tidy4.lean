/-! TIDYING, both loops. -/
section ZT4
variable {S : Zs} {w : Zw} {B B' n k v : Nat} {s : Nat → Int32}
theorem RG_w7 {w w' : Zw} {g T : Nat} {s : Nat → Int32} (h : ∀ j, g ≤ j → j < g + 16 → j ≠ g + 7 → w' j = w j) (hR : RG w g s T) : RG w' g s T := by
  obtain ⟨r1, r2, r3, ⟨r41, r42, r43, r44, r45, r46, r47⟩, r5, r6⟩ := hR
  refine ⟨fun b hb => by rw [h _ (by omega) (by omega) (by omega)]; exact r1 b hb, fun b hb => by rw [h _ (by omega) (by omega) (by omega)]; exact r2 b hb, fun c hc => by rw [h _ (by omega) (by omega) (by omega), h _ (by omega) (by omega) (by omega), h _ (by omega) (by omega) (by omega), h _ (by omega) (by omega) (by omega)]; exact r3 c hc, ?_, fun m hm => ?_, fun j p hj hp => by rw [h _ (by omega) (by omega) (by omega)]; exact r6 j p hj hp⟩
  · rw [h _ (by omega) (by omega) (by omega), h (g + 8) (by omega) (by omega) (by omega), h (g + 11) (by omega) (by omega) (by omega)]
    exact ⟨r41, r42, r43, r44, r45, r46, r47⟩
  · have hz := zmc_rg (g := g) hm
    have hz7 : zmc g m ≠ g + 7 := by unfold zmc; split <;> omega
    rw [h _ (by omega) (by omega) hz7]
    exact r5 m hm
theorem pTd_cons (b : Nat) (l : List Nat) (st : (Nat → Int32) × Nat) : pTd (b :: l) st = pTd l (match pTdS st.1 b with | none => st | some s' => (s', st.2 + 1)) := rfl
theorem pTd_I {v0 : Nat} (rest : List Nat) : ∀ (st : (Nat → Int32) × Nat), zI9 st.1 n k (v0 + st.2) → (∀ b, b ∈ rest → b < 60 ∧ b % 2 = 1) → v0 + st.2 + rest.length < 999990 → zI9 (pTd rest st).1 n k (v0 + (pTd rest st).2) ∧ (pTd rest st).2 ≤ st.2 + rest.length := by
  induction rest with
  | nil =>
    intro st hI _ _
    exact ⟨hI, Nat.le_refl _⟩
  | cons b rest ih =>
    intro st hI hm hv
    rw [List.length_cons] at hv
    rw [pTd_cons, List.length_cons]
    cases e : pTdS st.1 b with
    | none =>
      obtain ⟨h1, h2⟩ := ih st hI (fun x hx => hm x (List.mem_cons_of_mem _ hx)) (by omega)
      exact ⟨h1, by dsimp only; omega⟩
    | some s' =>
      obtain ⟨hb, ho⟩ := hm b List.mem_cons_self
      obtain ⟨-, -, -, -, -, -, -, -, -, -, hI', -⟩ := pTdS_ok hI hb ho (by omega) e
      obtain ⟨h1, h2⟩ := ih (s', st.2 + 1) (by rw [show v0 + (s', st.2 + 1).2 = v0 + st.2 + 1 from rfl]; exact hI') (fun x hx => hm x (List.mem_cons_of_mem _ hx)) (by show v0 + (st.2 + 1) + rest.length < 999990; omega)
      have h2 : (pTd rest (s', st.2 + 1)).2 ≤ st.2 + 1 + rest.length := h2
      exact ⟨h1, by dsimp only; omega⟩
theorem c7_td (hL : zLay S) {L : List Nat} {s0 : Nat → Int32} {v0 : Nat} {z1 : Int32} (hL40 : L.length ≤ 40) (hv0 : v0 + 40 < 999990) (rest : List Nat) :
    ∀ (pre : List Nat) (st : (Nat → Int32) × Nat) (u : Zw), L = pre ++ rest → zI9 st.1 n k (v0 + st.2) → st.2 ≤ pre.length → RG u 2 st.1 (n + k + (v0 + st.2)) → zRow (u 9) (L.map (cOf s0)) → (∀ b, b ∈ rest → b < 60 ∧ b % 2 = 1 ∧ cOf s0 b < n ∧ st.1 (79 + b) = ii (cOf s0 b)) → ∀ N, rest.length < N →
      ∃ u', zlp (fun kk x => f_X1_tidyUp_b21 S 2 z1 (ii L.length) kk x.1 x.2) N (ii pre.length, u) = some ((u' 2 10) - z1, u') ∧ RG u' 2 (pTd rest st).1 (n + k + (v0 + (pTd rest st).2)) ∧ (∀ j, j < 2 ∨ 18 ≤ j → u' j = u j) := by
  induction rest with
  | nil =>
    intro pre st u hR hI hle hS hrow _ N hN
    obtain ⟨N, rfl⟩ : ∃ N', N = N' + 1 := ⟨N - 1, by omega⟩
    rw [List.append_nil] at hR
    refine ⟨u, ?_, hS, fun _ _ => rfl⟩
    show f_X1_tidyUp_b21 S 2 z1 (ii L.length) _ (ii pre.length) u = _
    unfold f_X1_tidyUp_b21
    have hLp : L.length = pre.length := by rw [hR]
    rw [hLp, if_pos (by rw [ii_le (by omega) (by omega)]; omega)]
  | cons b rest ih =>
    intro pre st u hR hI hle hS hrow hm N hN
    obtain ⟨N, rfl⟩ : ∃ N', N = N' + 1 := ⟨N - 1, by omega⟩
    have hlen : L.length = pre.length + (rest.length + 1) := by rw [hR, List.length_append, List.length_cons]
    obtain ⟨hb, ho, hcn, hin⟩ := hm b List.mem_cons_self
    have hc : u 9 pre.length = ii (cOf s0 b) := by
      rw [hrow pre.length (by rw [List.length_map]; omega), hR, List.map_append, List.map_cons]
      have := getD_mid (l := pre.map (cOf s0)) (c := cOf s0 b) (m := rest.map (cOf s0))
      rw [List.length_map] at this
      rw [this]
    have hG := zG2 hL
    have hF : zlp (fun kk x => f_X1_tidyUp_b21 S 2 z1 (ii L.length) kk x.1 x.2) (N + 1) (ii pre.length, u) = f_X1_tidyUp_b21 S 2 z1 (ii L.length) (zlp (fun kk x => f_X1_tidyUp_b21 S 2 z1 (ii L.length) kk x.1 x.2) N) (ii pre.length) u := rfl
    obtain ⟨KK, hKK⟩ : ∃ KK, KK = zlp (fun kk x => f_X1_tidyUp_b21 S 2 z1 (ii L.length) kk x.1 x.2) N := ⟨_, rfl⟩
    rw [hF, ← hKK, pTd_cons]
    unfold f_X1_tidyUp_b21
    rw [if_neg (by rw [ii_le (by omega) (by omega)]; omega), zg0_6 hG, zgl7 hG, if_pos (zin_t (by omega) (by omega)), zix_ii (by omega), hc, ii_succ]
    rcases c7_free (S := S) (w := u) (s := st.1) (n := n) (k := k) (v := v0 + st.2) hL hS hI hb ho hin hcn (by omega) with ⟨f1, f2⟩ | ⟨s', w', f1, f2, f3, f4, f5⟩
    · rw [f2, zbs, f1]
      have := ih (pre ++ [b]) st u (by rw [hR, List.append_assoc]; rfl) hI (by rw [List.length_append]; omega) hS hrow (fun x hx => hm x (List.mem_cons_of_mem _ hx)) N (by simpa using hN)
      rw [List.length_append, List.length_singleton, ← hKK] at this
      exact this
    · rw [f2, zbs, f1]
      obtain ⟨-, -, -, -, -, -, -, -, -, -, hI', hst⟩ := pTdS_ok hI hb ho (by omega) f1
      have := ih (pre ++ [b]) (s', st.2 + 1) w' (by rw [hR, List.append_assoc]; rfl) hI' (by rw [List.length_append, List.length_singleton]; show st.2 + 1 ≤ _; omega) (by show RG w' 2 s' (n + k + (v0 + (st.2 + 1))); rw [show n + k + (v0 + (st.2 + 1)) = n + k + (v0 + st.2) + 1 by omega]; exact f3) (by rw [f5]; exact hrow) (fun x hx => by
        obtain ⟨x1, x2, x3, x4⟩ := hm x (List.mem_cons_of_mem _ hx)
        refine ⟨x1, x2, x3, ?_⟩
        show s' (79 + x) = _
        rw [hst x x1 x2 (by rw [x4]; exact ii_ne (by have := zI_n hI.1; omega)), x4]) N (by simpa using hN)
      rw [List.length_append, List.length_singleton, ← hKK] at this
      obtain ⟨u', t1, t2, t3⟩ := this
      exact ⟨u', t1, t2, fun j hj => by rw [t3 j hj, f4 j hj]⟩
theorem e8_td (hL : zLay S) {L : List Nat} {v0 : Nat} (hL40 : L.length ≤ 40) (hv0 : v0 + 40 < 999990) (rest : List Nat) :
    ∀ (pre : List Nat) (st : (Nat → Int32) × Nat) (u : Zw), L = pre ++ rest → zI9 st.1 n k (v0 + st.2) → st.2 ≤ pre.length → u 256 = st.1 → zRow (u 264) L → (∀ b, b ∈ rest → b < 60 ∧ b % 2 = 1) → ∀ N, rest.length < N →
      ∃ u', zlp (fun kk x => f_X8_tidy_b87 S 255 (ii L.length) kk x.1 x.2.1 x.2.2) N (ii st.2, ii pre.length, u) = (f_X8_ends S u' 255 (ii (pTd rest st).2)).bind (fun r5 => some (r5.1, r5.2)) ∧ u' 256 = (pTd rest st).1 ∧ zE8 u u' := by
  induction rest with
  | nil =>
    intro pre st u hR hI hle hS hrow _ N hN
    obtain ⟨N, rfl⟩ : ∃ N', N = N' + 1 := ⟨N - 1, by omega⟩
    rw [List.append_nil] at hR
    refine ⟨u, ?_, hS, zE8.rfl⟩
    show f_X8_tidy_b87 S 255 (ii L.length) _ (ii st.2) (ii pre.length) u = _
    unfold f_X8_tidy_b87
    have hLp : L.length = pre.length := by rw [hR]
    rw [hLp, if_pos (by rw [ii_le (by omega) (by omega)]; omega)]
    rfl
  | cons b rest ih =>
    intro pre st u hR hI hle hS hrow hm N hN
    obtain ⟨N, rfl⟩ : ∃ N', N = N' + 1 := ⟨N - 1, by omega⟩
    have hn := zI_n hI.1
    have hlen : L.length = pre.length + (rest.length + 1) := by rw [hR, List.length_append, List.length_cons]
    obtain ⟨hb, ho⟩ := hm b List.mem_cons_self
    have hc : u 264 pre.length = ii b := by rw [hrow pre.length (by omega), hR, getD_mid]
    have hF : zlp (fun kk x => f_X8_tidy_b87 S 255 (ii L.length) kk x.1 x.2.1 x.2.2) (N + 1) (ii st.2, ii pre.length, u) = f_X8_tidy_b87 S 255 (ii L.length) (zlp (fun kk x => f_X8_tidy_b87 S 255 (ii L.length) kk x.1 x.2.1 x.2.2) N) (ii st.2) (ii pre.length) u := rfl
    have hnone : pTdS st.1 b = none → ∃ u', (zlp (fun kk x => f_X8_tidy_b87 S 255 (ii L.length) kk x.1 x.2.1 x.2.2) N) (ii st.2, ii (pre.length + 1), u) = (f_X8_ends S u' 255 (ii (pTd (b :: rest) st).2)).bind (fun r5 => some (r5.1, r5.2)) ∧ u' 256 = (pTd (b :: rest) st).1 ∧ zE8 u u' := by
      intro f1
      rw [pTd_cons, f1]
      have := ih (pre ++ [b]) st u (by rw [hR, List.append_assoc]; rfl) hI (by rw [List.length_append]; omega) hS hrow (fun x hx => hm x (List.mem_cons_of_mem _ hx)) N (by simpa using hN)
      rw [List.length_append, List.length_singleton] at this
      exact this
    have hsome : ∀ s' u1, pTdS st.1 b = some s' → u1 256 = s' → zE8 u u1 → ∃ u', (zlp (fun kk x => f_X8_tidy_b87 S 255 (ii L.length) kk x.1 x.2.1 x.2.2) N) (ii (st.2 + 1), ii (pre.length + 1), u1) = (f_X8_ends S u' 255 (ii (pTd (b :: rest) st).2)).bind (fun r5 => some (r5.1, r5.2)) ∧ u' 256 = (pTd (b :: rest) st).1 ∧ zE8 u u' := by
      intro s' u1 f1 g1 g2
      rw [pTd_cons, f1]
      obtain ⟨-, -, -, -, -, -, -, -, -, -, hI', hst⟩ := pTdS_ok hI hb ho (by omega) f1
      have := ih (pre ++ [b]) (s', st.2 + 1) u1 (by rw [hR, List.append_assoc]; rfl) hI' (by rw [List.length_append, List.length_singleton]; show st.2 + 1 ≤ _; omega) g1 (by rw [g2.1 264 (by omega) (by omega)]; exact hrow) (fun x hx => hm x (List.mem_cons_of_mem _ hx)) N (by simpa using hN)
      rw [List.length_append, List.length_singleton] at this
      obtain ⟨u', t1, t2, t3⟩ := this
      exact ⟨u', t1, t2, g2.trans t3⟩
    obtain ⟨KK, hKK⟩ : ∃ KK, KK = zlp (fun kk x => f_X8_tidy_b87 S 255 (ii L.length) kk x.1 x.2.1 x.2.2) N := ⟨_, rfl⟩
    rw [← hKK] at hnone hsome
    rw [hF, ← hKK]
    have hIu : zI (u 256) n k (v0 + st.2) := by rw [hS]; exact hI.1
    unfold f_X8_tidy_b87
    have e1 : (79 : Int32) + ii b = ii (79 + b) := ii_add 79 b
    have e2 : ii (79 + b) - 1 = ii (79 + (b - 1)) := by rw [ii_sub1 (by omega)]; congr 1; omega
    have hz1 : zin (ii pre.length) 60 = true := zin_t (by omega) (by omega)
    have hx1 : zix (ii pre.length) = pre.length := zix_ii (by omega)
    have hz2 : zin (ii (79 + (b - 1))) 399 = true := zin_t (by omega) (by omega)
    have hx2 : zix (ii (79 + (b - 1))) = 79 + (b - 1) := zix_ii (by omega)
    rw [if_neg (by rw [ii_le (by omega) (by omega)]; omega), zt255_21 hL, ztl264 hL, if_pos hz1, hx1, hc, c8_isWrong hL hIu hb (by omega), zbs, hS]
    by_cases h1 : pWr st.1 b = true
    · have hw' := h1
      unfold pWr at hw'
      simp only [Bool.and_eq_true, decide_eq_true_eq] at hw'
      obtain ⟨w1, w2, w3⟩ := hw'
      obtain ⟨p1, p2, p3⟩ := zI_cOf hI.1 (b := b - 1) (by omega) w2
      have h0 : f_X8_of S u 255 (ii (cOf st.1 (b - 1))) 0 = some (u 256 (139 + 4 * cOf st.1 (b - 1))) := c8_of hL (q := 0) (by omega) (by omega)
      have hfr : pFr (st.1 (139 + 4 * cOf st.1 (b - 1) + 2)) := Or.inr ⟨b - 1, by omega, p3⟩
      have hfl := c8_flee (S := S) (w := u) hL hIu (x := cOf st.1 (b - 1)) p1 (by rw [hS]; exact hfr)
      rw [if_pos h1, if_neg (show ¬ (1 : Int32) = 0 by decide), if_pos hz1, e1, e2, zt255_1 hL, ztl256 hL, if_pos hz2, hx2, zlet_eq, hS, p2, h0, zbs, c8_pickup hL (by omega), zbs, c8_bayOf hL (by omega), zbs, hfl, zbs, hS]
      rcases pCh_ok (s := st.1) (size := st.1 (139 + 4 * cOf st.1 (b - 1))) (pk := st.1 (139 + 4 * cOf st.1 (b - 1) + 1)) (fr := st.1 (139 + 4 * cOf st.1 (b - 1) + 2)) with g | ⟨d, hd, g1, g2⟩
      · have g : pFl st.1 (cOf st.1 (b - 1)) = -1 := g
        rw [g, if_pos (by decide), ii_succ]
        refine hnone ?_
        unfold pTdS
        rw [if_pos h1, if_pos g]
      · have g1 : pFl st.1 (cOf st.1 (b - 1)) = ii d := g1
        have hnn := ii_nn (b := d) (by omega)
        have hng : ¬ ii d < 0 := by grind
        have hbadE : f_X8_isBad S u 255 (ii d) (st.1 (139 + 4 * cOf st.1 (b - 1) + 1)) = _ := c8_isBad hL hIu hd _
        rw [hS] at hbadE
        rw [g1, if_neg hng, zbs, hbadE, zbs]
        by_cases hbad : pBad st.1 d (st.1 (139 + 4 * cOf st.1 (b - 1) + 1)) = true
        · rw [if_pos hbad, if_neg (show ¬ (1 : Int32) = 0 by decide), ii_succ]
          refine hnone ?_
          unfold pTdS pkc
          rw [if_pos h1, g1, if_neg (ii_ne (by omega)), zix_ii (by omega), if_pos hbad]
        · obtain ⟨u1, m1, m2, m3⟩ := e8_moves (S := S) (w := u) hL hIu (b := b - 1) (d := d) (c := cOf st.1 (b - 1)) (by omega) hd (by omega) (by rw [hS]; exact p3)
          rw [if_neg hbad, if_pos (show (0 : Int32) = 0 from rfl), m1, zbs, ii_succ, ii_succ]
          refine hsome (pMv st.1 (b - 1) d (cOf st.1 (b - 1))) u1 ?_ (by rw [m2, hS]) m3
          unfold pTdS pkc
          rw [if_pos h1, g1, if_neg (ii_ne (by omega)), zix_ii (by omega), if_neg hbad]
    · rw [if_neg h1, if_pos (show (0 : Int32) = 0 from rfl), ii_succ]
      refine hnone ?_
      unfold pTdS
      rw [if_neg h1]
end ZT4
