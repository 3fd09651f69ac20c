/-! plainMoves. -/
section ZPL
variable {S : Zs} {w : Zw} {B n k v : Nat} {s : Nat → Int32}
theorem e8_l23 (hL : zLay S) {l : List Nat} {c i : Nat} (hll : l.length < 5) (hi : i < 5) (hln : ∀ x, x ∈ l → x < 40) (hc : c < 40) (hrow : zRow (w 262) l) (hwant : w 261 i = ii c) (k12 : (Int32 × Zw) → Option (Int32 × Zw)) :
    f_X8_plainMoves_l23 S 255 (ii i) k12 (ii l.length, w) = k12 (ii (i + 1), zput (zwup w 262 (shA (w 262) l.length (pPos (fun c => w 256 (139 + 4 * c + 1)) l c l.length))) 262 (pPos (fun c => w 256 (139 + 4 * c + 1)) l c l.length) (ii c)) := by
  generalize hpk : (fun c => w 256 (139 + 4 * c + 1)) = pk
  have hpkc : ∀ c, w 256 (139 + 4 * c + 1) = pk c := fun c => by rw [← hpk]
  have zw6 : ∀ f : Nat → Int32, zwup w 262 f 256 = w 256 := fun f => by unfold zwup; rw [if_neg (by omega)]
  have zw1 : ∀ f : Nat → Int32, zwup w 262 f 261 = w 261 := fun f => by unfold zwup; rw [if_neg (by omega)]
  have zw2 : ∀ f : Nat → Int32, zwup w 262 f 262 = f := fun f => by unfold zwup; rw [if_pos rfl]
  have key : ∀ q, q ≤ l.length → pPos pk l c q = pPos pk l c l.length → ∀ N, q < N → zlp (fun kk x => f_X8_plainMoves_b23 S 255 (ii i) k12 kk x.1 x.2) N (ii q, zwup w 262 (shA (w 262) l.length q)) = k12 (ii (i + 1), zput (zwup w 262 (shA (w 262) l.length (pPos pk l c l.length))) 262 (pPos pk l c l.length) (ii c)) := by
    intro q
    induction q with
    | zero =>
      intro hq hp N hN
      obtain ⟨N, rfl⟩ : ∃ N', N = N' + 1 := ⟨N - 1, by omega⟩
      have h0 : pPos pk l c l.length = 0 := hp.symm
      show f_X8_plainMoves_b23 S 255 (ii i) k12 _ (ii 0) (zwup w 262 (shA (w 262) l.length 0)) = _
      unfold f_X8_plainMoves_b23 f_X8_plainMoves_j76
      rw [if_pos (by decide), h0, zt255_13 hL, zt255_14 hL, ztl261 hL, ztl262 hL, if_pos (zin_t hi (by omega)), if_pos (zin_t (show 0 < 5 by omega) (by omega)), zix_ii (by omega), zix_ii (by omega), zw1, hwant, zlet_eq, ii_succ]
    | succ q ih =>
      intro hq hp N hN
      obtain ⟨N, rfl⟩ : ∃ N', N = N' + 1 := ⟨N - 1, by omega⟩
      show f_X8_plainMoves_b23 S 255 (ii i) k12 (zlp (fun kk x => f_X8_plainMoves_b23 S 255 (ii i) k12 kk x.1 x.2) N) (ii (q + 1)) (zwup w 262 (shA (w 262) l.length (q + 1))) = _
      obtain ⟨KK, hKK⟩ : ∃ KK, KK = zlp (fun kk x => f_X8_plainMoves_b23 S 255 (ii i) k12 kk x.1 x.2) N := ⟨_, rfl⟩
      rw [← hKK]
      unfold f_X8_plainMoves_b23 f_X8_plainMoves_j76
      have em : ii (q + 1) + -1 = ii q := by rw [← ii_succ]; grind
      have erow : shA (w 262) l.length (q + 1) q = ii (l.getD q 0) := by
        unfold shA
        rw [if_neg (by omega)]
        exact hrow q (by omega)
      have hq40 : l.getD q 0 < 40 := hln _ (getD_mem (by omega))
      have hu2 : zput (zwup w 262 (shA (w 262) l.length (q + 1))) 262 (q + 1) (ii (l.getD q 0)) = zwup w 262 (shA (w 262) l.length q) := by
        rw [← shA_stp (w 262) l.length q hq, erow]
        funext j i
        by_cases e : j = 262
        · subst e
          rw [zput_at, zw2, zw2]
        · rw [zput_ne e]
          unfold zwup
          rw [if_neg e, if_neg e]
      rw [if_neg (by rw [show (0 : Int32) = ii 0 from rfl, ii_le (by omega) (by omega)]; omega), ii_sub1 (by omega), Nat.add_sub_cancel, zt255_13 hL, zt255_14 hL, ztl261 hL, ztl262 hL, if_pos (zin_t hi (by omega)), zix_ii (show i < 2147483648 by omega), zw1, hwant, c8_pickup hL hc, zbs, zw6, if_pos (zin_t (show q < 5 by omega) (by omega)), zix_ii (show q < 2147483648 by omega), zw2, erow, c8_pickup hL hq40, zbs, zw6, hpkc, hpkc, if_pos (zin_t hi (by omega)), if_pos (zin_t (show q < 5 by omega) (by omega)), if_pos (zin_t (show q + 1 < 5 by omega) (by omega)), zix_ii (by omega), zlet_eq, zlet_eq, em, hu2, ii_succ]
      by_cases hlt : pk c < pk (l.getD q 0)
      · have hp' : pPos pk l c q = pPos pk l c l.length := by
          rw [← hp]
          show _ = (if _ then _ else _)
          rw [if_pos hlt]
        rw [if_neg (by grind)]
        have := ih (by omega) hp' N (by omega)
        rw [← hKK] at this
        first | exact this | (rw [if_pos (zin_t (show q + 1 < 5 by omega) (by omega))]; exact this)
      · have hp' : pPos pk l c l.length = q + 1 := by
          rw [← hp]
          show (if _ then _ else _) = _
          rw [if_neg hlt]
        rw [if_pos (by grind), hp']
  unfold f_X8_plainMoves_l23
  have := key l.length (Nat.le_refl _) rfl zFU (by unfold zFU; omega)
  have e : zwup w 262 (shA (w 262) l.length l.length) = w := by
    rw [shA_len]
    funext j
    unfold zwup
    by_cases e : j = 262
    · rw [if_pos e, e]
    · rw [if_neg e]
  rw [e] at this
  exact this
/-- the reference's plain order -/
theorem e8_l12 (hL : zLay S) {L : List Nat} (hL5 : L.length ≤ 5) (hLn : ∀ x, x ∈ L → x < 40) (hmany : w 255 16 = ii L.length) (hwant : zRow (w 261) L) : ∃ u KK, zRow (u 262) (L.foldl (pIns fun c => w 256 (139 + 4 * c + 1)) []) ∧ (∀ j, j ≠ 262 → u j = w j) ∧ f_X8_plainMoves_l12 S 255 (0, w) = f_X8_plainMoves_b12 S 255 KK (ii L.length) u := by
  have key : ∀ (rest done : List Nat) (u : Zw), L = done ++ rest → zRow (u 262) (done.foldl (pIns fun c => w 256 (139 + 4 * c + 1)) []) → (∀ j, j ≠ 262 → u j = w j) → ∀ N, rest.length < N → ∃ u' KK, zRow (u' 262) (L.foldl (pIns fun c => w 256 (139 + 4 * c + 1)) []) ∧ (∀ j, j ≠ 262 → u' j = w j) ∧ zlp (fun kk x => f_X8_plainMoves_b12 S 255 kk x.1 x.2) N (ii done.length, u) = f_X8_plainMoves_b12 S 255 KK (ii L.length) u' := by
    intro rest
    induction rest with
    | nil =>
      intro done u hd hr ho N hN
      obtain ⟨N, rfl⟩ : ∃ N', N = N' + 1 := ⟨N - 1, by omega⟩
      rw [List.append_nil] at hd
      subst hd
      exact ⟨u, _, hr, ho, rfl⟩
    | cons c rest ih =>
      intro done u hd hr ho N hN
      obtain ⟨N, rfl⟩ : ∃ N', N = N' + 1 := ⟨N - 1, by omega⟩
      have hlen : L.length = done.length + (rest.length + 1) := by rw [hd, List.length_append, List.length_cons]
      have hcL : c ∈ L := by rw [hd]; exact List.mem_append_right _ List.mem_cons_self
      have hc : u 261 done.length = ii c := by rw [ho 261 (by omega), hwant done.length (by omega), hd, getD_mid]
      obtain ⟨hm1, hm2⟩ := pIns_fold (fun c => w 256 (139 + 4 * c + 1)) done []
      have hm2 : (done.foldl (pIns fun c => w 256 (139 + 4 * c + 1)) []).length = done.length := by rw [hm2]; exact Nat.zero_add _
      have u6 : u 256 = w 256 := ho 256 (by omega)
      have h23 := e8_l23 (S := S) (w := u) hL (l := done.foldl (pIns fun c => w 256 (139 + 4 * c + 1)) []) (c := c) (i := done.length) (by omega) (by omega) (fun x hx => by
        rw [hm1 x] at hx
        rcases hx with hx | hx
        · exact absurd hx List.not_mem_nil
        · exact hLn x (by rw [hd]; exact List.mem_append_left _ hx)) (hLn c hcL) hr hc (zlp (fun kk x => f_X8_plainMoves_b12 S 255 kk x.1 x.2) N)
      rw [u6, hm2] at h23
      have hF : zlp (fun kk x => f_X8_plainMoves_b12 S 255 kk x.1 x.2) (N + 1) (ii done.length, u) = f_X8_plainMoves_l23 S 255 (ii done.length) (zlp (fun kk x => f_X8_plainMoves_b12 S 255 kk x.1 x.2) N) (ii done.length, u) := by
        show f_X8_plainMoves_b12 S 255 (zlp (fun kk x => f_X8_plainMoves_b12 S 255 kk x.1 x.2) N) (ii done.length) u = _
        have h16 : ¬ u 255 16 ≤ ii done.length := by rw [ho 255 (by omega), hmany, ii_le (by omega) (by omega)]; omega
        generalize zlp (fun kk x => f_X8_plainMoves_b12 S 255 kk x.1 x.2) N = KK
        unfold f_X8_plainMoves_b12
        rw [if_neg h16]
      rw [hF, h23]
      have hp : pPos (fun c => w 256 (139 + 4 * c + 1)) (done.foldl (pIns fun c => w 256 (139 + 4 * c + 1)) []) c done.length ≤ done.length := pPos_le _ _ _ _
      have := ih (done ++ [c]) (zput (zwup u 262 (shA (u 262) done.length (pPos (fun c => w 256 (139 + 4 * c + 1)) (done.foldl (pIns fun c => w 256 (139 + 4 * c + 1)) []) c done.length))) 262 (pPos (fun c => w 256 (139 + 4 * c + 1)) (done.foldl (pIns fun c => w 256 (139 + 4 * c + 1)) []) c done.length) (ii c)) (by rw [hd, List.append_assoc]; rfl) (by
        rw [List.foldl_append]
        show zRow _ (pIns (fun c => w 256 (139 + 4 * c + 1)) (done.foldl (pIns fun c => w 256 (139 + 4 * c + 1)) []) c)
        have hins : ∀ l : List Nat, pIns (fun c => w 256 (139 + 4 * c + 1)) l c = l.take (pPos (fun c => w 256 (139 + 4 * c + 1)) l c l.length) ++ c :: l.drop (pPos (fun c => w 256 (139 + 4 * c + 1)) l c l.length) := fun _ => rfl
        rw [hins, hm2, zput_at]
        have e9 : ∀ f : Nat → Int32, zwup u 262 f 262 = f := fun f => by unfold zwup; rw [if_pos rfl]
        rw [e9]
        have := zRow_ins (c := c) hr (show pPos (fun c => w 256 (139 + 4 * c + 1)) (done.foldl (pIns fun c => w 256 (139 + 4 * c + 1)) []) c done.length ≤ _ by omega)
        rw [hm2] at this
        exact this) (fun j hj => by
        rw [zput_ne hj]
        unfold zwup
        rw [if_neg hj, ho j hj]) N (by simpa using hN)
      rw [List.length_append, List.length_singleton] at this
      exact this
  unfold f_X8_plainMoves_l12
  exact key L [] w rfl (fun j hj => absurd hj (Nat.not_lt_zero j)) (fun _ _ => rfl) zFU (by unfold zFU; omega)
/-- the class carries the plain order out on a copy -/
theorem c7_b21 (hL : zLay S) {R : List Nat} {v0 T0 : Nat} (hRn : ∀ c, c ∈ R → c < n) (hRd : R.Pairwise (· ≠ ·)) (hR5 : R.length ≤ 5) (hv0 : v0 < 999900) (rest : List Nat) :
    ∀ (pre : List Nat) (st : Zst) (u : Zw), R = pre ++ rest → SI R n v0 st pre → (∃ k v, zI9 st.1 n k v ∧ n + k + v = T0 + st.2.1) → Sh u 153 st.1 → u 148 4 = ii R.length → u 148 5 = ii T0 → zRow (u 150) R → ∀ N, rest.length < N →
      ∃ u', zlp (fun kk x => f_X5_movesInPlainOrder_b21 S 148 kk x.1 x.2) N (ii pre.length, u) = some ((match pGo st rest with | none => 0 | some st' => ii st'.2.1), u') ∧ (∀ j, j < 153 ∨ 169 ≤ j → u' j = u j) ∧ zPac u' 153 := by
  induction rest with
  | nil =>
    intro pre st u hR hSI hT hS h4 h5 hr N hN
    obtain ⟨N, rfl⟩ : ∃ N', N = N' + 1 := ⟨N - 1, by omega⟩
    rw [List.append_nil] at hR
    subst hR
    obtain ⟨k, v, hI, hT⟩ := hT
    have hTT : u (153 + 16 * 0 + 11) 1 = ii (T0 + st.2.1) := by
      have := RG_T (w := u) (g := 153) (R_Sh hI.1 hS) hI.1
      rw [hT] at this
      exact this
    have hm := c7_movesAt (S := S) (w := u) (d := 0) hL (by omega) hTT h5
    have hm : f_X5_movesAt S u 148 0 = some (ii st.2.1) := hm
    refine ⟨u, ?_, fun _ _ => rfl, Sh_pc hS⟩
    show f_X5_movesInPlainOrder_b21 S 148 _ (ii R.length) u = _
    unfold f_X5_movesInPlainOrder_b21
    rw [h4, if_pos (by rw [ii_le (by omega) (by omega)]; omega), hm, zbs]
    rfl
  | cons c rest ih =>
    intro pre st u hR hSI hT hS h4 h5 hr N hN
    obtain ⟨N, rfl⟩ : ∃ N', N = N' + 1 := ⟨N - 1, by omega⟩
    have hlen : R.length = pre.length + (rest.length + 1) := by rw [hR, List.length_append, List.length_cons]
    have hcR : c ∈ R := by rw [hR]; exact List.mem_append_right _ List.mem_cons_self
    have hcp : ¬ c ∈ pre := by
      intro q
      rw [hR, List.pairwise_append] at hRd
      exact hRd.2.2 c q c List.mem_cons_self rfl
    obtain ⟨b, hb, g1, g2, g3⟩ := SI_stp hSI hRn hv0 (by omega) hcR hcp
    obtain ⟨k0, v0', hI0, hT0⟩ := hT
    obtain ⟨k, v, hI, a1, a2, a3, a4, a5, a6⟩ := id hSI
    have hcn := hRn c hcR
    have hTe : n + k + v = T0 + st.2.1 := by
      rw [← hT0, ← pT_I hI.1, ← pT_I hI0.1]
    have hc : u 150 pre.length = ii c := by rw [hr pre.length (by omega), hR, getD_mid]
    have hG : zGar S 153 := zGar_of hL (by decide)
    have hF : zlp (fun kk x => f_X5_movesInPlainOrder_b21 S 148 kk x.1 x.2) (N + 1) (ii pre.length, u) = f_X5_movesInPlainOrder_b21 S 148 (zlp (fun kk x => f_X5_movesInPlainOrder_b21 S 148 kk x.1 x.2) N) (ii pre.length) u := rfl
    obtain ⟨KK, hKK⟩ : ∃ KK, KK = zlp (fun kk x => f_X5_movesInPlainOrder_b21 S 148 kk x.1 x.2) N := ⟨_, rfl⟩
    have hpg : pGo st (c :: rest) = (pStp st c).bind fun st' => pGo st' rest := rfl
    have z0 : zin (0 : Int32) 6 = true := by decide
    have z00 : zix (0 : Int32) = 0 := by decide
    rw [hF, ← hKK, hpg]
    unfold f_X5_movesInPlainOrder_b21
    rw [h4, if_neg (by rw [ii_le (by omega) (by omega)]; omega), zt148_0 hL, ztl149 hL, if_pos z0, z00, zt149_0 hL, zt148_1 hL, ztl150 hL, if_pos (zin_t (by omega) (by omega)), zix_ii (by omega), hc]
    rcases c7_fetch (S := S) (w := u) hG (R_Sh hI.1 hS) hI hb hcn g1 (by omega) with ⟨f1, f2⟩ | ⟨s', m, u1, f1, f2, f3, f4⟩
    · have hfc : pFc st.1 c = none := by
        unfold pFc
        rw [g2]
        exact f1
      have e1 : pStp st c = none := by
        unfold pStp
        rw [hfc]
        rfl
      rw [f2, zbs, if_pos (show (0 : Int32) = 0 from rfl), e1]
      exact ⟨u, rfl, fun _ _ => rfl, Sh_pc hS⟩
    · have hfc : pFc st.1 c = some (s', m) := by
        unfold pFc
        rw [g2]
        exact f1
      have hm := pFetch_m f1
      have e1 : pStp st c = some (s', st.2.1 + m, pFe s' m st.2.2) := by
        unfold pStp
        rw [hfc]
        rfl
      obtain ⟨r1, r2⟩ := pFetch_I hI hb hcn g1 (by omega) f1
      have hm0 : ¬ ii m = 0 := by
        rw [show (0 : Int32) = ii 0 from rfl, ii_iff (by omega) (by omega)]
        omega
      obtain ⟨u', t1, t2, t3⟩ := ih (pre ++ [c]) (s', st.2.1 + m, pFe s' m st.2.2) u1 (by rw [hR, List.append_assoc]; rfl) (g3 s' m hfc) ⟨_, _, r1, by
        show _ = T0 + (st.2.1 + m)
        omega⟩ (by
        refine Sh_R r1.1 ?_
        rw [r2]
        exact f3) (by rw [f4 148 (by omega), h4]) (by rw [f4 148 (by omega), h5]) (by rw [f4 150 (by omega)]; exact hr) N (by simpa using hN)
      rw [List.length_append, List.length_singleton, ← hKK] at t1
      rw [f2, zbs, if_neg hm0, ii_succ, e1, zbs]
      exact ⟨u', t1, fun j hj => by rw [t2 j hj, f4 j (by omega)], t3⟩
end ZPL
