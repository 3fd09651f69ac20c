/-! THE REFERENCE's search. -/
section ZFO
variable {S : Zs} {w : Zw} {n k v : Nat}
theorem zRow_pre {f : Nat → Int32} {l m : List Nat} (h : zRow f (l ++ m)) : zRow f l := by
  intro j hj
  have := h j (by rw [List.length_append]; omega)
  rw [this]
  simp [List.getElem?_append, hj]
theorem getD_mid {l m : List Nat} {c : Nat} : (l ++ c :: m).getD l.length 0 = c := by simp
theorem e8_triesF (hL : zLay S) {L : List Nat} {s0 : Nat → Int32} (hI : zI9 s0 n k v) (hv : v < 999900) (hLn : ∀ c, c ∈ L → c < n ∧ s0 (139 + 4 * c + 2) ≠ -1) (h5 : L.length ≤ 5) (f : Nat) :
    ∀ (pre : List Nat) (acc : Zac) (w : Zw), pre.length + (f + 1) = L.length → (∀ x, x ∈ pre → x ∈ L) → pre.Pairwise (· ≠ ·) → w 256 = s0 → zRow (w 262) pre → AccR w L.length acc → w 255 16 = ii L.length → zRow (w 261) L → ∀ N, f < N →
      ∃ w', zlp (fun self a => f_X8_tries_F S self a.2 255 a.1) N (ii pre.length, w) = some ((), w') ∧ AccR w' L.length (pTs L s0 (f + 1) pre acc) ∧ zES w w' ∧ zRow (w' 262) pre := by
  have hn := zI_n hI.1
  induction f with
  | zero =>
    intro pre acc w hlen hsub hpd h6 hrow hacc hmany hwant N hN
    obtain ⟨N, rfl⟩ : ∃ N', N = N' + 1 := ⟨N - 1, by omega⟩
    have hF : zlp (fun self a => f_X8_tries_F S self a.2 255 a.1) (N + 1) (ii pre.length, w) = f_X8_tries_F S (zlp (fun self a => f_X8_tries_F S self a.2 255 a.1) N) w 255 (ii pre.length) := rfl
    rw [hF]
    generalize zlp (fun self a => f_X8_tries_F S self a.2 255 a.1) N = self
    have inner : ∀ (rest done : List Nat) (acc : Zac) (u : Zw), L = done ++ rest → zES w u → AccR u L.length acc → zRow (u 262) pre → ∀ M, rest.length < M →
        ∃ u', zlp (fun kk a => f_X8_tries_b2 S self 255 (ii pre.length) kk a.1 a.2) M (ii done.length, u) = some ((), u') ∧ AccR u' L.length (rest.foldl (fun acc c => if c ∈ pre then acc else pTs L s0 0 (pre ++ [c]) acc) acc) ∧ zES w u' ∧ zRow (u' 262) pre := by
      intro rest
      induction rest with
      | nil =>
        intro done acc u hd hE ha hr M hM
        obtain ⟨M, rfl⟩ : ∃ M', M = M' + 1 := ⟨M - 1, by omega⟩
        refine ⟨u, ?_, ha, hE, hr⟩
        show f_X8_tries_b2 S self 255 (ii pre.length) _ (ii done.length) u = _
        unfold f_X8_tries_b2
        rw [List.append_nil] at hd
        rw [hE.2 16 (by omega) (by omega) (by omega), hmany, hd, if_pos (by rw [ii_le (by rw [← hd]; omega) (by rw [← hd]; omega)]; omega)]
      | cons c rest ih =>
        intro done acc u hd hE ha hr M hM
        obtain ⟨M, rfl⟩ : ∃ M', M = M' + 1 := ⟨M - 1, by omega⟩
        have hM : rest.length < M := by simpa using hM
        have hdl : L.length = done.length + (rest.length + 1) := by rw [hd, List.length_append, List.length_cons]
        have hcL : c ∈ L := by rw [hd]; exact List.mem_append_right _ List.mem_cons_self
        have u16 : u 255 16 = ii L.length := by rw [hE.2 16 (by omega) (by omega) (by omega), hmany]
        have uw : u 261 done.length = ii c := by
          rw [hE.1 261 (by omega) (by omega) (by omega) (by omega), hwant done.length (by omega), hd, getD_mid]
        have hG : zlp (fun kk a => f_X8_tries_b2 S self 255 (ii pre.length) kk a.1 a.2) (M + 1) (ii done.length, u) = f_X8_tries_b2 S self 255 (ii pre.length) (zlp (fun kk a => f_X8_tries_b2 S self 255 (ii pre.length) kk a.1 a.2) M) (ii done.length) u := rfl
        obtain ⟨KK, hKK⟩ : ∃ KK, KK = zlp (fun kk a => f_X8_tries_b2 S self 255 (ii pre.length) kk a.1 a.2) M := ⟨_, rfl⟩
        rw [hG, ← hKK]
        unfold f_X8_tries_b2
        rw [u16, if_neg (by rw [ii_le (by omega) (by omega)]; omega), e8_l15 hL (by omega) (by omega) (fun x hx => by have := (hLn x (hsub x hx)).1; omega) (by have := (hLn c hcL).1; omega) hr uw]
        rw [List.foldl_cons]
        by_cases hcp : c ∈ pre
        · rw [if_pos hcp, if_pos hcp]
          have := ih (done ++ [c]) acc u (by rw [hd, List.append_assoc]; rfl) hE ha hr M hM
          rw [List.length_append, List.length_singleton, ← hKK] at this
          exact this
        · rw [if_neg hcp, if_neg hcp]
          have hR : (pre ++ [c]).length = L.length := by rw [List.length_append, List.length_singleton]; omega
          have hE6 : zES w (zput u 262 pre.length (ii c)) := hE.trans ⟨fun j p q r t => by rw [zput_ne r], fun i p q r => by rw [zput_ne (by omega)]⟩
          have h66 : zput u 262 pre.length (ii c) 256 = s0 := by rw [hE6.1 256 (by omega) (by omega) (by omega) (by omega), h6]
          have hrow6 : zRow (zput u 262 pre.length (ii c) 262) (pre ++ [c]) := by
            rw [zput_at]
            exact zRow_snoc hr
          have hm : ∀ x, x ∈ pre ++ [c] → x ∈ L := by
            intro x hx
            rw [List.mem_append, List.mem_singleton] at hx
            rcases hx with hx | rfl
            · exact hsub x hx
            · exact hcL
          obtain ⟨u', t1, t2, t3, t4⟩ := e8_triesRow (S := S) (w := zput u 262 pre.length (ii c)) (R := pre ++ [c]) (acc := acc) (n := n) (k := k) (v := v) hL (by rw [h66]; exact hI) hv (fun x hx => by rw [h66]; exact hLn x (hm x hx)) (by
              rw [List.pairwise_append]
              exact ⟨hpd, List.pairwise_singleton _ _, fun x hx y hy => by rw [List.mem_singleton] at hy; rw [hy]; exact fun e => hcp (e ▸ hx)⟩) (by omega) (by rw [hR, zput_ne (by omega), u16]) hrow6 (by
              rw [hR]
              obtain ⟨q1, q2, q3⟩ := ha
              exact ⟨by rw [zput_ne (by omega)]; exact q1, q2, fun q => by rw [zput_ne (by omega), zput_ne (by omega)]; exact q3 q⟩)
          rw [if_pos (by rw [zput_ne (by omega), u16, ii_le (by omega) (by omega)]; omega), t1, zbs]
          rw [hR, h66] at t2
          have hE' : zES w u' := hE6.trans t3
          have hr' : zRow (u' 262) pre := by rw [t4]; exact zRow_pre hrow6
          have := ih (done ++ [c]) (pTr s0 (pre ++ [c]) acc) u' (by rw [hd, List.append_assoc]; rfl) hE' t2 hr' M hM
          rw [List.length_append, List.length_singleton, ← hKK] at this
          exact this
    unfold f_X8_tries_F f_X8_tries_l2
    exact inner L [] acc w rfl zES.rfl hacc hrow zFU (by unfold zFU; omega)
  | succ f ihf =>
    intro pre acc w hlen hsub hpd h6 hrow hacc hmany hwant N hN
    obtain ⟨N, rfl⟩ : ∃ N', N = N' + 1 := ⟨N - 1, by omega⟩
    have hF : zlp (fun self a => f_X8_tries_F S self a.2 255 a.1) (N + 1) (ii pre.length, w) = f_X8_tries_F S (zlp (fun self a => f_X8_tries_F S self a.2 255 a.1) N) w 255 (ii pre.length) := rfl
    rw [hF]
    obtain ⟨self, hself⟩ : ∃ self, self = zlp (fun self a => f_X8_tries_F S self a.2 255 a.1) N := ⟨_, rfl⟩
    rw [← hself]
    have inner : ∀ (rest done : List Nat) (acc : Zac) (u : Zw), L = done ++ rest → zES w u → AccR u L.length acc → zRow (u 262) pre → ∀ M, rest.length < M →
        ∃ u', zlp (fun kk a => f_X8_tries_b2 S self 255 (ii pre.length) kk a.1 a.2) M (ii done.length, u) = some ((), u') ∧ AccR u' L.length (rest.foldl (fun acc c => if c ∈ pre then acc else pTs L s0 (f + 1) (pre ++ [c]) acc) acc) ∧ zES w u' ∧ zRow (u' 262) pre := by
      intro rest
      induction rest with
      | nil =>
        intro done acc u hd hE ha hr M hM
        obtain ⟨M, rfl⟩ : ∃ M', M = M' + 1 := ⟨M - 1, by omega⟩
        refine ⟨u, ?_, ha, hE, hr⟩
        show f_X8_tries_b2 S self 255 (ii pre.length) _ (ii done.length) u = _
        unfold f_X8_tries_b2
        rw [List.append_nil] at hd
        rw [hE.2 16 (by omega) (by omega) (by omega), hmany, hd, if_pos (by rw [ii_le (by rw [← hd]; omega) (by rw [← hd]; omega)]; omega)]
      | cons c rest ih =>
        intro done acc u hd hE ha hr M hM
        obtain ⟨M, rfl⟩ : ∃ M', M = M' + 1 := ⟨M - 1, by omega⟩
        have hM : rest.length < M := by simpa using hM
        have hdl : L.length = done.length + (rest.length + 1) := by rw [hd, List.length_append, List.length_cons]
        have hcL : c ∈ L := by rw [hd]; exact List.mem_append_right _ List.mem_cons_self
        have u16 : u 255 16 = ii L.length := by rw [hE.2 16 (by omega) (by omega) (by omega), hmany]
        have uw : u 261 done.length = ii c := by
          rw [hE.1 261 (by omega) (by omega) (by omega) (by omega), hwant done.length (by omega), hd, getD_mid]
        have hG : zlp (fun kk a => f_X8_tries_b2 S self 255 (ii pre.length) kk a.1 a.2) (M + 1) (ii done.length, u) = f_X8_tries_b2 S self 255 (ii pre.length) (zlp (fun kk a => f_X8_tries_b2 S self 255 (ii pre.length) kk a.1 a.2) M) (ii done.length) u := rfl
        obtain ⟨KK, hKK⟩ : ∃ KK, KK = zlp (fun kk a => f_X8_tries_b2 S self 255 (ii pre.length) kk a.1 a.2) M := ⟨_, rfl⟩
        rw [hG, ← hKK]
        unfold f_X8_tries_b2
        rw [u16, if_neg (by rw [ii_le (by omega) (by omega)]; omega), e8_l15 hL (by omega) (by omega) (fun x hx => by have := (hLn x (hsub x hx)).1; omega) (by have := (hLn c hcL).1; omega) hr uw]
        rw [List.foldl_cons]
        by_cases hcp : c ∈ pre
        · rw [if_pos hcp, if_pos hcp]
          have := ih (done ++ [c]) acc u (by rw [hd, List.append_assoc]; rfl) hE ha hr M hM
          rw [List.length_append, List.length_singleton, ← hKK] at this
          exact this
        · rw [if_neg hcp, if_neg hcp]
          have hR : (pre ++ [c]).length = pre.length + 1 := by rw [List.length_append, List.length_singleton]
          have hE6 : zES w (zput u 262 pre.length (ii c)) := hE.trans ⟨fun j p q r t => by rw [zput_ne r], fun i p q r => by rw [zput_ne (by omega)]⟩
          have h66 : zput u 262 pre.length (ii c) 256 = s0 := by rw [hE6.1 256 (by omega) (by omega) (by omega) (by omega), h6]
          have hrow6 : zRow (zput u 262 pre.length (ii c) 262) (pre ++ [c]) := by
            rw [zput_at]
            exact zRow_snoc hr
          have hm : ∀ x, x ∈ pre ++ [c] → x ∈ L := by
            intro x hx
            rw [List.mem_append, List.mem_singleton] at hx
            rcases hx with hx | rfl
            · exact hsub x hx
            · exact hcL
          obtain ⟨u', t1, t2, t3, t4⟩ := ihf (pre ++ [c]) acc (zput u 262 pre.length (ii c)) (by omega) hm (by
              rw [List.pairwise_append]
              exact ⟨hpd, List.pairwise_singleton _ _, fun x hx y hy => by rw [List.mem_singleton] at hy; rw [hy]; exact fun e => hcp (e ▸ hx)⟩) h66 hrow6 (by
              obtain ⟨q1, q2, q3⟩ := ha
              exact ⟨by rw [zput_ne (by omega)]; exact q1, q2, fun q => by rw [zput_ne (by omega), zput_ne (by omega)]; exact q3 q⟩) (by rw [zput_ne (by omega), u16]) (by rw [hE6.1 261 (by omega) (by omega) (by omega) (by omega)]; exact hwant) N (by omega)
          rw [hR, ← hself] at t1
          rw [if_neg (by rw [zput_ne (by omega), u16, ii_le (by omega) (by omega)]; omega), t1, zbs]
          have hE' : zES w u' := hE6.trans t3
          have := ih (done ++ [c]) (pTs L s0 (f + 1) (pre ++ [c]) acc) u' (by rw [hd, List.append_assoc]; rfl) hE' t2 (zRow_pre t4) M hM
          rw [List.length_append, List.length_singleton, ← hKK] at this
          exact this
    unfold f_X8_tries_F f_X8_tries_l2
    exact inner L [] acc w rfl zES.rfl hacc hrow zFU (by unfold zFU; omega)
/-- the best order -/
def pBest (L : List Nat) (s0 : Nat → Int32) : Zac := pTs L s0 L.length [] (0, 0, [])
theorem e8_isFound (hL : zLay S) {L : List Nat} (hI : zI9 (w 256) n k v) (hv : v < 999900) (hLn : ∀ c, c ∈ L → c < n ∧ w 256 (139 + 4 * c + 2) ≠ -1) (h1 : L ≠ []) (h5 : L.length ≤ 5) (hmany : w 255 16 = ii L.length) (hwant : zRow (w 261) L) :
    ∃ w', f_X8_isFound S w 255 = some (if (pBest L (w 256)).1 = 0 then 0 else 1, w') ∧ AccR w' L.length (pBest L (w 256)) ∧ zES w w' := by
  obtain ⟨f, hf⟩ : ∃ f, L.length = f + 1 := ⟨L.length - 1, by have := List.length_pos_iff.mpr h1; omega⟩
  have hE : zES w (zput w 255 17 0) := ⟨fun j p q r t => zput_ne p, fun i p q r => by rw [zput_at, upd_ne (by omega)]⟩
  obtain ⟨w', t1, t2, t3, -⟩ := e8_triesF (S := S) (L := L) (s0 := w 256) hL hI hv hLn h5 f [] (0, 0, []) (zput w 255 17 0) (by rw [List.length_nil]; omega) (fun x hx => absurd hx List.not_mem_nil) List.Pairwise.nil (zput_ne (by omega)) (fun j hj => absurd hj (Nat.not_lt_zero j)) ⟨by rw [zput_at, upd_at]; rfl, Nat.zero_le _, fun q => absurd rfl q⟩ (by rw [zput_at, upd_ne (by omega), hmany]) (by rw [zput_ne (by omega)]; exact hwant) 8 (by omega)
  have t1 : f_X8_tries S (zput w 255 17 0) 255 0 = some ((), w') := t1
  rw [← hf] at t2
  have t2 : AccR w' L.length (pBest L (w 256)) := t2
  obtain ⟨q1, q2, q3⟩ := id t2
  refine ⟨w', ?_, t2, hE.trans t3⟩
  unfold f_X8_isFound
  rw [zlet_eq, t1, zbs]
  dsimp only
  simp only [q1]
  by_cases h0 : (pBest L (w 256)).1 = 0
  · rw [if_pos h0, if_pos (by rw [h0]; decide)]
  · rw [if_neg h0, if_neg (by rw [show (0 : Int32) = ii 0 from rfl, ii_le (by omega) (by omega)]; omega)]
end ZFO
