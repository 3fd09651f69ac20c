/-! THE REFERENCE carries an order out. -/
section ZGS
variable {S : Zs} {w : Zw} {n k v v0 : Nat}
theorem pNotes_hi {s : Nat → Int32} {r c : Nat} {fr to jb je : Int32} (hr : r < 20) (hc : c < 40) (hf : pFr fr) (ht : pFr to) {i : Nat} (h : 399 ≤ i) : pNotes s r c fr to jb je i = s i := by
  unfold pNotes
  rw [pN2_o ht (by omega), pN2_o hf (by omega)]
  unfold pN1
  simp (disch := omega) only [upd_ne]
  unfold pSh
  split
  · rw [upd_ne (by omega)]
    unfold pShift
    rw [if_neg (by omega)]
  · rfl
theorem pOut_hi {s : Nat → Int32} {b c i : Nat} (hb : b < 60) (hc : c < 40) (h : 399 ≤ i) : pOut s b c i = s i := by
  rw [pOut_i (by omega), pNotes_hi (by omega) hc (Or.inr ⟨b, hb, rfl⟩) (Or.inl rfl) h, qOutM_o hb (by omega)]
theorem pMv_hi {s : Nat → Int32} {b d c i : Nat} (hb : b < 60) (hd : d < 60) (hc : c < 40) (h : 399 ≤ i) : pMv s b d c i = s i := by
  rw [pMv_i (by omega), pNotes_hi (by omega) hc (Or.inr ⟨b, hb, rfl⟩) (Or.inr ⟨d, hd, rfl⟩) h, qMvM_o hb hd (by omega)]
theorem pFetch_hi {s s' : Nat → Int32} {b c m i : Nat} (hI : zI9 s n k v) (hb : b < 60) (hc : c < n) (hbay : s (139 + 4 * c + 2) = ii b) (hv : v < 999990) (h : pFetch s b c = some (s', m)) (hi : 399 ≤ i) : s' i = s i := by
  have hn := zI_n hI.1
  rcases pFetch_cases hI hb hc hbay hv with ⟨h1, h2, h3⟩ | ⟨x, hx, hxc, h1, h2, ⟨e1, e2⟩ | ⟨d, hd, e1, e2, e3, e4, e5, e6⟩⟩
  · have q1 := congrArg Prod.fst (Option.some.inj (h2.symm.trans h))
    dsimp only at q1
    subst q1
    exact pOut_hi hb (by omega) hi
  · rw [e2] at h
    cases h
  · have q1 := congrArg Prod.fst (Option.some.inj (e3.symm.trans h))
    dsimp only at q1
    subst q1
    rw [pOut_hi hb (by omega) hi, pMv_hi (by omega) hd (by omega) hi]
theorem zput_self {a i : Nat} : zput w a i (w a i) = w := by
  funext j q
  unfold zput
  by_cases h : j = a ∧ q = i
  · rw [if_pos h, h.1, h.2]
  · rw [if_neg h]
/-- what carrying out an order touches -/
def zEG (w w' : Zw) : Prop := (∀ j, j ≠ 255 → j ≠ 256 → w' j = w j) ∧ (∀ i, i ≠ 8 → i ≠ 9 → i ≠ 19 → i ≠ 20 → w' 255 i = w 255 i) ∧ ∀ i, 399 ≤ i → w' 256 i = w 256 i
theorem zEG.trans {a b c : Zw} (h : zEG a b) (h' : zEG b c) : zEG a c := ⟨fun j p q => (h'.1 j p q).trans (h.1 j p q), fun i p q r t => (h'.2.1 i p q r t).trans (h.2.1 i p q r t), fun i p => (h'.2.2 i p).trans (h.2.2 i p)⟩
theorem e8_l57 (hL : zLay S) {K m x1 : Nat} {e : Int32} (h6 : w 256 6 = ii K) (hK : K ≤ 20) (hm : m ≤ K) (he : w 255 20 = e) (k12 : (Int32 × Zw) → Option (Int32 × Zw)) : f_X8_goes_l57 S 255 (ii x1) k12 (ii (K - m), w) = k12 (ii (x1 + 1), zput w 255 20 (pFe (w 256) m e)) := by
  have z6 : zin (6 : Int32) 399 = true := by decide
  have z66 : zix (6 : Int32) = 6 := by decide
  have zK : zix (w 256 6) = K := by rw [h6, zix_ii (by omega)]
  have hs : ∀ (kk : (Int32 × Zw) → Option (Int32 × Zw)) (i : Nat) (x : Int32 × Zw), i < m → (x.1 = ii (K - (m - i)) ∧ ∃ e', x.2 = zput w 255 20 e' ∧ pFe (w 256) (m - i) e' = pFe (w 256) m e) →
      ∃ x' : Int32 × Zw, (x'.1 = ii (K - (m - (i + 1))) ∧ ∃ e', x'.2 = zput w 255 20 e' ∧ pFe (w 256) (m - (i + 1)) e' = pFe (w 256) m e) ∧ f_X8_goes_b57 S 255 (ii x1) k12 kk x.1 x.2 = kk x' := by
    rintro kk i ⟨x, u⟩ hi ⟨rfl, e', rfl, h2⟩
    refine ⟨(ii (K - (m - i) + 1), zput w 255 20 (zmax e' (w 256 (299 + 5 * (K - (m - i)) + 4)))), ⟨?_, _, rfl, ?_⟩, ?_⟩
    · show ii _ = ii _
      congr 1
      omega
    · rw [← h2, show m - i = (m - (i + 1)) + 1 by omega]
      show _ = pFe (w 256) (m - (i + 1)) (zmax e' (w 256 (299 + 5 * (zix (w 256 6) - (m - (i + 1) + 1)) + 4)))
      rw [zK]
    · show f_X8_goes_b57 S 255 (ii x1) k12 kk (ii (K - (m - i))) (zput w 255 20 e') = _
      unfold f_X8_goes_b57
      have hne : ¬ ii K ≤ ii (K - (m - i)) := by rw [ii_le (by omega) (by omega)]; omega
      have e9 : (299 : Int32) + (5 : Int32) * ii (K - (m - i)) + 4 = ii (299 + 5 * (K - (m - i)) + 4) := by
        rw [show (299 : Int32) = ii 299 from rfl, show (5 : Int32) = ii 5 from rfl, show (4 : Int32) = ii 4 from rfl, ii_mul, ii_add, ii_add]
      have u6 : zput w 255 20 e' 256 = w 256 := zput_ne (by omega)
      have u20 : zput w 255 20 e' 255 20 = e' := by rw [zput_at, upd_at]
      rw [zt255_1 hL, ztl256 hL, if_pos z6, z66, u6, h6, if_neg hne, e9, if_pos (zin_t (by omega) (by omega)), zix_ii (by omega), u20, zlet_eq, zput_zput, ii_succ]
  obtain ⟨⟨x, u⟩, KK, ⟨rfl, e', rfl, h2⟩, e9⟩ := zlp_to (F := fun kk x => f_X8_goes_b57 S 255 (ii x1) k12 kk x.1 x.2) m (fun i x => x.1 = ii (K - (m - i)) ∧ ∃ e', x.2 = zput w 255 20 e' ∧ pFe (w 256) (m - i) e' = pFe (w 256) m e) hs m 0 (ii (K - m), w) (by omega) ⟨rfl, e, by rw [← he, zput_self], rfl⟩ zFU (by unfold zFU; omega)
  unfold f_X8_goes_l57
  rw [e9]
  rw [Nat.sub_self] at h2
  have h2 : e' = pFe (w 256) m e := h2
  subst h2
  show f_X8_goes_b57 S 255 (ii x1) k12 KK (ii (K - (m - m))) (zput w 255 20 (pFe (w 256) m e)) = _
  unfold f_X8_goes_b57
  have u6 : zput w 255 20 (pFe (w 256) m e) 256 = w 256 := zput_ne (by omega)
  rw [zt255_1 hL, ztl256 hL, if_pos z6, z66, u6, h6, if_pos (by rw [ii_le (by omega) (by omega)]; omega), ii_succ]
theorem e8_goes_loop (hL : zLay S) {R : List Nat} (hRn : ∀ c, c ∈ R → c < n) (hRd : R.Pairwise (· ≠ ·)) (hR5 : R.length ≤ 5) (hv0 : v0 < 999900) (hmany : w 255 16 = ii R.length) (hrow : zRow (w 262) R) (rest : List Nat) :
    ∀ (pre : List Nat) (st : Zst) (u : Zw), R = pre ++ rest → u 256 = st.1 → u 255 19 = ii st.2.1 → u 255 20 = st.2.2 → SI R n v0 st pre → zEG w u → ∀ N, rest.length < N →
      (pGo st rest = none ∧ ∃ w', zlp (fun kk a => f_X8_goes_b12 S 255 kk a.1 a.2) N (ii pre.length, u) = some (0, w') ∧ zEG w w') ∨ (∃ st' w', pGo st rest = some st' ∧ zlp (fun kk a => f_X8_goes_b12 S 255 kk a.1 a.2) N (ii pre.length, u) = some (1, w') ∧ w' 256 = st'.1 ∧ w' 255 19 = ii st'.2.1 ∧ w' 255 20 = st'.2.2 ∧ zEG w w' ∧ st'.2.1 ≤ 2 * R.length) := by
  induction rest with
  | nil =>
    intro pre st u hR hu h19 h20 hSI hE N hN
    obtain ⟨N, rfl⟩ : ∃ N', N = N' + 1 := ⟨N - 1, by omega⟩
    refine Or.inr ⟨st, u, rfl, ?_, hu, h19, h20, hE, ?_⟩
    · show f_X8_goes_b12 S 255 _ (ii pre.length) u = _
      unfold f_X8_goes_b12
      rw [hE.2.1 16 (by omega) (by omega) (by omega) (by omega), hmany, hR, List.append_nil, if_pos (by rw [ii_le (by rw [hR, List.append_nil] at hR5; omega) (by rw [hR, List.append_nil] at hR5; omega)]; omega)]
    · obtain ⟨k, v, -, -, a2, -⟩ := hSI
      rw [hR, List.append_nil]
      exact a2
  | cons c rest ih =>
    intro pre st u hR hu h19 h20 hSI hE N hN
    obtain ⟨N, rfl⟩ : ∃ N', N = N' + 1 := ⟨N - 1, by omega⟩
    have hN : rest.length < N := by simpa using hN
    have hlen : R.length = pre.length + (rest.length + 1) := by rw [hR, List.length_append, List.length_cons]
    have hcR : c ∈ R := by rw [hR]; exact List.mem_append_right _ List.mem_cons_self
    have hcp : ¬ c ∈ pre := by
      intro q
      rw [hR, List.pairwise_append] at hRd
      exact hRd.2.2 c q c List.mem_cons_self rfl
    obtain ⟨b, hb, g1, g2, g3⟩ := SI_stp hSI hRn hv0 (by omega) hcR hcp
    obtain ⟨k, v, hI, a1, a2, a3, a4, a5, a6⟩ := id hSI
    have hcn := hRn c hcR
    have hn := zI_n hI.1
    have hrc : u 262 pre.length = ii c := by
      rw [hE.1 262 (by omega) (by omega), hrow pre.length (by omega), hR]
      simp
    have hF : zlp (fun kk a => f_X8_goes_b12 S 255 kk a.1 a.2) (N + 1) (ii pre.length, u) = f_X8_goes_b12 S 255 (zlp (fun kk a => f_X8_goes_b12 S 255 kk a.1 a.2) N) (ii pre.length) u := rfl
    have h16 : ¬ u 255 16 ≤ ii pre.length := by
      rw [hE.2.1 16 (by omega) (by omega) (by omega) (by omega), hmany, ii_le (by omega) (by omega)]
      omega
    have hpg : pGo st (c :: rest) = (pStp st c).bind fun st' => pGo st' rest := rfl
    obtain ⟨KK, hKK⟩ : ∃ KK, KK = zlp (fun kk a => f_X8_goes_b12 S 255 kk a.1 a.2) N := ⟨_, rfl⟩
    rw [hF, hpg, ← hKK]
    unfold f_X8_goes_b12
    rw [if_neg h16, zt255_14 hL, ztl262 hL, if_pos (zin_t (by omega) (by omega)), zix_ii (by omega), hrc]
    rcases c8_takesOut (S := S) (w := u) (n := n) (k := k) (v := v) hL (by rw [hu]; exact hI) hb hcn (by rw [hu]; exact g1) (by omega) with ⟨f1, f2⟩ | ⟨s', m, w1, f1, f2, f3, f4⟩
    · refine Or.inl ⟨?_, u, ?_, hE⟩
      · have : pFc st.1 c = none := by
          unfold pFc
          rw [g2, ← hu]
          exact f1
        unfold pStp
        rw [this]
        rfl
      · rw [f2, zbs, if_neg (show ¬ (0 : Int32) ≤ -1 by decide)]
    · have hfc : pFc st.1 c = some (s', m) := by
        unfold pFc
        rw [g2, ← hu]
        exact f1
      have hst' := g3 s' m hfc
      have hm := pFetch_m f1
      have e1 : pStp st c = some (s', st.2.1 + m, pFe s' m st.2.2) := by
        unfold pStp
        rw [hfc]
        rfl
      rw [e1, zbs, f2, zbs, if_pos (ii_nn (by omega)), zlet_eq]
      have w119 : w1 255 19 = ii st.2.1 := by rw [f4.2 19 (by omega) (by omega), h19]
      have w120 : w1 255 20 = st.2.2 := by rw [f4.2 20 (by omega) (by omega), h20]
      have f1' : pFetch st.1 b c = some (s', m) := by rw [← hu]; exact f1
      obtain ⟨r1, r2⟩ := pFetch_I hI hb hcn g1 (by omega) f1'
      have z6 : zin (6 : Int32) 399 = true := by decide
      have z66 : zix (6 : Int32) = 6 := by decide
      dsimp only
      have k6 : zput w1 255 19 (w1 255 19 + ii m) 256 6 = ii (min (n + k + v + m) 20) := by
        rw [zput_ne (by omega), f3, zI_6 r1.1, r2]
      have u6 : zput w1 255 19 (w1 255 19 + ii m) 256 = s' := by rw [zput_ne (by omega), f3]
      have emin : ii (min (n + k + v + m) 20) - ii m = ii (min (n + k + v + m) 20 - m) := by
        have : ii (min (n + k + v + m) 20) = ii (min (n + k + v + m) 20 - m) + ii m := by rw [ii_add]; congr 1; omega
        rw [this]
        grind
      rw [zt255_1 hL, ztl256 hL, if_pos z6, z66, k6, emin, zlet_eq, e8_l57 hL k6 (by omega) (by omega) (by rw [zput_at, upd_ne (by omega), w120]), u6, w119, ii_add]
      have hE2 : zEG w (zput (zput w1 255 19 (ii (st.2.1 + m))) 255 20 (pFe s' m st.2.2)) := by
        refine hE.trans ⟨fun j p q => ?_, fun i p q r t => ?_, fun i p => ?_⟩
        · rw [zput_ne p, zput_ne p, f4.1 j p q]
        · rw [zput_at, upd_ne t, zput_at, upd_ne r, f4.2 i p q]
        · rw [zput_ne (by omega), zput_ne (by omega), f3, hu]
          exact pFetch_hi hI hb hcn g1 (by omega) f1' p
      have := ih (pre ++ [c]) (s', st.2.1 + m, pFe s' m st.2.2) (zput (zput w1 255 19 (ii (st.2.1 + m))) 255 20 (pFe s' m st.2.2)) (by rw [hR, List.append_assoc]; rfl) (by rw [zput_ne (by omega), zput_ne (by omega), f3]) (by rw [zput_at, upd_ne (by omega), zput_at, upd_at]) (by rw [zput_at, upd_at]) hst' hE2 N hN
      rw [List.length_append, List.length_singleton, ← hKK] at this
      exact this
theorem e8_goes (hL : zLay S) {R : List Nat} (hI : zI9 (w 256) n k v) (hv : v < 999900) (hRn : ∀ c, c ∈ R → c < n ∧ w 256 (139 + 4 * c + 2) ≠ -1) (hRd : R.Pairwise (· ≠ ·)) (hR5 : R.length ≤ 5) (hmany : w 255 16 = ii R.length) (hrow : zRow (w 262) R) :
    (pGo (w 256, 0, 0) R = none ∧ ∃ w', f_X8_goes S w 255 = some (0, w') ∧ zEG w w') ∨ (∃ st' w', pGo (w 256, 0, 0) R = some st' ∧ f_X8_goes S w 255 = some (1, w') ∧ w' 256 = st'.1 ∧ w' 255 19 = ii st'.2.1 ∧ w' 255 20 = st'.2.2 ∧ zEG w w' ∧ st'.2.1 ≤ 2 * R.length) := by
  unfold f_X8_goes f_X8_goes_l12
  rw [zlet_eq, zlet_eq]
  have hE : zEG w (zput (zput w 255 19 0) 255 20 0) := ⟨fun j p q => by rw [zput_ne p, zput_ne p], fun i p q r t => by rw [zput_at, upd_ne t, zput_at, upd_ne r], fun i p => by rw [zput_ne (by omega), zput_ne (by omega)]⟩
  refine e8_goes_loop (n := n) (v0 := v) hL (fun c hc => (hRn c hc).1) hRd hR5 hv hmany hrow R [] (w 256, 0, 0) _ rfl (by rw [zput_ne (by omega), zput_ne (by omega)]) (by rw [zput_at, upd_ne (by omega), zput_at, upd_at]; rfl) (by rw [zput_at, upd_at]) ⟨k, v, hI, Nat.le_add_right _ _, Nat.zero_le _, Nat.zero_le _, Nat.zero_le _, rfl, fun c hc => ?_⟩ hE zFU (by unfold zFU; omega)
  exact ⟨fun q => absurd q (hRn c hc).2, fun q => absurd q List.not_mem_nil⟩
end ZGS
