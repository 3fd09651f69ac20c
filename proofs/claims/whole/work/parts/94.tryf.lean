/-! THE CLASS's search, step by step. -/
section ZTF
variable {S : Zs} {w : Zw} {n : Nat}
/-- cells that a search from this depth leaves alone -/
def zFR (d : Nat) (w w' : Zw) : Prop := (∀ j, j < 148 ∨ 249 ≤ j ∨ j = 150 ∨ (153 ≤ j ∧ j < 153 + 16 * (d + 1)) → w' j = w j) ∧ w' 148 4 = w 148 4 ∧ w' 148 5 = w 148 5
theorem zFR.rfl {d : Nat} {w : Zw} : zFR d w w := ⟨fun _ _ => Eq.refl _, Eq.refl _, Eq.refl _⟩
theorem zFR.trans {d : Nat} {a b c : Zw} (h : zFR d a b) (h' : zFR d b c) : zFR d a c := ⟨fun j p => (h'.1 j p).trans (h.1 j p), h'.2.1.trans h.2.1, h'.2.2.trans h.2.2⟩
theorem zFR.up {d : Nat} {a b : Zw} (h : zFR (d + 1) a b) : zFR d a b := ⟨fun j p => h.1 j (by omega), h.2⟩
/-- the state at a depth -/
def SD (n v0 T0 : Nat) (s : Nat → Int32) (M d : Nat) : Prop := ∃ k v, zI9 s n k v ∧ v ≤ v0 + 2 * d ∧ n + k + v = T0 + M ∧ M ≤ 2 * d
theorem SD_stp {v0 T0 : Nat} {s s' : Nat → Int32} {M d m c b : Nat} (h : SD n v0 T0 s M d) (hv0 : v0 < 999900) (hd : d < 5) (hb : b < 60) (hc : c < n) (hbay : s (139 + 4 * c + 2) = ii b) (hf : pFetch s b c = some (s', m)) : SD n v0 T0 s' (M + m) (d + 1) ∧ (∀ c', c' < 40 → c' ≠ c → (s' (139 + 4 * c' + 2) = -1 ↔ s (139 + 4 * c' + 2) = -1)) ∧ s' (139 + 4 * c + 2) = -1 := by
  obtain ⟨k, v, hI, a1, a2, a3⟩ := h
  have hm := pFetch_m hf
  obtain ⟨r1, r2⟩ := pFetch_I hI hb hc hbay (by omega) hf
  obtain ⟨q1, q2, q3⟩ := pFc_st hI hb hc hbay (by omega) hf
  exact ⟨⟨k + 1, v + m - 1, r1, by omega, by omega, by omega⟩, q2, q1⟩
theorem c7_movesAt (hL : zLay S) {d T0 M : Nat} (hd : d < 6) (hT : w (153 + 16 * d + 11) 1 = ii (T0 + M)) (h5 : w 148 5 = ii T0) : f_X5_movesAt S w 148 (ii d) = some (ii M) := by
  have hG : zGar S (153 + 16 * d) := zGar_of hL (zGb_s hd)
  unfold f_X5_movesAt f_X3_total f_X1_log
  have e : ii (T0 + M) - ii T0 = ii M := by rw [← ii_add]; grind
  rw [zt148_0 hL, ztl149 hL, if_pos (zin_t hd (by omega)), zix_ii (by omega), zr149 hL hd, zg0_7 hG, zg8_2 hG, hT, h5, e]
theorem c7_tryF (hL : zLay S) {L : List Nat} {v0 T0 : Nat} (hv0 : v0 < 999900) (hLn : ∀ c, c ∈ L → c < n) (h5 : L.length ≤ 5) (f : Nat) :
    ∀ (pre : List Nat) (s : Nat → Int32) (M : Nat) (acc : Zac) (w : Zw), pre.length + f = L.length → SD n v0 T0 s M pre.length → RG w (153 + 16 * pre.length) s (T0 + M) → zPa w → w 148 4 = ii L.length → w 148 5 = ii T0 → zRow (w 150) L → zRow (w 151) pre → AccC w L.length acc → ∀ N, f < N →
      ∃ w', zlp (fun self a => f_X5_tryFrom_F S self a.2 148 a.1) N (ii pre.length, w) = some ((), w') ∧ AccC w' L.length (pC L f s M pre acc) ∧ zFR pre.length w w' ∧ zPa w' ∧ zRow (w' 151) pre := by
  induction f with
  | zero =>
    intro pre s M acc w hlen hSD hR hP h4 h5' hcars hrow ha N hN
    obtain ⟨N, rfl⟩ : ∃ N', N = N' + 1 := ⟨N - 1, by omega⟩
    have hF : zlp (fun self a => f_X5_tryFrom_F S self a.2 148 a.1) (N + 1) (ii pre.length, w) = f_X5_tryFrom_F S (zlp (fun self a => f_X5_tryFrom_F S self a.2 148 a.1) N) w 148 (ii pre.length) := rfl
    obtain ⟨k, v, hI, a1, a2, a3⟩ := hSD
    have hn := zI_n hI.1
    have hd6 : pre.length < 6 := by omega
    have hG : zGar S (153 + 16 * pre.length) := zGar_of hL (zGb_s hd6)
    have hpl : pre.length = L.length := by omega
    rw [← a2] at hR
    have hT : w (153 + 16 * pre.length + 11) 1 = ii (T0 + M) := by rw [RG_T hR hI.1, a2]
    obtain ⟨w', j1, j2, j3, j4, j5⟩ := c7_judge (S := S) (w := w) hL hG hR hI.1 (M := M) (by omega) (by omega) (pre := pre) (by omega) (by rw [h4, hpl]) hrow (acc := acc) (by rw [hpl]; exact ha)
    rw [hF]
    unfold f_X5_tryFrom_F f_X1_log
    rw [h4, if_neg (by rw [ii_lt (by omega) (by omega)]; omega), c7_movesAt hL hd6 hT h5', zbs, zt148_0 hL, ztl149 hL, if_pos (zin_t hd6 (by omega)), zix_ii (by omega), zr149 hL hd6, zg0_7 hG, zg8_2 hG, j1, zbs]
    rw [hpl] at j2
    refine ⟨w', rfl, j2, ⟨fun j hj => j3 j (by omega) (by omega), j4, j5⟩, zPa_o hP (fun j hj => j3 j (by omega) (by omega)), ?_⟩
    rw [j3 151 (by omega) (by omega)]
    exact hrow
  | succ f ihf =>
    intro pre s M acc w hlen hSD hR hP h4 h5' hcars hrow ha N hN
    obtain ⟨N, rfl⟩ : ∃ N', N = N' + 1 := ⟨N - 1, by omega⟩
    have hF : zlp (fun self a => f_X5_tryFrom_F S self a.2 148 a.1) (N + 1) (ii pre.length, w) = f_X5_tryFrom_F S (zlp (fun self a => f_X5_tryFrom_F S self a.2 148 a.1) N) w 148 (ii pre.length) := rfl
    obtain ⟨self, hself⟩ : ∃ self, self = zlp (fun self a => f_X5_tryFrom_F S self a.2 148 a.1) N := ⟨_, rfl⟩
    rw [hF, ← hself]
    obtain ⟨k, v, hI, a1, a2, a3⟩ := id hSD
    have hn := zI_n hI.1
    have hd6 : pre.length < 6 := by omega
    have hd7 : pre.length + 1 < 6 := by omega
    have hG : zGar S (153 + 16 * pre.length) := zGar_of hL (zGb_s hd6)
    have hG2 : zGar S (153 + 16 * (pre.length + 1)) := zGar_of hL (zGb_s hd7)
    have inner : ∀ (rest done : List Nat) (acc : Zac) (u : Zw), L = done ++ rest → zFR pre.length w u → zPa u → AccC u L.length acc → zRow (u 151) pre → ∀ X, rest.length < X →
        ∃ u', zlp (fun kk a => f_X5_tryFrom_b29 S self 148 (ii pre.length) kk a.1 a.2) X (ii done.length, u) = some ((), u') ∧ AccC u' L.length (rest.foldl (fun acc c => if s (139 + 4 * c + 2) = -1 then acc else match pFc s c with
          | none => acc
          | some r => if acc.1 ≠ 0 ∧ acc.1 < M + r.2 + f then acc else pC L f r.1 (M + r.2) (pre ++ [c]) acc) acc) ∧ zFR pre.length w u' ∧ zPa u' ∧ zRow (u' 151) pre := by
      intro rest
      induction rest with
      | nil =>
        intro done acc u hd hE hPu ha hr X hX
        obtain ⟨X, rfl⟩ : ∃ X', X = X' + 1 := ⟨X - 1, by omega⟩
        refine ⟨u, ?_, ha, hE, hPu, hr⟩
        show f_X5_tryFrom_b29 S self 148 (ii pre.length) _ (ii done.length) u = _
        unfold f_X5_tryFrom_b29
        rw [List.append_nil] at hd
        rw [hE.2.1, h4, hd, if_pos (by rw [ii_le (by rw [← hd]; omega) (by rw [← hd]; omega)]; omega)]
      | cons c rest ih =>
        intro done acc u hd hE hPu ha hr X hX
        obtain ⟨X, rfl⟩ : ∃ X', X = X' + 1 := ⟨X - 1, by omega⟩
        have hX : rest.length < X := by simpa using hX
        have hdl : L.length = done.length + (rest.length + 1) := by rw [hd, List.length_append, List.length_cons]
        have hcL : c ∈ L := by rw [hd]; exact List.mem_append_right _ List.mem_cons_self
        have hcn := hLn c hcL
        have u4 : u 148 4 = ii L.length := by rw [hE.2.1, h4]
        have u5 : u 148 5 = ii T0 := by rw [hE.2.2, h5']
        have uc : u 150 done.length = ii c := by
          rw [hE.1 150 (by omega), hcars done.length (by omega), hd, getD_mid]
        have uR : RG u (153 + 16 * pre.length) s (n + k + v) := by
          rw [a2]
          exact RG_w (fun j p q => hE.1 j (by omega)) hR
        have hGo : zlp (fun kk a => f_X5_tryFrom_b29 S self 148 (ii pre.length) kk a.1 a.2) (X + 1) (ii done.length, u) = f_X5_tryFrom_b29 S self 148 (ii pre.length) (zlp (fun kk a => f_X5_tryFrom_b29 S self 148 (ii pre.length) kk a.1 a.2) X) (ii done.length) u := rfl
        obtain ⟨KK, hKK⟩ : ∃ KK, KK = zlp (fun kk a => f_X5_tryFrom_b29 S self 148 (ii pre.length) kk a.1 a.2) X := ⟨_, rfl⟩
        rw [hGo, ← hKK, List.foldl_cons]
        have next : ∀ (acc' : Zac) (u' : Zw), zFR pre.length w u' → zPa u' → AccC u' L.length acc' → zRow (u' 151) pre → ∃ u'', KK (ii (done.length + 1), u') = some ((), u'') ∧ AccC u'' L.length (rest.foldl (fun acc c => if s (139 + 4 * c + 2) = -1 then acc else match pFc s c with
          | none => acc
          | some r => if acc.1 ≠ 0 ∧ acc.1 < M + r.2 + f then acc else pC L f r.1 (M + r.2) (pre ++ [c]) acc) acc') ∧ zFR pre.length w u'' ∧ zPa u'' ∧ zRow (u'' 151) pre := by
          intro acc' u' e1 e2 e3 e4
          have := ih (done ++ [c]) acc' u' (by rw [hd, List.append_assoc]; rfl) e1 e2 e3 e4 X hX
          rw [List.length_append, List.length_singleton, ← hKK] at this
          exact this
        unfold f_X5_tryFrom_b29
        rw [u4, if_neg (by rw [ii_le (by omega) (by omega)]; omega), zt148_0 hL, ztl149 hL, if_pos (zin_t hd6 (by omega)), zix_ii (by omega), zr149 hL hd6, zt148_1 hL, ztl150 hL, if_pos (zin_t (show done.length < 5 by omega) (by omega)), zix_ii (by omega), uc, c7_isStored hG uR hI.1, zbs, ii_succ]
        by_cases hst : s (139 + 4 * c + 2) = -1
        · rw [if_neg (fun q => ((pStored_ii (by omega)).mp q).2 hst), if_pos (show (0 : Int32) = 0 from rfl), if_pos hst]
          exact next acc u hE hPu ha hr
        · rw [if_pos ((pStored_ii (by omega)).mpr ⟨hcn, hst⟩), if_neg (show ¬ (1 : Int32) = 0 by decide), if_neg hst, if_pos (zin_t (show done.length < 5 by omega) (by omega))]
          obtain ⟨b, hb, hbay⟩ : ∃ b, b < 60 ∧ s (139 + 4 * c + 2) = ii b := by
            rcases zI_carBay hI.1 hcn with g | ⟨b, hb, g, -⟩
            · exact absurd g hst
            · exact ⟨b, hb, g⟩
          have hpb : pBay s c = b := by
            unfold pBay
            rw [hbay, zix_ii (by omega)]
          obtain ⟨w1, t1, t2, t3⟩ := c7_copy (S := S) (w := u) hG2 hG (Or.inr (by omega)) (hPu _ (zGb_s hd7)) uR (hI.1.2.2.2.2.2.2.2.2.1)
          have hE1 : zFR pre.length w w1 := hE.trans ⟨fun j hj => t3 j (by omega), by rw [t3 148 (by omega)], by rw [t3 148 (by omega)]⟩
          have hP1 : zPa w1 := zPa_g hPu (zGb_s hd7) (gpace t2) t3
          have unfoldN : f_X5_tryNext_F S self u 148 (ii pre.length) (ii c) = (f_X1_fetch S w1 (153 + 16 * (pre.length + 1)) (ii c)).bind fun r6 => if r6.1 = 0 then some ((), r6.2) else (f_X5_isTooLong S r6.2 148 (ii (pre.length + 1))).bind fun v9 => if v9 = 0 then (if zin (ii pre.length) 5 = true then zlet (zput r6.2 151 pre.length (ii c)) fun w13 => (self (ii (pre.length + 1), w13)).bind fun r14 => some ((), r14.2) else none) else some ((), r6.2) := by
            unfold f_X5_tryNext_F
            rw [ii_succ, zt148_0 hL, ztl149 hL, if_pos (zin_t hd7 (by omega)), if_pos (zin_t hd6 (by omega)), zix_ii (by omega), zix_ii (by omega), zr149 hL hd6, zr149 hL hd7, t1, zbs, if_pos (zin_t hd7 (by omega)), zt148_2 hL, ztl151 hL]
          rw [unfoldN]
          rcases c7_fetch (S := S) (w := w1) hG2 t2 hI hb hcn hbay (by omega) with ⟨f1, f2⟩ | ⟨s', m, w2, f1, f2, f3, f4⟩
          · have hfc : pFc s c = none := by
              unfold pFc
              rw [hpb]
              exact f1
            rw [f2, zbs, if_pos (show (0 : Int32) = 0 from rfl), zbs, hfc]
            exact next acc w1 hE1 hP1 (by
              obtain ⟨q1, q2, q3⟩ := ha
              exact ⟨by rw [t3 148 (by omega)]; exact q1, q2, fun q => by rw [t3 148 (by omega), t3 152 (by omega)]; exact q3 q⟩) (by rw [t3 151 (by omega)]; exact hr)
          · have hfc : pFc s c = some (s', m) := by
              unfold pFc
              rw [hpb]
              exact f1
            have hm := pFetch_m f1
            have hm0 : ¬ ii m = 0 := by
              rw [show (0 : Int32) = ii 0 from rfl, ii_iff (by omega) (by omega)]
              omega
            obtain ⟨hSD2, -, -⟩ := SD_stp hSD hv0 (by omega) hb hcn hbay f1
            have f3' : RG w2 (153 + 16 * (pre.length + 1)) s' (T0 + (M + m)) := by
              rw [show T0 + (M + m) = n + k + v + m by omega]
              exact f3
            have hT2 : w2 (153 + 16 * (pre.length + 1) + 11) 1 = ii (T0 + (M + m)) := by
              obtain ⟨k2, v2, hI2, b1, b2, b3⟩ := hSD2
              have := f3'
              rw [← b2] at this
              rw [RG_T this hI2.1, b2]
            have hE2 : zFR pre.length w w2 := hE1.trans ⟨fun j hj => f4 j (by omega), by rw [f4 148 (by omega)], by rw [f4 148 (by omega)]⟩
            have hP2 : zPa w2 := zPa_g hP1 (zGb_s hd7) (gpace f3) f4
            have ha2 : AccC w2 L.length acc := by
              obtain ⟨q1, q2, q3⟩ := ha
              exact ⟨by rw [f4 148 (by omega), t3 148 (by omega)]; exact q1, q2, fun q => by rw [f4 148 (by omega), f4 152 (by omega), t3 148 (by omega), t3 152 (by omega)]; exact q3 q⟩
            have hr2 : zRow (w2 151) pre := by rw [f4 151 (by omega), t3 151 (by omega)]; exact hr
            have w25 : w2 148 5 = ii T0 := by rw [hE2.2.2, h5']
            have w24 : w2 148 4 = ii L.length := by rw [hE2.2.1, h4]
            have htl : f_X5_isTooLong S w2 148 (ii (pre.length + 1)) = some (if acc.1 ≠ 0 ∧ acc.1 < M + m + f then 1 else 0) := by
              unfold f_X5_isTooLong
              rw [ha2.1]
              have hacc := ha2.2.1
              by_cases h0 : acc.1 = 0
              · rw [if_pos (by rw [h0]; decide), if_neg (fun q => q.1 h0)]
              · have e9 : ii (M + m) + ii L.length - ii (pre.length + 1) = ii (M + m + f) := by
                  have : ii (M + m) + ii L.length = ii (M + m + f) + ii (pre.length + 1) := by
                    rw [ii_add, ii_add]
                    congr 1
                    omega
                  rw [this]
                  grind
                have hM10 : M + m ≤ 12 := by omega
                rw [if_neg (by rw [show (0 : Int32) = ii 0 from rfl, ii_iff (by omega) (by omega)]; exact h0), c7_movesAt hL hd7 hT2 w25, zbs, w24, e9]
                by_cases h1 : acc.1 < M + m + f
                · rw [if_neg (by rw [ii_le (by omega) (by omega)]; omega), if_pos ⟨h0, h1⟩]
                · rw [if_pos (by rw [ii_le (by omega) (by omega)]; omega), if_neg (fun q => h1 q.2)]
            rw [f2, zbs, if_neg hm0, htl, zbs, hfc]
            show ∃ u', _ ∧ AccC u' L.length (rest.foldl _ (if acc.1 ≠ 0 ∧ acc.1 < M + m + f then acc else pC L f s' (M + m) (pre ++ [c]) acc)) ∧ _
            by_cases hp : acc.1 ≠ 0 ∧ acc.1 < M + m + f
            · rw [if_pos hp, if_pos hp, if_neg (show ¬ (1 : Int32) = 0 by decide), zbs]
              exact next acc w2 hE2 hP2 ha2 hr2
            · rw [if_neg hp, if_neg hp, if_pos (show (0 : Int32) = 0 from rfl), if_pos (zin_t (show pre.length < 5 by omega) (by omega)), zlet_eq]
              have hlen1 : (pre ++ [c]).length = pre.length + 1 := by rw [List.length_append, List.length_singleton]
              obtain ⟨w3, g1, g2, g3, g4, g5⟩ := ihf (pre ++ [c]) s' (M + m) acc (zput w2 151 pre.length (ii c)) (by omega) (by rw [hlen1]; exact hSD2) (by rw [hlen1]; exact RG_w (fun j p q => zput_ne (by omega)) f3') (zPa_o hP2 (fun j hj => zput_ne (by omega))) (by rw [zput_ne (by omega), w24]) (by rw [zput_ne (by omega), w25]) (by rw [zput_ne (by omega), hE2.1 150 (by omega)]; exact hcars) (by rw [zput_at]; exact zRow_snoc hr2) (by
                obtain ⟨q1, q2, q3⟩ := ha2
                exact ⟨by rw [zput_ne (by omega)]; exact q1, q2, fun q => by rw [zput_ne (by omega), zput_ne (by omega)]; exact q3 q⟩) N (by omega)
              rw [hlen1, ← hself] at g1
              rw [hlen1] at g3
              rw [g1, zbs, zbs]
              exact next _ w3 (hE2.trans (zFR.trans (b := zput w2 151 pre.length (ii c)) ⟨fun j hj => zput_ne (by omega), by rw [zput_ne (by omega)], by rw [zput_ne (by omega)]⟩ g3.up)) g4 g2 (zRow_pre g5)
    unfold f_X5_tryFrom_F f_X5_tryFrom_l29
    rw [h4, if_pos (by rw [ii_lt (by omega) (by omega)]; omega)]
    exact inner L [] acc w rfl zFR.rfl hP ha hrow zFU (by unfold zFU; omega)
end ZTF
