/-! BAYS: blocked cars and blocked bays are as many; both sides. -/
section ZBZ
variable {S : Zs} {w : Zw} {B B' n k v : Nat} {s : Nat → Int32}
theorem pK_ne {o b : Nat} (ho : o = 4 ∨ o = 5) (h : pK s o b = true) : s (79 + b) ≠ -1 := by
  rcases ho with rfl | rfl
  · have h : (decide (s (79 + b) ≠ -1) && decide (pBl s b ≠ -1)) = true := h
    simp only [Bool.and_eq_true, decide_eq_true_eq] at h
    exact h.1
  · have h : (decide (s (79 + b) ≠ -1) && (decide (pBl s b ≠ -1) && decide (pkc s (cOf s b) < pkc s (zix (pBl s b))))) = true := h
    simp only [Bool.and_eq_true, decide_eq_true_eq] at h
    exact h.1
theorem pK_pBk (hI : zI s n k v) {o b c : Nat} {o' : Int32} (ho : (o' = 0 ∧ o = 4) ∨ (o' = 1 ∧ o = 5)) (hb : b < 60) (hc : c < n) (h1 : s (79 + b) = ii c) (h2 : s (139 + 4 * c + 2) = ii b) : pBk s n o' c = pK s o b := by
  have hn := zI_n hI
  have hp : pBay s c = b := by
    unfold pBay
    rw [h2, zix_ii (by omega)]
  have hco : cOf s b = c := by
    unfold cOf
    rw [h1, zix_ii (by omega)]
  have hst : pStored s n (ii c) = true := (pStored_ii (by omega)).mpr ⟨hc, by rw [h2]; exact ii_ne (by omega)⟩
  have hne : decide (s (79 + b) ≠ -1) = true := decide_eq_true (by rw [h1]; exact ii_ne (by omega))
  unfold pBk
  rw [hst, hp, Bool.true_and]
  rcases ho with ⟨rfl, rfl⟩ | ⟨rfl, rfl⟩
  · show _ = (decide (s (79 + b) ≠ -1) && decide (pBl s b ≠ -1))
    rw [hne, Bool.true_and, show decide ((0 : Int32) = 0) = true from rfl, Bool.true_or, Bool.and_true]
  · show _ = (decide (s (79 + b) ≠ -1) && (decide (pBl s b ≠ -1) && decide (pkc s (cOf s b) < pkc s (zix (pBl s b)))))
    rw [hne, Bool.true_and, show decide ((1 : Int32) = 0) = false from rfl, Bool.false_or, hco]
    rfl
theorem blocked_eq (hI : zI s n k v) {o : Nat} {o' : Int32} (ho : (o' = 0 ∧ o = 4) ∨ (o' = 1 ∧ o = 5)) : cb (tb (pBkM s n o')) 64 = cb (pK s o) 60 := by
  have hn := zI_n hI
  have ho2 : o = 4 ∨ o = 5 := by omega
  have h1 : ((wls (pK s o) 60).map (cOf s)).Nodup := by
    refine List.pairwise_map.mpr (List.Pairwise.imp_of_mem (fun {a b} ha hb hlt => ?_) (wls_nd (pK s o) 60))
    obtain ⟨a1, a2⟩ := (wls_mem _ _ _).mp ha
    obtain ⟨b1, b2⟩ := (wls_mem _ _ _).mp hb
    obtain ⟨-, -, a3⟩ := zI_cOf hI a1 (pK_ne ho2 a2)
    obtain ⟨-, -, b3⟩ := zI_cOf hI b1 (pK_ne ho2 b2)
    intro e
    rw [e, b3] at a3
    have := (ii_iff (by omega) (by omega)).mp a3
    omega
  have h2 : (wls (tb (pBkM s n o')) 64).Nodup := List.Pairwise.imp (fun h => by omega) (wls_nd _ _)
  have hp : (wls (tb (pBkM s n o')) 64).Perm ((wls (pK s o) 60).map (cOf s)) := by
    refine (List.perm_ext_iff_of_nodup h2 h1).mpr (fun c => ?_)
    rw [wls_mem, List.mem_map]
    constructor
    · rintro ⟨c64, hc⟩
      rw [pBkM_tb o' hn c64] at hc
      simp only [Bool.and_eq_true, decide_eq_true_eq] at hc
      obtain ⟨hcn, hbk⟩ := hc
      have hst : pStored s n (ii c) = true := by
        unfold pBk at hbk
        simp only [Bool.and_eq_true] at hbk
        exact hbk.1
      obtain ⟨c', b, hc', e, hb, g1, g2⟩ := pStored_of hI hst
      have e : c = c' := (ii_iff (by omega) (by omega)).mp e
      subst e
      refine ⟨b, (wls_mem _ _ _).mpr ⟨hb, ?_⟩, ?_⟩
      · rw [← pK_pBk hI ho hb hcn g2 g1]
        exact hbk
      · unfold cOf
        rw [g2, zix_ii (by omega)]
    · rintro ⟨b, hb, rfl⟩
      obtain ⟨b1, b2⟩ := (wls_mem _ _ _).mp hb
      obtain ⟨q1, q2, q3⟩ := zI_cOf hI b1 (pK_ne ho2 b2)
      refine ⟨by omega, ?_⟩
      rw [pBkM_tb o' hn (by omega), pK_pBk hI ho b1 q1 q2 q3, b2, decide_eq_true q1]
      rfl
  have := hp.length_eq
  rw [List.length_map, wls_len, wls_len] at this
  exact this
theorem P_bays (hL : zLay S) (h : INV B w) (a : Int32) : Pair B (f_X7_bays S w 1 a) (fun w1 => f_X8_bays S w1 255 a) [("java/lang/IllegalArgumentException", 1)] := by
  obtain ⟨n, k, v, hI, hv, hS⟩ := IG_get h
  have hn := zI_n hI.1
  have hG := zG2 hL
  have hR := hS
  by_cases ha : 0 ≤ a ∧ a ≤ 5
  · obtain ⟨o, ho, rfl⟩ := ii_rng (m := 5) (by omega) ha
    have ho6 : o < 6 := by omega
    have hb := e8_b24 (S := S) (w := zput w 255 0 0) (n := n) (k := k) (v := v) (o := o) hL (by rw [zput_ne (by omega)]; exact hI.1) ho6
    rw [zput_ne (a := 255) (j := 256) (by omega)] at hb
    refine Pair_ok h (ii (cb (pK (w 256) o) 60)) ?_ ?_
    · unfold f_X7_bays
      rcases (show o = 0 ∨ o = 1 ∨ o = 2 ∨ o = 3 ∨ o = 4 ∨ o = 5 by omega) with rfl | rfl | rfl | rfl | rfl | rfl
      · rw [if_pos (by decide), zt1_0 hL]
        unfold f_X1_countStored
        have : w 2 9 = ii (cb (pK (w 256) 0) 60) := by
          have h9 : w 2 9 = w 256 1 - w 256 2 := hR.2.2.2.1.2.1
          have hk := hI.2.2
          rw [pCnt_cb] at hk
          rw [h9, hI.1.1, hI.1.2.1, ← hk, ← ii_add]
          grind
        rw [this]
      · rw [if_neg (by decide), if_pos (by decide), zt1_0 hL, c7_open0 hG hR hI.1 (Or.inl ⟨rfl, rfl⟩), zbs]
      · rw [if_neg (by decide), if_neg (by decide), if_pos (by decide), zt1_0 hL, c7_open0 hG hR hI.1 (Or.inr ⟨rfl, rfl⟩), zbs]
      · rw [if_neg (by decide), if_neg (by decide), if_neg (by decide), if_pos (by decide), zt1_0 hL, c7_closed hG hR, zbs]
      · rw [if_neg (by decide), if_neg (by decide), if_neg (by decide), if_neg (by decide), if_pos (by decide), zt1_0 hL, c7_blocked hG hR hI.1, zbs, bitCount_cb, blocked_eq hI.1 (Or.inl ⟨rfl, rfl⟩)]
      · rw [if_neg (by decide), if_neg (by decide), if_neg (by decide), if_neg (by decide), if_neg (by decide), if_pos (by decide), zt1_0 hL, c7_blocked hG hR hI.1, zbs, bitCount_cb, blocked_eq hI.1 (Or.inr ⟨rfl, rfl⟩)]
    · unfold f_X8_bays
      rw [zlet_eq, c8_inn, zbs, if_pos ha, if_neg (by decide), show f_X8_bays_l24 S (zput w 255 0 0) 255 (ii o) (0, 0) = _ from hb]
  · refine Pair_ex h "java/lang/IllegalArgumentException" 1 0 ?_ ?_ (by simp)
    · unfold f_X7_bays
      rw [if_neg (fun q => ha (by rw [q]; decide)), if_neg (fun q => ha (by rw [q]; decide)), if_neg (fun q => ha (by rw [q]; decide)), if_neg (fun q => ha (by rw [q]; decide)), if_neg (fun q => ha (by rw [q]; decide)), if_neg (fun q => ha (by rw [q]; decide))]
    · unfold f_X8_bays
      rw [zlet_eq, c8_inn, zbs, if_neg ha, if_pos rfl, e8_fails, zbs, zput_zput]
end ZBZ
