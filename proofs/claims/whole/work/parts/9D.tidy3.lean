/-! TIDYING, both sides. -/
section ZT3
variable {S : Zs} {w : Zw} {B B' n k v : Nat} {s : Nat → Int32}
theorem tidy_sortC (p : Nat → Bool) (m : Nat) : ((wls p m).foldl (pIns fun c => s (139 + 4 * c + 1)) []).Pairwise (fun a b => cLt s a b = true) := by
  induction m with
  | zero => exact List.Pairwise.nil
  | succ m ih =>
    unfold wls
    by_cases h : p m = true
    · rw [if_pos h, List.foldl_append]
      show (pIns (fun c => s (139 + 4 * c + 1)) ((wls p m).foldl (pIns fun c => s (139 + 4 * c + 1)) []) m).Pairwise _
      rw [pIns_B]
      have hlt : ∀ x, x ∈ (wls p m).foldl (pIns fun c => s (139 + 4 * c + 1)) [] → x < m := by
        intro x hx
        rcases ((pIns_fold _ _ _).1 x).mp hx with q | q
        · exact absurd q List.not_mem_nil
        · exact ((wls_mem _ _ _).mp q).1
      refine pInsB_sorted (fun a b c => cLt_tr s a b c) ih (fun x hx h1 => ?_) (fun x hx h1 => ?_)
      · unfold cLt pkc
        simp only [decide_eq_true_eq] at h1
        simp [h1]
      · have := hlt x hx
        simp only [decide_eq_false_iff_not] at h1
        unfold cLt pkc
        simp only [Bool.or_eq_true, Bool.and_eq_true, decide_eq_true_eq]
        by_cases e : s (139 + 4 * x + 1) < s (139 + 4 * m + 1)
        · exact Or.inl e
        · exact Or.inr ⟨by grind, this⟩
    · rw [if_neg h]
      exact ih
theorem tidy_sortB (hI : zI s n k v) (m : Nat) (hm : m ≤ 30) : (pLb s m).Pairwise (fun a b => cLt s (cOf s a) (cOf s b) = true) := by
  induction m with
  | zero => exact List.Pairwise.nil
  | succ m ih =>
    have ih := ih (by omega)
    unfold pLb
    by_cases h : pWr s (2 * m + 1) = true
    · rw [if_pos h]
      refine pInsB_sorted (lt := fun a b => cLt s (cOf s a) (cOf s b) = true) (fun a b c => cLt_tr s _ _ _) ih (fun x hx h1 => h1) (fun x hx h1 => ?_)
      obtain ⟨i, hi, hx1, hx2⟩ := (pLb_mem s m x).mp hx
      have hne : cOf s (2 * m + 1) ≠ cOf s x := by
        intro e
        have nb : s (79 + (2 * m + 1)) ≠ -1 := by
          unfold pWr at h
          simp only [Bool.and_eq_true, decide_eq_true_eq] at h
          exact h.1
        have nx : s (79 + x) ≠ -1 := by
          unfold pWr at hx2
          simp only [Bool.and_eq_true, decide_eq_true_eq] at hx2
          exact hx2.1
        obtain ⟨-, -, q3⟩ := zI_cOf hI (by omega) nb
        obtain ⟨-, -, p3⟩ := zI_cOf hI (b := x) (by omega) nx
        rw [e, p3] at q3
        have := (ii_iff (by omega) (by omega)).mp q3
        omega
      refine cLt_tot s _ _ hne (fun q => ?_)
      have h1 : cLt s (cOf s (2 * m + 1)) (cOf s x) = false := h1
      rw [h1] at q
      cases q
    · rw [if_neg h]
      exact ih
theorem tidy_eq (hI : zI s n k v) : (wls (tb (pBkM s n 1)) n).foldl (pIns fun c => s (139 + 4 * c + 1)) [] = (pLb s 30).map (cOf s) := by
  have hn := zI_n hI
  refine sorted_eq (lt := fun a b => cLt s a b = true) (cLt_ir s) (cLt_tr s) _ _ (tidy_sortC _ _) (List.pairwise_map.mpr (tidy_sortB hI 30 (Nat.le_refl _))) (fun c => ?_)
  rw [(pIns_fold _ _ _).1, List.mem_map]
  constructor
  · rintro (h | h)
    · exact absurd h List.not_mem_nil
    · obtain ⟨h1, h2⟩ := (wls_mem _ _ _).mp h
      rw [pBkM_tb 1 hn (by omega)] at h2
      simp only [Bool.and_eq_true, decide_eq_true_eq] at h2
      have hb := h2.2
      unfold pBk at hb
      simp only [Bool.and_eq_true, decide_eq_true_eq, Bool.or_eq_true] at hb
      obtain ⟨b1, b2, b3⟩ := hb
      obtain ⟨c', b, hc', e, hb60, hbay, hin⟩ := pStored_of hI b1
      have e : c = c' := (ii_iff (by omega) (by omega)).mp e
      subst e
      have hpb : pBay s c = b := by
        unfold pBay
        rw [hbay, zix_ii (by omega)]
      rw [hpb] at b2 b3
      have hodd : b % 2 = 1 := by
        by_cases ho : b % 2 = 1
        · exact ho
        · unfold pBl at b2
          rw [if_neg ho] at b2
          exact absurd rfl b2
      have hbl : pBl s b = s (79 + (b - 1)) := if_pos hodd
      have hco : cOf s b = c := by
        unfold cOf
        rw [hin, zix_ii (by omega)]
      refine ⟨b, (pLb_mem s 30 b).mpr ⟨b / 2, by omega, by omega, ?_⟩, hco⟩
      unfold pWr
      simp only [Bool.and_eq_true, decide_eq_true_eq]
      refine ⟨by rw [hin]; exact ii_ne (by omega), by rw [← hbl]; exact b2, ?_⟩
      rw [hco]
      unfold pkc cOf
      rw [← hbl]
      rcases b3 with b3 | b3
      · exact absurd b3 (by decide)
      · exact b3
  · rintro ⟨b, hb, rfl⟩
    obtain ⟨i, hi, hx1, hx2⟩ := (pLb_mem s 30 b).mp hb
    unfold pWr at hx2
    simp only [Bool.and_eq_true, decide_eq_true_eq] at hx2
    obtain ⟨w1, w2, w3⟩ := hx2
    obtain ⟨q1, q2, q3⟩ := zI_cOf hI (b := b) (by omega) w1
    have hpb : pBay s (cOf s b) = b := by
      unfold pBay
      rw [q3, zix_ii (by omega)]
    have hbl : pBl s b = s (79 + (b - 1)) := if_pos (by omega)
    refine Or.inr ((wls_mem _ _ _).mpr ⟨q1, ?_⟩)
    rw [pBkM_tb 1 hn (by omega)]
    simp only [Bool.and_eq_true, decide_eq_true_eq]
    refine ⟨q1, ?_⟩
    unfold pBk
    simp only [Bool.and_eq_true, decide_eq_true_eq, Bool.or_eq_true]
    rw [hpb, hbl]
    exact ⟨(pStored_ii (by omega)).mpr ⟨q1, by rw [q3]; exact ii_ne (by omega)⟩, w2, Or.inr w3⟩
/-- one step of tidying -/
def pTdS (s : Nat → Int32) (b : Nat) : Option (Nat → Int32) :=
  if pWr s b = true then (if pFl s (cOf s (b - 1)) = -1 then none else if pBad s (zix (pFl s (cOf s (b - 1)))) (pkc s (cOf s (b - 1))) = true then none else some (pMv s (b - 1) (zix (pFl s (cOf s (b - 1)))) (cOf s (b - 1)))) else none
def pTd : List Nat → (Nat → Int32) × Nat → (Nat → Int32) × Nat
  | [], st => st
  | b :: l, st => pTd l (match pTdS st.1 b with
    | none => st
    | some s' => (s', st.2 + 1))
theorem pTdS_ok (hI : zI9 s n k v) {b : Nat} (hb : b < 60) (ho : b % 2 = 1) (hv : v < 999990) {s' : Nat → Int32} (h : pTdS s b = some s') :
    ∃ x d, x < n ∧ d < 60 ∧ s (79 + (b - 1)) = ii x ∧ s (139 + 4 * x + 2) = ii (b - 1) ∧ pFl s x = ii d ∧ s (79 + d) = -1 ∧ cOf s (b - 1) = x ∧ s' = pMv s (b - 1) d x ∧ zI9 s' n k (v + 1) ∧ (∀ b', b' < 60 → b' % 2 = 1 → s (79 + b') ≠ -1 → s' (79 + b') = s (79 + b')) := by
  have hn := zI_n hI.1
  unfold pTdS at h
  by_cases hw : pWr s b = true
  · rw [if_pos hw] at h
    have hw' := hw
    unfold pWr at hw'
    simp only [Bool.and_eq_true, decide_eq_true_eq] at hw'
    obtain ⟨w1, w2, w3⟩ := hw'
    obtain ⟨p1, p2, p3⟩ := zI_cOf hI.1 (b := b - 1) (by omega) w2
    rcases pCh_ok (s := s) (size := s (139 + 4 * cOf s (b - 1))) (pk := s (139 + 4 * cOf s (b - 1) + 1)) (fr := s (139 + 4 * cOf s (b - 1) + 2)) with g | ⟨d, hd, g1, g2⟩
    · have g : pFl s (cOf s (b - 1)) = -1 := g
      rw [if_pos g] at h
      cases h
    · have g1 : pFl s (cOf s (b - 1)) = ii d := g1
      have hzd : zix (ii d) = d := zix_ii (by omega)
      rw [g1, if_neg (ii_ne (by omega)), hzd] at h
      by_cases hbad : pBad s d (pkc s (cOf s (b - 1))) = true
      · rw [if_pos hbad] at h
        cases h
      · rw [if_neg hbad] at h
        have e := (Option.some.inj h).symm
        have hemp := pCand_emp g2
        refine ⟨cOf s (b - 1), d, p1, hd, p2, p3, g1, hemp, rfl, e, ?_, fun b' hb' ho' hne => ?_⟩
        · rw [e]
          exact pMv_I hI (b := b - 1) (by omega) hd p1 p3 hemp (by omega)
        · rw [e, pMv_in (by omega) hd hb', if_neg (fun q : d = b' => hne (by rw [← q]; exact hemp)), if_neg (by omega)]
  · rw [if_neg hw] at h
    cases h
/-- a row of the garage that moves leave alone -/
theorem c7_moveCar7 {g c b d : Nat} (hG : zGar S g) (hR : RG w g s (n + k + v)) (hI : zI s n k v) (hb : b < 60) (hd : d < 60) (hc : c < 40) (hbay : s (139 + 4 * c + 2) = ii b) {w' : Zw} (h : f_X1_moveCar S w g (ii c) (ii d) = some ((), w')) : w' (g + 7) = w (g + 7) := by
  have hin : zin (ii c) 40 = true := zin_t hc (by omega)
  have hinb : zin (ii b) 60 = true := zin_t hb (by omega)
  have hind : zin (ii d) 60 = true := zin_t hd (by omega)
  have hzc : zix (ii c) = c := zix_ii (by omega)
  have hzb : zix (ii b) = b := zix_ii (by omega)
  have hzd : zix (ii d) = d := zix_ii (by omega)
  have hwb : w (g + 5) c = ii b := by rw [RG_bay hR hc, hbay]
  have key : ∀ (ms : Nat → Zt3) (jb je : Int32), f_X1_moveCar_j41 S (zJw w g (n + k + v) ms c (ii b) (ii d) jb je) g (ii c) (ii d) (ii b) = some ((), w') → w' (g + 7) = w (g + 7) := by
    intro ms jb je h9
    unfold f_X1_moveCar_j41 at h9
    rw [zg0_4 hG, zgl5 hG, zg0_1 hG, zgl2 hG, zg0_5 hG, zgl6 hG, if_pos hinb, zlet_eq, if_pos hind, zlet_eq, if_pos hin, zlet_eq, if_pos hin, if_pos hin, zlet_eq, zlet_eq, hzb, hzd, hzc] at h9
    have e := congrArg Prod.snd (Option.some.inj h9)
    dsimp only at e
    rw [← e]
    simp (disch := omega) only [zput_ne, zJw_o]
  unfold f_X1_moveCar at h
  rw [zg0_4 hG, zgl5 hG, zg0_7 hG, if_pos hin, zlet_eq, hzc, hwb, (geo7 b hb).1, (geo7 d hd).1] at h
  by_cases hbd : b / 20 = d / 20
  · obtain ⟨ms, hms, h6⟩ := c7_mvLevel (c := c) hG hR hI hb hd hbd
    rw [if_pos (by rw [hbd]), h6, zbs] at h
    exact key _ _ _ h
  · obtain ⟨ms, hms, h6⟩ := c7_mvOther (c := c) hG hR hI hb hd hbd
    rw [if_neg (by rw [ii_eq (by omega) (by omega)]; exact hbd), h6, zbs] at h
    exact key _ _ _ h
theorem c7_free (hL : zLay S) (hR : RG w 2 s (n + k + v)) (hI : zI9 s n k v) {b c : Nat} (hb : b < 60) (ho : b % 2 = 1) (hin : s (79 + b) = ii c) (hc : c < n) (hv : v < 999990) :
    (pTdS s b = none ∧ f_X1_freeFromLater S w 2 (ii c) = some ((), w)) ∨ ∃ s' w', pTdS s b = some s' ∧ f_X1_freeFromLater S w 2 (ii c) = some ((), w') ∧ RG w' 2 s' (n + k + v + 1) ∧ (∀ j, j < 2 ∨ 18 ≤ j → w' j = w j) ∧ w' 9 = w 9 := by
  have hn := zI_n hI.1
  have hG := zG2 hL
  have hco : cOf s b = c := by
    unfold cOf
    rw [hin, zix_ii (by omega)]
  have hbay : s (139 + 4 * c + 2) = ii b := by
    have := (zI_cOf hI.1 hb (by rw [hin]; exact ii_ne (by omega))).2.2
    rw [hco] at this
    exact this
  have hbl : pBl s b = s (79 + (b - 1)) := if_pos ho
  have h40 : ∀ c, c < n → zin (ii c) 40 = true := fun c hc => zin_t (by omega) (by omega)
  unfold f_X1_freeFromLater
  rw [c7_blocker hG hR hI.1 hb hc hbay, zbs, hbl]
  by_cases h1 : s (79 + (b - 1)) = -1
  · refine Or.inl ⟨?_, by rw [if_pos h1]⟩
    unfold pTdS pWr
    rw [if_neg (by simp [h1])]
  · obtain ⟨p1, p2, p3⟩ := zI_cOf hI.1 (b := b - 1) (by omega) h1
    have hfr : pFr (s (139 + 4 * cOf s (b - 1) + 2)) := Or.inr ⟨b - 1, by omega, p3⟩
    have hwr : pWr s b = true ↔ s (139 + 4 * c + 1) < s (139 + 4 * cOf s (b - 1) + 1) := by
      unfold pWr
      rw [hco, hin]
      have : ii c ≠ -1 := ii_ne (by omega)
      simp [this, h1, pkc]
      exact decide_eq_true_iff
    rw [if_neg h1, zg0_3 hG, zgl4 hG, if_pos (h40 c hc), zix_ii (show c < 2147483648 by omega), p2, if_pos (h40 _ p1), zix_ii (show cOf s (b - 1) < 2147483648 by omega), (hR.2.2.1 c (by omega)).2.1, (hR.2.2.1 (cOf s (b - 1)) (by omega)).2.1]
    unfold pTdS
    by_cases h2 : s (139 + 4 * c + 1) < s (139 + 4 * cOf s (b - 1) + 1)
    · rw [if_pos h2, if_pos (hwr.mpr h2), c7_flee hG hR hI.1 p1 hfr, zbs]
      rcases pCh_ok (s := s) (size := s (139 + 4 * cOf s (b - 1))) (pk := s (139 + 4 * cOf s (b - 1) + 1)) (fr := s (139 + 4 * cOf s (b - 1) + 2)) with g | ⟨d, hd, g1, g2⟩
      · have g : pFl s (cOf s (b - 1)) = -1 := g
        rw [if_pos g, if_pos g]
        exact Or.inl ⟨rfl, rfl⟩
      · have g1 : pFl s (cOf s (b - 1)) = ii d := g1
        have hne : ¬ ii d = -1 := ii_ne (by omega)
        have hpk : pkc s (cOf s (b - 1)) = s (139 + 4 * cOf s (b - 1) + 1) := rfl
        rw [g1, if_neg hne, if_neg hne, if_pos (h40 _ p1), zix_ii (show d < 2147483648 by omega), hpk, c7_isBad hG hR hI.1 hd, zbs]
        by_cases hbad : pBad s d (s (139 + 4 * cOf s (b - 1) + 1)) = true
        · rw [if_pos hbad, if_pos hbad, if_neg (show ¬ (1 : Int32) = 0 by decide)]
          exact Or.inl ⟨rfl, rfl⟩
        · rw [if_neg hbad, if_neg hbad, if_pos (show (0 : Int32) = 0 from rfl)]
          obtain ⟨w', m1, m2, m3⟩ := c7_moveCar (S := S) (w := w) hG hR hI.1 (b := b - 1) (d := d) (c := cOf s (b - 1)) (by omega) hd (by omega) p3
          have m4 := c7_moveCar7 (S := S) (w := w) hG hR hI.1 (b := b - 1) (d := d) (c := cOf s (b - 1)) (by omega) hd (by omega) p3 m1
          rw [m1, zbs]
          exact Or.inr ⟨_, w', rfl, rfl, m2, m3, m4⟩
    · rw [if_neg h2, if_neg (fun q => h2 (hwr.mp q))]
      exact Or.inl ⟨rfl, rfl⟩
end ZT3
