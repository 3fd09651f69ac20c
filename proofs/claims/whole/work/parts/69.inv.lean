/-! WHAT ALWAYS HOLDS of a state is kept by jobs. -/
section ZIV
theorem bij_job {s s2 : Nat → Int32} {n n' c : Nat} {fr to : Int32} (hA : ∀ b, b < 60 → s (79 + b) = -1 ∨ ∃ c, c < n ∧ s (79 + b) = ii c ∧ s (139 + 4 * c + 2) = ii b) (hB : ∀ c, c < n → s (139 + 4 * c + 2) = -1 ∨ ∃ b, b < 60 ∧ s (139 + 4 * c + 2) = ii b ∧ s (79 + b) = ii c)
    (hn : n ≤ n') (hn4 : n' ≤ 40) (hc : c < n') (hcn : ∀ c', c' < n' → c' ≠ c → c' < n) (h1 : ∀ b, b < 60 → s2 (79 + b) = if to = ii b then ii c else if fr = ii b then -1 else s (79 + b)) (h2 : ∀ c', c' < 40 → s2 (139 + 4 * c' + 2) = if c' = c then to else s (139 + 4 * c' + 2))
    (hfr : (fr = -1 ∧ ¬ c < n) ∨ (∃ b, b < 60 ∧ fr = ii b ∧ c < n ∧ s (79 + b) = ii c ∧ s (139 + 4 * c + 2) = ii b)) (hto : to = -1 ∨ ∃ d, d < 60 ∧ to = ii d ∧ s (79 + d) = -1) :
    (∀ b, b < 60 → s2 (79 + b) = -1 ∨ ∃ c, c < n' ∧ s2 (79 + b) = ii c ∧ s2 (139 + 4 * c + 2) = ii b) ∧ (∀ c, c < n' → s2 (139 + 4 * c + 2) = -1 ∨ ∃ b, b < 60 ∧ s2 (139 + 4 * c + 2) = ii b ∧ s2 (79 + b) = ii c) := by
  constructor
  · intro b hb
    rw [h1 b hb]
    by_cases e1 : to = ii b
    · rw [if_pos e1]
      refine Or.inr ⟨c, hc, rfl, ?_⟩
      rw [h2 c (by omega), if_pos rfl, e1]
    · rw [if_neg e1]
      by_cases e2 : fr = ii b
      · rw [if_pos e2]
        exact Or.inl rfl
      · rw [if_neg e2]
        rcases hA b hb with h | ⟨c', hc', g1, g2⟩
        · exact Or.inl h
        · refine Or.inr ⟨c', by omega, g1, ?_⟩
          rw [h2 c' (by omega), if_neg, g2]
          intro e
          subst e
          rcases hfr with ⟨-, q⟩ | ⟨b9, -, f1, -, -, f4⟩
          · exact q hc'
          · exact e2 (by rw [f1, ← f4, g2])
  · intro c' hc'
    rw [h2 c' (by omega)]
    by_cases e : c' = c
    · rw [if_pos e]
      rcases hto with h | ⟨d, hd, h, -⟩
      · exact Or.inl h
      · refine Or.inr ⟨d, hd, h, ?_⟩
        rw [h1 d hd, if_pos h, e]
    · rw [if_neg e]
      rcases hB c' (hcn c' hc' e) with h | ⟨b, hb, g1, g2⟩
      · exact Or.inl h
      · refine Or.inr ⟨b, hb, g1, ?_⟩
        rw [h1 b hb, if_neg, if_neg, g2]
        · intro e9
          rcases hfr with ⟨q, -⟩ | ⟨b9, h9, f1, -, f3, -⟩
          · exact ii_ne (b := b) (by omega) (e9.symm.trans q)
          · have : b9 = b := (ii_eq (by omega) (by omega)).mp (f1.symm.trans e9)
            subst this
            exact e ((ii_eq (by omega) (by omega)).mp (g2.symm.trans f3))
        · intro e9
          rcases hto with q | ⟨d, hd, f1, f2⟩
          · exact ii_ne (b := b) (by omega) (e9.symm.trans q)
          · have : d = b := (ii_eq (by omega) (by omega)).mp (f1.symm.trans e9)
            subst this
            exact ii_ne (b := c') (by omega) (g2.symm.trans f2)
def zMc (s : Nat → Int32) (B : Nat) : Prop := ∀ m, m < 4 → 0 ≤ s (7 + 3 * m) ∧ s (7 + 3 * m) ≤ 4 ∧ (m = 3 → s (7 + 3 * m) ≤ 2) ∧ 0 ≤ s (7 + 3 * m + 1) ∧ s (7 + 3 * m + 1) ≤ ii B
theorem zMc_do {s : Nat → Int32} {B B' m e pl : Nat} (h : zMc s B) (hBB : B ≤ B') (hB : B' < 2000000000) (hpl : pl ≤ 4) (hp3 : m = 3 → pl ≤ 2) (he : e ≤ B') : zMc (qDo s m e pl) B' := by
  intro m' hm'
  by_cases hm : m' = m
  · subst hm
    have e1 : qDo s m' e pl (7 + 3 * m') = ii pl := by rw [qDo_at, if_neg (by omega), if_neg (by omega), if_pos rfl]
    have e2 : qDo s m' e pl (7 + 3 * m' + 1) = ii e := by rw [qDo_at, if_pos rfl]
    rw [e1, e2]
    refine ⟨ii_nn (by omega), ?_, fun q => ?_, ii_nn (by omega), ?_⟩
    · rw [show (4 : Int32) = ii 4 from rfl, ii_le (by omega) (by omega)]; exact hpl
    · rw [show (2 : Int32) = ii 2 from rfl, ii_le (by omega) (by omega)]; exact hp3 q
    · rw [ii_le (by omega) (by omega)]; exact he
  · rw [qDo_o (by omega), qDo_o (by omega)]
    obtain ⟨a1, a2, a3, a4, a5⟩ := h m' hm'
    refine ⟨a1, a2, a3, a4, ?_⟩
    have : ii B ≤ ii B' := by rw [ii_le (by omega) (by omega)]; exact hBB
    exact Int32.le_trans a5 this
theorem zMc_in {s : Nat → Int32} {B b : Nat} (hN : zN s B) (h : zMc s B) (h9 : 9999 ≤ B) (hb : b < 60) : zMc (qInM s b) (B + 200) := by
  obtain ⟨m1, m2⟩ := qIn_bd hN hb
  have hB := hN.2.2.1
  unfold qInM
  refine zMc_do (zMc_do h (by omega) (by omega) (by omega) (fun _ => by omega) (by omega)) (Nat.le_refl _) (by omega) (by unfold cCo; omega) (fun q => by omega) (by omega)
theorem zMc_out {s : Nat → Int32} {B b : Nat} (hN : zN s B) (h : zMc s B) (h9 : 9999 ≤ B) (hb : b < 60) : zMc (qOutM s b) (B + 200) := by
  obtain ⟨m1, m2⟩ := qOut_bd hN hb
  have hB := hN.2.2.1
  unfold qOutM
  refine zMc_do (zMc_do h (by omega) (by omega) (by omega) (fun _ => by omega) (by omega)) (Nat.le_refl _) (by omega) (by omega) (fun q => by omega) (by omega)
theorem zMc_mv {s : Nat → Int32} {B b d : Nat} (hN : zN s B) (h : zMc s B) (h9 : 9999 ≤ B) (hb : b < 60) (hd : d < 60) : zMc (qMvM s b d) (B + 200) := by
  obtain ⟨m1, m2, m3, m4, m5⟩ := qMv_bd hN hb hd
  have hB := hN.2.2.1
  unfold qMvM
  split
  · exact zMc_do h (by omega) (by omega) (by unfold cCo; omega) (fun q => by omega) (by omega)
  · exact zMc_do (zMc_do (zMc_do h (by omega) (by omega) (by omega) (fun _ => by omega) (by omega)) (Nat.le_refl _) (by omega) (by omega) (fun _ => by omega) (by omega)) (Nat.le_refl _) (by omega) (by unfold cCo; omega) (fun q => by omega) (by omega)
theorem zMc_o {s s2 : Nat → Int32} {B : Nat} (h : zMc s B) (e : ∀ i, 7 ≤ i → i < 19 → s2 i = s i) : zMc s2 B := by
  intro m hm
  rw [e _ (by omega) (by omega), e _ (by omega) (by omega)]
  exact h m hm
/-- how many bays have cars -/
def pCnt (s : Nat → Int32) : Nat → Nat
  | 0 => 0
  | m + 1 => pCnt s m + (if s (79 + m) = -1 then 0 else 1)
theorem pCnt_eq {s t : Nat → Int32} {m : Nat} (h : ∀ b, b < m → (t (79 + b) = -1 ↔ s (79 + b) = -1)) : pCnt t m = pCnt s m := by
  induction m with
  | zero => rfl
  | succ m ih =>
    unfold pCnt
    rw [ih (fun b hb => h b (by omega))]
    simp only [h m (by omega)]
theorem pCnt_ch {s t : Nat → Int32} {d : Nat} {m : Nat} (hd : d < m) (h : ∀ b, b < m → b ≠ d → (t (79 + b) = -1 ↔ s (79 + b) = -1)) : pCnt t m + (if s (79 + d) = -1 then 0 else 1) = pCnt s m + (if t (79 + d) = -1 then 0 else 1) := by
  induction m with
  | zero => omega
  | succ m ih =>
    unfold pCnt
    by_cases e : d = m
    · subst e
      rw [pCnt_eq (s := s) (t := t) (fun b hb => h b (by omega) (by omega))]
      omega
    · have h1 := ih (by omega) (fun b hb hn => h b (by omega) hn)
      have h2 := h m (by omega) (fun q => e q.symm)
      simp only [h2]
      omega
/-- zI and more: pickups, the count -/
def zI9 (s : Nat → Int32) (n k v : Nat) : Prop := zI s n k v ∧ (∀ c, c < n → 0 ≤ s (139 + 4 * c + 1) ∧ s (139 + 4 * c + 1) ≤ 9999) ∧ pCnt s 60 + k = n
theorem zI_mc {s : Nat → Int32} {n k v : Nat} (h : zI s n k v) : zMc s (9999 + 200 * (n + k + v)) := h.2.2.2.2.2.2.2.2.2.2.2
theorem pCnt_pos {s : Nat → Int32} {m d : Nat} (hd : d < m) (h : s (79 + d) ≠ -1) : 0 < pCnt s m := by
  induction m with
  | zero => omega
  | succ m ih =>
    unfold pCnt
    by_cases e : d = m
    · subst e
      rw [if_neg h]
      omega
    · have := ih (by omega)
      omega
theorem pFr_ne {b : Nat} (hb : b < 60) : ¬ (-1 : Int32) = ii b := fun e => ii_ne (b := b) (by omega) e.symm
theorem ii_iff {a b : Nat} (ha : a < 2147483648) (hb : b < 2147483648) : ii a = ii b ↔ a = b := by rw [ii_eq ha hb]
theorem pOut_i {s : Nat → Int32} {b c i : Nat} (hi : i ≠ 2) : pOut s b c i = pNotes (qOutM s b) (min (zix (s 6)) 19) c (ii b) (-1) (ii (qInB s b)) (ii (qOutE s b)) i := by
  unfold pOut
  rw [upd_ne hi]
theorem pOut_I {s : Nat → Int32} {n k v b c : Nat} (hI : zI9 s n k v) (hb : b < 60) (hc : c < n) (hbay : s (139 + 4 * c + 2) = ii b) (hv : v < 1000000) : zI9 (pOut s b c) n (k + 1) v := by
  obtain ⟨hI, hpk, hct⟩ := hI
  have hN := zN_of hI
  have hmc := zI_mc hI
  have hz := zI_6z hI
  obtain ⟨i1, i2, i3, i4, i5, i6, i7, i8, i9, i10, i11, -⟩ := id hI
  have hfr : pFr (ii b) := Or.inr ⟨b, hb, rfl⟩
  have hto : pFr (-1) := Or.inl rfl
  have hin : s (79 + b) = ii c := by
    rcases i11 c hc with h | ⟨b', hb', g1, g2⟩
    · exact absurd (h.symm.trans hbay).symm (ii_ne (by omega))
    · have : b' = b := (ii_iff (by omega) (by omega)).mp (g1.symm.trans hbay)
      subst this
      exact g2
  have hlo : ∀ i, i < 4 ∧ i ≠ 2 ∨ (19 ≤ i ∧ i < 79) → pOut s b c i = s i := by
    intro i hi
    rw [pOut_i (by omega), pNotes_lo hfr hto (by omega), qOutM_o hb (by omega)]
  have h1 : ∀ b', b' < 60 → pOut s b c (79 + b') = if (-1 : Int32) = ii b' then ii c else if ii b = ii b' then -1 else s (79 + b') := by
    intro b' hb'
    rw [pOut_i (by omega), pNotes_in hto hfr hb', qOutM_o hb (by omega)]
  have hcar : ∀ c' p, c' < 40 → p < 4 → pOut s b c (139 + 4 * c' + p) = if c' = c ∧ p = 2 then -1 else if c' = c ∧ p = 3 then s (139 + 4 * c + 3) + 1 else s (139 + 4 * c' + p) := by
    intro c' p hc' hp
    rw [pOut_i (by omega), pNotes_car hfr hto hc' hp, qOutM_o hb (by omega), qOutM_o hb (by omega)]
  have h2 : ∀ c', c' < 40 → pOut s b c (139 + 4 * c' + 2) = if c' = c then -1 else s (139 + 4 * c' + 2) := by
    intro c' hc'
    rw [hcar c' 2 hc' (by omega)]
    by_cases e : c' = c
    · rw [if_pos ⟨e, rfl⟩, if_pos e]
    · rw [if_neg (fun q => e q.1), if_neg (fun q => e q.1), if_neg e]
  obtain ⟨hA, hB⟩ := bij_job i10 i11 (Nat.le_refl n) i5 hc (fun c' h _ => h) h1 h2 (Or.inr ⟨b, hb, rfl, hc, hin, hbay⟩) (Or.inl rfl)
  have hcnt := pCnt_ch (s := s) (t := pOut s b c) (d := b) (m := 60) hb (fun b' hb' hne => by
    rw [h1 b' hb', if_neg (pFr_ne hb'), if_neg (fun e => hne ((ii_iff (by omega) (by omega)).mp e).symm)])
  rw [h1 b hb, if_neg (pFr_ne hb), if_pos rfl, if_pos rfl, hin, if_neg (ii_ne (by omega))] at hcnt
  have hmc2 : zMc (pOut s b c) (9999 + 200 * (n + (k + 1) + v)) := by
    have h9 := zMc_out hN hmc (by omega) hb
    rw [show 9999 + 200 * (n + (k + 1) + v) = 9999 + 200 * (n + k + v) + 200 by omega]
    refine zMc_o h9 (fun i h7 h19 => ?_)
    rw [pOut_i (by omega), pNotes_lo hfr hto (by omega)]
  refine ⟨⟨?_, ?_, ?_, by omega, i5, by omega, ?_, ?_, fun b' hb' => ?_, hA, hB, hmc2⟩, fun c' hc' => ?_, by omega⟩
  · rw [hlo 1 (by omega), i1]
  · unfold pOut
    rw [upd_at, i2, show (1 : Int32) = ii 1 from rfl, ii_add]
  · rw [hlo 3 (by omega), i3]
  · rw [pOut_i (by omega), hz, pNotes_6 hfr hto (q := min (n + k + v) 20) (by rw [qOutM_o hb (by omega), i7]) (by omega)]
    congr 1
    omega
  · rw [hlo 0 (by omega)]
    exact i8
  · rw [hlo _ (by omega)]
    exact i9 b' hb'
  · rw [hcar c' 1 (by omega) (by omega), if_neg (by omega), if_neg (by omega)]
    exact hpk c' hc'
end ZIV
