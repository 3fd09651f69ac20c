/-! WHAT ALWAYS HOLDS: moves, and cars that come. -/
section ZI2
theorem pMv_i {s : Nat → Int32} {b d c i : Nat} (hi : i ≠ 3) : pMv s b d c i = pNotes (qMvM s b d) (min (zix (s 6)) 19) c (ii b) (ii d) (ii (qMvB s b d)) (ii (qMvE s b d)) i := by
  unfold pMv
  rw [upd_ne hi]
theorem zI_bay {s : Nat → Int32} {n k v b c : Nat} (hI : zI s n k v) (hb : b < 60) (hc : c < n) (hbay : s (139 + 4 * c + 2) = ii b) : s (79 + b) = ii c := by
  rcases hI.2.2.2.2.2.2.2.2.2.2.1 c hc with h | ⟨b', hb', g1, g2⟩
  · exact absurd (h.symm.trans hbay).symm (ii_ne (by omega))
  · have : b' = b := (ii_iff (by omega) (by omega)).mp (g1.symm.trans hbay)
    subst this
    exact g2
theorem pMv_in {s : Nat → Int32} {b d c b' : Nat} (hb : b < 60) (hd : d < 60) (hb' : b' < 60) : pMv s b d c (79 + b') = if d = b' then ii c else if b = b' then -1 else s (79 + b') := by
  rw [pMv_i (by omega), pNotes_in (Or.inr ⟨d, hd, rfl⟩) (Or.inr ⟨b, hb, rfl⟩) hb', qMvM_o hb hd (by omega)]
  simp only [ii_iff (show d < 2147483648 by omega) (show b' < 2147483648 by omega), ii_iff (show b < 2147483648 by omega) (show b' < 2147483648 by omega)]
theorem pMv_car {s : Nat → Int32} {b d c c' p : Nat} (hb : b < 60) (hd : d < 60) (hc' : c' < 40) (hp : p < 4) : pMv s b d c (139 + 4 * c' + p) = if c' = c ∧ p = 2 then ii d else if c' = c ∧ p = 3 then s (139 + 4 * c + 3) + 1 else s (139 + 4 * c' + p) := by
  rw [pMv_i (by omega), pNotes_car (Or.inr ⟨b, hb, rfl⟩) (Or.inr ⟨d, hd, rfl⟩) hc' hp, qMvM_o hb hd (by omega), qMvM_o hb hd (by omega)]
theorem pMv_lo {s : Nat → Int32} {b d c i : Nat} (hb : b < 60) (hd : d < 60) (h : i < 3 ∨ (19 ≤ i ∧ i < 79)) : pMv s b d c i = s i := by
  rw [pMv_i (by omega), pNotes_lo (Or.inr ⟨b, hb, rfl⟩) (Or.inr ⟨d, hd, rfl⟩) (by omega), qMvM_o hb hd (by omega)]
theorem pMv_I {s : Nat → Int32} {n k v b d c : Nat} (hI : zI9 s n k v) (hb : b < 60) (hd : d < 60) (hc : c < n) (hbay : s (139 + 4 * c + 2) = ii b) (hemp : s (79 + d) = -1) (hv : v < 1000000) : zI9 (pMv s b d c) n k (v + 1) := by
  obtain ⟨hI, hpk, hct⟩ := hI
  have hN := zN_of hI
  have hmc := zI_mc hI
  have hz := zI_6z hI
  obtain ⟨i1, i2, i3, i4, i5, i6, i7, i8, i9, i10, i11, -⟩ := id hI
  have hfr : pFr (ii b) := Or.inr ⟨b, hb, rfl⟩
  have hto : pFr (ii d) := Or.inr ⟨d, hd, rfl⟩
  have hin := zI_bay hI hb hc hbay
  have hbd : d ≠ b := by
    intro e
    subst e
    exact ii_ne (b := c) (by omega) (hin.symm.trans hemp)
  have h1 : ∀ b', b' < 60 → pMv s b d c (79 + b') = if ii d = ii b' then ii c else if ii b = ii b' then -1 else s (79 + b') := by
    intro b' hb'
    rw [pMv_i (by omega), pNotes_in hto hfr hb', qMvM_o hb hd (by omega)]
  have h2 : ∀ c', c' < 40 → pMv s b d c (139 + 4 * c' + 2) = if c' = c then ii d else s (139 + 4 * c' + 2) := by
    intro c' hc'
    rw [pMv_car hb hd hc' (by omega)]
    by_cases e : c' = c
    · rw [if_pos ⟨e, rfl⟩, if_pos e]
    · rw [if_neg (fun q => e q.1), if_neg (fun q => e q.1), if_neg e]
  obtain ⟨hA, hB⟩ := bij_job i10 i11 (Nat.le_refl n) i5 hc (fun c' h _ => h) h1 h2 (Or.inr ⟨b, hb, rfl, hc, hin, hbay⟩) (Or.inr ⟨d, hd, rfl, hemp⟩)
  have hcnt1 := pCnt_ch (s := s) (t := upd s (79 + b) (-1)) (d := b) (m := 60) hb (fun b' hb' hne => by rw [upd_ne (by omega)])
  have hcnt2 := pCnt_ch (s := upd s (79 + b) (-1)) (t := pMv s b d c) (d := d) (m := 60) hd (fun b' hb' hne => by
    rw [pMv_in hb hd hb', if_neg (fun e => hne e.symm)]
    by_cases e : b = b'
    · subst e
      rw [if_pos rfl, upd_at]
    · rw [if_neg e, upd_ne (by omega)])
  rw [upd_at, hin, if_neg (ii_ne (by omega)), if_pos rfl] at hcnt1
  rw [pMv_in hb hd hd, if_pos rfl, if_neg (ii_ne (by omega)), upd_ne (by omega), hemp, if_pos rfl] at hcnt2
  have hmc2 : zMc (pMv s b d c) (9999 + 200 * (n + k + (v + 1))) := by
    have h9 := zMc_mv hN hmc (by omega) hb hd
    rw [show 9999 + 200 * (n + k + (v + 1)) = 9999 + 200 * (n + k + v) + 200 by omega]
    refine zMc_o h9 (fun i h7 h19 => ?_)
    rw [pMv_i (by omega), pNotes_lo hfr hto (by omega)]
  refine ⟨⟨?_, ?_, ?_, i4, i5, by omega, ?_, ?_, fun b' hb' => ?_, hA, hB, hmc2⟩, fun c' hc' => ?_, by omega⟩
  · rw [pMv_lo hb hd (by omega), i1]
  · rw [pMv_lo hb hd (by omega), i2]
  · unfold pMv
    rw [upd_at, i3, show (1 : Int32) = ii 1 from rfl, ii_add]
  · rw [pMv_i (by omega), hz, pNotes_6 hfr hto (q := min (n + k + v) 20) (by rw [qMvM_o hb hd (by omega), i7]) (by omega)]
    congr 1
    omega
  · rw [pMv_lo hb hd (by omega)]
    exact i8
  · rw [pMv_lo hb hd (by omega)]
    exact i9 b' hb'
  · rw [pMv_car hb hd (by omega) (by omega), if_neg (by omega), if_neg (by omega)]
    exact hpk c' hc'
theorem pS0_o {s : Nat → Int32} {size pk : Int32} {n i : Nat} (h1 : i ≠ 1) (h : i < 139 + 4 * n ∨ 139 + 4 * n + 4 ≤ i ∨ i = 139 + 4 * n + 2) : pS0 s size pk n i = s i := by
  unfold pS0
  rw [upd_ne h1, upd_ne (by omega), upd_ne (by omega), upd_ne (by omega)]
theorem pS0_q {s : Nat → Int32} {size pk : Int32} {n b : Nat} (hb : b < 60) : sT (pS0 s size pk n) = sT s ∧ (∀ m, m < 4 → sP (pS0 s size pk n) m = sP s m ∧ sF (pS0 s size pk n) m = sF s m ∧ sR (pS0 s size pk n) m = sR s m) ∧ qInMet (pS0 s size pk n) b = qInMet s b ∧ qInEnd (pS0 s size pk n) b = qInEnd s b ∧ qInB (pS0 s size pk n) b = qInB s b ∧ qInE (pS0 s size pk n) b = qInE s b := by
  have h0 : sT (pS0 s size pk n) = sT s := by
    unfold sT
    rw [pS0_o (by omega) (by omega)]
  have h1 : ∀ m, m < 4 → sP (pS0 s size pk n) m = sP s m ∧ sF (pS0 s size pk n) m = sF s m ∧ sR (pS0 s size pk n) m = sR s m := by
    intro m hm
    unfold sR sP sF
    rw [h0, pS0_o (by omega) (by omega), pS0_o (by omega) (by omega)]
    exact ⟨rfl, rfl, rfl⟩
  have h2 : qInMet (pS0 s size pk n) b = qInMet s b := by
    unfold qInMet
    rw [(h1 3 (by omega)).2.2, (h1 3 (by omega)).1, (h1 (b / 20) (by omega)).2.2, (h1 (b / 20) (by omega)).1]
  have h3 : qInEnd (pS0 s size pk n) b = qInEnd s b := by
    unfold qInEnd
    rw [h2]
  refine ⟨h0, h1, h2, h3, ?_, ?_⟩
  · unfold qInB
    rw [(h1 3 (by omega)).2.2, (h1 (b / 20) (by omega)).2.2]
  · unfold qInE
    rw [h2, h3]
theorem zN_S0 {s : Nat → Int32} {size pk : Int32} {n B : Nat} (h : zN s B) : zN (pS0 s size pk n) B := by
  obtain ⟨q0, q1, -⟩ := pS0_q (s := s) (size := size) (pk := pk) (n := n) (b := 0) (by omega)
  obtain ⟨h1, h2, h3, h4⟩ := h
  refine ⟨?_, ?_, h3, fun m hm => ?_⟩
  · rw [q0, pS0_o (by omega) (by omega)]
    exact h1
  · rw [q0]
    exact h2
  · obtain ⟨a1, a2, -⟩ := q1 m hm
    rw [a1, a2, pS0_o (by omega) (by omega), pS0_o (by omega) (by omega)]
    exact h4 m hm
theorem pIn_in {s : Nat → Int32} {size pk : Int32} {b n b' : Nat} (hb : b < 60) (hb' : b' < 60) : pIn s size pk b n (79 + b') = if ii b = ii b' then ii n else s (79 + b') := by
  unfold pIn
  rw [pNotes_in (Or.inr ⟨b, hb, rfl⟩) (Or.inl rfl) hb', qInM_o hb (by omega), pS0_o (by omega) (by omega), if_neg (pFr_ne hb')]
theorem pIn_lo {s : Nat → Int32} {size pk : Int32} {b n i : Nat} (hb : b < 60) (h : i < 4 ∧ i ≠ 1 ∨ (19 ≤ i ∧ i < 79)) : pIn s size pk b n i = s i := by
  unfold pIn
  rw [pNotes_lo (Or.inl rfl) (Or.inr ⟨b, hb, rfl⟩) (by omega), qInM_o hb (by omega), pS0_o (by omega) (by omega)]
theorem pIn_1 {s : Nat → Int32} {size pk : Int32} {b n : Nat} (hb : b < 60) : pIn s size pk b n 1 = s 1 + 1 := by
  unfold pIn
  rw [pNotes_lo (Or.inl rfl) (Or.inr ⟨b, hb, rfl⟩) (by omega), qInM_o hb (by omega)]
  unfold pS0
  rw [upd_at]
theorem pIn_car {s : Nat → Int32} {size pk : Int32} {b n c' p : Nat} (hb : b < 60) (hc' : c' < 40) (hp : p < 4) : pIn s size pk b n (139 + 4 * c' + p) = if c' = n then (if p = 0 then size else if p = 1 then pk else if p = 2 then ii b else 1) else s (139 + 4 * c' + p) := by
  unfold pIn
  rw [pNotes_car (Or.inl rfl) (Or.inr ⟨b, hb, rfl⟩) hc' hp, qInM_o hb (by omega), qInM_o hb (by omega)]
  by_cases e : c' = n
  · subst e
    have h4 : p = 0 ∨ p = 1 ∨ p = 2 ∨ p = 3 := by omega
    have h01 : (0 : Int32) + 1 = 1 := rfl
    unfold pS0
    rcases h4 with rfl | rfl | rfl | rfl <;> simp (disch := omega) [upd_ne, upd_at, h01]
  · rw [if_neg (fun q => e q.1), if_neg (fun q => e q.1), if_neg e, pS0_o (by omega) (by omega)]
theorem pIn_I {s : Nat → Int32} {size pk : Int32} {n k v b : Nat} (hI : zI9 s n k v) (hb : b < 60) (hn : n < 40) (hemp : s (79 + b) = -1) (hp0 : 0 ≤ pk) (hp9 : pk ≤ 9999) : zI9 (pIn s size pk b n) (n + 1) k v := by
  obtain ⟨hI, hpk, hct⟩ := hI
  have hN := zN_of hI
  have hmc := zI_mc hI
  have hz := zI_6z hI
  obtain ⟨i1, i2, i3, i4, i5, i6, i7, i8, i9, i10, i11, -⟩ := id hI
  have hto : pFr (ii b) := Or.inr ⟨b, hb, rfl⟩
  have hfr : pFr (-1) := Or.inl rfl
  have h1 : ∀ b', b' < 60 → pIn s size pk b n (79 + b') = if ii b = ii b' then ii n else if (-1 : Int32) = ii b' then -1 else s (79 + b') := by
    intro b' hb'
    rw [pIn_in hb hb', if_neg (pFr_ne hb')]
  have h2 : ∀ c', c' < 40 → pIn s size pk b n (139 + 4 * c' + 2) = if c' = n then ii b else s (139 + 4 * c' + 2) := by
    intro c' hc'
    rw [pIn_car hb hc' (by omega)]
    simp
  obtain ⟨hA, hB⟩ := bij_job i10 i11 (Nat.le_succ n) (by omega) (Nat.lt_succ_self n) (fun c' h h' => by omega) h1 h2 (Or.inl ⟨rfl, by omega⟩) (Or.inr ⟨b, hb, rfl, hemp⟩)
  have hcnt := pCnt_ch (s := s) (t := pIn s size pk b n) (d := b) (m := 60) hb (fun b' hb' hne => by
    rw [pIn_in hb hb', if_neg (fun e => hne ((ii_iff (by omega) (by omega)).mp e).symm)])
  rw [pIn_in hb hb, if_pos rfl, hemp, if_pos rfl, if_neg (ii_ne (by omega))] at hcnt
  have hmc2 : zMc (pIn s size pk b n) (9999 + 200 * (n + 1 + k + v)) := by
    have h9 := zMc_in (zN_S0 (size := size) (pk := pk) (n := n) hN) (zMc_o hmc (s2 := pS0 s size pk n) (fun i h7 h19 => pS0_o (by omega) (by omega))) (by omega) hb
    rw [show 9999 + 200 * (n + 1 + k + v) = 9999 + 200 * (n + k + v) + 200 by omega]
    refine zMc_o h9 (fun i h7 h19 => ?_)
    unfold pIn
    rw [pNotes_lo hfr hto (by omega)]
  refine ⟨⟨?_, ?_, ?_, by omega, by omega, i6, ?_, ?_, fun b' hb' => ?_, hA, hB, hmc2⟩, fun c' hc' => ?_, by omega⟩
  · rw [pIn_1 hb, i1, show (1 : Int32) = ii 1 from rfl, ii_add]
  · rw [pIn_lo hb (by omega), i2]
  · rw [pIn_lo hb (by omega), i3]
  · unfold pIn
    rw [hz, pNotes_6 hfr hto (q := min (n + k + v) 20) (by rw [qInM_o hb (by omega), pS0_o (by omega) (by omega), i7]) (by omega)]
    congr 1
    omega
  · rw [pIn_lo hb (by omega)]
    exact i8
  · rw [pIn_lo hb (by omega)]
    exact i9 b' hb'
  · rw [pIn_car hb (by omega) (by omega)]
    by_cases e : c' = n
    · rw [if_pos e]
      exact ⟨hp0, hp9⟩
    · rw [if_neg e]
      exact hpk c' (by omega)
end ZI2
