/-! THE SEARCH, purely: all orders one after the other, against the search with cut-offs. -/
section ZSR
abbrev Zst : Type := (Nat → Int32) × Nat × Int32
abbrev Zac : Type := Nat × Int32 × List Nat
def pBay (s : Nat → Int32) (c : Nat) : Nat := zix (s (139 + 4 * c + 2))
def pFc (s : Nat → Int32) (c : Nat) : Option ((Nat → Int32) × Nat) := pFetch s (pBay s c) c
/-- the greatest end of the latest jobs, oldest first -/
def pFe (s : Nat → Int32) : Nat → Int32 → Int32
  | 0, e => e
  | m + 1, e => pFe s m (zmax e (s (299 + 5 * (zix (s 6) - (m + 1)) + 4)))
def pStp (st : Zst) (c : Nat) : Option Zst := (pFc st.1 c).bind fun r => some (r.1, st.2.1 + r.2, pFe r.1 r.2 st.2.2)
def pGo : Zst → List Nat → Option Zst
  | st, [] => some st
  | st, c :: cs => (pStp st c).bind fun st' => pGo st' cs
theorem pGo_snoc (st : Zst) (l : List Nat) (c : Nat) : pGo st (l ++ [c]) = (pGo st l).bind fun st' => pStp st' c := by
  induction l generalizing st with
  | nil =>
    show (pStp st c).bind (fun st' => pGo st' []) = pStp st c
    cases pStp st c with
    | none => rfl
    | some r => rfl
  | cons a l ih =>
    show (pStp st a).bind (fun st' => pGo st' (l ++ [c])) = ((pStp st a).bind fun st' => pGo st' l).bind _
    cases pStp st a with
    | none => rfl
    | some r => exact ih r
def pJu (acc : Zac) (M : Nat) (e : Int32) (row : List Nat) : Zac := if acc.1 ≠ 0 ∧ (acc.1 < M ∨ (M = acc.1 ∧ acc.2.1 ≤ e)) then acc else (M, e, row)
def pTr (s0 : Nat → Int32) (pre : List Nat) (acc : Zac) : Zac := match pGo (s0, 0, 0) pre with
  | none => acc
  | some st => pJu acc st.2.1 st.2.2 pre
def pTs (L : List Nat) (s0 : Nat → Int32) : Nat → List Nat → Zac → Zac
  | 0, pre, acc => pTr s0 pre acc
  | f + 1, pre, acc => L.foldl (fun acc c => if c ∈ pre then acc else pTs L s0 f (pre ++ [c]) acc) acc
def pC (L : List Nat) : Nat → (Nat → Int32) → Nat → List Nat → Zac → Zac
  | 0, s, M, pre, acc => pJu acc M (pFe s M 0) pre
  | f + 1, s, M, pre, acc => L.foldl (fun acc c => if s (139 + 4 * c + 2) = -1 then acc else match pFc s c with
    | none => acc
    | some r => if acc.1 ≠ 0 ∧ acc.1 < M + r.2 + f then acc else pC L f r.1 (M + r.2) (pre ++ [c]) acc) acc
theorem foldl_id {A : Type} {g : A → Nat → A} {L : List Nat} {acc : A} (h : ∀ c, c ∈ L → g acc c = acc) : L.foldl g acc = acc := by
  induction L with
  | nil => rfl
  | cons a L ih =>
    show L.foldl g (g acc a) = acc
    rw [h a List.mem_cons_self]
    exact ih (fun c hc => h c (List.mem_cons_of_mem a hc))
theorem foldl_cg {A : Type} {g h : A → Nat → A} {L : List Nat} {acc : A} (e : ∀ acc c, c ∈ L → g acc c = h acc c) : L.foldl g acc = L.foldl h acc := by
  induction L generalizing acc with
  | nil => rfl
  | cons a L ih =>
    show L.foldl g (g acc a) = L.foldl h (h acc a)
    rw [e acc a List.mem_cons_self]
    exact ih (fun acc c hc => e acc c (List.mem_cons_of_mem a hc))
section
variable {L : List Nat} {s0 : Nat → Int32}
theorem pTs_none (f : Nat) (pre : List Nat) (acc : Zac) (h : pGo (s0, 0, 0) pre = none) : pTs L s0 f pre acc = acc := by
  induction f generalizing pre with
  | zero =>
    show pTr s0 pre acc = acc
    unfold pTr
    rw [h]
  | succ f ih =>
    refine foldl_id (fun c hc => ?_)
    by_cases e : c ∈ pre
    · rw [if_pos e]
    · rw [if_neg e]
      refine ih (pre ++ [c]) ?_
      rw [pGo_snoc, h]
      rfl
theorem pStp_M {st st' : Zst} {c : Nat} (h : pStp st c = some st') : ∃ s' m, pFc st.1 c = some (s', m) ∧ st' = (s', st.2.1 + m, pFe s' m st.2.2) ∧ (m = 1 ∨ m = 2) := by
  unfold pStp at h
  cases e : pFc st.1 c with
  | none => rw [e] at h; cases h
  | some r =>
    rw [e] at h
    refine ⟨r.1, r.2, rfl, (Option.some.inj h).symm, pFetch_m e⟩
theorem pTs_prune (f : Nat) (pre : List Nat) (acc : Zac) (st : Zst) (h : pGo (s0, 0, 0) pre = some st) (h0 : acc.1 ≠ 0) (hlt : acc.1 < st.2.1 + f) : pTs L s0 f pre acc = acc := by
  induction f generalizing pre st with
  | zero =>
    show pTr s0 pre acc = acc
    unfold pTr
    rw [h]
    show pJu acc st.2.1 st.2.2 pre = acc
    unfold pJu
    rw [if_pos ⟨h0, Or.inl (by omega)⟩]
  | succ f ih =>
    refine foldl_id (fun c hc => ?_)
    by_cases e : c ∈ pre
    · rw [if_pos e]
    · rw [if_neg e]
      have hs := pGo_snoc (s0, 0, 0) pre c
      rw [h] at hs
      cases e9 : pStp st c with
      | none =>
        refine pTs_none f _ acc ?_
        rw [hs]
        exact e9
      | some st' =>
        obtain ⟨s', m, -, e2, hm⟩ := pStp_M e9
        refine ih (pre ++ [c]) st' (by rw [hs]; exact e9) ?_
        rw [e2]
        show acc.1 < st.2.1 + m + f
        omega
/-! rows are shifted by jobs -/
def RowSh (s : Nat → Int32) (T : Nat) (s' : Nat → Int32) (T' m : Nat) : Prop := T' = T + m ∧ ∀ i, i + m < min T' 20 → s' (299 + 5 * (min T' 20 - 1 - (i + m)) + 4) = s (299 + 5 * (min T 20 - 1 - i) + 4)
theorem RowSh.comp {s s' s'' : Nat → Int32} {T T' T'' m m' : Nat} (h : RowSh s T s' T' m) (h' : RowSh s' T' s'' T'' m') : RowSh s T s'' T'' (m + m') := by
  obtain ⟨a1, a2⟩ := h
  obtain ⟨b1, b2⟩ := h'
  refine ⟨by omega, fun i hi => ?_⟩
  rw [← Nat.add_assoc, b2 (i + m) (by omega), a2 i (by omega)]
theorem RowSh_job {s sM s2 : Nat → Int32} {T c : Nat} {fr to jb je : Int32} (hc : c < 40) (hf : pFr fr) (ht : pFr to) (hq : s 6 = ii (min T 20)) (hsM : ∀ i, 299 ≤ i ∨ i = 6 → sM i = s i) (hs2 : ∀ i, 4 ≤ i → s2 i = pNotes sM (min (min T 20) 19) c fr to jb je i) : RowSh s T s2 (T + 1) 1 := by
  refine ⟨rfl, fun i hi => ?_⟩
  have hqM : sM 6 = ii (min T 20) := by rw [hsM 6 (by omega), hq]
  rw [hs2 _ (by omega), pNotes_row hc hf ht hqM (by omega) (by omega) (by omega), if_neg (by omega)]
  by_cases h : min T 20 = 20
  · rw [if_pos h, hsM _ (by omega)]
    congr 2
    omega
  · rw [if_neg h, hsM _ (by omega)]
    congr 2
    omega
theorem RowSh_out {s : Nat → Int32} {n k v b c : Nat} (hI : zI s n k v) (hb : b < 60) (hc : c < 40) : RowSh s (n + k + v) (pOut s b c) (n + k + v + 1) 1 := by
  have hz := zI_6z hI
  exact RowSh_job hc (Or.inr ⟨b, hb, rfl⟩) (Or.inl rfl) (zI_6 hI) (sM := qOutM s b) (fun i hi => qOutM_o hb (by omega)) (fun i hi => by rw [pOut_i (by omega), hz])
theorem RowSh_mv {s : Nat → Int32} {n k v b d c : Nat} (hI : zI s n k v) (hb : b < 60) (hd : d < 60) (hc : c < 40) : RowSh s (n + k + v) (pMv s b d c) (n + k + v + 1) 1 := by
  have hz := zI_6z hI
  exact RowSh_job hc (Or.inr ⟨b, hb, rfl⟩) (Or.inr ⟨d, hd, rfl⟩) (zI_6 hI) (sM := qMvM s b d) (fun i hi => qMvM_o hb hd (by omega)) (fun i hi => by rw [pMv_i (by omega), hz])
theorem pFe_sh {s s' : Nat → Int32} {T T' m : Nat} (h : RowSh s T s' T' m) (h6 : s 6 = ii (min T 20)) (h6' : s' 6 = ii (min T' 20)) (M : Nat) (hM : M + m ≤ 20) (hMT : M ≤ T) (e : Int32) : pFe s' (M + m) e = pFe s' m (pFe s M e) := by
  have z : zix (s 6) = min T 20 := by rw [h6, zix_ii (by omega)]
  have z' : zix (s' 6) = min T' 20 := by rw [h6', zix_ii (by omega)]
  induction M generalizing e with
  | zero =>
    rw [Nat.zero_add]
    rfl
  | succ M ih =>
    rw [show M + 1 + m = (M + m) + 1 by omega]
    show pFe s' (M + m) (zmax e (s' (299 + 5 * (zix (s' 6) - (M + m + 1)) + 4))) = pFe s' m (pFe s M (zmax e (s (299 + 5 * (zix (s 6) - (M + 1)) + 4))))
    have hT := h.1
    have := h.2 M (by omega)
    rw [z, z', show min T' 20 - (M + m + 1) = min T' 20 - 1 - (M + m) by omega, this, show min T 20 - (M + 1) = min T 20 - 1 - M by omega]
    exact ih (by omega) (by omega) _
/-- a fetched car is gone, the others stay stored -/
theorem pFc_st {s s' : Nat → Int32} {n k v c b m : Nat} (hI : zI9 s n k v) (hb : b < 60) (hc : c < n) (hbay : s (139 + 4 * c + 2) = ii b) (hv : v < 999990) (h : pFetch s b c = some (s', m)) :
    s' (139 + 4 * c + 2) = -1 ∧ (∀ c', c' < 40 → c' ≠ c → (s' (139 + 4 * c' + 2) = -1 ↔ s (139 + 4 * c' + 2) = -1)) ∧ RowSh s (n + k + v) s' (n + k + v + m) m := by
  have hn := zI_n hI.1
  have hout : ∀ (t : Nat → Int32) c', c' < 40 → pOut t b c (139 + 4 * c' + 2) = if c' = c then -1 else t (139 + 4 * c' + 2) := by
    intro t c' hc'
    rw [pOut_i (by omega), pNotes_car (Or.inr ⟨b, hb, rfl⟩) (Or.inl rfl) hc' (by omega), qOutM_o hb (by omega), qOutM_o hb (by omega)]
    by_cases e : c' = c
    · rw [if_pos ⟨e, rfl⟩, if_pos e]
    · rw [if_neg (fun q => e q.1), if_neg (fun q => e q.1), if_neg e]
  rcases pFetch_cases hI hb hc hbay hv with ⟨h1, h2, h3⟩ | ⟨x, hx, hxc, h1, h2, ⟨e1, e2⟩ | ⟨d, hd, e1, e2, e3, e4, e5, e6⟩⟩
  · have e := Option.some.inj (h2.symm.trans h)
    have q1 := congrArg Prod.fst e
    have q2 := congrArg Prod.snd e
    dsimp only at q1 q2
    subst q1
    subst q2
    refine ⟨by rw [hout s c (by omega), if_pos rfl], fun c' hc' hne => by rw [hout s c' hc', if_neg hne], RowSh_out hI.1 hb (by omega)⟩
  · rw [e2] at h
    cases h
  · have e := Option.some.inj (e3.symm.trans h)
    have q1 := congrArg Prod.fst e
    have q2 := congrArg Prod.snd e
    dsimp only at q1 q2
    subst q1
    subst q2
    refine ⟨by rw [hout _ c (by omega), if_pos rfl], fun c' hc' hne => ?_, ?_⟩
    · rw [hout _ c' hc', if_neg hne, pMv_car (by omega) hd hc' (by omega)]
      by_cases ex : c' = x
      · subst ex
        rw [if_pos ⟨rfl, rfl⟩, h2]
        constructor
        · exact fun q => absurd q (ii_ne (by omega))
        · exact fun q => absurd q (ii_ne (by omega))
      · rw [if_neg (fun q => ex q.1), if_neg (fun q => ex q.1)]
    · have r1 := RowSh_mv hI.1 (b := b - 1) (d := d) (c := x) (by omega) hd (by omega)
      have r2 := RowSh_out (n := n) (k := k) (v := v + 1) e4.1 hb (c := c) (by omega)
      rw [show n + k + (v + 1) = n + k + v + 1 by omega] at r2
      have := RowSh.comp r1 r2
      rw [show n + k + v + 1 + 1 = n + k + v + 2 by omega] at this
      exact this
/-- what holds of a state on the way -/
def SI (L : List Nat) (n v0 : Nat) (st : Zst) (pre : List Nat) : Prop := ∃ k v, zI9 st.1 n k v ∧ v ≤ v0 + 2 * pre.length ∧ st.2.1 ≤ 2 * pre.length ∧ pre.length ≤ n + k + v ∧ st.2.1 ≤ n + k + v ∧ st.2.2 = pFe st.1 st.2.1 0 ∧ ∀ c, c ∈ L → (st.1 (139 + 4 * c + 2) = -1 ↔ c ∈ pre)
theorem SI_stp {n v0 : Nat} {st : Zst} {pre : List Nat} (h : SI L n v0 st pre) (hL : ∀ c, c ∈ L → c < n) (hv0 : v0 < 999900) (hp : pre.length < 5) {c : Nat} (hc : c ∈ L) (hcp : ¬ c ∈ pre) : ∃ b, b < 60 ∧ st.1 (139 + 4 * c + 2) = ii b ∧ pBay st.1 c = b ∧ ∀ s' m, pFc st.1 c = some (s', m) → SI L n v0 (s', st.2.1 + m, pFe s' m st.2.2) (pre ++ [c]) := by
  obtain ⟨k, v, hI, a1, a2, a3, a4, a5, a6⟩ := h
  have hcn := hL c hc
  rcases zI_carBay hI.1 hcn with g | ⟨b, hb, g1, g2⟩
  · exact absurd ((a6 c hc).mp g) hcp
  · have hpb : pBay st.1 c = b := by
      unfold pBay
      rw [g1, zix_ii (by omega)]
    refine ⟨b, hb, g1, hpb, fun s' m hf => ?_⟩
    unfold pFc at hf
    rw [hpb] at hf
    have hm := pFetch_m hf
    obtain ⟨q1, q2, q3⟩ := pFc_st hI hb hcn g1 (by omega) hf
    obtain ⟨r1, r2⟩ := pFetch_I hI hb hcn g1 (by omega) hf
    have hn := zI_n hI.1
    have hsh := pFe_sh q3 (zI_6 hI.1) (by rw [zI_6 r1.1, r2]) st.2.1 (by omega) a4 0
    refine ⟨k + 1, v + m - 1, r1, ?_, ?_, ?_, ?_, ?_, fun c' hc' => ?_⟩
    · rw [List.length_append, List.length_singleton]
      omega
    · rw [List.length_append, List.length_singleton]
      show st.2.1 + m ≤ _
      omega
    · rw [List.length_append, List.length_singleton]
      omega
    · show st.2.1 + m ≤ _
      omega
    · show pFe s' m st.2.2 = pFe s' (st.2.1 + m) 0
      rw [a5, hsh]
    · show s' (139 + 4 * c' + 2) = -1 ↔ _
      rw [List.mem_append, List.mem_singleton]
      by_cases e : c' = c
      · subst e
        exact ⟨fun _ => Or.inr rfl, fun _ => q1⟩
      · rw [q2 c' (by have := hL c' hc'; omega) e, a6 c' hc']
        exact ⟨fun q => Or.inl q, fun q => q.resolve_right e⟩
theorem pTs_pC {n v0 : Nat} (hL : ∀ c, c ∈ L → c < n) (hv0 : v0 < 999900) (f : Nat) (pre : List Nat) (st : Zst) (acc : Zac) (hlen : pre.length + f ≤ 5) (hgo : pGo (s0, 0, 0) pre = some st) (hSI : SI L n v0 st pre) : pTs L s0 f pre acc = pC L f st.1 st.2.1 pre acc := by
  induction f generalizing pre st acc with
  | zero =>
    show pTr s0 pre acc = pJu acc st.2.1 (pFe st.1 st.2.1 0) pre
    unfold pTr
    rw [hgo]
    show pJu acc st.2.1 st.2.2 pre = _
    obtain ⟨k, v, -, -, -, -, -, a5, -⟩ := hSI
    rw [a5]
  | succ f ih =>
    refine foldl_cg (fun acc c hc => ?_)
    have hst : st.1 (139 + 4 * c + 2) = -1 ↔ c ∈ pre := by
      obtain ⟨k, v, -, -, -, -, -, -, a6⟩ := hSI
      exact a6 c hc
    by_cases e : c ∈ pre
    · rw [if_pos e, if_pos (hst.mpr e)]
    · rw [if_neg e, if_neg (fun q => e (hst.mp q))]
      obtain ⟨b, hb, g1, g2, g3⟩ := SI_stp hSI hL hv0 (by omega) hc e
      have hs := pGo_snoc (s0, 0, 0) pre c
      rw [hgo] at hs
      cases e9 : pFc st.1 c with
      | none =>
        refine pTs_none f _ acc ?_
        rw [hs]
        show pStp st c = none
        unfold pStp
        rw [e9]
        rfl
      | some r =>
        have hgo2 : pGo (s0, 0, 0) (pre ++ [c]) = some (r.1, st.2.1 + r.2, pFe r.1 r.2 st.2.2) := by
          rw [hs]
          show pStp st c = _
          unfold pStp
          rw [e9]
          rfl
        show _ = if acc.1 ≠ 0 ∧ acc.1 < st.2.1 + r.2 + f then acc else pC L f r.1 (st.2.1 + r.2) (pre ++ [c]) acc
        by_cases hp : acc.1 ≠ 0 ∧ acc.1 < st.2.1 + r.2 + f
        · rw [if_pos hp]
          exact pTs_prune f _ acc _ hgo2 hp.1 hp.2
        · rw [if_neg hp]
          exact ih (pre ++ [c]) _ acc (by rw [List.length_append, List.length_singleton]; omega) hgo2 (g3 r.1 r.2 e9)
end
end ZSR
