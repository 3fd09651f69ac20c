/-! retrieveAll. -/
section ZRA
variable {S : Zs} {w : Zw} {B B' n k v : Nat} {s : Nat → Int32}
/-- what is kept of an order -/
def pGd (L : List Nat) (s0 : Nat → Int32) (acc : Zac) : Prop := acc.1 = 0 ∨ ∃ st, pGo (s0, 0, 0) acc.2.2 = some st ∧ st.2.1 = acc.1 ∧ st.2.2 = acc.2.1 ∧ (∀ x, x ∈ acc.2.2 → x ∈ L) ∧ acc.2.2.Pairwise (· ≠ ·)
theorem foldl_inv {A : Type} {g : A → Nat → A} {P : A → Prop} {L : List Nat} {acc : A} (h : ∀ acc c, c ∈ L → P acc → P (g acc c)) (h0 : P acc) : P (L.foldl g acc) := by
  induction L generalizing acc with
  | nil => exact h0
  | cons a L ih => exact ih (fun acc c hc => h acc c (List.mem_cons_of_mem a hc)) (h acc a List.mem_cons_self h0)
theorem pGd_T {L : List Nat} {s0 : Nat → Int32} (f : Nat) (pre : List Nat) (acc : Zac) (hs : ∀ x, x ∈ pre → x ∈ L) (hp : pre.Pairwise (· ≠ ·)) (h : pGd L s0 acc) : pGd L s0 (pTs L s0 f pre acc) := by
  induction f generalizing pre acc with
  | zero =>
    show pGd L s0 (pTr s0 pre acc)
    unfold pTr
    cases e : pGo (s0, 0, 0) pre with
    | none => exact h
    | some st =>
      show pGd L s0 (pJu acc st.2.1 st.2.2 pre)
      unfold pJu
      split
      · exact h
      · exact Or.inr ⟨st, e, rfl, rfl, hs, hp⟩
  | succ f ih =>
    refine foldl_inv (fun acc c hc ha => ?_) h
    by_cases e : c ∈ pre
    · rw [if_pos e]
      exact ha
    · rw [if_neg e]
      refine ih (pre ++ [c]) acc (fun x hx => ?_) ?_ ha
      · rw [List.mem_append, List.mem_singleton] at hx
        rcases hx with hx | rfl
        · exact hs x hx
        · exact hc
      · rw [List.pairwise_append]
        exact ⟨hp, List.pairwise_singleton _ _, fun x hx y hy => by rw [List.mem_singleton] at hy; rw [hy]; exact fun q => e (q ▸ hx)⟩
theorem pBest_gd {L : List Nat} {s0 : Nat → Int32} : pGd L s0 (pBest L s0) := pGd_T L.length [] (0, 0, []) (fun x hx => absurd hx List.not_mem_nil) List.Pairwise.nil (Or.inl rfl)
/-- the class fetches one car after the other -/
def zfa (S : Zs) : List Nat → Zw → Option (Unit × Zw)
  | [], w => some ((), w)
  | c :: cs, w => (f_X1_fetch S w 2 (ii c)).bind fun r => zfa S cs r.2
theorem c7_zfa (hL : zLay S) {R : List Nat} {v0 : Nat} (hRn : ∀ c, c ∈ R → c < n) (hRd : R.Pairwise (· ≠ ·)) (hR5 : R.length ≤ 5) (hv0 : v0 < 999900) (rest : List Nat) :
    ∀ (pre : List Nat) (st st' : Zst) (u : Zw), R = pre ++ rest → SI R n v0 st pre → Sh u 2 st.1 → pGo st rest = some st' → ∃ u', zfa S rest u = some ((), u') ∧ Sh u' 2 st'.1 ∧ pOK (v0 + 10) st'.1 ∧ (∀ j, j < 2 ∨ 18 ≤ j → u' j = u j) ∧ (zRow (u 152) R → ∀ N, rest.length < N → zlp (fun kk a => f_X7_retrieveAll_b40 S 1 (ii R.length) kk a.1 a.2) N (ii pre.length, u) = (f_X2_keepDraft S u' 34).bind fun r15 => some (.inl (f_X5_endOfBest S r15.2 148), r15.2)) := by
  induction rest with
  | nil =>
    intro pre st st' u hR hSI hS hgo
    have e : st' = st := (Option.some.inj hgo).symm
    subst e
    obtain ⟨k, v, hI, a1, -⟩ := hSI
    have hR5' : pre.length ≤ 5 := by rw [hR, List.append_nil] at hR5; exact hR5
    refine ⟨u, rfl, hS, ⟨n, k, v, hI, by omega⟩, fun _ _ => rfl, fun hr N hN => ?_⟩
    obtain ⟨N, rfl⟩ : ∃ N', N = N' + 1 := ⟨N - 1, by omega⟩
    show f_X7_retrieveAll_b40 S 1 (ii R.length) _ (ii pre.length) u = _
    unfold f_X7_retrieveAll_b40
    rw [List.append_nil] at hR
    rw [hR, if_pos (by rw [ii_le (by omega) (by omega)]; omega), zt1_3 hL, zt1_4 hL]
  | cons c rest ih =>
    intro pre st st' u hR hSI hS hgo
    have hlen : R.length = pre.length + (rest.length + 1) := by rw [hR, List.length_append, List.length_cons]
    have hcR : c ∈ R := by rw [hR]; exact List.mem_append_right _ List.mem_cons_self
    have hcp : ¬ c ∈ pre := by
      intro q
      rw [hR, List.pairwise_append] at hRd
      exact hRd.2.2 c q c List.mem_cons_self rfl
    obtain ⟨b, hb, g1, g2, g3⟩ := SI_stp hSI hRn hv0 (by omega) hcR hcp
    obtain ⟨k, v, hI, a1, a2, a3, a4, a5, a6⟩ := id hSI
    have hcn := hRn c hcR
    have hpg : pGo st (c :: rest) = (pStp st c).bind fun st' => pGo st' rest := rfl
    rw [hpg] at hgo
    rcases c7_fetch (S := S) (w := u) (zG2 hL) (R_Sh hI.1 hS) hI hb hcn g1 (by omega) with ⟨f1, f2⟩ | ⟨s', m, u1, f1, f2, f3, f4⟩
    · have : pFc st.1 c = none := by
        unfold pFc
        rw [g2]
        exact f1
      unfold pStp at hgo
      rw [this] at hgo
      cases hgo
    · have hfc : pFc st.1 c = some (s', m) := by
        unfold pFc
        rw [g2]
        exact f1
      have e1 : pStp st c = some (s', st.2.1 + m, pFe s' m st.2.2) := by
        unfold pStp
        rw [hfc]
        rfl
      rw [e1, zbs] at hgo
      obtain ⟨r1, r2⟩ := pFetch_I hI hb hcn g1 (by omega) f1
      obtain ⟨u', t1, t2, t3, t4, t5⟩ := ih (pre ++ [c]) (s', st.2.1 + m, pFe s' m st.2.2) st' u1 (by rw [hR, List.append_assoc]; rfl) (g3 s' m hfc) (by
        refine Sh_R r1.1 ?_
        rw [r2]
        exact f3) hgo
      refine ⟨u', ?_, t2, t3, fun j hj => by rw [t4 j hj, f4 j hj], fun hr N hN => ?_⟩
      · show (f_X1_fetch S u 2 (ii c)).bind _ = _
        rw [f2, zbs]
        exact t1
      · obtain ⟨N, rfl⟩ : ∃ N', N = N' + 1 := ⟨N - 1, by omega⟩
        have hF : zlp (fun kk a => f_X7_retrieveAll_b40 S 1 (ii R.length) kk a.1 a.2) (N + 1) (ii pre.length, u) = f_X7_retrieveAll_b40 S 1 (ii R.length) (zlp (fun kk a => f_X7_retrieveAll_b40 S 1 (ii R.length) kk a.1 a.2) N) (ii pre.length) u := rfl
        obtain ⟨KK, hKK⟩ : ∃ KK, KK = zlp (fun kk a => f_X7_retrieveAll_b40 S 1 (ii R.length) kk a.1 a.2) N := ⟨_, rfl⟩
        have hc : u 152 pre.length = ii c := by rw [hr pre.length (by omega), hR, getD_mid]
        rw [hF, ← hKK]
        unfold f_X7_retrieveAll_b40 f_X5_carOfBest
        rw [if_neg (by rw [ii_le (by omega) (by omega)]; omega), zt1_4 hL, zt148_3 hL, ztl152 hL, if_pos (zin_t (by omega) (by omega)), zix_ii (by omega), hc, zbs, zt1_0 hL, f2, zbs, ii_succ]
        have := t5 (by rw [f4 152 (by omega)]; exact hr) N (by simpa using hN)
        rw [List.length_append, List.length_singleton, ← hKK] at this
        exact this
/-- the reference takes the best order for its row -/
theorem e8_l29 (hL : zLay S) {R : List Nat} (hR5 : R.length ≤ 5) (hmany : w 255 16 = ii R.length) (hrow : zRow (w 263) R) : ∃ w', f_X8_retrieveAll_l29 S 255 (0, w) = ((f_X8_goes S w' 255).bind fun r10 => (f_X8_ends S r10.2 255 (r10.2 255 20)).bind fun r12 => some (r12.1, r12.2)) ∧ zRow (w' 262) R ∧ ∀ j, j ≠ 262 → w' j = w j := by
  have hs : ∀ (kk : (Int32 × Zw) → Option (Int32 × Zw)) (i : Nat) (x : Int32 × Zw), i < R.length → (x.1 = ii i ∧ (∀ j, j < i → x.2 262 j = w 263 j) ∧ ∀ j, j ≠ 262 → x.2 j = w j) →
      ∃ x' : Int32 × Zw, (x'.1 = ii (i + 1) ∧ (∀ j, j < i + 1 → x'.2 262 j = w 263 j) ∧ ∀ j, j ≠ 262 → x'.2 j = w j) ∧ f_X8_retrieveAll_b29 S 255 kk x.1 x.2 = kk x' := by
    rintro kk i ⟨x, u⟩ hi ⟨rfl, h1, h2⟩
    have h1 : ∀ j, j < i → u 262 j = w 263 j := h1
    have h2 : ∀ j, j ≠ 262 → u j = w j := h2
    refine ⟨(ii (i + 1), zput u 262 i (w 263 i)), ⟨rfl, fun j hj => ?_, fun j hj => ?_⟩, ?_⟩
    · dsimp only
      rw [zput_at]
      by_cases e : j = i
      · subst e
        rw [upd_at]
      · rw [upd_ne e, h1 j (by omega)]
    · dsimp only
      rw [zput_ne hj, h2 j hj]
    · show f_X8_retrieveAll_b29 S 255 kk (ii i) u = _
      unfold f_X8_retrieveAll_b29
      rw [h2 255 (by omega), hmany, if_neg (by rw [ii_le (by omega) (by omega)]; omega), zt255_15 hL, zt255_14 hL, ztl263 hL, ztl262 hL, if_pos (zin_t (by omega) (by omega)), if_pos (zin_t (by omega) (by omega)), zix_ii (by omega), h2 263 (by omega), zlet_eq, ii_succ]
  obtain ⟨⟨x, u⟩, KK, ⟨rfl, h1, h2⟩, e⟩ := zlp_to (F := fun kk x => f_X8_retrieveAll_b29 S 255 kk x.1 x.2) R.length (fun i x => x.1 = ii i ∧ (∀ j, j < i → x.2 262 j = w 263 j) ∧ ∀ j, j ≠ 262 → x.2 j = w j) hs R.length 0 (0, w) (by omega) ⟨rfl, fun j hj => absurd hj (Nat.not_lt_zero j), fun _ _ => rfl⟩ zFU (by unfold zFU; omega)
  have h1 : ∀ j, j < R.length → u 262 j = w 263 j := h1
  have h2 : ∀ j, j ≠ 262 → u j = w j := h2
  unfold f_X8_retrieveAll_l29
  rw [e]
  refine ⟨u, ?_, fun j hj => by rw [h1 j hj, hrow j hj], h2⟩
  show f_X8_retrieveAll_b29 S 255 KK (ii R.length) u = _
  unfold f_X8_retrieveAll_b29
  rw [h2 255 (by omega), hmany, if_pos (by rw [ii_le (by omega) (by omega)]; omega)]
theorem P_retrieveAll (hL : zLay S) (hB : B + 10 ≤ B') (hB9 : B < 999900) (h : INV B w) (a : Int64) : Pair B' (f_X7_retrieveAll S w 1 a) (fun w1 => f_X8_retrieveAll S w1 255 a) tabS := by
  obtain ⟨n, k, v, hI, hv, hS⟩ := IG_get h
  have hn := zI_n hI.1
  obtain ⟨c1, c2, c3⟩ := c7_checkSet (S := S) hL hS hI a
  by_cases hs : pSet (w 256) n a
  · by_cases h5 : cb (tb a) 64 ≤ 5
    · obtain ⟨w1, -, -, a1, a2, a3, a4, -, -, -, -, -, hIw1, -⟩ := o_found (S := S) hL h hB9 hs hI hv h5
      have w16 : w1 256 = w 256 := a4 256 (by omega)
      have hlen64 : (wls (tb a) 40).length = cb (tb a) 64 := by rw [wls_len, cb_set hs hn]
      have hbc : f_J13_bitCount_95d88 a = ii (wls (tb a) 40).length := by rw [bitCount_cb, hlen64]
      have hlt5 : (wls (tb a) 40).length ≤ 5 := by omega
      have hne : wls (tb a) 40 ≠ [] := by
        obtain ⟨i, hi, hb⟩ := tb_ne hs.1
        have := (hs.2 i hi hb).1
        exact List.ne_nil_of_mem ((wls_mem (tb a) 40 i).mpr ⟨by omega, hb⟩)
      have hmem : ∀ c, c ∈ wls (tb a) 40 → c < n ∧ w 256 (139 + 4 * c + 2) ≠ -1 := by
        intro c hc
        obtain ⟨q1, q2⟩ := (wls_mem _ _ _).mp hc
        exact hs.2 c (by omega) q2
      have ref : ∀ r : Zw, r 256 = w 256 → ∃ ra rb, f_X8_isSet S r 255 a = some (1, ra) ∧ f_X8_isFound S ra 255 = some (if (pBest (wls (tb a) 40) (w 256)).1 = 0 then 0 else 1, rb) ∧ AccR rb (wls (tb a) 40).length (pBest (wls (tb a) 40) (w 256)) ∧ rb 256 = w 256 ∧ rb 255 16 = ii (wls (tb a) 40).length ∧ (∀ j, j ≠ 255 → j ≠ 258 → j ≠ 261 → j ≠ 262 → j ≠ 263 → rb j = r j) ∧ (∀ i, i ≠ 0 → i ≠ 8 → i ≠ 9 → (i < 16 ∨ 21 ≤ i) → rb 255 i = r 255 i) ∧ rb 255 0 = 0 := by
        intro r hr
        obtain ⟨ra, b1, b2, b3, b4, b5, b6⟩ := (e8_isSet (S := S) (w := r) hL (by rw [hr]; exact hI.1) a).1 (by rw [hr]; exact hs) h5
        have ra6 : ra 256 = w 256 := by rw [b6 256 (by omega) (by omega), hr]
        obtain ⟨rb, d1, d2, d3⟩ := e8_isFound (S := S) (w := ra) (L := wls (tb a) 40) hL (by rw [ra6]; exact hI) (show v < 999900 by omega) (by rw [ra6]; exact hmem) hne hlt5 b3 b4
        rw [ra6] at d1 d2
        refine ⟨ra, rb, b1, d1, d2, ?_, ?_, fun j p q r t u => ?_, fun i p q r t => ?_, ?_⟩
        · rw [d3.1 256 (by omega) (by omega) (by omega) (by omega), ra6]
        · rw [d3.2 16 (by omega) (by omega) (by omega), b3]
        · rw [d3.1 j p q t u, b6 j p r]
        · rw [d3.2 i q r (by omega), b5 i p (by omega)]
        · rw [d3.2 0 (by omega) (by omega) (by omega), b2]
      by_cases h0 : (pBest (wls (tb a) 40) (w 256)).1 = 0
      · rw [if_pos h0] at a1
        obtain ⟨r1, b1, b2, b3, b4, b5⟩ := e8_begins (S := S) (w := w1) hL
        obtain ⟨ra, rb, d1, d2, d3, d4, d5, d6, d7, d8⟩ := ref r1 (by rw [b5 256 (by omega) (by omega), w16])
        rw [if_pos h0] at d2
        have hk : zKeep w1 rb := (zKeep_begins b3 b5).trans (zKeep_55 (fun j hj => d6 j (by omega) (by omega) (by omega) (by omega) (by omega)) (fun i hi => d7 i (by omega) (by omega) (by omega) (by omega)) (fun j hj => by
          by_cases e : j = 256
          · subst e
            rw [d4, b5 256 (by omega) (by omega), w16]
          · exact d6 j (by omega) (by omega) (by omega) (by omega) (by omega)))
        have hIb : INV B rb := INV_keep (Nat.le_refl B) hIw1 (zPa_o hIw1.2.2.1 (fun j hj => by rw [d6 j (by omega) (by omega) (by omega) (by omega) (by omega), b5 j (by omega) (by omega)])) hk
        refine Or.inr ⟨"java/util/NoSuchElementException", 3, w1, 0, zput rb 255 0 3, ?_, ?_, by simp, by rw [zput_at, upd_at], INV_le (by omega) (INV_thr hIb 3)⟩
        · unfold f_X7_retrieveAll f_X7_checkPossible
          rw [c1 hs h5, zbx_inl, zt1_4 hL, zt1_0 hL, a1, zbs, if_pos rfl, zbx_inr]
        · dsimp only
          unfold f_X8_retrieveAll
          rw [b1, zbs]
          dsimp only
          rw [d1, zbs, if_neg (show ¬ (1 : Int32) = 0 by decide), d2, zbs, if_pos rfl, e8_fails, zbs]
      · rw [if_neg h0] at a1
        obtain ⟨g6, g10, gb⟩ := a2
        obtain ⟨gb1, gb2, gb3⟩ := gb h0
        rcases (pBest_gd (L := wls (tb a) 40) (s0 := w 256)) with q | ⟨st, o1, o2, o3, o4, o5⟩
        · exact absurd q h0
        generalize hacc : pBest (wls (tb a) 40) (w 256) = acc at *
        have hRn : ∀ c, c ∈ acc.2.2 → c < n ∧ w 256 (139 + 4 * c + 2) ≠ -1 := fun c hc => hmem c (o4 c hc)
        have hR5 : acc.2.2.length ≤ 5 := by omega
        have hop : ∀ wd r, Sh wd 2 (w1 256) → r 256 = w1 256 → zPa wd → (∀ j, j < 36 ∨ 148 ≤ j → wd j = w1 j) → (∀ i, i ≠ 0 → r 255 i = w1 255 i) → (∀ j, 258 ≤ j → r j = w1 j) → (r 255 0 = 0) → ∃ (y : Unit) (x : Int32) (wo r2 : Zw), (zfa S acc.2.2 wd) = some (y, wo) ∧ (∃ ra rb, f_X8_isSet S r 255 a = some (1, ra) ∧ f_X8_isFound S ra 255 = some (1, rb) ∧ f_X8_retrieveAll_l29 S 255 (0, rb) = (f_X8_ends S r2 255 x).bind fun r12 => some (r12.1, r12.2)) ∧ x = acc.2.1 ∧ pOK B' (r2 256) ∧ Sh wo 2 (r2 256) ∧ (∀ j, j < 2 ∨ 18 ≤ j → wo j = wd j) ∧ zE9 r r2 := by
          intro wd r hwd hr _ _ _ _ hr0
          rw [w16] at hwd hr
          obtain ⟨wo, z1, z2, z3, z4, -⟩ := c7_zfa (S := S) (n := n) (R := acc.2.2) (v0 := v) hL (fun c hc => (hRn c hc).1) o5 hR5 (show v < 999900 by omega) acc.2.2 [] (w 256, 0, 0) st wd rfl ⟨k, v, hI, Nat.le_add_right _ _, Nat.zero_le _, Nat.zero_le _, Nat.zero_le _, rfl, fun c hc => ⟨fun q => absurd q (hRn c hc).2, fun q => absurd q List.not_mem_nil⟩⟩ hwd o1
          obtain ⟨ra, rb, d1, d2, d3, d4, d5, d6, d7, d8⟩ := ref r hr
          rw [if_neg h0] at d2
          obtain ⟨d31, d32, d33⟩ := d3
          obtain ⟨rc, e1, e2, e3⟩ := e8_l29 (S := S) (w := rb) (R := acc.2.2) hL hR5 (by rw [d5, gb3]) (d33 h0).2.1
          have rc6 : rc 256 = w 256 := by rw [e3 256 (by omega), d4]
          rcases e8_goes (S := S) (w := rc) (R := acc.2.2) (n := n) (k := k) (v := v) hL (by rw [rc6]; exact hI) (by omega) (by rw [rc6]; exact hRn) o5 hR5 (by rw [e3 255 (by omega), d5, gb3]) e2 with ⟨p1, -⟩ | ⟨st', r2, p1, p2, p3, p4, p5, p6, p7⟩
          · rw [rc6, o1] at p1
            cases p1
          · rw [rc6, o1] at p1
            have e9 : st' = st := (Option.some.inj p1).symm
            subst e9
            refine ⟨(), acc.2.1, wo, r2, z1, ⟨ra, rb, d1, d2, ?_⟩, rfl, by rw [p3]; exact pOK_le (by omega) z3, by rw [p3]; exact z2, z4, ⟨fun j hj => ?_, fun i hi => ?_⟩⟩
            · rw [e1, p2, zbs]
              dsimp only
              rw [p5, o3]
            · rw [p6.1 j (by omega) (by omega), e3 j (by omega), d6 j (by omega) (by omega) (by omega) (by omega) (by omega)]
            · by_cases e0 : i = 0
              · subst e0
                rw [p6.2.1 0 (by omega) (by omega) (by omega) (by omega), e3 255 (by omega), d8, hr0]
              · rw [p6.2.1 i (by omega) (by omega) (by omega) (by omega), e3 255 (by omega), d7 i e0 (by omega) (by omega) (by omega)]
        obtain ⟨wd, wo, wk, r1, r2, r3, y, x, t1, t2, t3, t4, ⟨ra, rb, t5, t6, t7⟩, t8, t9, t10, t11, t12, -⟩ := chg_run9 (S := S) (B' := B') hL (show B ≤ B' by omega) hIw1 (zfa S acc.2.2) (fun r x r2 => ∃ ra rb, f_X8_isSet S r 255 a = some (1, ra) ∧ f_X8_isFound S ra 255 = some (1, rb) ∧ f_X8_retrieveAll_l29 S 255 (0, rb) = (f_X8_ends S r2 255 x).bind fun r12 => some (r12.1, r12.2)) (fun y x => x = acc.2.1) hop
        obtain ⟨wd', cnt, -, -, s1, -, s3, s4, s5, -⟩ := c7_pre (S := S) hL hIw1
        have ewd : wd' = wd := congrArg Prod.snd (Option.some.inj (s1.symm.trans t1))
        subst ewd
        rw [w16] at s5
        obtain ⟨wo', z1, z2, z3, z4, z5⟩ := c7_zfa (S := S) (n := n) (R := acc.2.2) (v0 := v) hL (fun c hc => (hRn c hc).1) o5 hR5 (show v < 999900 by omega) acc.2.2 [] (w 256, 0, 0) st wd' rfl ⟨k, v, hI, Nat.le_add_right _ _, Nat.zero_le _, Nat.zero_le _, Nat.zero_le _, rfl, fun c hc => ⟨fun q => absurd q (hRn c hc).2, fun q => absurd q List.not_mem_nil⟩⟩ s5 o1
        have ewo : wo' = wo := congrArg Prod.snd (Option.some.inj (z1.symm.trans t2))
        subst ewo
        have hz5 := z5 (by rw [s4 152 (by omega)]; exact gb2) zFU (by unfold zFU; omega)
        have hz5 : f_X7_retrieveAll_l40 S 1 (ii acc.2.2.length) (0, wd') = _ := hz5
        have k148 : wk 148 7 = acc.2.1 := by
          have hk34 : ∀ j, j ≠ 34 → wk j = wo' j := by
            intro j hj
            have := t3
            unfold f_X2_keepDraft at this
            rw [zlet_eq, zlet_eq] at this
            have e := congrArg Prod.snd (Option.some.inj this)
            dsimp only at e
            rw [← e, zput_ne hj, zput_ne hj]
          rw [hk34 148 (by omega), z4 148 (by omega), s4 148 (by omega), gb1]
        refine Or.inl ⟨acc.2.1, wk, r3, ?_, ?_, t10, t11⟩
        · unfold f_X7_retrieveAll f_X7_checkPossible
          rw [c1 hs h5, zbx_inl, zt1_4 hL, zt1_0 hL, a1, zbs, if_neg (show ¬ (1 : Int32) = 0 by decide), zbx_inl, zt1_3 hL, t1, zbs, zlet_eq, hbc, ← gb3, hz5, t3, zbs]
          unfold f_X5_endOfBest
          dsimp only
          rw [k148]
        · dsimp only
          unfold f_X8_retrieveAll
          rw [t4, zbs]
          dsimp only
          rw [t5, zbs, if_neg (show ¬ (1 : Int32) = 0 by decide), t6, zbs, if_neg (show ¬ (1 : Int32) = 0 by decide), t7, t8, zbs, t9]
    · obtain ⟨r1, b1, b2, b3, b4, b5⟩ := e8_begins (S := S) (w := w) hL
      have hr1 : r1 256 = w 256 := b5 256 (by omega) (by omega)
      have d2 := (e8_isSet (S := S) (w := r1) hL (by rw [hr1]; exact hI.1) a).2.1 (by rw [hr1]; exact hs) h5
      refine Or.inr ⟨"java/lang/IllegalArgumentException", 2, w, 0, zput r1 255 0 2, ?_, ?_, by simp, by rw [zput_at, upd_at], INV_le (by omega) (e8_ref h ⟨b2, b3, b4, b5⟩ 2)⟩
      · unfold f_X7_retrieveAll
        rw [c2 hs h5, zbx_inr]
      · dsimp only
        unfold f_X8_retrieveAll
        rw [b1, zbs]
        dsimp only
        rw [d2, zbs, if_pos rfl]
  · obtain ⟨r1, b1, b2, b3, b4, b5⟩ := e8_begins (S := S) (w := w) hL
    have hr1 : r1 256 = w 256 := b5 256 (by omega) (by omega)
    have d3 := (e8_isSet (S := S) (w := r1) hL (by rw [hr1]; exact hI.1) a).2.2 (by rw [hr1]; exact hs)
    refine Or.inr ⟨"java/lang/IndexOutOfBoundsException", 1, w, 0, zput r1 255 0 1, ?_, ?_, by simp, by rw [zput_at, upd_at], INV_le (by omega) (e8_ref h ⟨b2, b3, b4, b5⟩ 1)⟩
    · unfold f_X7_retrieveAll
      rw [c3 hs, zbx_inr]
    · dsimp only
      unfold f_X8_retrieveAll
      rw [b1, zbs]
      dsimp only
      rw [d3, zbs, if_pos rfl]
end ZRA
