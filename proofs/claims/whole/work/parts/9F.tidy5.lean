/-! TIDYING, both sides together. -/
section ZT5
variable {S : Zs} {w : Zw} {B B' n k v : Nat} {s : Nat → Int32}
theorem cb_le (p : Nat → Bool) (m : Nat) : cb p m ≤ m := by
  induction m with
  | zero => exact Nat.le_refl 0
  | succ m ih =>
    show cb p m + (if p m = true then 1 else 0) ≤ m + 1
    split <;> omega
theorem P_tidy (hL : zLay S) (hB : B + 30 ≤ B') (hB9 : B < 999900) (h : INV B w) : ∃ x w1 w2, f_X7_tidy S w 1 = some (x, w1) ∧ f_X8_tidy S w1 255 = some (x, w2) ∧ INV B' w2 := by
  obtain ⟨n, k, v, hI, hv, hS⟩ := IG_get h
  have hn := zI_n hI.1
  have hLm : ∀ b, b ∈ pLb (w 256) 30 → b < 60 ∧ b % 2 = 1 := by
    intro b hb
    obtain ⟨i, h1, h2, -⟩ := (pLb_mem _ _ _).mp hb
    omega
  have hLl := pLb_len (w 256) 30
  have hv0 : v + 40 < 999990 := by omega
  obtain ⟨hTI, hTl⟩ := pTd_I (n := n) (k := k) (v0 := v) (pLb (w 256) 30) (w 256, 0) hI hLm (by show v + 0 + _ < _; omega)
  obtain ⟨T, hT⟩ : ∃ T, T = pTd (pLb (w 256) 30) (w 256, 0) := ⟨_, rfl⟩
  rw [← hT] at hTI hTl
  have hTl : T.2 ≤ 30 := by
    have : T.2 ≤ 0 + (pLb (w 256) 30).length := hTl
    omega
  have hop : ∀ wd r, Sh wd 2 (w 256) → r 256 = w 256 → zPa wd → (∀ j, j < 36 ∨ 148 ≤ j → wd j = w j) → (∀ i, i ≠ 0 → r 255 i = w 255 i) → (∀ j, 258 ≤ j → r j = w j) → (r 255 0 = 0) → ∃ (y : Int32) (x : Int32) (wo r2 : Zw), f_X1_tidyUp S wd 2 = some (y, wo) ∧ (f_X8_tidy_l8 S 255 (0, 1, r) = (f_X8_ends S r2 255 x).bind fun r5 => some (r5.1, r5.2)) ∧ y = x ∧ pOK B' (r2 256) ∧ Sh wo 2 (r2 256) ∧ (∀ j, j < 2 ∨ 18 ≤ j → wo j = wd j) ∧ zE9 r r2 := by
    intro wd r hwd hr _ _ _ _ hr0
    have hG := zG2 hL
    have hR := R_Sh hI.1 hwd
    have hcb : cb (tb (pBkM (w 256) n 1)) n ≤ 40 := by
      have := cb_le (tb (pBkM (w 256) n 1)) n
      omega
    obtain ⟨u, l1, l2, l3⟩ := c7_list (S := S) (w := wd) (n := n) (g := 2) (ra := 9) (len := 40) (a := pBkM (w 256) n 1) (pk := fun c => w 256 (139 + 4 * c + 1)) hG (by omega) (by omega) (zgl7 hG) (by omega) (hR.2.2.2.1.1.trans hI.1.1) hn (fun c hc => (hR.2.2.1 c hc).2.1) hcb
    rw [tidy_eq hI.1] at l2
    have hlen : (pLb (w 256) 30).length = cb (tb (pBkM (w 256) n 1)) n := by
      have := (pIns_fold (fun c => w 256 (139 + 4 * c + 1)) (wls (tb (pBkM (w 256) n 1)) n) []).2
      rw [tidy_eq hI.1, List.length_map, wls_len] at this
      rw [this]
      exact Nat.zero_add _
    have hRu : RG u 2 (w 256) (n + k + v) := RG_w7 (fun j a b c => l3 j (by omega)) hR
    obtain ⟨wo, t1, t2, t3⟩ := c7_td (S := S) (n := n) (k := k) (v0 := v) (s0 := w 256) (z1 := wd 2 10) hL (L := pLb (w 256) 30) (by omega) hv0 (pLb (w 256) 30) [] (w 256, 0) u rfl hI (Nat.le_refl _) hRu l2 (fun b hb => by
      obtain ⟨b1, b2⟩ := hLm b hb
      obtain ⟨i, -, -, b3⟩ := (pLb_mem _ _ _).mp hb
      unfold pWr at b3
      simp only [Bool.and_eq_true, decide_eq_true_eq] at b3
      obtain ⟨q1, q2, q3⟩ := zI_cOf hI.1 b1 b3.1
      exact ⟨b1, b2, q1, q2⟩) zFU (by unfold zFU; omega)
    rw [← hT] at t2
    have t1 : f_X1_tidyUp_l21 S 2 (wd 2 10) (ii (pLb (w 256) 30).length) (0, u) = some ((wo 2 10) - wd 2 10, wo) := t1
    have hI8 : zI (r 256) n k v := by rw [hr]; exact hI.1
    obtain ⟨r1, p1, p2, p3⟩ := e8_l8 (S := S) (w := r) hL hI8
    rw [hr] at p1 p2
    obtain ⟨r2, q1, q2, q3⟩ := e8_td (S := S) (n := n) (k := k) (v0 := v) hL (L := pLb (w 256) 30) (by omega) hv0 (pLb (w 256) 30) [] (w 256, 0) r1 rfl hI (Nat.le_refl _) (by rw [p3 256 (by omega), hr]) p2 hLm zFU (by unfold zFU; omega)
    rw [← hT] at q1 q2
    have q1 : f_X8_tidy_l87 S 255 (ii (pLb (w 256) 30).length) (0, 0, r1) = (f_X8_ends S r2 255 (ii T.2)).bind (fun r5 => some (r5.1, r5.2)) := q1
    refine ⟨(wo 2 10) - wd 2 10, ii T.2, wo, r2, ?_, ?_, ?_, ?_, ?_, ?_, ?_⟩
    · unfold f_X1_tidyUp
      rw [zlet_eq, c7_blocked hG hR hI.1, zbs, zg0_6 hG, l1, zbs]
      dsimp only
      rw [← hlen, t1]
    · rw [p1, q1]
    · have h3 : wo 2 10 = ii (v + T.2) := t2.2.2.2.1.2.2.1.trans hTI.1.2.2.1
      have h4 : wd 2 10 = ii v := hR.2.2.2.1.2.2.1.trans hI.1.2.2.1
      rw [h3, h4, ← ii_add]
      grind
    · rw [q2]
      exact ⟨n, k, v + T.2, hTI, by omega⟩
    · rw [q2]
      exact Sh_R hTI.1 t2
    · intro j hj
      rw [t3 j hj, l3 j (by omega)]
    · refine zE9.trans (⟨fun j hj => p3 j (by omega), fun i _ => by rw [p3 255 (by omega)]⟩) (zE8_9 q3)
  obtain ⟨wd, wo, wk, r1, r2, r3, y, x, t1, t2, t3, t4, t5, t6, t7, t8, t9, -⟩ := chg_run9 (S := S) (B' := B') hL (show B ≤ B' by omega) h (fun wd => f_X1_tidyUp S wd 2) (fun r x r2 => f_X8_tidy_l8 S 255 (0, 1, r) = (f_X8_ends S r2 255 x).bind fun r5 => some (r5.1, r5.2)) (fun y x => y = x) hop
  subst t7
  refine ⟨y, wk, r3, ?_, ?_, t9⟩
  · unfold f_X7_tidy
    rw [zt1_3 hL, zt1_0 hL, t1, zbs]
    dsimp only
    rw [t2, zbs]
    dsimp only
    rw [t3, zbs]
  · unfold f_X8_tidy
    rw [t4, zbs]
    dsimp only
    rw [t5, t6, zbs]
end ZT5
