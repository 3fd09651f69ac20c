/-! ALL COMMANDS carried out on both sides. -/
section ZRU
variable {S : Zs} {w u r : Zw} {B B' n k v : Nat} {s t : Nat → Int32} {len p i : Nat}
def zEp (r r2 : Zw) : Prop := (∀ j, j ≠ 255 → j ≠ 256 → j ≠ 266 → r2 j = r j) ∧ ∀ q, q ≠ 8 → q ≠ 9 → q ≠ 25 → q ≠ 26 → r2 255 q = r 255 q
theorem zEp_trans {a b c : Zw} (h : zEp a b) (h' : zEp b c) : zEp a c := ⟨fun j x y z => (h'.1 j x y z).trans (h.1 j x y z), fun q x y z t => (h'.2 q x y z t).trans (h.2 q x y z t)⟩
theorem zEp_P {a b : Zw} (h : zPf a b) : zEp a b := ⟨fun j x y z => h.1 j x z, fun q x y z t => h.2 q z t⟩
theorem zEp_8 {a b : Zw} (h : zE8 a b) : zEp a b := ⟨fun j x y z => h.1 j x y, fun q x y z t => h.2 q x y⟩
def zFx (u uo r r2 : Zw) : Prop := zPac uo 2 ∧ (∀ j, j ≠ 1 → j ≠ 254 → (j < 2 ∨ 18 ≤ j) → uo j = u j) ∧ (∀ q, q ≠ 7 → uo 1 q = u 1 q) ∧ (∀ j, j ≠ 255 → j ≠ 256 → j ≠ 266 → r2 j = r j) ∧ (∀ q, q ≠ 0 → q ≠ 8 → q ≠ 9 → q ≠ 25 → q ≠ 26 → (q < 10 ∨ 13 ≤ q) → r2 255 q = r 255 q) ∧ ((uo 1 7 = u 1 7 ∧ uo 254 = u 254 ∧ ∀ q, 10 ≤ q → q < 13 → r2 255 q = r 255 q) ∨ (uo 1 7 = 1 ∧ 0 ≤ r2 255 10 ∧ uo 254 0 = r2 255 10 ∧ uo 254 1 = r2 255 11 ∧ uo 254 2 = r2 255 12))
theorem zFx_trans {u u1 uo r r1 r2 : Zw} (hu : ∀ j, j < 2 ∨ 18 ≤ j → u1 j = u j) (hr : zEp r r1) (h : zFx u1 uo r1 r2) : zFx u uo r r2 := by
  obtain ⟨h1, h2, h3, h4, h5, h6⟩ := h
  refine ⟨h1, fun j a b c => by rw [h2 j a b c, hu j c], fun q a => by rw [h3 q a, hu 1 (by omega)], fun j a b c => by rw [h4 j a b c, hr.1 j a b c], fun q a b c d e f => by rw [h5 q a b c d e f, hr.2 q b c d e], ?_⟩
  rcases h6 with ⟨a, b, c⟩ | h6
  · exact Or.inl ⟨by rw [a, hu 1 (by omega)], by rw [b, hu 254 (by omega)], fun q x y => by rw [c q x y, hr.2 q (by omega) (by omega) (by omega) (by omega)]⟩
  · exact Or.inr h6
theorem zFl_x {uo r2 : Zw} (hR : zPac u 2) (h : zFl u uo r r2) : zFx u uo r r2 ∧ r2 255 0 ≠ 0 := by
  rcases h with ⟨rfl, e, he, rfl⟩ | ⟨c, y, z, hc, rfl, rfl⟩
  · exact ⟨⟨hR, fun _ _ _ _ => rfl, fun _ _ => rfl, fun j a b c => zput_ne a, fun q a _ _ _ _ _ => by rw [zput_at, upd_ne a], Or.inl ⟨rfl, rfl, fun q a b => by rw [zput_at, upd_ne (by omega)]⟩⟩, by rw [zput_at, upd_at]; exact he⟩
  · refine ⟨⟨zPac_w (fun j a b => zRep_o (by omega) (by omega)) hR, fun j a b _ => zRep_o a b, fun q a => ?_, fun j a b d => by rw [zput_ne a, zRe8_o a], fun q a _ _ _ _ f => by rw [zput_at, upd_ne a, zRe8_5 f], Or.inr ⟨?_, ?_, ?_, ?_, ?_⟩⟩, by rw [zput_at, upd_at]; decide⟩
    · unfold zRep
      rw [zput_at, upd_ne a, zput_ne (by omega), zput_ne (by omega), zput_ne (by omega)]
    · unfold zRep
      rw [zput_at, upd_at]
    · unfold zRe8
      simp (disch := omega) only [zput_at, upd_ne, upd_at]
      exact ii_nn (by omega)
    · unfold zRe8 zRep
      simp (disch := omega) only [zput_at, zput_ne, upd_ne, upd_at]
    · unfold zRe8 zRep
      simp (disch := omega) only [zput_at, zput_ne, upd_ne, upd_at]
    · unfold zRe8 zRep
      simp (disch := omega) only [zput_at, zput_ne, upd_ne, upd_at]
theorem pPar_some {m : Nat} {a : Zcm} (hlp : ¬ len ≤ p) (ec : (pCmd t len p).2 = some a) : pPar t len (m + 1) p = pCon a (pPar t len m (pCmd t len p).1) := by
  show (if len ≤ p then _ else _) = _
  rw [if_neg hlp, ec]
theorem pPar_none {m : Nat} (hlp : ¬ len ≤ p) (ec : (pCmd t len p).2 = none) : pPar t len (m + 1) p = ((pCmd t len p).1, none) := by
  show (if len ≤ p then _ else _) = _
  rw [if_neg hlp, ec]
theorem run_all (hL : zLay S) (hl : len ≤ 60) (m : Nat) : ∀ (i p : Nat) (L : List Zcm) (u r : Zw) (n k v : Nat), i + m = 20 → 3 * i ≤ p → p ≤ len → (pPar (r 265) len m p).2 = some L → zCm u i L → u 249 6 = ii (i + L.length) → zI9 (r 256) n k v → RG u 2 (r 256) (n + k + v) → v + m < 999990 → r 255 0 = 0 → r 255 26 = 0 → r 255 24 = ii len → r 255 25 = ii p → ∀ N, m < N →
    (∃ uo r2 n' k' v', zlp (fun kk a => f_X7_perform_b38 S 1 kk a.1 a.2) N (ii i, u) = (f_X2_keepDraft S uo 34).bind (fun r9 => some (.inl (f_X0_commands S r9.2 249), r9.2)) ∧ zlp (fun kk a => f_X8_perform_b72 S 255 kk a.1 a.2) N (ii i, r) = (f_X8_ends S (zput r2 255 24 0) 255 (ii (i + L.length))).bind (fun r12 => some (r12.1, r12.2)) ∧ zI9 (r2 256) n' k' v' ∧ v' ≤ v + m ∧ RG uo 2 (r2 256) (n' + k' + v') ∧ (∀ j, j < 2 ∨ 18 ≤ j → uo j = u j) ∧ zEp r r2) ∨
    (∃ uo r2, zlp (fun kk a => f_X7_perform_b38 S 1 kk a.1 a.2) N (ii i, u) = (f_X2_returnToDraft S uo 34 2).bind (fun r20 => some (.inr "java/lang/UnsupportedOperationException", r20.2)) ∧ zlp (fun kk a => f_X8_perform_b72 S 255 kk a.1 a.2) N (ii i, r) = (f_X8_copies S r2 257 0 256 0).bind (fun r19 => zlet (zput r19.2 255 24 0) fun w21 => (f_X8_fails S w21 255 1).bind fun r22 => some (r22.1, r22.2)) ∧ zFx u uo r r2) := by
  induction m with
  | zero =>
    intro i p L u r n k v hi h3 hp hL0 hC h6 hI hR hv r0 r26 r24 r25 N hN
    obtain ⟨N, rfl⟩ : ∃ N', N = N' + 1 := ⟨N - 1, by omega⟩
    have e : [] = L := Option.some.inj hL0
    subst e
    refine Or.inl ⟨u, r, n, k, v, ?_, ?_, hI, by omega, hR, fun _ _ => rfl, fun _ _ _ _ => rfl, fun _ _ _ _ _ => rfl⟩
    · show f_X7_perform_b38 S 1 _ (ii i) u = _
      unfold f_X7_perform_b38
      have : f_X0_commands S u 249 = ii i := h6
      rw [zt1_5 hL, zt1_3 hL, this, if_pos (by rw [ii_le (by omega) (by omega)]; omega)]
    · show f_X8_perform_b72 S 255 _ (ii i) r = _
      unfold f_X8_perform_b72
      rw [r24, r25, if_pos (by rw [ii_le (by omega) (by omega)]; omega), zlet_eq]
      rfl
  | succ m ih =>
    intro i p L u r n k v hi h3 hp hL0 hC h6 hI hR hv r0 r26 r24 r25 N hN
    obtain ⟨N, rfl⟩ : ∃ N', N = N' + 1 := ⟨N - 1, by omega⟩
    have hF7 : zlp (fun kk a => f_X7_perform_b38 S 1 kk a.1 a.2) (N + 1) (ii i, u) = f_X7_perform_b38 S 1 (zlp (fun kk a => f_X7_perform_b38 S 1 kk a.1 a.2) N) (ii i) u := rfl
    have hF8 : zlp (fun kk a => f_X8_perform_b72 S 255 kk a.1 a.2) (N + 1) (ii i, r) = f_X8_perform_b72 S 255 (zlp (fun kk a => f_X8_perform_b72 S 255 kk a.1 a.2) N) (ii i) r := rfl
    rw [hF7, hF8]
    have h6 : f_X0_commands S u 249 = ii (i + L.length) := h6
    have hLl := pPar_len (t := r 265) (len := len) (m + 1) p L hL0
    by_cases hlp : len ≤ p
    · have e : [] = L := by
        unfold pPar at hL0
        rw [if_pos hlp] at hL0
        exact Option.some.inj hL0
      subst e
      refine Or.inl ⟨u, r, n, k, v, ?_, ?_, hI, by omega, hR, fun _ _ => rfl, fun _ _ _ _ => rfl, fun _ _ _ _ _ => rfl⟩
      · unfold f_X7_perform_b38
        have h6 : f_X0_commands S u 249 = ii i := h6
        rw [zt1_5 hL, zt1_3 hL, h6, if_pos (by rw [ii_le (by omega) (by omega)]; omega)]
      · unfold f_X8_perform_b72
        rw [r24, r25, if_pos (by rw [ii_le (by omega) (by omega)]; omega), zlet_eq]
        rfl
    · cases ec : (pCmd (r 265) len p).2 with
      | none => rw [pPar_none hlp ec] at hL0; cases hL0
      | some a =>
        rw [pPar_some hlp ec] at hL0
        have hL0 : (pPar (r 265) len m (pCmd (r 265) len p).1).2.map (a :: ·) = some L := hL0
        cases e2 : (pPar (r 265) len m (pCmd (r 265) len p).1).2 with
        | none => rw [e2] at hL0; cases hL0
        | some L' =>
          rw [e2] at hL0
          have e3 : a :: L' = L := Option.some.inj hL0
          subst e3
          rw [List.length_cons] at h6 hLl
          obtain ⟨c1, c2, c3, c4, c5⟩ := pCmd_ok ec
          obtain ⟨kk, r1, g1, g2, g3, g4, g5⟩ := e8_cmd (S := S) (w := r) (len := len) (p := p) hL r26 r24 hl r25 hp
          rw [ec] at g3
          obtain ⟨k1, k2, k3⟩ := g5 a ec
          obtain ⟨⟨y1, y2, y3⟩, y4⟩ := hC
          have r16 : r1 256 = r 256 := g4.1 256 (by omega) (by omega)
          have hz : zin (ii i) 20 = true := zin_t (by omega) (by omega)
          have hx : zix (ii i) = i := zix_ii (by omega)
          have h7 : ∀ K, f_X7_perform_b38 S 1 K (ii i) u = (f_X7_carryOut S u 1 a.1 (u 252 i) a.2.2).bind fun r17 => if r17.1 = 0 then (f_X2_returnToDraft S r17.2 34 2).bind fun r20 => some (.inr "java/lang/UnsupportedOperationException", r20.2) else K (ii (i + 1), r17.2) := by
            intro K
            unfold f_X7_perform_b38 f_X0_kindOf f_X0_sizeOf f_X0_numberOf
            rw [zt1_5 hL, h6, if_neg (by rw [ii_le (by omega) (by omega)]; omega), zt249_1 hL, ztl251 hL, if_pos hz, hx, y1, if_pos (pKd_ok c3).2.1, zbs, zt249_2 hL, ztl252 hL, if_pos hz, zbs, zt249_3 hL, ztl253 hL, if_pos hz, y3, zbs, zt1_0 hL, zt1_3 hL, ii_succ]
          have h8 : ∀ K, f_X8_perform_b72 S 255 K (ii i) r = (f_X8_carriesOut S r1 255 a.1).bind fun r16 => if (r16.2 255 0) = 0 then K (ii (i + 1), r16.2) else (f_X8_copies S r16.2 257 0 256 0).bind fun r19 => zlet (zput r19.2 255 24 0) fun w21 => (f_X8_fails S w21 255 1).bind fun r22 => some (r22.1, r22.2) := by
            intro K
            unfold f_X8_perform_b72
            rw [r24, r25, if_neg (by rw [ii_le (by omega) (by omega)]; omega), g1, zbs, k1, zt255_1 hL, zt255_2 hL, ii_succ]
          rw [h7, h8]
          rcases c_step (S := S) (u := u) (r := r1) (n := n) (k := k) (v := v) (a := a) (z' := u 252 i) hL (by rw [r16]; exact hI) (by rw [r16]; exact hR) (by omega) c3 c4 c5 k3 k2 y2 with ⟨wo, r2, y, n', k', v', q1, q2, q3, q4, q5, q6, q7⟩ | ⟨wo, r2, y, q1, q2, q3⟩
          · have r20 : r2 255 0 = 0 := by rw [q7.2 0 (by omega) (by omega), g4.2 0 (by omega) (by omega), r0]
            rw [q1, zbs, if_neg (show ¬ (1 : Int32) = 0 by decide), q2, zbs, if_pos r20]
            have r25' : r2 265 = r 265 := by rw [q7.1 265 (by omega) (by omega), g4.1 265 (by omega) (by omega)]
            have hE : zEp r r2 := zEp_trans (zEp_P g4) (zEp_8 q7)
            rcases ih (i + 1) (pCmd (r 265) len p).1 L' wo r2 n' k' v' (by omega) (by omega) c2 (by rw [r25']; exact e2) (zCm_w (fun j a b => q6 j (by omega)) L' (i + 1) y4) (by rw [q6 249 (by omega)]; have h6 : u 249 6 = _ := h6; rw [h6]; congr 1; omega) q3 q5 (by omega) r20 (by rw [q7.2 26 (by omega) (by omega)]; exact g3) (by rw [q7.2 24 (by omega) (by omega), g4.2 24 (by omega) (by omega), r24]) (by rw [q7.2 25 (by omega) (by omega), g2]) N (by omega) with ⟨uo, r3, n2, k2', v2, z1, z2, z3, z4, z5, z6, z7⟩ | ⟨uo, r3, z1, z2, z3⟩
            · refine Or.inl ⟨uo, r3, n2, k2', v2, z1, ?_, z3, by omega, z5, fun j hj => by rw [z6 j hj, q6 j hj], zEp_trans hE z7⟩
              rw [List.length_cons, show i + (L'.length + 1) = i + 1 + L'.length by omega]
              exact z2
            · exact Or.inr ⟨uo, r3, z1, z2, zFx_trans q6 hE z3⟩
          · obtain ⟨x1, x2⟩ := zFl_x (gpace hR) q3
            rw [q1, zbs, if_pos rfl, q2, zbs, if_neg x2]
            exact Or.inr ⟨wo, r2, rfl, rfl, zFx_trans (fun _ _ => rfl) (zEp_P g4) x1⟩
end ZRU
