/-! ONE COMMAND carried out on both sides. -/
section ZCO
variable {S : Zs} {w u r : Zw} {B B' n k v : Nat} {s t : Nat → Int32} {len p i : Nat}
/-- what a refused command leaves -/
def zFl (u wo r r2 : Zw) : Prop := (wo = u ∧ ∃ e, e ≠ 0 ∧ r2 = zput r 255 0 e) ∨ ∃ c y z, c < 40 ∧ wo = zRep u (ii c) y z ∧ r2 = zput (zRe8 r (ii c) y z) 255 0 2
theorem c_step (hL : zLay S) (hI : zI9 (r 256) n k v) (hR : RG u 2 (r 256) (n + k + v)) (hv : v < 999990) {a : Zcm} (hk : pKd a.1 = true) (hz : a.1 = 115 → 0 ≤ a.2.1 ∧ a.2.1 ≤ 1) (hx : 0 ≤ a.2.2 ∧ a.2.2 ≤ 9999) (h60 : r 266 0 = a.2.2) (h61 : a.1 = 115 → r 266 1 = a.2.1) {z' : Int32} (hz' : a.1 = 115 → z' = a.2.1) :
    (∃ wo r2 y n' k' v', f_X7_carryOut S u 1 a.1 z' a.2.2 = some (1, wo) ∧ f_X8_carriesOut S r 255 a.1 = some (y, r2) ∧ zI9 (r2 256) n' k' v' ∧ v' ≤ v + 1 ∧ RG wo 2 (r2 256) (n' + k' + v') ∧ (∀ j, j < 2 ∨ 18 ≤ j → wo j = u j) ∧ zE8 r r2) ∨
    (∃ wo r2 y, f_X7_carryOut S u 1 a.1 z' a.2.2 = some (0, wo) ∧ f_X8_carriesOut S r 255 a.1 = some (y, r2) ∧ zFl u wo r r2) := by
  obtain ⟨c, z, x⟩ := a
  have hk : pKd c = true := hk
  have hz : c = 115 → 0 ≤ z ∧ z ≤ 1 := hz
  have hx : 0 ≤ x ∧ x ≤ 9999 := hx
  have h60 : r 266 0 = x := h60
  have h61 : c = 115 → r 266 1 = z := h61
  have hz' : c = 115 → z' = z := hz'
  dsimp only
  have hn := zI_n hI.1
  have z0 : zin (0 : Int32) 2 = true := by decide
  have z00 : zix (0 : Int32) = 0 := by decide
  have z1 : zin (1 : Int32) 2 = true := by decide
  have z11 : zix (1 : Int32) = 1 := by decide
  have n1 : ¬ (1 : Int32) = 0 := by decide
  have hcl : ∀ (y : Int32), (y = 0 ∨ y = 1) → (∃ wo r2 q n' k' v', ((f_X7_isBay x).bind fun v4 => if v4 = 0 then some ((0 : Int32), u) else f_X7_carryOut_j121 S u y x 2) = some (1, wo) ∧ f_X8_carriesOut_j85 S r y x 255 = some (q, r2) ∧ zI9 (r2 256) n' k' v' ∧ v' ≤ v + 1 ∧ RG wo 2 (r2 256) (n' + k' + v') ∧ (∀ j, j < 2 ∨ 18 ≤ j → wo j = u j) ∧ zE8 r r2) ∨ (∃ wo r2 q, ((f_X7_isBay x).bind fun v4 => if v4 = 0 then some ((0 : Int32), u) else f_X7_carryOut_j121 S u y x 2) = some (0, wo) ∧ f_X8_carriesOut_j85 S r y x 255 = some (q, r2) ∧ zFl u wo r r2) := by
    intro y hy
    rw [c7_isBay, zbs]
    by_cases hb : 0 ≤ x ∧ x ≤ 59
    · obtain ⟨b, hb60, e⟩ := ii_rng (m := 59) (by omega) hb
      obtain ⟨wo, r2, q1, q2, q3, q4, q5, q6⟩ := o_close (S := S) (wd := u) (r := r) hL hI hR (show b < 60 by omega) hy
      refine Or.inl ⟨wo, r2, r 256 (19 + b), n, k, v, ?_, ?_, q3, by omega, q4, q5, q6⟩
      · rw [if_pos hb, if_neg n1]
        unfold f_X7_carryOut_j121
        rw [e, q1, zbs]
      · unfold f_X8_carriesOut_j85
        rw [e, q2, zbs]
    · refine Or.inr ⟨u, zput r 255 0 1, 0, ?_, ?_, Or.inl ⟨rfl, 1, by decide, rfl⟩⟩
      · rw [if_neg hb, if_pos rfl]
      · unfold f_X8_carriesOut_j85
        rw [e8_closes1 hb, zbs]
  unfold f_X7_carryOut f_X8_carriesOut
  rw [zt1_0 hL, zt255_23 hL, ztl266 hL, if_pos z0, z00, if_pos z1, z11, h60]
  rcases of_decide_eq_true hk with rfl | rfl | rfl | rfl | rfl
  · rw [if_pos rfl, if_neg (show ¬ (115 : Int32) = 114 by decide), if_pos rfl, h61 rfl, hz' rfl, c7_isFull hR hI.1, zbs]
    by_cases hn4 : n = 40
    · subst hn4
      rw [if_pos rfl, if_neg n1, e8_stores2 hL (hz rfl) hx hI.1.1, zbs]
      exact Or.inr ⟨u, zput r 255 0 2, 0, rfl, rfl, Or.inl ⟨rfl, 2, by decide, rfl⟩⟩
    · rw [if_neg hn4, if_pos rfl]
      rcases o_store (S := S) (wd := u) (r := r) hL hI hR (hz rfl) hx (show n < 40 by omega) with ⟨b, wo, r2, hb, q1, q2, q3, q4, q5, q6⟩ | ⟨q1, q2⟩
      · rw [q1, zbs, if_neg (ii_ne (by omega)), q2, zbs]
        exact Or.inl ⟨wo, r2, ii b, n + 1, k, v, rfl, rfl, q3, by omega, q4, q5, q6⟩
      · rw [q1, zbs, if_pos rfl, q2, zbs]
        exact Or.inr ⟨u, zput r 255 0 3, 0, rfl, rfl, Or.inl ⟨rfl, 3, by decide, rfl⟩⟩
  · rw [if_neg (show ¬ (114 : Int32) = 115 by decide), if_pos rfl, if_pos rfl, c7_isStored (zG2 hL) hR hI.1, zbs]
    by_cases hst : pStored (r 256) n x = true
    · obtain ⟨cc, bb, hc, rfl, hbb, hbay, hin⟩ := pStored_of hI.1 hst
      rw [if_pos hst, if_neg n1]
      rcases o_retrieve (S := S) (wd := u) (r := r) hL hI hR hv hbb hc hbay with ⟨m, wo, r2, hm, q1, q2, q3, q4, q5, q6⟩ | ⟨q0, q1, q2⟩
      · have hm0 : ¬ ii m = 0 := by rcases hm with rfl | rfl <;> decide
        rw [q1, zbs, if_neg hm0, q2, zbs]
        exact Or.inl ⟨wo, r2, ii m, n, k + 1, v + m - 1, rfl, rfl, q3, by omega, q4, q5, q6⟩
      · rw [q1, zbs, if_pos rfl, q2, zbs]
        exact Or.inr ⟨_, _, 0, rfl, rfl, Or.inr ⟨cc, _, _, by omega, rfl, rfl⟩⟩
    · have h8 : f_X8_retrieves S r 255 x = some (0, zput r 255 0 1) := by
        unfold f_X8_retrieves
        rw [c8_isCar hL hI.1, if_neg hst, zbs, if_pos rfl, e8_fails, zbs]
      rw [if_neg hst, if_pos rfl, h8, zbs]
      exact Or.inr ⟨u, zput r 255 0 1, 0, rfl, rfl, Or.inl ⟨rfl, 1, by decide, rfl⟩⟩
  · rw [if_neg (show ¬ (116 : Int32) = 115 by decide), if_neg (show ¬ (116 : Int32) = 114 by decide), if_pos rfl, if_neg (show ¬ (116 : Int32) = 114 by decide), if_neg (show ¬ (116 : Int32) = 115 by decide), if_pos rfl, c7_isPass, zbs]
    by_cases hp : 1 ≤ x ∧ x ≤ 999
    · rw [if_pos hp, if_neg n1]
      rcases o_pass (S := S) (wd := u) (r := r) hL hI hR hp with ⟨wo, r2, q1, q2, q3, q4, q5, q6⟩ | ⟨q1, q2⟩
      · rw [q1, zbs, if_neg n1, q2, zbs]
        exact Or.inl ⟨wo, r2, _, n, k, v, rfl, rfl, q3, by omega, q4, q5, q6⟩
      · rw [q1, zbs, if_pos rfl, q2, zbs]
        exact Or.inr ⟨u, zput r 255 0 2, 0, rfl, rfl, Or.inl ⟨rfl, 2, by decide, rfl⟩⟩
    · rw [if_neg hp, if_pos rfl, e8_passes1 hp, zbs]
      exact Or.inr ⟨u, zput r 255 0 1, 0, rfl, rfl, Or.inl ⟨rfl, 1, by decide, rfl⟩⟩
  · rw [if_neg (show ¬ (99 : Int32) = 115 by decide), if_neg (show ¬ (99 : Int32) = 114 by decide), if_neg (show ¬ (99 : Int32) = 116 by decide), if_pos rfl, if_neg (show ¬ (99 : Int32) = 114 by decide), if_neg (show ¬ (99 : Int32) = 115 by decide), if_neg (show ¬ (99 : Int32) = 116 by decide), if_pos rfl]
    exact hcl 1 (Or.inr rfl)
  · rw [if_neg (show ¬ (111 : Int32) = 115 by decide), if_neg (show ¬ (111 : Int32) = 114 by decide), if_neg (show ¬ (111 : Int32) = 116 by decide), if_neg (show ¬ (111 : Int32) = 99 by decide), if_neg (show ¬ (111 : Int32) = 114 by decide), if_neg (show ¬ (111 : Int32) = 115 by decide), if_neg (show ¬ (111 : Int32) = 116 by decide), if_neg (show ¬ (111 : Int32) = 99 by decide)]
    exact hcl 0 (Or.inl rfl)
end ZCO
