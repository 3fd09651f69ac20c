/-! THE WHOLE LAW as one computed option: zGo L xs. -/
section ZGO
theorem f_pre_K {I : Type} (S : Zs) (w : Zw) (K : Zs → Zw → Nat → Nat → Nat → Nat → Option I) : f_pre S w K = (f_pre S w zret).bind fun q => K q.1 q.2.1 q.2.2.1 q.2.2.2.1 q.2.2.2.2.1 q.2.2.2.2.2 := by
  simp only [f_pre, zlet]
  split
  · cases f_X7_init _ _ _ with
    | none => rfl
    | some r4 =>
      simp only [Option.bind_some]
      split
      · split
        · cases f_X8_init _ _ _ with
          | none => rfl
          | some r12 =>
            simp only [Option.bind_some]
            split
            · split
              · split
                · rfl
                · rfl
              · rfl
            · rfl
        · rfl
      · rfl
  · rfl
theorem zFk_lt {c k : Nat} {q : Nat ⊕ Nat} (h : zFk c k = some q) : k < 27 := by
  unfold zFk at h
  split at h <;> first | omega | cases h
theorem zTyB_ok {S : Zs} {q : Nat ⊕ Nat} {a : Nat} (h : zTyB S q a = true) : zTy S q a := by
  cases q with
  | inl c => exact zckO_ok h
  | inr t => exact zckT_ok h
theorem zcrB_ok {S : Zs} {id k : Nat} {f : Nat → Bool} (h : zcrB S id k f = true) : ∃ a, S.cr id k = some a ∧ f a = true := by
  unfold zcrB at h
  split at h
  · cases h
  · rename_i a ha
    exact ⟨a, ha, h⟩
theorem zwfB_ok {S : Zs} (h : zwfB S = true) : zWF (zsF S) := by
  simp only [zwfB, List.all_eq_true, List.mem_range] at h
  refine ⟨rfl, fun id c k q ho hq => ?_, fun id j ha hj => ?_, fun id j ha hj => ?_⟩
  · obtain ⟨h0, h1, h2⟩ := ho
    obtain ⟨i, rfl⟩ : ∃ i, id = i + 1 := ⟨id - 1, by omega⟩
    have h1 : i + 1 ≤ S.n := h1
    have h2 : S.sh (i + 1) = .inl c := h2
    have h9 := h i (by omega)
    rw [h2] at h9
    simp only [List.all_eq_true, List.mem_range] at h9
    have h8 := h9 k (zFk_lt hq)
    rw [hq] at h8
    obtain ⟨a, g1, g2⟩ := zcrB_ok h8
    exact ⟨a, g1, zTyB_ok (S := S) g2⟩
  · obtain ⟨h0, h1, n, h2⟩ := ha
    obtain ⟨i, rfl⟩ : ∃ i, id = i + 1 := ⟨id - 1, by omega⟩
    have h1 : i + 1 ≤ S.n := h1
    have h2 : S.sh (i + 1) = .inr (5, n) := h2
    have hj : j < zlen S (i + 1) := hj
    have h9 := h i (by omega)
    rw [h2] at h9
    simp only [zlen, h2] at hj
    simp only [if_pos, Bool.and_eq_true, List.all_eq_true, List.mem_range] at h9
    obtain ⟨a, g1, g2⟩ := zcrB_ok (h9.1 j hj)
    exact ⟨a, g1, zckO_ok (S := S) g2⟩
  · obtain ⟨h0, h1, n, h2⟩ := ha
    obtain ⟨i, rfl⟩ : ∃ i, id = i + 1 := ⟨id - 1, by omega⟩
    have h1 : i + 1 ≤ S.n := h1
    have h2 : S.sh (i + 1) = .inr (6, n) := h2
    have hj : j < zlen S (i + 1) := hj
    have h9 := h i (by omega)
    rw [h2] at h9
    simp only [zlen, h2] at hj
    simp only [if_pos, Bool.and_eq_true, List.all_eq_true, List.mem_range] at h9
    obtain ⟨a, g1, g2⟩ := zcrB_ok (h9.2 j hj)
    exact ⟨a, g1, zckO_ok (S := S) g2⟩
def zGoK (L : Nat) (xs : Nat → Int32) (S : Zs) (w : Zw) (a b c d : Nat) : Option (Int32 × Zs × Zw) :=
  if zwfB S = true then if zckO S a 7 = true then if zckO S b 8 = true then if zckT S c 3 = true then if zckT S d 4 = true then
    (f_law (zsF S) L xs 0 a b c d 513 (0, S.cl, S.cd, w)).bind fun r => some (r.1, zSc (zsF S) r.2.1 r.2.2.1, r.2.2.2)
  else none else none else none else none else none
def zGo (L : Nat) (xs : Nat → Int32) : Option (Int32 × Zs × Zw) := f_pre zS0 zw0 (zGoK L xs)
theorem z_map {I J : Type} {C : Zc} {kc ks : Nat} {S : Zs} {w : Zw} {pc : Nat} {lv : List (Nat × Value)} {st : List Value} {em : I → Zr} {em' : J → Zr} {X : Option I} {g : I → J} (he : ∀ i, em' (g i) = em i) (h : zOk C kc ks S w pc lv st em X) : zOk C kc ks S w pc lv st em' (X.bind fun i => some (g i)) := by
  intro j hj
  cases hX : X with
  | none => rw [hX] at hj; cases hj
  | some i =>
    rw [hX] at hj
    cases hj
    rw [he]
    exact h i hX
theorem m_go {E : ZE} {L : Nat} {xs : Nat → Int32} (hL : E.L = L) (hx : E.xs = xs) : zOk (E, i_L_law, 100) 1294 17374 zS0 zw0 0 [(0, .ref 0)] [] (emC eI) (zGo L xs) := by
  refine m_pre (emC eI) zS0 zw0 (zGoK L xs) (fun S w a b c d => ?_)
  refine z_chk (fun h1 => z_chk (fun h2 => z_chk (fun h3 => z_chk (fun h4 => z_chk (fun h5 => ?_)))))
  refine z_map (em := emS eI (zsF S)) (fun i => rfl) (z_alF ?_)
  exact m_law (zwfB_ok h1) 0 rfl a (zckO_ok h2) b (zckO_ok h3) c (zckT_ok h4) d (zckT_ok h5) L xs hL hx 513 (0, S.cl, S.cd, w)
/-- what the start is -/
theorem zPre_is : ∃ (S : Zs) (w : Zw), zPre = some (S, w, 1, 255, 267, 268) ∧ zLayB S = true ∧ zwfB S = true ∧ zWd1 w = true ∧ zWd2 w = true ∧ zWd3 w = true := by
  have h0 := zP_0
  have h1 := zP_1
  have h2 := zP_2
  have h3 := zP_3
  have h4 := zP_4
  have h5 := zP_5
  cases h : zPre with
  | none => rw [h] at h0; cases h0
  | some q =>
    obtain ⟨S, w, r⟩ := q
    rw [h] at h0 h1 h2 h3 h4 h5
    have e : r = (1, 255, 267, 268) := of_decide_eq_true h0
    subst e
    exact ⟨S, w, rfl, h1, h2, h3, h4, h5⟩
end ZGO
