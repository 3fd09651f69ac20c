/-! ONE CALL of the law, on both sides. -/
section ZCA
variable {S : Zs} {w u r : Zw} {B B' n k v : Nat}
abbrev Zlr : Type := Int32 × (Nat → Nat → Int64) × (Nat → Nat → UInt64) × Zw
theorem Pair_le {A : Type} {f7 : Option ((A ⊕ String) × Zw)} {f8 : Zw → Option (A × Zw)} {tab : List (String × Int32)} (hB : B ≤ B') (h : Pair B f7 f8 tab) : Pair B' f7 f8 tab := by
  rcases h with ⟨v, w1, w2, a, b, c, d⟩ | ⟨e, c, w1, b, w2, x1, x2, x3, x4, x5⟩
  · exact Or.inl ⟨v, w1, w2, a, b, c, INV_le hB d⟩
  · exact Or.inr ⟨e, c, w1, b, w2, x1, x2, x3, x4, INV_le hB x5⟩
theorem zup_at {A : Type} {f : Nat → Nat → A} {a i : Nat} {x : A} : zup f a i x a i = x := by
  unfold zup
  rw [if_pos ⟨rfl, rfl⟩]
theorem lg_same (x : Int64) : lg_cmp x x = 0 := by
  unfold lg_cmp
  rw [if_neg (fun h => Int64.lt_irrefl h), if_pos rfl]
theorem call_ok {A : Type} {k : Zlr → Option Zlr} {x5 : Int32} (hL : zLay S) {c : A → Int64} {f7 : Option ((A ⊕ String) × Zw)} {f8 : Zw → Option (A × Zw)} {tab : List (String × Int32)} {H : String → Zw → Option Zlr} {J : Zs → Zw → Int32 → Option Zlr} {W : Option Zlr} (hP : Pair B f7 f8 tab) (hH : ∀ e cc, (e, cc) ∈ tab → cc ≠ 0 ∧ ∀ w, H e w = some (cc, S.cl, S.cd, w))
    (hW : W = zbx f7 (fun v w2 => if zin (0 : Int32) (zlen S 267) = true then some ((0 : Int32), zup S.cl 267 (zix (0 : Int32)) (c v), S.cd, w2) else none) H)
    (hJ : ∀ cl cd w1 y, J (zSc S cl cd) w1 y = (f8 w1).bind fun r => if (r.2 255 0) = y then (if y = 0 then (if zin (0 : Int32) (zlen S 267) = true then if lg_cmp (cl 267 (zix (0 : Int32))) (c r.1) = 0 then k (x5 + 4, cl, cd, r.2) else some ((0 : Int32), cl, cd, r.2) else none) else k (x5 + 4, cl, cd, r.2)) else some ((0 : Int32), cl, cd, r.2)) :
    ∃ cl cd w2, (W.bind fun r6 => J (zSc S r6.2.1 r6.2.2.1) r6.2.2.2 r6.1) = k (x5 + 4, cl, cd, w2) ∧ INV B w2 := by
  have hz : zin (0 : Int32) (zlen S 267) = true := by rw [ztl267 hL]; decide
  rcases hP with ⟨v, w1, w2, h7, h8, h0, hI⟩ | ⟨e, cc, w1, b, w2, h7, h8, ht, h0, hI⟩
  · refine ⟨zup S.cl 267 (zix (0 : Int32)) (c v), S.cd, w2, ?_, hI⟩
    rw [hW, h7, zbx_inl, if_pos hz, zbs]
    dsimp only
    rw [hJ, h8, zbs]
    dsimp only
    rw [if_pos h0, if_pos rfl, if_pos hz, zup_at, lg_same, if_pos rfl]
  · obtain ⟨hne, hHe⟩ := hH e cc ht
    refine ⟨S.cl, S.cd, w2, ?_, hI⟩
    rw [hW, h7, zbx_inr, hHe, zbs]
    dsimp only
    rw [hJ, h8, zbs]
    dsimp only
    rw [if_pos h0, if_neg hne]
theorem callD_ok {A : Type} {k : Zlr → Option Zlr} {x5 : Int32} {c : A → UInt64} {f7 : Option ((A ⊕ String) × Zw)} {f8 : Zw → Option (A × Zw)} {tab : List (String × Int32)} {H : String → Zw → Option Zlr} {J : Zs → Zw → Int32 → Option Zlr} {W : Option Zlr} (hP : Pair B f7 f8 tab) (hD : ∀ x w1, f7 = some (.inl x, w1) → zn64 (c x) = true) (hF : zFLD) (hH : ∀ e cc, (e, cc) ∈ tab → cc ≠ 0 ∧ ∀ w, H e w = some (cc, S.cl, S.cd, w))
    (hW0 : ∀ v w1, f7 = some (.inl v, w1) → zn64 (c v) = true → W = some ((0 : Int32), S.cl, zup S.cd 268 (zix (0 : Int32)) (c v), w1)) (hW1 : ∀ e w1, f7 = some (.inr e, w1) → W = H e w1)
    (hJ : ∀ cl cd w1 y r, f8 w1 = some r → r.2 255 0 = y → (y = 0 → zn64 (c r.1) = true ∧ (Op.cmpValue (FP.dcmp (cd 268 (zix (0 : Int32))) (c r.1)) .l) = 0) → J (zSc S cl cd) w1 y = k (x5 + 4, cl, cd, r.2)) :
    ∃ cl cd w2, (W.bind fun r6 => J (zSc S r6.2.1 r6.2.2.1) r6.2.2.2 r6.1) = k (x5 + 4, cl, cd, w2) ∧ INV B w2 := by
  rcases hP with ⟨v, w1, w2, h7, h8, h0, hI⟩ | ⟨e, cc, w1, b, w2, h7, h8, ht, h0, hI⟩
  · have hd := hD v w1 h7
    refine ⟨S.cl, zup S.cd 268 (zix (0 : Int32)) (c v), w2, ?_, hI⟩
    rw [hW0 v w1 h7 hd, zbs]
    exact hJ _ _ w1 0 (v, w2) h8 h0 (fun _ => ⟨hd, by dsimp only; rw [zup_at]; exact hF _ hd⟩)
  · obtain ⟨hne, hHe⟩ := hH e cc ht
    refine ⟨S.cl, S.cd, w2, ?_, hI⟩
    rw [hW1 e w1 h7, hHe, zbs]
    exact hJ _ _ w1 cc (b, w2) h8 h0 (fun q => absurd q hne)
end ZCA
