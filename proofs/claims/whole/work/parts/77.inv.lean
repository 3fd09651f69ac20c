/-! WHAT HOLDS BETWEEN TWO CALLS of the law. -/
section ZNV
abbrev hst (w : Zw) : Nat → Nat → Int32 := fun q i => w 260 (399 * q + i)
def IG (B : Nat) (w : Zw) : Prop := pOK B (w 256) ∧ Sh w 2 (w 256)
def IH (B : Nat) (w : Zw) : Prop := ∃ cnt, w 255 6 = ii cnt ∧ CH w cnt (hst w) ∧ ∀ q, q < cnt → pOK B (hst w q)
def IS (B : Nat) (w : Zw) : Prop := w 1 2 = w 255 7 ∧ (w 1 2 = 0 ∨ (Sh w 18 (w 259) ∧ pOK B (w 259)))
def IR (w : Zw) : Prop := (w 1 7 = 0 ∧ w 255 10 = -1) ∨ (w 1 7 = 1 ∧ 0 ≤ w 255 10 ∧ w 254 0 = w 255 10 ∧ w 254 1 = w 255 11 ∧ w 254 2 = w 255 12)
def IT (w : Zw) : Prop := ∃ len, len ≤ 60 ∧ w 249 4 = ii len ∧ w 255 24 = ii len ∧ ∀ i, i < 60 → w 250 i = w 265 i ∧ ∃ x, x < 65536 ∧ w 265 i = ii x
def INV (B : Nat) (w : Zw) : Prop := IG B w ∧ IH B w ∧ zPa w ∧ IS B w ∧ IR w ∧ IT w
theorem CH_pe {w : Zw} {cnt : Nat} {h h' : Nat → Nat → Int32} (he : ∀ q, q < cnt → pe (h' q) (h q)) (hc : CH w cnt h) : CH w cnt h' := by
  obtain ⟨nx, h1, h2, h3, h4, h5⟩ := hc
  exact ⟨nx, h1, h2, h3, h4, fun q hq => Sh_pe (he q hq) (h5 q hq)⟩
theorem CH_le {w : Zw} {cnt : Nat} {h : Nat → Nat → Int32} (hc : CH w cnt h) : cnt ≤ 6 := by
  obtain ⟨nx, h1, h2, h3, h4, h5⟩ := hc
  exact h4
section
variable {B B' : Nat} {w w' : Zw}
theorem IG_w (hB : B ≤ B') (h : IG B w) (h1 : ∀ j, 2 ≤ j → j < 18 → w' j = w j) (h2 : pe (w' 256) (w 256)) : IG B' w' := ⟨pOK_le hB (pOK_pe h2 h.1), Sh_pe h2 (Sh_w (fun j a b => h1 j a (by omega)) h.2)⟩
theorem IH_w (hB : B ≤ B') (h : IH B w) (h1 : ∀ j, j = 34 ∨ (36 ≤ j ∧ j < 148) → w' j = w j) (h2 : w' 255 6 = w 255 6) (h3 : ∀ i, i < 2394 → w' 260 i = w 260 i) : IH B' w' := by
  obtain ⟨cnt, a1, a2, a3⟩ := h
  have hc := CH_le a2
  have hp : ∀ q, q < cnt → pe (hst w' q) (hst w q) := fun q hq i hi => h3 _ (by omega)
  exact ⟨cnt, by rw [h2]; exact a1, CH_pe hp (CH_w h1 a2), fun q hq => pOK_le hB (pOK_pe (hp q hq) (a3 q hq))⟩
theorem IS_w (hB : B ≤ B') (h : IS B w) (h1 : ∀ j, 18 ≤ j → j < 34 → w' j = w j) (h2 : w' 1 2 = w 1 2) (h3 : w' 255 7 = w 255 7) (h4 : pe (w' 259) (w 259)) : IS B' w' := by
  obtain ⟨a1, a2⟩ := h
  refine ⟨by rw [h2, h3, a1], ?_⟩
  rcases a2 with a2 | ⟨a2, a3⟩
  · exact Or.inl (by rw [h2, a2])
  · exact Or.inr ⟨Sh_pe h4 (Sh_w (fun j a b => h1 j a (by omega)) a2), pOK_le hB (pOK_pe h4 a3)⟩
theorem IR_w (h : IR w) (h1 : w' 1 7 = w 1 7) (h2 : ∀ i, 10 ≤ i → i < 13 → w' 255 i = w 255 i) (h3 : ∀ i, i < 3 → w' 254 i = w 254 i) : IR w' := by
  unfold IR
  rw [h1, h2 10 (by omega) (by omega), h2 11 (by omega) (by omega), h2 12 (by omega) (by omega), h3 0 (by omega), h3 1 (by omega), h3 2 (by omega)]
  exact h
theorem IT_w (h : IT w) (h1 : w' 249 4 = w 249 4) (h2 : w' 255 24 = w 255 24) (h3 : ∀ i, i < 60 → w' 250 i = w 250 i) (h4 : ∀ i, i < 60 → w' 265 i = w 265 i) : IT w' := by
  obtain ⟨len, a1, a2, a3, a4⟩ := h
  exact ⟨len, a1, by rw [h1, a2], by rw [h2, a3], fun i hi => by rw [h3 i hi, h4 i hi]; exact a4 i hi⟩
/-- nothing of it changed -/
def zKeep (w w' : Zw) : Prop := (∀ j, (2 ≤ j ∧ j < 34) ∨ j = 34 ∨ (36 ≤ j ∧ j < 148) ∨ j = 250 ∨ j = 254 → w' j = w j) ∧ (w' 1 2 = w 1 2 ∧ w' 1 7 = w 1 7 ∧ w' 249 4 = w 249 4) ∧ (∀ i, i = 6 ∨ i = 7 ∨ (10 ≤ i ∧ i < 13) ∨ i = 24 → w' 255 i = w 255 i) ∧ pe (w' 256) (w 256) ∧ pe (w' 259) (w 259) ∧ (∀ i, i < 2394 → w' 260 i = w 260 i) ∧ ∀ i, i < 60 → w' 265 i = w 265 i
theorem INV_keep (hB : B ≤ B') (h : INV B w) (hP : zPa w') (hk : zKeep w w') : INV B' w' := by
  obtain ⟨h1, h2, h3, h4, h5, h6⟩ := h
  obtain ⟨k1, ⟨k21, k22, k23⟩, k3, k4, k5, k6, k7⟩ := hk
  exact ⟨IG_w hB h1 (fun j a b => k1 j (by omega)) k4, IH_w hB h2 (fun j a => k1 j (by omega)) (k3 6 (by omega)) k6, hP, IS_w hB h4 (fun j a b => k1 j (by omega)) k21 (k3 7 (by omega)) k5, IR_w h5 k22 (fun i a b => k3 i (by omega)) (fun i a => by rw [k1 254 (by omega)]), IT_w h6 k23 (k3 24 (by omega)) (fun i a => by rw [k1 250 (by omega)]) k7⟩
/-- cells of the class untouched, of the reference only thrown and its scratch -/
theorem zKeep_55 (h : ∀ j, j < 255 → w' j = w j) (h1 : ∀ i, i = 6 ∨ i = 7 ∨ (10 ≤ i ∧ i < 13) ∨ i = 24 → w' 255 i = w 255 i) (h2 : ∀ j, j = 256 ∨ j = 259 ∨ j = 260 ∨ j = 265 → w' j = w j) : zKeep w w' := ⟨fun j _ => h j (by omega), ⟨by rw [h 1 (by omega)], by rw [h 1 (by omega)], by rw [h 249 (by omega)]⟩, h1, by rw [h2 256 (by omega)]; exact pe.rfl, by rw [h2 259 (by omega)]; exact pe.rfl, fun i _ => by rw [h2 260 (by omega)], fun i _ => by rw [h2 265 (by omega)]⟩
theorem zKeep.trans {a b c : Zw} (h : zKeep a b) (h' : zKeep b c) : zKeep a c := by
  obtain ⟨a1, ⟨a2, a3, a4⟩, a5, a6, a7, a8, a9⟩ := h
  obtain ⟨b1, ⟨b2, b3, b4⟩, b5, b6, b7, b8, b9⟩ := h'
  exact ⟨fun j hj => (b1 j hj).trans (a1 j hj), ⟨b2.trans a2, b3.trans a3, b4.trans a4⟩, fun i hi => (b5 i hi).trans (a5 i hi), b6.trans a6, b7.trans a7, fun i hi => (b8 i hi).trans (a8 i hi), fun i hi => (b9 i hi).trans (a9 i hi)⟩
theorem INV_thr (h : INV B w) (x : Int32) : INV B (zput w 255 0 x) := by
  refine INV_keep (Nat.le_refl B) h (zPa_o h.2.2.1 (fun j hj => zput_ne (by omega))) (zKeep_55 (fun j hj => zput_ne (by omega)) (fun i hi => ?_) (fun j hj => zput_ne (by omega)))
  rw [zput_at, upd_ne (by omega)]
/-- one call on both sides -/
def Pair {A : Type} (B : Nat) (f7 : Option ((A ⊕ String) × Zw)) (f8 : Zw → Option (A × Zw)) (tab : List (String × Int32)) : Prop :=
  (∃ v w1 w2, f7 = some (.inl v, w1) ∧ f8 w1 = some (v, w2) ∧ w2 255 0 = 0 ∧ INV B w2) ∨ ∃ e c w1 b w2, f7 = some (.inr e, w1) ∧ f8 w1 = some (b, w2) ∧ (e, c) ∈ tab ∧ w2 255 0 = c ∧ INV B w2
theorem Pair_ok {A : Type} {f7 : Option ((A ⊕ String) × Zw)} {f8 : Zw → Option (A × Zw)} {tab : List (String × Int32)} (hI : INV B w) (v : A) (h7 : f7 = some (.inl v, w)) (h8 : f8 w = some (v, zput w 255 0 0)) : Pair B f7 f8 tab :=
  Or.inl ⟨v, w, _, h7, h8, by rw [zput_at, upd_at], INV_thr hI 0⟩
theorem zput_zput {a i : Nat} {x y : Int32} : zput (zput w a i x) a i y = zput w a i y := by
  funext j q
  unfold zput
  split <;> rfl
theorem Pair_ex {A : Type} {f7 : Option ((A ⊕ String) × Zw)} {f8 : Zw → Option (A × Zw)} {tab : List (String × Int32)} (hI : INV B w) (e : String) (c : Int32) (b : A) (h7 : f7 = some (.inr e, w)) (h8 : f8 w = some (b, zput w 255 0 c)) (ht : (e, c) ∈ tab) : Pair B f7 f8 tab :=
  Or.inr ⟨e, c, w, b, _, h7, h8, ht, by rw [zput_at, upd_at], INV_thr hI c⟩
end
end ZNV
