/-! WELL-FORMED: every reference field and every place of an array of references holds a cell of its kind. Types of fields by numbers: some (inl c) an object of class c, some (inr t) an array of kind t. -/
section ZF
variable {I : Type} {C : Zc} {kc ks : Nat} {S : Zs} {w : Zw} {pc : Nat} {lv : List (Nat × Value)} {st st0 : List Value} {em : I → Zr} {X : Option I}
def zFk : Nat → Nat → Option (Nat ⊕ Nat)
  | 0, 0 => some (.inr 2) | 0, 1 => some (.inr 2) | 0, 2 => some (.inr 0) | 0, 3 => some (.inr 0)
  | 1, 0 => some (.inr 1) | 1, 1 => some (.inr 0) | 1, 2 => some (.inr 0) | 1, 3 => some (.inr 0) | 1, 4 => some (.inr 0) | 1, 5 => some (.inr 0) | 1, 6 => some (.inr 0) | 1, 7 => some (.inl 6)
  | 2, 0 => some (.inr 6)
  | 3, 0 => some (.inr 0)
  | 5, 0 => some (.inr 6) | 5, 1 => some (.inr 0) | 5, 2 => some (.inr 0) | 5, 3 => some (.inr 0)
  | 6, 0 => some (.inr 5) | 6, 1 => some (.inl 4) | 6, 2 => some (.inl 3)
  | 7, 0 => some (.inl 1) | 7, 1 => some (.inl 1) | 7, 3 => some (.inl 2) | 7, 4 => some (.inl 5) | 7, 5 => some (.inl 0) | 7, 6 => some (.inr 0)
  | 8, 1 => some (.inr 0) | 8, 2 => some (.inr 0) | 8, 3 => some (.inr 0) | 8, 4 => some (.inr 0) | 8, 5 => some (.inr 0) | 8, 13 => some (.inr 0) | 8, 14 => some (.inr 0) | 8, 15 => some (.inr 0) | 8, 21 => some (.inr 0) | 8, 22 => some (.inr 0) | 8, 23 => some (.inr 0)
  | _, _ => none
def zTy (S : Zs) (q : Nat ⊕ Nat) (a : Nat) : Prop := match q with
  | .inl c => zObj S a c
  | .inr t => zArr S a t
def zWF (S : Zs) : Prop := S.al = false ∧ (∀ id c k q, zObj S id c → zFk c k = some q → ∃ a, S.cr id k = some a ∧ zTy S q a) ∧ (∀ id j, zArr S id 5 → j < zlen S id → ∃ a, S.cr id j = some a ∧ zObj S a 4) ∧ (∀ id j, zArr S id 6 → j < zlen S id → ∃ a, S.cr id j = some a ∧ zObj S a 1)
theorem zal (hw : zWF S) {P : Prop} (q : S.al = true) : P := absurd (hw.1.symm.trans q) Bool.false_ne_true
theorem zW_some (hw : zWF S) {id c : Nat} (ho : zObj S id c) (k : Nat) {q : Nat ⊕ Nat} (hq : zFk c k = some q) : S.cr id k = some (zr S id k) := by
  obtain ⟨a, h1, -⟩ := hw.2.1 id c k q ho hq
  simp [zr, h1]
theorem zW_obj (hw : zWF S) {id c : Nat} (ho : zObj S id c) (k c' : Nat) (hq : zFk c k = some (.inl c')) : zObj S (zr S id k) c' := by
  obtain ⟨a, h1, h2⟩ := hw.2.1 id c k _ ho hq
  simp only [zr, h1, Option.getD_some]
  exact h2
theorem zW_arr (hw : zWF S) {id c : Nat} (ho : zObj S id c) (k t : Nat) (hq : zFk c k = some (.inr t)) : zArr S (zr S id k) t := by
  obtain ⟨a, h1, h2⟩ := hw.2.1 id c k _ ho hq
  simp only [zr, h1, Option.getD_some]
  exact h2
theorem zix_lt {i : Int32} {n : Nat} (h : zin i n = true) : zix i < n := by
  have := zin_vp h
  exact Nat.not_le.mp fun q => this (Or.inr q)
theorem zW_el5 (hw : zWF S) {id : Nat} (ha : zArr S id 5) {i : Int32} (h : zin i (zlen S id) = true) : S.cr id (zix i) = some (zr S id (zix i)) ∧ zObj S (zr S id (zix i)) 4 := by
  obtain ⟨a, h1, h2⟩ := hw.2.2.1 id _ ha (zix_lt h)
  exact ⟨by simp [zr, h1], by simp only [zr, h1, Option.getD_some]; exact h2⟩
theorem zW_el6 (hw : zWF S) {id : Nat} (ha : zArr S id 6) {i : Int32} (h : zin i (zlen S id) = true) : S.cr id (zix i) = some (zr S id (zix i)) ∧ zObj S (zr S id (zix i)) 1 := by
  obtain ⟨a, h1, h2⟩ := hw.2.2.2 id _ ha (zix_lt h)
  exact ⟨by simp [zr, h1], by simp only [zr, h1, Option.getD_some]; exact h2⟩
/-! results of the computed functions, by kind: T a value, P an option of a value (the world stays), W a value and the world, X a value or an exception, and the world -/
def eU (_ : Unit) : Option Value := none
def eI (x : Int32) : Option Value := some (.int x)
def eL (x : Int64) : Option Value := some (.long x)
def eF (x : UInt32) : Option Value := some (.float x)
def eD (x : UInt64) : Option Value := some (.double x)
def eR (x : Nat) : Option Value := some (.ref x)
def emP {A : Type} (ev : A → Option Value) (S : Zs) (w : Zw) : A → Zr := fun v => (.inl (ev v), S, w)
def emW {A : Type} (ev : A → Option Value) (S : Zs) : A × Zw → Zr := fun r => (.inl (ev r.1), S, r.2)
def emX {A : Type} (ev : A → Option Value) (S : Zs) : (A ⊕ String) × Zw → Zr := fun r => ((match r.1 with | .inl v => .inl (ev v) | .inr e => .inr e), S, r.2)
def emC {A : Type} (ev : A → Option Value) : A × Zs × Zw → Zr := fun r => (.inl (ev r.1), r.2.1, r.2.2)
/-- the callee's answer, or its exception passed on -/
def zbx {A I : Type} (Y : Option ((A ⊕ String) × Zw)) (f : A → Zw → Option I) (g : String → Zw → Option I) : Option I := match Y with
  | none => none
  | some (.inl v, w1) => f v w1
  | some (.inr e, w1) => g e w1
theorem z_bindX {A : Type} {Y : Option ((A ⊕ String) × Zw)} {f : A → Zw → Option I} {g : String → Zw → Option I} (h : ∀ r, Y = some r → zOk C kc ks S w pc lv st em (zbx (some r) f g)) : zOk C kc ks S w pc lv st em (zbx Y f g) := by
  intro i hi
  cases hY : Y with
  | none => rw [hY] at hi; cases hi
  | some j => rw [hY] at hi; exact h j hY i hi
/-- loops: the body speaks of how it goes on; at most n turns -/
def zlp {A I : Type} (F : (A → Option I) → A → Option I) : Nat → A → Option I
  | 0 => fun _ => none
  | n + 1 => F (zlp F n)
theorem z_lp {A : Type} {F : (A → Option I) → A → Option I} {P : A → Prop} {W9 : A → Zw} {L9 : A → List (Nat × Value)} {T9 : A → List Value} (h : ∀ k, (∀ a, P a → zOk C kc ks S (W9 a) pc (L9 a) (T9 a) em (k a)) → ∀ a, P a → zOk C kc ks S (W9 a) pc (L9 a) (T9 a) em (F k a)) (n : Nat) : ∀ a, P a → zOk C kc ks S (W9 a) pc (L9 a) (T9 a) em (zlp F n a) := by
  induction n with
  | zero => exact fun _ _ => z_none
  | succ n ih => exact fun a ha => h _ ih a ha
/-- turns that no loop here reaches -/
def zFU : Nat := 1000
end ZF
section ZG
variable {I : Type} {C : Zc} {kc ks : Nat} {S : Zs} {w : Zw} {pc : Nat} {lv : List (Nat × Value)} {st st0 : List Value} {em : I → Zr} {X : Option I}
def zrem (x y : Int32) : Int32 := x - x / y * y
def zmax (x y : Int32) : Int32 := if x < y then y else x
def zmin (x y : Int32) : Int32 := if y < x then y else x
def zabs (x : Int32) : Int32 := if 0 ≤ x then x else 0 - x
def zlushr (x : Int64) (y : Int32) : Int64 := (x.toUInt64 >>> (y.toInt64.toUInt64 &&& Int64.toUInt64 63)).toInt64
def zlshr (x : Int64) (y : Int32) : Int64 := x >>> (y.toInt64 &&& 63)
def zlshl (x : Int64) (y : Int32) : Int64 := x <<< (y.toInt64 &&& 63)
def zi2c (x : Int32) : Int32 := (x.toUInt32 % 65536).toInt32
theorem z_rem {x y : Int32} (hd : decode C.cc pc = .ok (.irem, 1)) (hne : ¬ y = 0) (h : zOk C kc ks S w (pc + 1) lv (.int (zrem x y) :: st) em X) : zOk C kc ks S w pc lv (.int y :: .int x :: st) em X := z_irem hd hne h
theorem z_max {x y : Int32} {index : Nat} (hl : Cond.methodLink C.own index Lib.Math.max.name ∈ zGW) (h6 : 6 ≤ C.d) (hst : (st.map fun v => v.category).sum ≤ 8) (hd : decode C.cc pc = .ok (.invokestatic index, 3)) (h : zOk C kc ks S w (pc + 3) lv (.int (zmax x y) :: st) em X) : zOk C kc ks S w pc lv (.int y :: .int x :: st) em X := z_mmax hl h6 hst hd h
theorem z_min {x y : Int32} {index : Nat} (hl : Cond.methodLink C.own index Lib.Math.min.name ∈ zGW) (h6 : 6 ≤ C.d) (hst : (st.map fun v => v.category).sum ≤ 8) (hd : decode C.cc pc = .ok (.invokestatic index, 3)) (h : zOk C kc ks S w (pc + 3) lv (.int (zmin x y) :: st) em X) : zOk C kc ks S w pc lv (.int y :: .int x :: st) em X := z_mmin hl h6 hst hd h
theorem z_abs {x : Int32} {index : Nat} (hl : Cond.methodLink C.own index Lib.Math.abs.name ∈ zGW) (h6 : 6 ≤ C.d) (hst : (st.map fun v => v.category).sum ≤ 8) (hd : decode C.cc pc = .ok (.invokestatic index, 3)) (h : zOk C kc ks S w (pc + 3) lv (.int (zabs x) :: st) em X) : zOk C kc ks S w pc lv (.int x :: st) em X := z_mabs hl h6 hst hd h
/-- the same frame, written otherwise -/
theorem z_at (pc' : Nat) (lv' : List (Nat × Value)) (st' : List Value) (h1 : pc = pc') (h2 : lv = lv') (h3 : st = st') (h : zOk C kc ks S w pc' lv' st' em X) : zOk C kc ks S w pc lv st em X := by
  subst h1; subst h2; subst h3; exact h
def zb1 (x : Int32) : Bool := decide (x = 0) || decide (x = 1)
theorem zb1_or {x : Int32} (h : zb1 x = true) : x = 0 ∨ x = 1 := by simpa [zb1] using h
theorem zb1_nar {x : Int32} (h : zb1 x = true) : narrow .boolean (.int x) = .int x := by rcases zb1_or h with rfl | rfl <;> rfl
def zch (x : Int32) : Bool := decide (vp_nar .char x = x)
theorem zch_nar {x : Int32} (h : zch x = true) : narrow .char (.int x) = .int x := by
  have h9 := of_decide_eq_true h
  rw [vp_nar_char] at h9
  show Value.int x.toUInt32.toUInt16.toUInt32.toInt32 = .int x
  rw [h9]
/-- ends -/
theorem zemP {A : Type} {ev : A → Option Value} {v : A} : ∀ i, some v = some i → emP ev S w i = (.inl (ev v), S, w) := fun i h => by cases h; rfl
theorem zemW {A : Type} {ev : A → Option Value} {v : A} : ∀ i, some (v, w) = some i → emW ev S i = (.inl (ev v), S, w) := fun i h => by cases h; rfl
theorem zemX {A : Type} {ev : A → Option Value} {v : A} : ∀ i, (some (.inl v, w) : Option ((A ⊕ String) × Zw)) = some i → emX ev S i = (.inl (ev v), S, w) := fun i h => by cases h; rfl
theorem zemXr {A : Type} {ev : A → Option Value} {x : String} : ∀ i, (some (.inr x, w) : Option ((A ⊕ String) × Zw)) = some i → emX ev S i = (.inr x, S, w) := fun i h => by cases h; rfl
theorem zemC {A : Type} {ev : A → Option Value} {v : A} : ∀ i, some (v, S, w) = some i → emC ev i = (.inl (ev v), S, w) := fun i h => by cases h; rfl
/-- a switch's arms -/
theorem zsw_ne {x : Int32} {k : Int} (v : Int32) (hv : v.toInt = k) (h : ¬ x = v) : x.toInt ≠ k := fun q => h (Int32.toInt_inj.mp (q.trans hv.symm))
end ZG
