section ZH
variable {I : Type} {C : Zc} {kc ks : Nat} {S : Zs} {w : Zw} {pc : Nat} {lv : List (Nat × Value)} {st : List Value} {em : I → Zr} {X : Option I}
/-- a class: its place, name, fields, and that its words are at hand -/
def zCls (c : Nat) (nm : String) (T : u_T) (N : Nat) : Prop := zCl[c]? = some (nm, T, N) ∧ N = zNf c ∧ (∀ w ∈ u_ws nm T N, w ∈ zGW) ∧ (∀ k, k < N → parseFieldDescriptor (T k).2.2.1 = some (zFty c k)) ∧ (∀ a, a < N → ∀ b, b < N → a ≠ b → (T a).2.1 ≠ (T b).2.1)
theorem zc0 : zCls 0 RX0 TX0 7 := ⟨rfl, rfl, gc0, tyX0_ok, nmX0⟩
theorem zc1 : zCls 1 RX1 TX1 11 := ⟨rfl, rfl, gc1, tyX1_ok, nmX1⟩
theorem zc2 : zCls 2 RX2 TX2 3 := ⟨rfl, rfl, gc2, tyX2_ok, nmX2⟩
theorem zc3 : zCls 3 RX3 TX3 4 := ⟨rfl, rfl, gc3, tyX3_ok, nmX3⟩
theorem zc4 : zCls 4 RX4 TX4 4 := ⟨rfl, rfl, gc4, tyX4_ok, nmX4⟩
theorem zc5 : zCls 5 RX5 TX5 8 := ⟨rfl, rfl, gc5, tyX5_ok, nmX5⟩
theorem zc6 : zCls 6 RX6 TX6 4 := ⟨rfl, rfl, gc6, tyX6_ok, nmX6⟩
theorem zc7 : zCls 7 RX7 TX7 8 := ⟨rfl, rfl, gc7, tyX7_ok, nmX7⟩
theorem zc8 : zCls 8 RX8 TX8 27 := ⟨rfl, rfl, gc8, tyX8_ok, nmX8⟩
theorem zF_I {E : ZE} {S : Zs} {id c k : Nat} {wi : Nat → Int32} (hk : k < zNf c) (hf : zIsR (zFty c k) = false) : ((List.range (zNf c)).map (zFv E S id c wi))[k]? = some (.int (wi k)) := by
  simp [List.getElem?_map, hk, zFv, hf]
theorem zF_R {E : ZE} {S : Zs} {id c k a : Nat} {wi : Nat → Int32} (hk : k < zNf c) (hf : zIsR (zFty c k) = true) (ha : S.cr id k = some a) : ((List.range (zNf c)).map (zFv E S id c wi))[k]? = some (.ref (zRo E a)) := by
  simp [List.getElem?_map, hk, zFv, hf, ha, va_rf]
theorem zput_ne {w : Zw} {a i j : Nat} {x : Int32} (h : j ≠ a) : zput w a i x j = w j := by
  funext i'
  simp [zput, h]
theorem zput_at {w : Zw} {a i : Nat} {x : Int32} : zput w a i x a = upd (w a) i x := by
  funext i'
  simp [zput, upd]
theorem zF_setI {E : ZE} {S : Zs} {id c k : Nat} {wi : Nat → Int32} {x : Int32} (hf : zIsR (zFty c k) = false) : ((List.range (zNf c)).map (zFv E S id c wi)).set k (.int x) = (List.range (zNf c)).map (zFv E S id c (upd wi k x)) := by
  apply List.ext_getElem?
  intro j
  rw [List.getElem?_set]
  by_cases hj : k = j
  · subst hj
    by_cases hl : k < zNf c
    · simp [List.getElem?_map, hl, zFv, hf, upd]
    · simp [List.getElem?_map, hl]
  · by_cases hl : j < zNf c
    · simp [List.getElem?_map, hl, zFv, upd, hj, Ne.symm hj]
    · simp [List.getElem?_map, hl, hj]
theorem zL_put {E : ZE} {S : Zs} {w : Zw} {id q k : Nat} {x : Int32} {el : va_E} (hid : id = q + 1) (hq : q < S.n) (hel : el = zCe E S id (upd (w id) k x)) : (zL E S w).set q (zRo E id, el) = zL E S (zput w id k x) := by
  subst hid; subst hel
  have h := zL_set (E := E) (S := S) (S' := S) (w := w) (w' := zput w (q + 1) k x) hq rfl (fun j hj => by rw [zput_ne hj])
  rw [zput_at] at h
  exact h
theorem z_getI {c index id : Nat} {nm : String} {T : u_T} {N : Nat} (hc : zCls c nm T N) (k : Nat) (hk : k < N) (hf : zIsR (zFty c k) = false) (hg : Cond.fieldLink C.own index (T k).1 (T k).2.1 (T k).2.2.1 ∈ zGW) (ho : zObj S id c) (hd : decode C.cc pc = .ok (.getfield index, 3)) (h : zOk C kc ks S w (pc + 3) lv (.int (w id k) :: st) em X) : zOk C kc ks S w pc lv (.ref id :: st) em X := by
  intro i hi p e R s m args below meth c9 H locs ls cells slots mc ms hX hB hV hL h1 h2 hZ
  obtain ⟨q, hid, hq, hro, hat⟩ := ho.at (E := C.1) (w := w)
  exact va_get (D := C.1.G) hX.1 hX.2.1 hX.2.2.2.2.1 hc.2.2.1 hX.2.2.1 hX.2.2.2.2.2.2.2.2.1.1 hB q hat hc.1 k hk (hX.2.2.2.2.1 _ hg) (fun _ h9 => h9) (zF_I (hc.2.1 ▸ hk) hf) hd (h i hi p e R s m args below meth c9 H locs ls cells slots mc ms hX hB hV hL h1 h2 hZ)
theorem z_getR {c index id a : Nat} {nm : String} {T : u_T} {N : Nat} (hc : zCls c nm T N) (k : Nat) (hk : k < N) (hf : zIsR (zFty c k) = true) (hg : Cond.fieldLink C.own index (T k).1 (T k).2.1 (T k).2.2.1 ∈ zGW) (ho : zObj S id c) (ha : S.cr id k = some a) (hd : decode C.cc pc = .ok (.getfield index, 3)) (h : zOk C kc ks S w (pc + 3) lv (.ref a :: st) em X) : zOk C kc ks S w pc lv (.ref id :: st) em X := by
  intro i hi p e R s m args below meth c9 H locs ls cells slots mc ms hX hB hV hL h1 h2 hZ
  obtain ⟨q, hid, hq, hro, hat⟩ := ho.at (E := C.1) (w := w)
  exact va_get (D := C.1.G) hX.1 hX.2.1 hX.2.2.2.2.1 hc.2.2.1 hX.2.2.1 hX.2.2.2.2.2.2.2.2.1.1 hB q hat hc.1 k hk (hX.2.2.2.2.1 _ hg) (fun _ h9 => h9) (zF_R (hc.2.1 ▸ hk) hf ha) hd (h i hi p e R s m args below meth c9 H locs ls cells slots mc ms hX hB hV hL h1 h2 hZ)
/-- a private field of a nest mate -/
theorem z_getNI {c index id : Nat} {nm host : String} {T : u_T} {N : Nat} (hc : zCls c nm T N) (k : Nat) (hk : k < N) (hf : zIsR (zFty c k) = false) (hg : (C.own, index, (T k).1, (T k).2.1, (T k).2.2.1, host) ∈ zNf1) (ho : zObj S id c) (hd : decode C.cc pc = .ok (.getfield index, 3)) (h : zOk C kc ks S w (pc + 3) lv (.int (w id k) :: st) em X) : zOk C kc ks S w pc lv (.ref id :: st) em X := by
  intro i hi p e R s m args below meth c9 H locs ls cells slots mc ms hX hB hV hL h1 h2 hZ
  obtain ⟨q, hid, hq, hro, hat⟩ := ho.at (E := C.1) (w := w)
  exact va_getN (D := C.1.G) hX.1 hX.2.1 hX.2.2.2.2.1 hc.2.2.1 hX.2.2.1 hX.2.2.2.2.2.2.2.2.1.1 hB q hat hc.1 k hk (va_Nw.use rfl (hX.2.2.2.2.2.2.2.2.1.2.2.2.2.1 _ hg)) (fun _ h9 => h9) (zF_I (hc.2.1 ▸ hk) hf) hd (h i hi p e R s m args below meth c9 H locs ls cells slots mc ms hX hB hV hL h1 h2 hZ)
theorem z_getNR {c index id a : Nat} {nm host : String} {T : u_T} {N : Nat} (hc : zCls c nm T N) (k : Nat) (hk : k < N) (hf : zIsR (zFty c k) = true) (hg : (C.own, index, (T k).1, (T k).2.1, (T k).2.2.1, host) ∈ zNf1) (ho : zObj S id c) (ha : S.cr id k = some a) (hd : decode C.cc pc = .ok (.getfield index, 3)) (h : zOk C kc ks S w (pc + 3) lv (.ref a :: st) em X) : zOk C kc ks S w pc lv (.ref id :: st) em X := by
  intro i hi p e R s m args below meth c9 H locs ls cells slots mc ms hX hB hV hL h1 h2 hZ
  obtain ⟨q, hid, hq, hro, hat⟩ := ho.at (E := C.1) (w := w)
  exact va_getN (D := C.1.G) hX.1 hX.2.1 hX.2.2.2.2.1 hc.2.2.1 hX.2.2.1 hX.2.2.2.2.2.2.2.2.1.1 hB q hat hc.1 k hk (va_Nw.use rfl (hX.2.2.2.2.2.2.2.2.1.2.2.2.2.1 _ hg)) (fun _ h9 => h9) (zF_R (hc.2.1 ▸ hk) hf ha) hd (h i hi p e R s m args below meth c9 H locs ls cells slots mc ms hX hB hV hL h1 h2 hZ)
theorem z_putI {c index id : Nat} {nm : String} {T : u_T} {N : Nat} {x : Int32} (hc : zCls c nm T N) (k : Nat) (hk : k < N) (hf : zFty c k = .int ∨ (zFty c k = .boolean ∧ (x = 0 ∨ x = 1))) (hfin : (T k).2.2.2 = false) (hg : Cond.fieldLink C.own index (T k).1 (T k).2.1 (T k).2.2.1 ∈ zGW) (ho : zObj S id c) (hd : decode C.cc pc = .ok (.putfield index, 3)) (h : zOk C kc ks S (zput w id k x) (pc + 3) lv st em X) : zOk C kc ks S w pc lv (.int x :: .ref id :: st) em X := by
  intro i hi p e R s m args below meth c9 H locs ls cells slots mc ms hX hB hV hL h1 h2 hZ
  obtain ⟨q, hid, hq, hro, hat⟩ := ho.at (E := C.1) (w := w)
  have hf0 : zIsR (zFty c k) = false := by rcases hf with hf | ⟨hf, -⟩ <;> rw [hf] <;> rfl
  have hn : narrow (zFty c k) (.int x) = .int x := by rcases hf with hf | ⟨hf, rfl | rfl⟩ <;> rw [hf] <;> rfl
  have hft : fits (zFty c k) (.int x) = true := by rcases hf with hf | ⟨hf, rfl | rfl⟩ <;> rw [hf] <;> rfl
  refine va_put (D := C.1.G) (v := .int x) hX.1 hX.2.1 hX.2.2.2.2.1 hc.2.2.1 (zFty c) hc.2.2.2.1 hc.2.2.2.2 hX.2.2.1 hX.2.2.2.2.2.2.2.2.1.1 hB (zL_D C.1 S w) hV q hat hc.1 k hk (hX.2.2.2.2.1 _ hg) (fun _ h9 => h9) hfin (hc.2.2.2.1 k hk) hn hft (by simp; exact hc.2.1 ▸ hk) hd (fun H1 locs1 hP1 hD1 hS1 => ?_)
  rw [zL_put (k := k) (x := x) hid hq (by rw [zF_setI hf0]; simp [zCe, ho.2.2])] at hP1
  exact h i hi p e R s m args below meth c9 H1 locs1 ls cells slots mc ms hX hP1 hS1 hL h1 h2 hZ
def zin (i : Int32) (n : Nat) : Bool := decide (0 ≤ i.toInt) && decide (i.toInt < n)
abbrev zix (i : Int32) : Nat := i.toNatClampNeg
theorem zin_vp {i : Int32} {n : Nat} (h : zin i n = true) : vp_in i n := by
  simp only [zin, Bool.and_eq_true, decide_eq_true_eq] at h
  exact vp_in_iff.mpr h
theorem z_iald {id : Nat} {x : Int32} (ha : zArr S id 0) (hin : zin x (zlen S id) = true) (hd : decode C.cc pc = .ok (.iaload, 1)) (h : zOk C kc ks S w (pc + 1) lv (.int (w id (zix x)) :: st) em X) : zOk C kc ks S w pc lv (.int x :: .ref id :: st) em X := by
  intro i hi p e R s m args below meth c9 H locs ls cells slots mc ms hX hB hV hL h1 h2 hZ
  obtain ⟨q, hid, hq, hro, hat⟩ := ha.at (E := C.1) (w := w)
  exact va_iald (D := C.1.G) hX.1 hX.2.1 hX.2.2.2.2.2.2.2.2.1.1 hB q 0 hat rfl (zin_vp hin) hd (h i hi p e R s m args below meth c9 H locs ls cells slots mc ms hX hB hV hL h1 h2 hZ)
theorem z_zald {id : Nat} {x : Int32} (ha : zArr S id 1) (hin : zin x (zlen S id) = true) (hd : decode C.cc pc = .ok (.baload, 1)) (h : zOk C kc ks S w (pc + 1) lv (.int (w id (zix x)) :: st) em X) : zOk C kc ks S w pc lv (.int x :: .ref id :: st) em X := by
  intro i hi p e R s m args below meth c9 H locs ls cells slots mc ms hX hB hV hL h1 h2 hZ
  obtain ⟨q, hid, hq, hro, hat⟩ := ha.at (E := C.1) (w := w)
  exact va_zald (D := C.1.G) hX.1 hX.2.1 hX.2.2.2.2.2.2.2.2.1.1 hB q 1 hat rfl (zin_vp hin) hd (h i hi p e R s m args below meth c9 H locs ls cells slots mc ms hX hB hV hL h1 h2 hZ)
theorem z_cald {id : Nat} {x : Int32} (ha : zArr S id 2) (hin : zin x (zlen S id) = true) (hd : decode C.cc pc = .ok (.caload, 1)) (h : zOk C kc ks S w (pc + 1) lv (.int (w id (zix x)) :: st) em X) : zOk C kc ks S w pc lv (.int x :: .ref id :: st) em X := by
  intro i hi p e R s m args below meth c9 H locs ls cells slots mc ms hX hB hV hL h1 h2 hZ
  obtain ⟨q, hid, hq, hro, hat⟩ := ha.at (E := C.1) (w := w)
  exact va_cald (D := C.1.G) hX.1 hX.2.1 hX.2.2.2.2.2.2.2.2.1.1 hB q 2 hat rfl (zin_vp hin) hd (h i hi p e R s m args below meth c9 H locs ls cells slots mc ms hX hB hV hL h1 h2 hZ)
theorem z_lald {id : Nat} {x : Int32} (ha : zArr S id 3) (hin : zin x (zlen S id) = true) (hd : decode C.cc pc = .ok (.laload, 1)) (h : zOk C kc ks S w (pc + 1) lv (.long (S.cl id (zix x)) :: st) em X) : zOk C kc ks S w pc lv (.int x :: .ref id :: st) em X := by
  intro i hi p e R s m args below meth c9 H locs ls cells slots mc ms hX hB hV hL h1 h2 hZ
  obtain ⟨q, hid, hq, hro, hat⟩ := ha.at (E := C.1) (w := w)
  exact va_lald (D := C.1.G) hX.1 hX.2.1 hX.2.2.2.2.2.2.2.2.1.1 hB q 3 hat rfl (zin_vp hin) hd (h i hi p e R s m args below meth c9 H locs ls cells slots mc ms hX hB hV hL h1 h2 hZ)
theorem z_dald {id : Nat} {x : Int32} (ha : zArr S id 4) (hin : zin x (zlen S id) = true) (hd : decode C.cc pc = .ok (.daload, 1)) (h : zOk C kc ks S w (pc + 1) lv (.double (S.cd id (zix x)) :: st) em X) : zOk C kc ks S w pc lv (.int x :: .ref id :: st) em X := by
  intro i hi p e R s m args below meth c9 H locs ls cells slots mc ms hX hB hV hL h1 h2 hZ
  obtain ⟨q, hid, hq, hro, hat⟩ := ha.at (E := C.1) (w := w)
  exact va_dald (D := C.1.G) hX.1 hX.2.1 hX.2.2.2.2.2.2.2.2.1.1 hB q 4 hat rfl (zin_vp hin) hd (h i hi p e R s m args below meth c9 H locs ls cells slots mc ms hX hB hV hL h1 h2 hZ)
/-- the script -/
theorem z_sld {x : Int32} (hin : zin x C.1.L = true) (hd : decode C.cc pc = .ok (.iaload, 1)) (h : zOk C kc ks S w (pc + 1) lv (.int (C.1.xs (zix x)) :: st) em X) : zOk C kc ks S w pc lv (.int x :: .ref 0 :: st) em X := by
  intro i hi p e R s m args below meth c9 H locs ls cells slots mc ms hX hB hV hL h1 h2 hZ
  have hK := hX.2.2.2.2.2.2.2.2.1.2.2.2.2.2.2.2.2.2.2.2
  exact va_sld (A := zA C.1) hX.1 hX.2.1 hK.1 hK.2.2.1 (Nat.not_le.mpr hK.2.1) hV (zin_vp hin) hd (h i hi p e R s m args below meth c9 H locs ls cells slots mc ms hX hB hV hL h1 h2 hZ)
theorem z_slen (hd : decode C.cc pc = .ok (.arraylength, 1)) (h : zOk C kc ks S w (pc + 1) lv (.int (Int32.ofNat C.1.L) :: st) em X) : zOk C kc ks S w pc lv (.ref 0 :: st) em X := by
  intro i hi p e R s m args below meth c9 H locs ls cells slots mc ms hX hB hV hL h1 h2 hZ
  have hK := hX.2.2.2.2.2.2.2.2.1.2.2.2.2.2.2.2.2.2.2.2
  exact va_slen (A := zA C.1) hX.1 hX.2.1 hK.1 hK.2.2.1 (Nat.not_le.mpr hK.2.1) hV hd (h i hi p e R s m args below meth c9 H locs ls cells slots mc ms hX hB hV hL h1 h2 hZ)
theorem z_alen {id t : Nat} (ht : t < 7) (ha : zArr S id t) (hd : decode C.cc pc = .ok (.arraylength, 1)) (h : zOk C kc ks S w (pc + 1) lv (.int (Int32.ofNat (zlen S id)) :: st) em X) : zOk C kc ks S w pc lv (.ref id :: st) em X := by
  intro i hi p e R s m args below meth c9 H locs ls cells slots mc ms hX hB hV hL h1 h2 hZ
  obtain ⟨q, hid, hq, hro, hat⟩ := ha.at (E := C.1) (w := w)
  have ht9 : (zTys C.1)[t]? = some (C.1.cA t, zAty t) := by
    match t, ht with
    | 0, _ | 1, _ | 2, _ | 3, _ | 4, _ | 5, _ | 6, _ => rfl
  exact va_alen (D := C.1.G) hX.1 hX.2.1 hX.2.2.2.2.2.2.2.2.1.1 hB q t hat ht9 rfl hd (h i hi p e R s m args below meth c9 H locs ls cells slots mc ms hX hB hV hL h1 h2 hZ)
theorem z_iast {id : Nat} {x y : Int32} (ha : zArr S id 0) (hin : zin x (zlen S id) = true) (hd : decode C.cc pc = .ok (.iastore, 1)) (h : zOk C kc ks S (zput w id (zix x) y) (pc + 1) lv st em X) : zOk C kc ks S w pc lv (.int y :: .int x :: .ref id :: st) em X := by
  intro i hi p e R s m args below meth c9 H locs ls cells slots mc ms hX hB hV hL h1 h2 hZ
  obtain ⟨q, hid, hq, hro, hat⟩ := ha.at (E := C.1) (w := w)
  refine va_iast (D := C.1.G) hX.1 hX.2.1 hX.2.2.2.2.2.2.2.2.1.1 hB (zL_D C.1 S w) hV q 0 hat rfl (zin_vp hin) hd (fun H1 locs1 hP1 hD1 hS1 => ?_)
  obtain ⟨_, _, n, hn⟩ := ha
  rw [zL_put (k := zix x) (x := y) hid hq (by simp [zCe, hn, zlen, zCt])] at hP1
  exact h i hi p e R s m args below meth c9 H1 locs1 ls cells slots mc ms hX hP1 hS1 hL h1 h2 hZ
theorem z_zast {id : Nat} {x y : Int32} (ha : zArr S id 1) (hin : zin x (zlen S id) = true) (hd : decode C.cc pc = .ok (.bastore, 1)) (h : zOk C kc ks S (zput w id (zix x) (vp_nar .boolean y)) (pc + 1) lv st em X) : zOk C kc ks S w pc lv (.int y :: .int x :: .ref id :: st) em X := by
  intro i hi p e R s m args below meth c9 H locs ls cells slots mc ms hX hB hV hL h1 h2 hZ
  obtain ⟨q, hid, hq, hro, hat⟩ := ha.at (E := C.1) (w := w)
  refine va_zast (D := C.1.G) hX.1 hX.2.1 hX.2.2.2.2.2.2.2.2.1.1 hB (zL_D C.1 S w) hV q 1 hat rfl (zin_vp hin) hd (fun H1 locs1 hP1 hD1 hS1 => ?_)
  obtain ⟨_, _, n, hn⟩ := ha
  rw [zL_put (k := zix x) (x := vp_nar .boolean y) hid hq (by simp [zCe, hn, zlen, zCt])] at hP1
  exact h i hi p e R s m args below meth c9 H1 locs1 ls cells slots mc ms hX hP1 hS1 hL h1 h2 hZ
theorem z_cast {id : Nat} {x y : Int32} (ha : zArr S id 2) (hin : zin x (zlen S id) = true) (hd : decode C.cc pc = .ok (.castore, 1)) (h : zOk C kc ks S (zput w id (zix x) (vp_nar .char y)) (pc + 1) lv st em X) : zOk C kc ks S w pc lv (.int y :: .int x :: .ref id :: st) em X := by
  intro i hi p e R s m args below meth c9 H locs ls cells slots mc ms hX hB hV hL h1 h2 hZ
  obtain ⟨q, hid, hq, hro, hat⟩ := ha.at (E := C.1) (w := w)
  refine va_cast (D := C.1.G) hX.1 hX.2.1 hX.2.2.2.2.2.2.2.2.1.1 hB (zL_D C.1 S w) hV q 2 hat rfl (zin_vp hin) hd (fun H1 locs1 hP1 hD1 hS1 => ?_)
  obtain ⟨_, _, n, hn⟩ := ha
  rw [zL_put (k := zix x) (x := vp_nar .char y) hid hq (by simp [zCe, hn, zlen, zCt])] at hP1
  exact h i hi p e R s m args below meth c9 H1 locs1 ls cells slots mc ms hX hP1 hS1 hL h1 h2 hZ
end ZH
