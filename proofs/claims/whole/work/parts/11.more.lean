section ZD
variable {I : Type} {C : Zc} {kc ks : Nat} {S : Zs} {w : Zw} {pc : Nat} {lv : List (Nat × Value)} {st st0 : List Value} {em : I → Zr} {X : Option I}
/-- 'throw new E("text")': what is known of a class of exceptions at its constructor's place -/
def zBd : List Cond := zCa.map (fun E => .castable E E) ++ zDe.map (fun y => .declares y)
def zEx (own : String) (ic : Nat) (cls : String) : Prop := Bundle.fit cls = true ∧ Cond.initialized cls ∈ zGW ∧ (∀ w ∈ (vx_atS own ic cls ["java/lang/RuntimeException", "java/lang/Exception"]).filter goodWord, w ∈ zGW) ∧ (∀ w ∈ (vx_atS own ic cls ["java/lang/RuntimeException", "java/lang/Exception"]).filter (fun w => !goodWord w), w ∈ zBd) ∧ (vx_atS own ic cls ["java/lang/RuntimeException", "java/lang/Exception"]).all vx_ot = true
theorem zx_ISE : zEx RX7 56 "java/lang/IllegalStateException" := ⟨by decide +kernel, by decide +kernel, by decide +kernel, by decide +kernel, by decide +kernel⟩
theorem zx_UOE : zEx RX7 71 "java/lang/UnsupportedOperationException" := ⟨by decide +kernel, by decide +kernel, by decide +kernel, by decide +kernel, by decide +kernel⟩
theorem zx_IAE : zEx RX7 110 "java/lang/IllegalArgumentException" := ⟨by decide +kernel, by decide +kernel, by decide +kernel, by decide +kernel, by decide +kernel⟩
theorem zx_IOE : zEx RX7 261 "java/lang/IndexOutOfBoundsException" := ⟨by decide +kernel, by decide +kernel, by decide +kernel, by decide +kernel, by decide +kernel⟩
theorem zx_ARE : zEx RX7 283 "java/lang/ArithmeticException" := ⟨by decide +kernel, by decide +kernel, by decide +kernel, by decide +kernel, by decide +kernel⟩
theorem zBd_ok {E : ZE} {s : State} {args : Array Value} (hK : zK E s) : ∀ w ∈ zBd, w.before args s = true := by
  intro w hw
  rcases List.mem_append.mp hw with hw | hw
  · obtain ⟨q, hq, rfl⟩ := List.mem_map.mp hw
    exact va_Nw.use rfl (hK.2.2.2.2.2.2.2.1 q hq)
  · obtain ⟨q, hq, rfl⟩ := List.mem_map.mp hw
    exact va_Nw.use rfl (hK.2.2.2.2.2.2.2.2.1 q hq)
theorem z_throw {ik is ic : Nat} {cls text : String} (hex : zEx C.own ic cls) (hk : Cond.classLink C.own ik cls ∈ zGW) (hs : (C.own, is, text) ∈ zStr)
    (hd : 6 ≤ C.d) (hc : 1 ≤ kc) (hs6 : 6 ≤ ks) (hh : C.hh = []) (hst : (st.map fun v => v.category).sum ≤ 8) (hem : ∀ i, X = some i → em i = (.inr cls, S, w))
    (d0 : decode C.cc pc = .ok (.new ik, 3)) (d3 : decode C.cc (pc + 3) = .ok (.dup, 1)) (d4 : decode C.cc (pc + 4) = .ok (.ldc is, 2)) (d6 : decode C.cc (pc + 6) = .ok (.invokespecial ic, 3)) (d9 : decode C.cc (pc + 9) = .ok (.athrow, 1)) : zOk C kc ks S w pc lv st em X := by
  intro i hi p e R s m args below meth c9 H locs ls cells slots mc ms hX hB hV hL h1 h2 hZ
  rw [hem i hi]
  have hts := hX.2.2.2.2.1
  have hK := hX.2.2.2.2.2.2.2.2.1
  have hb : C.1.base ≤ H.size := Nat.le_trans hX.2.2.2.2.2.2.2.2.2.1 hV.1
  obtain ⟨sa, hstr⟩ := hK.2.2.2.1 _ hs
  have hrc := hX.2.2.2.2.2.2.2.2.2.2.2.2.1
  have hrs := hX.2.2.2.2.2.2.2.2.2.2.2.2.2.1
  have hfr : C.d ≤ R.frames := hX.2.2.2.2.2.2.2.2.2.2.1
  have hlo : 64 * C.d ≤ R.locals := hX.2.2.2.2.2.2.2.2.2.2.2.1
  refine vx_throwS (A := zA C.1) (own := C.own) (cls := cls) (text := text) (names := ["java/lang/RuntimeException", "java/lang/Exception"]) hX.1 hX.2.1 hK.2.2.2.2.2.2.2.2.2.2.2.2.2.2.2 hX.2.2.1 hex.1 (by decide +kernel) (hts _ hk) (hts _ hex.2.1) hstr (vx_hat (fun w9 h9 => hts _ (hex.2.2.1 w9 h9)) hex.2.2.2.1 (zBd_ok hK)) (fun w9 h9 => ?_) hK.2.1 hK.2.2.1 hV (hL.1.trans hX.2.2.2.1.symm) d0 d3 d4 d6 d9 (fun x hx9 => by rw [hX.2.2.2.2.2.2.2.1, hh] at hx9; cases hx9) ?_ ?_ (by omega) (by omega) hX.2.2.2.2.2.2.1 (fun t hW hz hq => ⟨⟨rfl, ?_⟩, Nat.le_trans hV.1 hz, fun q h3 h4 => (hq q (Nat.lt_of_lt_of_le h3 hV.1)).trans (hV.2.1 q h3 h4)⟩) hV.2.2 (by omega) (by omega)
  · rcases List.mem_cons.mp h9 with rfl | h9
    · simp [vx_ot, zGW_good hk]
    · rcases List.mem_cons.mp h9 with rfl | h9
      · simp [vx_ot, zGW_good hex.2.1]
      · exact List.all_eq_true.mp hex.2.2.2.2 w9 h9
  · show 2 + 3 < R.frames
    omega
  · have h9 := zsum (E := C.1) hst
    show ((st.map (zV C.1)).map fun v => v.category).sum + (13 * 3 + 43) ≤ R.locals
    omega
  · exact va_P.kept hB (fun k q hk9 => hq q.1 ((hB k q hk9).lt))
theorem z_throwW {ik is ic : Nat} {cls text : String} (hex : zEx C.own ic cls) (hk : Cond.classLink C.own ik cls ∈ zGW) (hs : (C.own, is, text) ∈ zStr)
    (hd : 6 ≤ C.d) (hc : 1 ≤ kc) (hs6 : 6 ≤ ks) (hh : C.hh = []) (hst : (st.map fun v => v.category).sum ≤ 8) (hem : ∀ i, X = some i → em i = (.inr cls, S, w))
    (d0 : decode C.cc pc = .ok (.new ik, 3)) (d3 : decode C.cc (pc + 3) = .ok (.dup, 1)) (d4 : decode C.cc (pc + 4) = .ok (.ldc_w is, 3)) (d6 : decode C.cc (pc + 7) = .ok (.invokespecial ic, 3)) (d9 : decode C.cc (pc + 10) = .ok (.athrow, 1)) : zOk C kc ks S w pc lv st em X := by
  intro i hi p e R s m args below meth c9 H locs ls cells slots mc ms hX hB hV hL h1 h2 hZ
  rw [hem i hi]
  have hts := hX.2.2.2.2.1
  have hK := hX.2.2.2.2.2.2.2.2.1
  have hb : C.1.base ≤ H.size := Nat.le_trans hX.2.2.2.2.2.2.2.2.2.1 hV.1
  obtain ⟨sa, hstr⟩ := hK.2.2.2.1 _ hs
  have hrc := hX.2.2.2.2.2.2.2.2.2.2.2.2.1
  have hrs := hX.2.2.2.2.2.2.2.2.2.2.2.2.2.1
  have hfr : C.d ≤ R.frames := hX.2.2.2.2.2.2.2.2.2.2.1
  have hlo : 64 * C.d ≤ R.locals := hX.2.2.2.2.2.2.2.2.2.2.2.1
  refine vx_throwSW (A := zA C.1) (own := C.own) (cls := cls) (text := text) (names := ["java/lang/RuntimeException", "java/lang/Exception"]) hX.1 hX.2.1 hK.2.2.2.2.2.2.2.2.2.2.2.2.2.2.2 hX.2.2.1 hex.1 (by decide +kernel) (hts _ hk) (hts _ hex.2.1) hstr (vx_hat (fun w9 h9 => hts _ (hex.2.2.1 w9 h9)) hex.2.2.2.1 (zBd_ok hK)) (fun w9 h9 => ?_) hK.2.1 hK.2.2.1 hV (hL.1.trans hX.2.2.2.1.symm) d0 d3 d4 d6 d9 (fun x hx9 => by rw [hX.2.2.2.2.2.2.2.1, hh] at hx9; cases hx9) ?_ ?_ (by omega) (by omega) hX.2.2.2.2.2.2.1 (fun t hW hz hq => ⟨⟨rfl, ?_⟩, Nat.le_trans hV.1 hz, fun q h3 h4 => (hq q (Nat.lt_of_lt_of_le h3 hV.1)).trans (hV.2.1 q h3 h4)⟩) hV.2.2 (by omega) (by omega)
  · rcases List.mem_cons.mp h9 with rfl | h9
    · simp [vx_ot, zGW_good hk]
    · rcases List.mem_cons.mp h9 with rfl | h9
      · simp [vx_ot, zGW_good hex.2.1]
      · exact List.all_eq_true.mp hex.2.2.2.2 w9 h9
  · show 2 + 3 < R.frames
    omega
  · have h9 := zsum (E := C.1) hst
    show ((st.map (zV C.1)).map fun v => v.category).sum + (13 * 3 + 43) ≤ R.locals
    omega
  · exact va_P.kept hB (fun k q hk9 => hq q.1 ((hB k q hk9).lt))
/-- Math.max, min, abs -/
theorem z_mmax {x y : Int32} {index : Nat} (hl : Cond.methodLink C.own index Lib.Math.max.name ∈ zGW) (h6 : 6 ≤ C.d) (hst : (st.map fun v => v.category).sum ≤ 8) (hd : decode C.cc pc = .ok (.invokestatic index, 3)) (h : zOk C kc ks S w (pc + 3) lv (.int (if x < y then y else x) :: st) em X) : zOk C kc ks S w pc lv (.int y :: .int x :: st) em X := by
  intro i hi p e R s m args below meth c9 H locs ls cells slots mc ms hX hB hV hL h1 h2 hZ
  have hts := hX.2.2.2.2.1
  have h9 := zsum (E := C.1) hst
  have hrc := hX.2.2.2.2.2.2.2.2.2.2.2.2.1
  have hrs := hX.2.2.2.2.2.2.2.2.2.2.2.2.2.1
  have hfr : C.d ≤ R.frames := hX.2.2.2.2.2.2.2.2.2.2.1
  have hlo : 64 * C.d ≤ R.locals := hX.2.2.2.2.2.2.2.2.2.2.2.1
  exact va_mmax hX.1 hX.2.1 (hX.2.2.2.1.trans hL.1.symm) hX.2.2.1 (hts _ hl) (hts _ zm_st_max) (hts _ zm_ini) (hts _ zm_code_max) (by omega) (by omega) (by omega) (by omega) hd (h i hi p e R s m args below meth c9 H locs ls cells slots mc ms hX hB hV hL h1 h2 hZ)
theorem z_mmin {x y : Int32} {index : Nat} (hl : Cond.methodLink C.own index Lib.Math.min.name ∈ zGW) (h6 : 6 ≤ C.d) (hst : (st.map fun v => v.category).sum ≤ 8) (hd : decode C.cc pc = .ok (.invokestatic index, 3)) (h : zOk C kc ks S w (pc + 3) lv (.int (if y < x then y else x) :: st) em X) : zOk C kc ks S w pc lv (.int y :: .int x :: st) em X := by
  intro i hi p e R s m args below meth c9 H locs ls cells slots mc ms hX hB hV hL h1 h2 hZ
  have hts := hX.2.2.2.2.1
  have h9 := zsum (E := C.1) hst
  have hrc := hX.2.2.2.2.2.2.2.2.2.2.2.2.1
  have hrs := hX.2.2.2.2.2.2.2.2.2.2.2.2.2.1
  have hfr : C.d ≤ R.frames := hX.2.2.2.2.2.2.2.2.2.2.1
  have hlo : 64 * C.d ≤ R.locals := hX.2.2.2.2.2.2.2.2.2.2.2.1
  exact va_mmin hX.1 hX.2.1 (hX.2.2.2.1.trans hL.1.symm) hX.2.2.1 (hts _ hl) (hts _ zm_st_min) (hts _ zm_ini) (hts _ zm_code_min) (by omega) (by omega) (by omega) (by omega) hd (h i hi p e R s m args below meth c9 H locs ls cells slots mc ms hX hB hV hL h1 h2 hZ)
theorem z_mabs {x : Int32} {index : Nat} (hl : Cond.methodLink C.own index Lib.Math.abs.name ∈ zGW) (h6 : 6 ≤ C.d) (hst : (st.map fun v => v.category).sum ≤ 8) (hd : decode C.cc pc = .ok (.invokestatic index, 3)) (h : zOk C kc ks S w (pc + 3) lv (.int (if 0 ≤ x then x else 0 - x) :: st) em X) : zOk C kc ks S w pc lv (.int x :: st) em X := by
  intro i hi p e R s m args below meth c9 H locs ls cells slots mc ms hX hB hV hL h1 h2 hZ
  have hts := hX.2.2.2.2.1
  have h9 := zsum (E := C.1) hst
  have hrc := hX.2.2.2.2.2.2.2.2.2.2.2.2.1
  have hrs := hX.2.2.2.2.2.2.2.2.2.2.2.2.2.1
  have hfr : C.d ≤ R.frames := hX.2.2.2.2.2.2.2.2.2.2.1
  have hlo : 64 * C.d ≤ R.locals := hX.2.2.2.2.2.2.2.2.2.2.2.1
  exact va_mabs hX.1 hX.2.1 (hX.2.2.2.1.trans hL.1.symm) hX.2.2.1 (hts _ hl) (hts _ zm_st_abs) (hts _ zm_ini) (hts _ zm_code_abs) (by omega) (by omega) (by omega) (by omega) hd (h i hi p e R s m args below meth c9 H locs ls cells slots mc ms hX hB hV hL h1 h2 hZ)
/-- System.arraycopy of whole numbers -/
def zwup (w : Zw) (id : Nat) (f : Nat → Int32) : Zw := fun j => if j = id then f else w j
theorem zL_up {E : ZE} {S : Zs} {w : Zw} {id q : Nat} {f : Nat → Int32} {el : va_E} (hid : id = q + 1) (hq : q < S.n) (hel : el = zCe E S id f) : (zL E S w).set q (zRo E id, el) = zL E S (zwup w id f) := by
  subst hid; subst hel
  have h := zL_set (E := E) (S := S) (S' := S) (w := w) (w' := zwup w (q + 1) f) hq rfl (fun j hj => by simp [zwup, hj])
  have e : zwup w (q + 1) f (q + 1) = f := by simp [zwup]
  rw [e] at h
  exact h
def zcpk (S : Zs) (w : Zw) (t a b : Nat) (sp dp n : Int32) : Bool := decide (¬ sp < 0) && decide (¬ dp < 0) && decide (¬ n < 0) && decide (zix sp + zix n ≤ zlen S a) && decide (zix dp + zix n ≤ zlen S b) && (List.range (zix n)).all (fun i => fits (zAty t) (.int (w a (zix sp + i))))
def zcpy (w : Zw) (a b : Nat) (sp dp n : Int32) : Zw := zwup w b (va_cpy (w a) (w b) (zix sp) (zix dp) (zix n))
theorem z_copy {index a b : Nat} {sp dp n : Int32} (t : Nat) (ht : t = 0 ∨ t = 1 ∨ t = 2) (ha : zArr S a t) (hb : zArr S b t) (hk : zcpk S w t a b sp dp n = true) (hl : Cond.methodLink C.own index arraycopyName ∈ zGW) (h6 : 6 ≤ C.d) (hst : (st.map fun v => v.category).sum ≤ 8) (hd : decode C.cc pc = .ok (.invokestatic index, 3))
    (h : zOk C kc ks S (zcpy w a b sp dp n) (pc + 3) lv st em X) : zOk C kc ks S w pc lv (.int n :: .int dp :: .ref b :: .int sp :: .ref a :: st) em X := by
  intro i hi p e R s m args below meth c9 H locs ls cells slots mc ms hX hB hV hL h1 h2 hZ
  have hts := hX.2.2.2.2.1
  have h9 := zsum (E := C.1) hst
  have hfr : C.d ≤ R.frames := hX.2.2.2.2.2.2.2.2.2.2.1
  have hlo : 64 * C.d ≤ R.locals := hX.2.2.2.2.2.2.2.2.2.2.2.1
  obtain ⟨q0, hid0, hq0, hro0, hat0⟩ := ha.at (E := C.1) (w := w)
  obtain ⟨q1, hid1, hq1, hro1, hat1⟩ := hb.at (E := C.1) (w := w)
  simp only [zcpk, Bool.and_eq_true, decide_eq_true_eq, List.all_eq_true, List.mem_range] at hk
  obtain ⟨⟨⟨⟨⟨k1, k2⟩, k3⟩, k4⟩, k5⟩, k6⟩ := hk
  have ht9 : (zTys C.1)[t]? = some (C.1.cA t, zAty t) := by rcases ht with rfl | rfl | rfl <;> rfl
  have hrk : refKind (zAty t) = false := by rcases ht with rfl | rfl | rfl <;> rfl
  have hct : ∀ id f, zCt C.1 S id t f = .inl f := by intro id f; rcases ht with rfl | rfl | rfl <;> rfl
  have hnw : nativeFrameWords "java/lang/System" "arraycopy" 5 ≤ 40 := by decide +kernel
  rw [hct] at hat0 hat1
  refine va_copyi (D := C.1.G) hX.1 hX.2.1 (hX.2.2.2.1.trans hL.1.symm) hX.2.2.1 (hts _ hl) (hts _ zm_nat) (hts _ zm_st_cpy) (hts _ zm_ini_sys) hX.2.2.2.2.2.2.2.2.1.1 hB (zL_D C.1 S w) hV q0 q1 t t hat0 hat1 ht9 ht9 hrk k1 k2 k3 k4 k5 k6 (by omega) (by omega) hd (fun H1 locs1 hP1 hD1 hS1 => ?_)
  obtain ⟨_, _, n9, hn9⟩ := hb
  rw [zL_up (f := va_cpy (w a) (w b) (zix sp) (zix dp) (zix n)) hid1 hq1 (by simp [zCe, hn9, zlen, hct])] at hP1
  exact h i hi p e R s m args below meth c9 H1 locs1 ls cells slots mc ms hX hP1 hS1 hL h1 h2 hZ
theorem z_aald {id t a : Nat} {x : Int32} (ht : t = 5 ∨ t = 6) (harr : zArr S id t) (hin : zin x (zlen S id) = true) (ha : S.cr id (zix x) = some a) (hd : decode C.cc pc = .ok (.aaload, 1)) (h : zOk C kc ks S w (pc + 1) lv (.ref a :: st) em X) : zOk C kc ks S w pc lv (.int x :: .ref id :: st) em X := by
  intro i hi p e R s m args below meth c9 H locs ls cells slots mc ms hX hB hV hL h1 h2 hZ
  obtain ⟨q, hid, hq, hro, hat⟩ := harr.at (E := C.1) (w := w)
  have h9 := h i hi p e R s m args below meth c9 H locs ls cells slots mc ms hX hB hV hL h1 h2 hZ
  have e9 : va_rf ((S.cr id (zix x)).map (zRo C.1)) = zV C.1 (.ref a) := by rw [ha]; rfl
  rw [List.map_cons, ← e9] at h9
  rcases ht with rfl | rfl
  · exact va_aldq (D := C.1.G) hX.1 hX.2.1 hX.2.2.2.2.2.2.2.2.1.1 hB q 5 hat rfl (zin_vp hin) hd h9
  · exact va_aldq (D := C.1.G) hX.1 hX.2.1 hX.2.2.2.2.2.2.2.2.1.1 hB q 6 hat rfl (zin_vp hin) hd h9
end ZD
