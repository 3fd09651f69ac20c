/-! What the law needs: calls whose exceptions are caught, methods with a table of handlers, the long and double arrays of the answers. -/
section ZL9
variable {I : Type} {C : Zc} {kc ks : Nat} {S : Zs} {w : Zw} {pc : Nat} {lv : List (Nat × Value)} {st st0 : List Value} {em : I → Zr} {X : Option I}
/-- what Ex is caught by at pc: handler's place -/
def zCatch (hh : List (Nat × Nat × Nat × Nat)) (own : String) (pc : Nat) (Ex : String) (hp : Nat) : Prop := ∃ (pre : List ExceptionTableEntry) (x : ExceptionTableEntry) (suf : List ExceptionTableEntry), tableOf hh = pre ++ x :: suf ∧ (∀ z ∈ pre, covers z pc = false ∨ (z.catchType ≠ 0 ∧ ∃ nm : String, Cond.classLink own z.catchType nm ∈ zGW ∧ (Ex, nm) ∈ zNc)) ∧ covers x pc = true ∧ x.catchType ≠ 0 ∧ x.handlerPc = hp ∧ Cond.classLink own x.catchType Ex ∈ zGW ∧ Ex ∈ zCa
theorem z_callVXr {c id index maxL d' mc' ms' kc' ks' N : Nat} {nm : String} {T : u_T} {y : MethodName} {bytes : ByteArray} {ret : Option FieldType} {v : Option Value} {S1 : Zs} {w1 : Zw} (as : List Value)
    (hM : zMx C.1 y bytes maxL ret d' mc' ms' (.ref id :: as) S w (.inl v, S1, w1)) (hc : zCls c nm T N) (ho : zObj S id c) (hy : zY y bytes maxL ret as.length) (hi9 : Cond.instanceMethod y ∈ zGW) (hs9 : Cond.selects nm y y ∈ zGW) (hl : Cond.methodLink C.own index y ∈ zGW)
    (hd1 : d' + 1 ≤ C.d) (hsum : (st.map fun v => v.category).sum ≤ 8) (hkc : mc' + kc' ≤ kc) (hks : ms' + ks' ≤ ks) (hal : S1.al = true → S.al = true ∧ S1.n = S.n + mc') (hst : as.reverse ++ .ref id :: st = st0) (hd : decode C.cc pc = .ok (.invokevirtual index, 3))
    (h : zOk C kc' ks' S1 w1 (pc + 3) lv (v.toList ++ st) em X) : zOk C kc ks S w pc lv st0 em X := by
  intro i hi p e R s m args below meth c9 H locs ls cells slots mc ms hX hB hV hL h1 h2 hZ T9 hT9 X9
  obtain ⟨q, hid, hq, hro, hat⟩ := ho.at (E := C.1) (w := w)
  have hts := hX.2.2.2.2.1
  have hp := zpre (.ref id :: as) hX hB hV hZ hT9 X9
  have hdl : 8 + (maxL + 11) + 64 * d' ≤ R.locals := by
    have a1 := hX.2.2.2.2.2.2.2.2.2.2.2.1
    have a2 := hy.2.2.2
    omega
  have hdf : d' + 1 ≤ R.frames := Nat.le_trans hd1 hX.2.2.2.2.2.2.2.2.2.2.1
  have hrc := hX.2.2.2.2.2.2.2.2.2.2.2.2.1
  have hrs := hX.2.2.2.2.2.2.2.2.2.2.2.2.2.1
  have cw : CallW R s args C.own nm index y bytes maxL ret (zWs y bytes maxL ret) (zRm d' mc' ms') mc' ms' as.length := ⟨callB_of _ hts (zGW_GoodIn hy.1) rfl rfl rfl (hts _ hy.2.1) (hts _ hl) hy.2.2.1 ⟨hdf, hdl⟩, hts _ hi9, hts _ hs9⟩
  have hr := vx_runV (As := as.map (zV C.1)) (b := zRo C.1 id) (rest := st.map (zV C.1)) (g := F0 m pc ls (st0.map (zV C.1))) (locs := locs) (cells := cells) (slots := slots) (below := below) (meth := meth) (e := e) (H := H) ⟨hX.1, hX.2.1, hX.2.2.2.1, hX.2.2.1, hts⟩ hM cw ⟨zPc_blind, va_recv hX.2.2.2.2.2.2.2.2.1.1 hB hc.1 hat, hp⟩ rfl (by simp) hL.1 (by subst hst; simp [zV]) (lv_room (zsum hsum)) hd ⟨by omega, by omega⟩
  refine z_runX hr hV (fun v9 H1 locs1 hv hB1 hV1 => ?_) (fun Ex ce q9 H1 locs1 hv hB1 hV1 g1 g2 g3 => by cases hv) T9 hT9 X9
  cases hv
  have h9 := h i hi p e R s m args below meth c9 H1 locs1 ls (cells + mc') (slots + ms') mc ms hX hB1 hV1 hL (by omega) (by omega) (fun q => by have := hal q; have := hZ this.1; omega)
  rwa [zst_app] at h9
/-- thrown and caught; the handler puts it by -/
theorem z_callVXt {c id index maxL d' mc' ms' kc' ks' N hp k len : Nat} {nm Ex : String} {T : u_T} {y : MethodName} {bytes : ByteArray} {ret : Option FieldType} {S1 : Zs} {w1 : Zw} {lv' : List (Nat × Value)} (as : List Value)
    (hM : zMx C.1 y bytes maxL ret d' mc' ms' (.ref id :: as) S w (.inr Ex, S1, w1)) (hc : zCls c nm T N) (ho : zObj S id c) (hy : zY y bytes maxL ret as.length) (hi9 : Cond.instanceMethod y ∈ zGW) (hs9 : Cond.selects nm y y ∈ zGW) (hl : Cond.methodLink C.own index y ∈ zGW)
    (hd1 : d' + 1 ≤ C.d) (hsum : (st.map fun v => v.category).sum ≤ 8) (hkc : mc' + kc' ≤ kc) (hks : ms' + ks' ≤ ks) (hal : S1.al = true → S.al = true ∧ S1.n = S.n + mc') (hst : as.reverse ++ .ref id :: st = st0) (hd : decode C.cc pc = .ok (.invokevirtual index, 3))
    (hca : zCatch C.hh C.own pc Ex hp) (hia : (∃ k4 : Fin 4, (k4 : Nat) = k ∧ decode C.cc hp = .ok (.astore_n k4, 1) ∧ len = 1) ∨ (decode C.cc hp = .ok (.astore k, 2) ∧ len = 2)) (hk : k < C.nL) (hlv : lv.filter (fun q => !(q.1 == k) && !(q.1 + 1 == k && q.2.category == 2)) = lv')
    (h : zOk C kc' ks' S1 w1 (hp + len) lv' [] em X) : zOk C kc ks S w pc lv st0 em X := by
  intro i hi p e R s m args below meth c9 H locs ls cells slots mc ms hX hB hV hL h1 h2 hZ T9 hT9 X9
  obtain ⟨q, hid, hq, hro, hat⟩ := ho.at (E := C.1) (w := w)
  have hts := hX.2.2.2.2.1
  have hpr := zpre (.ref id :: as) hX hB hV hZ hT9 X9
  have hdl : 8 + (maxL + 11) + 64 * d' ≤ R.locals := by
    have a1 := hX.2.2.2.2.2.2.2.2.2.2.2.1
    have a2 := hy.2.2.2
    omega
  have hdf : d' + 1 ≤ R.frames := Nat.le_trans hd1 hX.2.2.2.2.2.2.2.2.2.2.1
  have hrc := hX.2.2.2.2.2.2.2.2.2.2.2.2.1
  have hrs := hX.2.2.2.2.2.2.2.2.2.2.2.2.2.1
  have hK := hX.2.2.2.2.2.2.2.2.1
  have cw : CallW R s args C.own nm index y bytes maxL ret (zWs y bytes maxL ret) (zRm d' mc' ms') mc' ms' as.length := ⟨callB_of _ hts (zGW_GoodIn hy.1) rfl rfl rfl (hts _ hy.2.1) (hts _ hl) hy.2.2.1 ⟨hdf, hdl⟩, hts _ hi9, hts _ hs9⟩
  have hr := vx_runV (As := as.map (zV C.1)) (b := zRo C.1 id) (rest := st.map (zV C.1)) (g := F0 m pc ls (st0.map (zV C.1))) (locs := locs) (cells := cells) (slots := slots) (below := below) (meth := meth) (e := e) (H := H) ⟨hX.1, hX.2.1, hX.2.2.2.1, hX.2.2.1, hts⟩ hM cw ⟨zPc_blind, va_recv hK.1 hB hc.1 hat, hpr⟩ rfl (by simp) hL.1 (by subst hst; simp [zV]) (lv_room (zsum hsum)) hd ⟨by omega, by omega⟩
  refine z_runX hr hV (fun v9 H1 locs1 hv hB1 hV1 => by cases hv) (fun Ex9 ce q9 H1 locs1 hv hB1 hV1 g1 g2 g3 => ?_) T9 hT9 X9
  cases hv
  obtain ⟨pre, x, suf, hsp, hpass, hcov, h0, hhp, hlk, hcc⟩ := hca
  refine vx_catch (own := C.own) (name := Ex) hX.2.2.1 pre x suf (hX.2.2.2.2.2.2.2.1.trans hsp) (fun z hz => ?_) hcov h0 (hts _ hlk) (va_Nw.use rfl (hK.2.2.2.2.2.2.2.1 _ hcc)) g1 g2 g3 ?_
  · rcases hpass z hz with g | ⟨g, nm9, g4, g5⟩
    · exact Or.inl g
    · exact Or.inr ⟨g, nm9, hts _ g4, hK.2.2.2.2.2.2.1 _ g5⟩
  rw [hhp]
  have hsub : ∀ (ls2 : Array Slot), lv_has ls2 C.nL ((k, .ref q9) :: (zLv C.1 lv).filter (fun q => !(q.1 == k) && !(q.1 + 1 == k && q.2.category == 2))) → lv_has ls2 C.nL (zLv C.1 lv') := by
    intro ls2 h9
    refine ⟨h9.1, h9.2.1, fun q hq => h9.2.2 q (List.mem_cons_of_mem _ ?_)⟩
    have e8 : (zLv C.1 lv).filter (fun q => !(q.1 == k) && !(q.1 + 1 == k && q.2.category == 2)) = zLv C.1 lv' := by
      subst hlv
      simp only [zLv, List.filter_map]
      congr 2
      funext q
      simp [Function.comp, zV_cat]
    rw [e8]
    exact hq
  rcases hia with ⟨k4, hk4, hda, rfl⟩ | ⟨hda, rfl⟩
  · exact lv_astore_n hX.1 hX.2.1 hda hk4 hL hk rfl (fun ls2 hL2 => h i hi p e R s m args below meth c9 H1 locs1 ls2 (cells + mc') (slots + ms') mc ms hX hB1 hV1 (hsub ls2 hL2) (by omega) (by omega) (fun q => by have := hal q; have := hZ this.1; omega))
  · exact lv_astore hX.1 hX.2.1 hda hL hk rfl (fun ls2 hL2 => h i hi p e R s m args below meth c9 H1 locs1 ls2 (cells + mc') (slots + ms') mc ms hX hB1 hV1 (hsub ls2 hL2) (by omega) (by omega) (fun q => by have := hal q; have := hZ this.1; omega))
/-- the static part with other longs and doubles -/
def zSc (S : Zs) (cl : Nat → Nat → Int64) (cd : Nat → Nat → UInt64) : Zs := (S.1, S.2.1, S.2.2.1, cl, cd, S.2.2.2.2.2)
theorem zSc_WF {S : Zs} {cl : Nat → Nat → Int64} {cd : Nat → Nat → UInt64} (h : zWF S) : zWF (zSc S cl cd) := h
theorem zSc_obj {S : Zs} {cl : Nat → Nat → Int64} {cd : Nat → Nat → UInt64} {a c : Nat} (h : zObj S a c) : zObj (zSc S cl cd) a c := h
theorem zSc_arr {S : Zs} {cl : Nat → Nat → Int64} {cd : Nat → Nat → UInt64} {a c : Nat} (h : zArr S a c) : zArr (zSc S cl cd) a c := h
theorem zSc_cr {S : Zs} {cl : Nat → Nat → Int64} {cd : Nat → Nat → UInt64} : (zSc S cl cd).cr = S.cr := rfl
theorem zSc_zr {S : Zs} {cl : Nat → Nat → Int64} {cd : Nat → Nat → UInt64} {a k : Nat} : zr (zSc S cl cd) a k = zr S a k := rfl
theorem zSc_len {S : Zs} {cl : Nat → Nat → Int64} {cd : Nat → Nat → UInt64} {a : Nat} : zlen (zSc S cl cd) a = zlen S a := rfl
theorem zCe_c {E : ZE} {S : Zs} {cl : Nat → Nat → Int64} {cd : Nat → Nat → UInt64} {j : Nat} {wi : Nat → Int32} (h1 : cl j = S.cl j) (h2 : cd j = S.cd j) : zCe E (zSc S cl cd) j wi = zCe E S j wi := by
  have e1 : (zSc S cl cd).sh = S.sh := rfl
  have e2 : (zSc S cl cd).cr = S.cr := rfl
  have e3 : (zSc S cl cd).cl j = S.cl j := h1
  have e4 : (zSc S cl cd).cd j = S.cd j := h2
  simp only [zCe, e1]
  rcases h9 : S.sh j with c | ⟨t, n⟩
  · have e7 : zFv E (zSc S cl cd) j c wi = zFv E S j c wi := by funext i; simp only [zFv, e2]
    simp only [e7]
  · have e6 : zCt E (zSc S cl cd) j t wi = zCt E S j t wi := by
      unfold zCt
      rw [e2, e3, e4]
    simp only [e6]
theorem z_last {id : Nat} {x : Int32} {y : Int64} (ha : zArr S id 3) (hin : zin x (zlen S id) = true) (hd : decode C.cc pc = .ok (.lastore, 1)) (h : zOk C kc ks (zSc S (zup S.cl id (zix x) y) S.cd) w (pc + 1) lv st em X) : zOk C kc ks S w pc lv (.long y :: .int x :: .ref id :: st) em X := by
  intro i hi p e R s m args below meth c9 H locs ls cells slots mc ms hX hB hV hL h1 h2 hZ
  obtain ⟨q, hid, hq, hro, hat⟩ := ha.at (E := C.1) (w := w)
  refine va_last (D := C.1.G) hX.1 hX.2.1 hX.2.2.2.2.2.2.2.2.1.1 hB (zL_D C.1 S w) hV q 3 hat rfl (zin_vp hin) hd (fun H1 locs1 hP1 hD1 hS1 => ?_)
  obtain ⟨_, _, n9, hn9⟩ := ha
  have hset := zL_set (E := C.1) (S := S) (S' := zSc S (zup S.cl id (zix x) y) S.cd) (w := w) (w' := w) hq rfl (fun j hj => zCe_c (by funext k; simp [zup, show j ≠ id by omega]) rfl)
  rw [← hid, ← hro] at hset
  have e9 : (zSc S (zup S.cl id (zix x) y) S.cd).sh id = .inr (3, n9) := hn9
  have e5 : zCe C.1 (zSc S (zup S.cl id (zix x) y) S.cd) id (w id) = .inl (C.1.cA 3, zlen S id, .inr (.inl (vp_updL (S.cl id) (zix x) y))) := by
    simp only [zCe, e9, zCt]
    have e8 : zlen S id = n9 := by simp [zlen, hn9]
    rw [e8]
    congr 5
    funext j
    show zup S.cl id (zix x) y id j = _
    simp [zup, vp_updL]
  rw [e5] at hset
  rw [hset] at hP1
  exact h i hi p e R s m args below meth c9 H1 locs1 ls cells slots mc ms hX hP1 hS1 hL h1 h2 hZ
theorem z_dast {id : Nat} {x : Int32} {y : UInt64} (ha : zArr S id 4) (hin : zin x (zlen S id) = true) (hd : decode C.cc pc = .ok (.dastore, 1)) (h : zOk C kc ks (zSc S S.cl (zup S.cd id (zix x) y)) w (pc + 1) lv st em X) : zOk C kc ks S w pc lv (.double y :: .int x :: .ref id :: st) em X := by
  intro i hi p e R s m args below meth c9 H locs ls cells slots mc ms hX hB hV hL h1 h2 hZ
  obtain ⟨q, hid, hq, hro, hat⟩ := ha.at (E := C.1) (w := w)
  refine va_dast (D := C.1.G) hX.1 hX.2.1 hX.2.2.2.2.2.2.2.2.1.1 hB (zL_D C.1 S w) hV q 4 hat rfl (zin_vp hin) hd (fun H1 locs1 hP1 hD1 hS1 => ?_)
  obtain ⟨_, _, n9, hn9⟩ := ha
  have hset := zL_set (E := C.1) (S := S) (S' := zSc S S.cl (zup S.cd id (zix x) y)) (w := w) (w' := w) hq rfl (fun j hj => zCe_c rfl (by funext k; simp [zup, show j ≠ id by omega]))
  rw [← hid, ← hro] at hset
  have e9 : (zSc S S.cl (zup S.cd id (zix x) y)).sh id = .inr (4, n9) := hn9
  have e8 : zlen S id = n9 := by simp [zlen, hn9]
  have e5 : zCe C.1 (zSc S S.cl (zup S.cd id (zix x) y)) id (w id) = .inl (C.1.cA 4, zlen S id, .inr (.inr (.inr (.inl (vf_upd (S.cd id) (zix x) y))))) := by
    simp only [zCe, e9, zCt]
    rw [e8]
    congr 7
    funext j
    show zup S.cd id (zix x) y id j = _
    simp [zup, vf_upd]
  rw [e5] at hset
  rw [hset] at hP1
  exact h i hi p e R s m args below meth c9 H1 locs1 ls cells slots mc ms hX hP1 hS1 hL h1 h2 hZ
/-- a method with handlers: entry, contract, call -/
abbrev zWh (y : MethodName) (bytes : ByteArray) (maxL : Nat) (ret : Option FieldType) (hh : List (Nat × Nat × Nat × Nat)) : List Cond := Cond.codeWith y bytes maxL ret hh :: zGW
def zMh (E : ZE) (y : MethodName) (bytes : ByteArray) (maxL : Nat) (ret : Option FieldType) (hh : List (Nat × Nat × Nat × Nat)) (d mc ms : Nat) (args : List Value) (S : Zs) (w : Zw) (r : Zr) : Prop := Met E.l y (zWh y bytes maxL ret hh) (zRm d mc ms) (zPc E args S w) (zQc E r) mc ms (zA E)
theorem z_enterH {E : ZE} {y : MethodName} {bytes : ByteArray} {maxL d mc ms : Nat} {ret : Option FieldType} {hh : List (Nat × Nat × Nat × Nat)} {as : List Value} {v : Option Value} {S1 : Zs} {w1 : Zw} (hy : plainName y.cls = true) (ha : (lg_sl as).length ≤ maxL)
    (h : zJ (E, (y.cls, bytes, maxL, ret, hh, y.name), d) mc ms S w 0 (lv_args 0 as) [] (.inl v, S1, w1)) : zMh E y bytes maxL ret hh d mc ms as S w (.inl v, S1, w1) := by
  have hx : vx_Met E.l y (zWh y bytes maxL ret hh) (zRm d mc ms) (zPc E as S w) (zQc E (.inl v, S1, w1)) (zXC E (.inl v, S1, w1)) mc ms (zA E) := by
    refine vx_ofWH (cc := bytes) (maxL := maxL) (ret := ret) (hh := hh) hy rfl ?_
    intro p e s m args below meth c s₁ B hml hP
    obtain ⟨rfl, hB, hK, hb, hz⟩ := hP
    have hts := atoms_spec (ws := zWh y bytes maxL ret hh) B.pre
    have hl := lv_entry (as.map (zV E)) (n := maxL) (by rw [zlg_sl]; exact ha)
    rw [lg_entry_eq]
    rw [zlv_args] at hl
    exact h p e (zRm d mc ms) s m _ below meth c s.heap [] _ 0 0 mc ms ⟨B.exec, B.bytes, findClass_of_methodNamed B.named, hml, fun w hw => hts w (List.mem_cons_of_mem _ hw), B.returns, B.notSynchronized, vx_table (x := y) B (hts _ List.mem_cons_self), hK, hb, Nat.le_refl _, Nat.le_refl _, rfl, rfl, (name_of_methodNamed B.named B.method).1⟩ hB va_S.rf hl (by omega) (by omega) hz
  intro p e a1 a2 a3 s m args below b1 b2 b3 b4
  obtain ⟨n, o, c1, c2, c3, c4⟩ := hx p e a1 a2 a3 s m args below b1 b2 b3 b4
  refine ⟨n, o, c1, c2, c3, ?_⟩
  rcases c4 with c4 | ⟨q, -, E9, ce, L9, ⟨⟨hx9, -⟩, -⟩, -⟩
  · exact c4
  · cases hx9
def zYh (y : MethodName) (bytes : ByteArray) (maxL : Nat) (ret : Option FieldType) (hh : List (Nat × Nat × Nat × Nat)) (n : Nat) : Prop := Cond.codeWith y bytes maxL ret hh ∈ zGW ∧ Cond.initialized y.cls ∈ zGW ∧ (y.cls ≠ "java/lang/invoke/MethodHandle" ∧ y.cls ≠ "java/lang/invoke/VarHandle" ∧ (parseMethodDescriptor y.desc).map (fun d => d.parameters.length) = some n) ∧ maxL ≤ 45
theorem z_callSH {index maxL d' mc' ms' kc' ks' : Nat} {y : MethodName} {bytes : ByteArray} {ret : Option FieldType} {hh : List (Nat × Nat × Nat × Nat)} {v : Option Value} {S1 : Zs} {w1 : Zw} (as : List Value)
    (hM : zMh C.1 y bytes maxL ret hh d' mc' ms' as S w (.inl v, S1, w1)) (hy : zYh y bytes maxL ret hh as.length) (hs9 : Cond.static y ∈ zGW) (hl : Cond.methodLink C.own index y ∈ zGW)
    (hd1 : d' + 1 ≤ C.d) (hsum : (st.map fun v => v.category).sum ≤ 8) (hkc : mc' + kc' ≤ kc) (hks : ms' + ks' ≤ ks) (hal : S1.al = true → S.al = true ∧ S1.n = S.n + mc') (hst : as.reverse ++ st = st0) (hd : decode C.cc pc = .ok (.invokestatic index, 3))
    (h : zOk C kc' ks' S1 w1 (pc + 3) lv (v.toList ++ st) em X) : zOk C kc ks S w pc lv st0 em X := by
  intro i hi p e R s m args below meth c9 H locs ls cells slots mc ms hX hB hV hL h1 h2 hZ T9 hT9 X9
  have hts := hX.2.2.2.2.1
  have hp := zpre as hX hB hV hZ hT9 X9
  have hdl : 8 + (maxL + 11) + 64 * d' ≤ R.locals := by
    have a1 := hX.2.2.2.2.2.2.2.2.2.2.2.1
    have a2 := hy.2.2.2
    omega
  have hdf : d' + 1 ≤ R.frames := Nat.le_trans hd1 hX.2.2.2.2.2.2.2.2.2.2.1
  have hrc := hX.2.2.2.2.2.2.2.2.2.2.2.2.1
  have hrs := hX.2.2.2.2.2.2.2.2.2.2.2.2.2.1
  have hG : GoodIn zGW (va_wsS C.own index y (zWh y bytes maxL ret hh)) := by
    intro w9 hw9
    have hin : w9 ∈ zGW := by
      simp only [va_wsS, zWh, List.mem_append, List.mem_cons, List.not_mem_nil, or_false] at hw9
      rcases hw9 with (rfl | rfl | rfl) | rfl | hw9
      · exact hl
      · exact hs9
      · exact hy.2.1
      · exact hy.1
      · exact hw9
    exact ⟨hin, good_of_word (zGW_good hin)⟩
  have cw : vx_CSW R s args C.own index y bytes maxL ret hh (zWh y bytes maxL ret hh) (zRm d' mc' ms') mc' ms' as.length := vx_cwSW _ hts hG rfl rfl rfl hy.2.2.1 ⟨hdf, hdl⟩
  have hr := vx_runSW (As := as.map (zV C.1)) (rest := st.map (zV C.1)) (g := F0 m pc ls (st0.map (zV C.1))) (locs := locs) (cells := cells) (slots := slots) (below := below) (meth := meth) (e := e) (H := H) ⟨hX.1, hX.2.1, hX.2.2.2.1, hX.2.2.1, hts⟩ hM cw ⟨zPc_blind, hp⟩ rfl (by simp) hL.1 (by subst hst; simp [zV]) (lv_room (zsum hsum)) hd ⟨by omega, by omega⟩
  refine z_run hr hV (fun H1 locs1 hB1 hV1 => ?_) T9 hT9 X9
  have h9 := h i hi p e R s m args below meth c9 H1 locs1 ls (cells + mc') (slots + ms') mc ms hX hB1 hV1 hL (by omega) (by omega) (fun q => by have := hal q; have := hZ this.1; omega)
  rwa [zst_app] at h9
/-- cells are no longer made -/
def zsF (S : Zs) : Zs := (S.1, S.2.1, S.2.2.1, S.2.2.2.1, S.2.2.2.2.1, false)
theorem z_alF (h : zOk C kc ks (zsF S) w pc lv st em X) : zOk C kc ks S w pc lv st em X :=
  fun i hi p e R s m args below meth c H locs ls cells slots mc ms hX hB hV hL h1 h2 hZ => h i hi p e R s m args below meth c H locs ls cells slots mc ms hX hB hV hL h1 h2 (fun q => by cases q)
/-- rows of a table that take no Ex -/
def zCt1 (own Ex : String) : List ExceptionTableEntry → Prop
  | [] => True
  | z :: l => (z.catchType ≠ 0 ∧ ∃ nm : String, Cond.classLink own z.catchType nm ∈ zGW ∧ (Ex, nm) ∈ zNc) ∧ zCt1 own Ex l
theorem zCt1_ok {own Ex : String} {pc : Nat} : ∀ (l : List ExceptionTableEntry), zCt1 own Ex l → ∀ z ∈ l, covers z pc = false ∨ (z.catchType ≠ 0 ∧ ∃ nm : String, Cond.classLink own z.catchType nm ∈ zGW ∧ (Ex, nm) ∈ zNc)
  | [], _, z, hz => nomatch hz
  | y :: l, h, z, hz => by
    rcases List.mem_cons.mp hz with rfl | hz
    · exact Or.inr h.1
    · exact zCt1_ok l h.2 z hz
def emS {A : Type} (ev : A → Option Value) (S : Zs) : A × (Nat → Nat → Int64) × (Nat → Nat → UInt64) × Zw → Zr := fun r => (.inl (ev r.1), zSc S r.2.1 r.2.2.1, r.2.2.2)
theorem zemS {A : Type} {ev : A → Option Value} {v : A} : ∀ i, some (v, S.cl, S.cd, w) = some i → emS ev S i = (.inl (ev v), S, w) := fun i h => by cases h; rfl
theorem zemSc {A : Type} {ev : A → Option Value} {v : A} {cl : Nat → Nat → Int64} {cd : Nat → Nat → UInt64} : ∀ i, some (v, cl, cd, w) = some i → emS ev S i = (.inl (ev v), zSc S cl cd, w) := fun i h => by cases h; rfl
end ZL9
