section ZC
variable {I : Type} {C : Zc} {kc ks : Nat} {S : Zs} {w : Zw} {pc : Nat} {lv : List (Nat × Value)} {st st0 : List Value} {em : I → Zr} {X : Option I}
def zRm (d mc ms : Nat) : Room := { frames := d, cells := mc, slots := ms, locals := 64 * d }
abbrev zWs (y : MethodName) (bytes : ByteArray) (maxL : Nat) (ret : Option FieldType) : List Cond := Cond.code y bytes maxL ret :: zGW
def zPc (E : ZE) (args : List Value) (S : Zs) (w : Zw) : Array Value → State → Prop := va_Pc (args.map (zV E)) (fun U => zB E S w U.heap ∧ zK E U ∧ E.base ≤ U.heap.size ∧ (S.al = true → U.heap.size = E.base + S.n))
/-- the contract of a method that returns; of one that returns or throws -/
def zMr (E : ZE) (y : MethodName) (bytes : ByteArray) (maxL : Nat) (ret : Option FieldType) (d mc ms : Nat) (args : List Value) (S : Zs) (w : Zw) (r : Zr) : Prop := Met E.l y (zWs y bytes maxL ret) (zRm d mc ms) (zPc E args S w) (zQc E r) mc ms (zA E)
def zMx (E : ZE) (y : MethodName) (bytes : ByteArray) (maxL : Nat) (ret : Option FieldType) (d mc ms : Nat) (args : List Value) (S : Zs) (w : Zw) (r : Zr) : Prop := vx_Met E.l y (zWs y bytes maxL ret) (zRm d mc ms) (zPc E args S w) (zQc E r) (zXC E r) mc ms (zA E)
theorem zK.moved {E : ZE} {s U : State} {H : Heap} {locs : List Loc} (h : zK E s) (hW : s.WarmedH U.vm) (hH : U.heap = H) (hS : va_S (zA E) s.heap H locs) : zK E U := by
  subst hH
  obtain ⟨k1, k2, k3, k4, k5, k6, k7, kc, kd, k8, k9, k10, k11, k12, k13⟩ := h
  refine ⟨va_K.moved hW.alike k1, (vx_Zq.moved hW.alike k2).kept hS.2.1, (vx_Zq.moved hW.alike k3).kept hS.2.1, fun q hq => ?_, fun q hq => va_Nw.warmF hW (k5 q hq), fun q hq => va_Nw.warmM hW (k6 q hq), fun q hq => (k7 q hq).moved hW.alike, fun q hq => va_Nw.warmC hW (kc q hq), fun q hq => va_Nw.warmD hW (kd q hq), k8.moved hW.alike, k9.moved hW.alike, (va_X.moved hW.alike k10).kept (hS.2.1 _ k12 (Nat.not_le.mpr k11)), k11, Nat.lt_of_lt_of_le k12 hS.1, k13⟩
  obtain ⟨sa, h⟩ := k4 q hq
  exact ⟨sa, h.warm hW⟩
theorem zPc_blind {E : ZE} {args : List Value} {S : Zs} {w : Zw} : FrameBlind (zPc E args S w) := by
  intro a U g mk h
  obtain ⟨h1, h2, h3, h4⟩ := h
  exact ⟨h1, h2, zK.moved (U := U.calling g mk a) (H := U.heap) h3 (State.WarmedH.refl U) rfl va_S.rf, h4⟩
theorem zGW_GoodIn {y : MethodName} {bytes : ByteArray} {maxL : Nat} {ret : Option FieldType} (h : Cond.code y bytes maxL ret ∈ zGW) : GoodIn zGW (zWs y bytes maxL ret) := by
  intro w hw
  rcases List.mem_cons.mp hw with rfl | hw
  · exact ⟨h, good_of_word (zGW_good h)⟩
  · exact ⟨hw, good_of_word (zGW_good hw)⟩
/-- what the tables say of a method -/
def zY (y : MethodName) (bytes : ByteArray) (maxL : Nat) (ret : Option FieldType) (n : Nat) : Prop := Cond.code y bytes maxL ret ∈ zGW ∧ Cond.initialized y.cls ∈ zGW ∧ (y.cls ≠ "java/lang/invoke/MethodHandle" ∧ y.cls ≠ "java/lang/invoke/VarHandle" ∧ (parseMethodDescriptor y.desc).map (fun d => d.parameters.length) = some n) ∧ maxL ≤ 45
theorem zheap {E : ZE} {S : Zs} {w : Zw} {H : Heap} {sz cells : Nat} (hB : zB E S w H) (hb : E.base ≤ H.size) (hu : H.size ≤ sz + cells) (hz : sz + cells = E.base + S.n) : H.size = E.base + S.n := by
  rcases Nat.eq_zero_or_pos S.n with h0 | h0
  · omega
  · have h1 := (hB (S.n - 1) _ (zL_get (by omega))).lt
    have h2 : E.base + (S.n - 1) < H.size := h1
    omega
theorem z_run {p : Program} {E : ZE} {e : Env} {R : Room} {s : State} {m : MethodId} {args : Array Value} {below : List Frame} {meth : Method} {c : Code} {H : Heap} {locs : List Loc} {cells slots mc ms pc : Nat} {ls : Array Slot} {s0 rest : List Value} {Q : State → Prop} {v : Option Value} {S1 : Zs} {w1 : Zw} {a : Array Value}
    (hr : va_Run p E.l e R s m args below meth c H locs cells slots mc ms (F0 m pc ls s0) rest (zQc E (.inl v, S1, w1) a) (zA E)) (hS : va_S (zA E) s.heap H locs)
    (kk : ∀ (H1 : Heap) (locs1 : List Loc), zB E S1 w1 H1 → va_S (zA E) s.heap H1 locs1 → W p E.l e R s m args below meth c H1 locs1 (cells + mc) (slots + ms) Q (F0 m (pc + 3) ls ((v.map (zV E)).toList ++ rest))) : W p E.l e R s m args below meth c H locs cells slots Q (F0 m pc ls s0) := by
  intro T hT X
  obtain ⟨v9, st₀, t, T', L, h0, X', hL, e1, e2, ⟨⟨v8, hv8, hv, hb⟩, hF⟩, stp⟩ := hr T hT X
  cases hv8
  cases hv
  obtain ⟨k1, k2, k3⟩ := vx_keep h0 e1 hS (fun _ _ h => h) (fun _ h => h) hL hF
  obtain ⟨t2, a1, b1⟩ := kk T'.heap (locs ++ L) (by rw [e1]; exact hb) k3 T' rfl X'
  exact ⟨t2, stp t2 a1, b1⟩
theorem z_runX {p : Program} {E : ZE} {e : Env} {R : Room} {s : State} {m : MethodId} {args : Array Value} {below : List Frame} {meth : Method} {c : Code} {H : Heap} {locs : List Loc} {cells slots mc ms pc : Nat} {ls : Array Slot} {s0 rest : List Value} {Q : State → Prop} {r : Zr} {a : Array Value}
    (hr : vx_Run p E.l e R s m args below meth c H locs cells slots mc ms (F0 m pc ls s0) rest (zQc E r a) (zXC E r) (zA E)) (hS : va_S (zA E) s.heap H locs)
    (kk : ∀ (v : Option Value) (H1 : Heap) (locs1 : List Loc), r.1 = .inl v → zB E r.2.1 r.2.2 H1 → va_S (zA E) s.heap H1 locs1 → W p E.l e R s m args below meth c H1 locs1 (cells + mc) (slots + ms) Q (F0 m (pc + 3) ls ((v.map (zV E)).toList ++ rest)))
    (kx : ∀ (Ex : String) (ce : Cell) (q9 : Addr) (H1 : Heap) (locs1 : List Loc), r.1 = .inr Ex → zB E r.2.1 r.2.2 H1 → va_S (zA E) s.heap H1 locs1 → H1[q9]? = some ce → ce.vm = .none → s.vm.findClass Ex = some ce.cls → vx_W p E.l e R s m args below meth c H1 locs1 (cells + mc) (slots + ms) Q (F0 m pc ls rest) q9) : W p E.l e R s m args below meth c H locs cells slots Q (F0 m pc ls s0) := by
  intro T hT X
  rcases hr T hT X with ⟨v9, st₀, t, T', L, h0, X', hL, e1, e2, ⟨⟨v8, hv8, hv, hb⟩, hF⟩, stp⟩ | ⟨q, st₀, t, T', L, Ex, ce, h0, X', hL, e1, e2, ⟨⟨hx8, hb⟩, hF⟩, hce, hcv, hcl, stp⟩
  · cases hv
    obtain ⟨k1, k2, k3⟩ := vx_keep h0 e1 hS (fun _ _ h => h) (fun _ h => h) hL hF
    obtain ⟨t2, a1, b1⟩ := kk v8 T'.heap (locs ++ L) hv8 (by rw [e1]; exact hb) k3 T' rfl X'
    exact ⟨t2, stp t2 a1, b1⟩
  · obtain ⟨k1, k2, k3⟩ := vx_keep h0 e1 hS (fun _ _ h => h) (fun _ h => h) hL hF
    obtain ⟨t2, a1, b1⟩ := kx Ex ce q T'.heap (locs ++ L) hx8 (by rw [e1]; exact hb) k3 (by rw [e1]; exact hce) hcv hcl T' rfl X'
    exact ⟨t2, stp.trans a1, b1⟩
theorem zst_app {E : ZE} (v : Option Value) (st : List Value) : ((v.toList ++ st).map (zV E)) = (v.map (zV E)).toList ++ st.map (zV E) := by cases v <;> rfl
theorem zsum {E : ZE} {st : List Value} (h : (st.map fun v => v.category).sum ≤ 8) : ((st.map (zV E)).map fun v => v.category).sum ≤ 8 := by
  simp only [List.map_map, Function.comp_def, zV_cat]
  exact h
/-- the world as a callee's start sees it -/
theorem zpre {C : Zc} {p : Program} {l : Launch} {e : Env} {R : Room} {s : State} {m : MethodId} {args : Array Value} {below : List Frame} {meth : Method} {c : Code} {mc ms : Nat} {S : Zs} {w : Zw} {H : Heap} {locs L9 : List Loc} {cells slots : Nat} {T : State} (as : List Value) (hX : zX C p R s m args meth c mc ms) (hB : zB C.1 S w H) (hV : va_S (zA C.1) s.heap H locs) (hZ : S.al = true → s.heap.size + cells = C.1.base + S.n) (hT : T.heap = H) (X : Stand p l e R s m args below meth c T L9 cells slots) : ∀ U : State, U.heap = H → s.WarmedH U.vm → zPc C.1 as S w (as.map (zV C.1)).toArray U := by
  intro U hU hW
  have hb : C.1.base ≤ H.size := Nat.le_trans hX.2.2.2.2.2.2.2.2.2.1 hV.1
  have hu := X.heapSize
  rw [hT] at hu
  exact ⟨rfl, by rw [hU]; exact hB, hX.2.2.2.2.2.2.2.2.1.moved hW hU hV, by rw [hU]; exact hb, fun h => by rw [hU]; exact zheap hB hb hu (hZ h)⟩
theorem z_callV {c id index maxL d' mc' ms' kc' ks' N : Nat} {nm : String} {T : u_T} {y : MethodName} {bytes : ByteArray} {ret : Option FieldType} {v : Option Value} {S1 : Zs} {w1 : Zw} (as : List Value)
    (hM : zMr C.1 y bytes maxL ret d' mc' ms' (.ref id :: as) S w (.inl v, S1, w1)) (hc : zCls c nm T N) (ho : zObj S id c) (hy : zY y bytes maxL ret as.length) (hi9 : Cond.instanceMethod y ∈ zGW) (hs9 : Cond.selects nm y y ∈ zGW) (hl : Cond.methodLink C.own index y ∈ zGW)
    (hd1 : d' + 1 ≤ C.d) (hsum : (st.map fun v => v.category).sum ≤ 8) (hkc : mc' + kc' ≤ kc) (hks : ms' + ks' ≤ ks) (hal : S1.al = true → S.al = true ∧ S1.n = S.n + mc') (hst : as.reverse ++ .ref id :: st = st0) (hd : decode C.cc pc = .ok (.invokevirtual index, 3))
    (h : zOk C kc' ks' S1 w1 (pc + 3) lv (v.toList ++ st) em X) : zOk C kc ks S w pc lv st0 em X := by
  intro i hi p e R s m args below meth c9 H locs ls cells slots mc ms hX hB hV hL h1 h2 hZ T9 hT9 X9
  obtain ⟨q, hid, hq, hro, hat⟩ := ho.at (E := C.1) (w := w)
  have hts := hX.2.2.2.2.1
  have hp := zpre (.ref id :: as) hX hB hV hZ hT9 X9
  have hdl : 8 + (maxL + 11) + 64 * d' ≤ R.locals := by
    have a1 := hX.2.2.2.2.2.2.2.2.2.2.2.1
    have a2 := hy.2.2.2
    omega
  have hdf : d' + 1 ≤ R.frames := Nat.le_trans hd1 hX.2.2.2.2.2.2.2.2.2.2.1
  have hrc := hX.2.2.2.2.2.2.2.2.2.2.2.2.1
  have hrs := hX.2.2.2.2.2.2.2.2.2.2.2.2.2.1
  have cw : CallW R s args C.own nm index y bytes maxL ret (zWs y bytes maxL ret) (zRm d' mc' ms') mc' ms' as.length := ⟨callB_of _ hts (zGW_GoodIn hy.1) rfl rfl rfl (hts _ hy.2.1) (hts _ hl) hy.2.2.1 ⟨hdf, hdl⟩, hts _ hi9, hts _ hs9⟩
  have hr := va_runV (As := as.map (zV C.1)) (b := zRo C.1 id) (rest := st.map (zV C.1)) (g := F0 m pc ls (st0.map (zV C.1))) (locs := locs) (cells := cells) (slots := slots) (below := below) (meth := meth) (e := e) (H := H) ⟨hX.1, hX.2.1, hX.2.2.2.1, hX.2.2.1, hts⟩ hM cw ⟨zPc_blind, va_recv hX.2.2.2.2.2.2.2.2.1.1 hB hc.1 hat, hp⟩ rfl (by simp) hL.1 (by subst hst; simp [zV]) (lv_room (zsum hsum)) hd ⟨by omega, by omega⟩
  refine z_run hr hV (fun H1 locs1 hB1 hV1 => ?_) T9 hT9 X9
  have h9 := h i hi p e R s m args below meth c9 H1 locs1 ls (cells + mc') (slots + ms') mc ms hX hB1 hV1 hL (by omega) (by omega) (fun q => by have := hal q; have := hZ this.1; omega)
  rwa [zst_app] at h9
theorem z_callS {index maxL d' mc' ms' kc' ks' : Nat} {y : MethodName} {bytes : ByteArray} {ret : Option FieldType} {v : Option Value} {S1 : Zs} {w1 : Zw} (as : List Value)
    (hM : zMr C.1 y bytes maxL ret d' mc' ms' as S w (.inl v, S1, w1)) (hy : zY y bytes maxL ret as.length) (hs9 : Cond.static y ∈ zGW) (hl : Cond.methodLink C.own index y ∈ zGW)
    (hd1 : d' + 1 ≤ C.d) (hsum : (st.map fun v => v.category).sum ≤ 8) (hkc : mc' + kc' ≤ kc) (hks : ms' + ks' ≤ ks) (hal : S1.al = true → S.al = true ∧ S1.n = S.n + mc') (hst : as.reverse ++ st = st0) (hd : decode C.cc pc = .ok (.invokestatic index, 3))
    (h : zOk C kc' ks' S1 w1 (pc + 3) lv (v.toList ++ st) em X) : zOk C kc ks S w pc lv st0 em X := by
  intro i hi p e R s m args below meth c9 H locs ls cells slots mc ms hX hB hV hL h1 h2 hZ T9 hT9 X9
  have hts := hX.2.2.2.2.1
  have hp := zpre as hX hB hV hZ hT9 X9
  have hdl : 8 + (maxL + 11) + 64 * d' ≤ R.locals := by
    have a1 := hX.2.2.2.2.2.2.2.2.2.2.2.1
    have a2 := hy.2.2.2
    omega
  have hdf : d' + 1 ≤ R.frames := Nat.le_trans hd1 hX.2.2.2.2.2.2.2.2.2.2.1
  have hrc := hX.2.2.2.2.2.2.2.2.2.2.2.2.1
  have hrs := hX.2.2.2.2.2.2.2.2.2.2.2.2.2.1
  have cw := (show CallB R s args C.own index y bytes maxL ret (zWs y bytes maxL ret) (zRm d' mc' ms') mc' ms' as.length ∧ (Cond.static y).before args s = true from ⟨callB_of _ hts (zGW_GoodIn hy.1) rfl rfl rfl (hts _ hy.2.1) (hts _ hl) hy.2.2.1 ⟨hdf, hdl⟩, hts _ hs9⟩)
  have hr := va_runS (As := as.map (zV C.1)) (rest := st.map (zV C.1)) (g := F0 m pc ls (st0.map (zV C.1))) (locs := locs) (cells := cells) (slots := slots) (below := below) (meth := meth) (e := e) (H := H) ⟨hX.1, hX.2.1, hX.2.2.2.1, hX.2.2.1, hts⟩ hM cw ⟨zPc_blind, hp⟩ rfl (by simp) hL.1 (by subst hst; simp [zV]) (lv_room (zsum hsum)) hd ⟨by omega, by omega⟩
  refine z_run hr hV (fun H1 locs1 hB1 hV1 => ?_) T9 hT9 X9
  have h9 := h i hi p e R s m args below meth c9 H1 locs1 ls (cells + mc') (slots + ms') mc ms hX hB1 hV1 hL (by omega) (by omega) (fun q => by have := hal q; have := hZ this.1; omega)
  rwa [zst_app] at h9
theorem z_callSN {index maxL d' mc' ms' kc' ks' : Nat} {y : MethodName} {bytes : ByteArray} {ret : Option FieldType} {host : String} {v : Option Value} {S1 : Zs} {w1 : Zw} (as : List Value)
    (hM : zMr C.1 y bytes maxL ret d' mc' ms' as S w (.inl v, S1, w1)) (hy : zY y bytes maxL ret as.length) (hs9 : Cond.static y ∈ zGW) (hl : (C.own, index, y, host) ∈ zNm1)
    (hd1 : d' + 1 ≤ C.d) (hsum : (st.map fun v => v.category).sum ≤ 8) (hkc : mc' + kc' ≤ kc) (hks : ms' + ks' ≤ ks) (hal : S1.al = true → S.al = true ∧ S1.n = S.n + mc') (hst : as.reverse ++ st = st0) (hd : decode C.cc pc = .ok (.invokestatic index, 3))
    (h : zOk C kc' ks' S1 w1 (pc + 3) lv (v.toList ++ st) em X) : zOk C kc ks S w pc lv st0 em X := by
  intro i hi p e R s m args below meth c9 H locs ls cells slots mc ms hX hB hV hL h1 h2 hZ T9 hT9 X9
  have hts := hX.2.2.2.2.1
  have hp := zpre as hX hB hV hZ hT9 X9
  have hdl : 8 + (maxL + 11) + 64 * d' ≤ R.locals := by
    have a1 := hX.2.2.2.2.2.2.2.2.2.2.2.1
    have a2 := hy.2.2.2
    omega
  have hdf : d' + 1 ≤ R.frames := Nat.le_trans hd1 hX.2.2.2.2.2.2.2.2.2.2.1
  have hrc := hX.2.2.2.2.2.2.2.2.2.2.2.2.1
  have hrs := hX.2.2.2.2.2.2.2.2.2.2.2.2.2.1
  have cw := (show va_CN R s args C.own index y host bytes maxL ret (zWs y bytes maxL ret) (zRm d' mc' ms') mc' ms' as.length ∧ (Cond.static y).before args s = true ∧ True from ⟨va_cnB _ hts (zGW_GoodIn hy.1) rfl rfl rfl (hX.2.2.2.2.2.2.2.2.1.2.2.2.2.2.1 _ hl) (hts _ hy.2.1) hy.2.2.1 ⟨hdf, hdl⟩, hts _ hs9, trivial⟩)
  have hr := va_runSN (As := as.map (zV C.1)) (rest := st.map (zV C.1)) (g := F0 m pc ls (st0.map (zV C.1))) (locs := locs) (cells := cells) (slots := slots) (below := below) (meth := meth) (e := e) (H := H) ⟨hX.1, hX.2.1, hX.2.2.2.1, hX.2.2.1, hts⟩ hM cw ⟨zPc_blind, hp⟩ rfl (by simp) hL.1 (by subst hst; simp [zV]) (lv_room (zsum hsum)) hd ⟨by omega, by omega⟩
  refine z_run hr hV (fun H1 locs1 hB1 hV1 => ?_) T9 hT9 X9
  have h9 := h i hi p e R s m args below meth c9 H1 locs1 ls (cells + mc') (slots + ms') mc ms hX hB1 hV1 hL (by omega) (by omega) (fun q => by have := hal q; have := hZ this.1; omega)
  rwa [zst_app] at h9
theorem z_callI {index maxL d' mc' ms' kc' ks' id : Nat} {y : MethodName} {bytes : ByteArray} {v : Option Value} {S1 : Zs} {w1 : Zw} (as : List Value)
    (hM : zMr C.1 y bytes maxL none d' mc' ms' (.ref id :: as) S w (.inl v, S1, w1)) (hy : zY y bytes maxL none as.length) (hi9 : Cond.instanceMethod y ∈ zGW) (hn9 : y.name = "<init>") (hl : Cond.methodLink C.own index y ∈ zGW)
    (hd1 : d' + 1 ≤ C.d) (hsum : (st.map fun v => v.category).sum ≤ 8) (hkc : mc' + kc' ≤ kc) (hks : ms' + ks' ≤ ks) (hal : S1.al = true → S.al = true ∧ S1.n = S.n + mc') (hst : as.reverse ++ .ref id :: st = st0) (hd : decode C.cc pc = .ok (.invokespecial index, 3))
    (h : zOk C kc' ks' S1 w1 (pc + 3) lv (v.toList ++ st) em X) : zOk C kc ks S w pc lv st0 em X := by
  intro i hi p e R s m args below meth c9 H locs ls cells slots mc ms hX hB hV hL h1 h2 hZ T9 hT9 X9
  have hts := hX.2.2.2.2.1
  have hp := zpre (.ref id :: as) hX hB hV hZ hT9 X9
  have hdl : 8 + (maxL + 11) + 64 * d' ≤ R.locals := by
    have a1 := hX.2.2.2.2.2.2.2.2.2.2.2.1
    have a2 := hy.2.2.2
    omega
  have hdf : d' + 1 ≤ R.frames := Nat.le_trans hd1 hX.2.2.2.2.2.2.2.2.2.2.1
  have hrc := hX.2.2.2.2.2.2.2.2.2.2.2.2.1
  have hrs := hX.2.2.2.2.2.2.2.2.2.2.2.2.2.1
  have cw := (show CallB R s args C.own index y bytes maxL none (zWs y bytes maxL none) (zRm d' mc' ms') mc' ms' as.length ∧ y.name = "<init>" ∧ (Cond.instanceMethod y).before args s = true from ⟨callB_of _ hts (zGW_GoodIn hy.1) rfl rfl rfl (hts _ hy.2.1) (hts _ hl) hy.2.2.1 ⟨hdf, hdl⟩, hn9, hts _ hi9⟩)
  have hr := va_runI (As := as.map (zV C.1)) (b := zRo C.1 id) (rest := st.map (zV C.1)) (g := F0 m pc ls (st0.map (zV C.1))) (locs := locs) (cells := cells) (slots := slots) (below := below) (meth := meth) (e := e) (H := H) ⟨hX.1, hX.2.1, hX.2.2.2.1, hX.2.2.1, hts⟩ hM cw ⟨zPc_blind, hp⟩ rfl (by simp) hL.1 (by subst hst; simp [zV]) (lv_room (zsum hsum)) hd ⟨by omega, by omega⟩
  refine z_run hr hV (fun H1 locs1 hB1 hV1 => ?_) T9 hT9 X9
  have h9 := h i hi p e R s m args below meth c9 H1 locs1 ls (cells + mc') (slots + ms') mc ms hX hB1 hV1 hL (by omega) (by omega) (fun q => by have := hal q; have := hZ this.1; omega)
  rwa [zst_app] at h9
theorem z_callIN {index maxL d' mc' ms' kc' ks' id : Nat} {y : MethodName} {bytes : ByteArray} {host : String} {v : Option Value} {S1 : Zs} {w1 : Zw} (as : List Value)
    (hM : zMr C.1 y bytes maxL none d' mc' ms' (.ref id :: as) S w (.inl v, S1, w1)) (hy : zY y bytes maxL none as.length) (hi9 : Cond.instanceMethod y ∈ zGW) (hn9 : y.name = "<init>") (hl : (C.own, index, y, host) ∈ zNm1)
    (hd1 : d' + 1 ≤ C.d) (hsum : (st.map fun v => v.category).sum ≤ 8) (hkc : mc' + kc' ≤ kc) (hks : ms' + ks' ≤ ks) (hal : S1.al = true → S.al = true ∧ S1.n = S.n + mc') (hst : as.reverse ++ .ref id :: st = st0) (hd : decode C.cc pc = .ok (.invokespecial index, 3))
    (h : zOk C kc' ks' S1 w1 (pc + 3) lv (v.toList ++ st) em X) : zOk C kc ks S w pc lv st0 em X := by
  intro i hi p e R s m args below meth c9 H locs ls cells slots mc ms hX hB hV hL h1 h2 hZ T9 hT9 X9
  have hts := hX.2.2.2.2.1
  have hp := zpre (.ref id :: as) hX hB hV hZ hT9 X9
  have hdl : 8 + (maxL + 11) + 64 * d' ≤ R.locals := by
    have a1 := hX.2.2.2.2.2.2.2.2.2.2.2.1
    have a2 := hy.2.2.2
    omega
  have hdf : d' + 1 ≤ R.frames := Nat.le_trans hd1 hX.2.2.2.2.2.2.2.2.2.2.1
  have hrc := hX.2.2.2.2.2.2.2.2.2.2.2.2.1
  have hrs := hX.2.2.2.2.2.2.2.2.2.2.2.2.2.1
  have cw := (show va_CN R s args C.own index y host bytes maxL none (zWs y bytes maxL none) (zRm d' mc' ms') mc' ms' as.length ∧ y.name = "<init>" ∧ (Cond.instanceMethod y).before args s = true from ⟨va_cnB _ hts (zGW_GoodIn hy.1) rfl rfl rfl (hX.2.2.2.2.2.2.2.2.1.2.2.2.2.2.1 _ hl) (hts _ hy.2.1) hy.2.2.1 ⟨hdf, hdl⟩, hn9, hts _ hi9⟩)
  have hr := va_runIN (As := as.map (zV C.1)) (b := zRo C.1 id) (rest := st.map (zV C.1)) (g := F0 m pc ls (st0.map (zV C.1))) (locs := locs) (cells := cells) (slots := slots) (below := below) (meth := meth) (e := e) (H := H) ⟨hX.1, hX.2.1, hX.2.2.2.1, hX.2.2.1, hts⟩ hM cw ⟨zPc_blind, hp⟩ rfl (by simp) hL.1 (by subst hst; simp [zV]) (lv_room (zsum hsum)) hd ⟨by omega, by omega⟩
  refine z_run hr hV (fun H1 locs1 hB1 hV1 => ?_) T9 hT9 X9
  have h9 := h i hi p e R s m args below meth c9 H1 locs1 ls (cells + mc') (slots + ms') mc ms hX hB1 hV1 hL (by omega) (by omega) (fun q => by have := hal q; have := hZ this.1; omega)
  rwa [zst_app] at h9
/-- a callee that returns or throws; what it throws goes on -/
theorem z_callVX {c id index maxL d' mc' ms' kc' ks' N : Nat} {nm : String} {T : u_T} {y : MethodName} {bytes : ByteArray} {ret : Option FieldType} {r : Zr} (as : List Value)
    (hM : zMx C.1 y bytes maxL ret d' mc' ms' (.ref id :: as) S w r) (hc : zCls c nm T N) (ho : zObj S id c) (hy : zY y bytes maxL ret as.length) (hi9 : Cond.instanceMethod y ∈ zGW) (hs9 : Cond.selects nm y y ∈ zGW) (hl : Cond.methodLink C.own index y ∈ zGW)
    (hd1 : d' + 1 ≤ C.d) (hsum : (st.map fun v => v.category).sum ≤ 8) (hkc : mc' + kc' ≤ kc) (hks : ms' + ks' ≤ ks) (hal : r.2.1.al = true → S.al = true ∧ r.2.1.n = S.n + mc') (hst : as.reverse ++ .ref id :: st = st0) (hd : decode C.cc pc = .ok (.invokevirtual index, 3)) (hh : C.hh = [])
    (h : ∀ v, r.1 = .inl v → zOk C kc' ks' r.2.1 r.2.2 (pc + 3) lv (v.toList ++ st) em X) (hx : ∀ Ex, r.1 = .inr Ex → ∀ i, X = some i → em i = r) : zOk C kc ks S w pc lv st0 em X := by
  intro i hi p e R s m args below meth c9 H locs ls cells slots mc ms hX hB hV hL h1 h2 hZ T9 hT9 X9
  obtain ⟨q, hid, hq, hro, hat⟩ := ho.at (E := C.1) (w := w)
  have hts := hX.2.2.2.2.1
  have hp := zpre (.ref id :: as) hX hB hV hZ hT9 X9
  have hdl : 8 + (maxL + 11) + 64 * d' ≤ R.locals := by
    have a1 := hX.2.2.2.2.2.2.2.2.2.2.2.1
    have a2 := hy.2.2.2
    omega
  have hdf : d' + 1 ≤ R.frames := Nat.le_trans hd1 hX.2.2.2.2.2.2.2.2.2.2.1
  have hrc := hX.2.2.2.2.2.2.2.2.2.2.2.2.1
  have hrs := hX.2.2.2.2.2.2.2.2.2.2.2.2.2.1
  have cw : CallW R s args C.own nm index y bytes maxL ret (zWs y bytes maxL ret) (zRm d' mc' ms') mc' ms' as.length := ⟨callB_of _ hts (zGW_GoodIn hy.1) rfl rfl rfl (hts _ hy.2.1) (hts _ hl) hy.2.2.1 ⟨hdf, hdl⟩, hts _ hi9, hts _ hs9⟩
  have hr := vx_runV (As := as.map (zV C.1)) (b := zRo C.1 id) (rest := st.map (zV C.1)) (g := F0 m pc ls (st0.map (zV C.1))) (locs := locs) (cells := cells) (slots := slots) (below := below) (meth := meth) (e := e) (H := H) ⟨hX.1, hX.2.1, hX.2.2.2.1, hX.2.2.1, hts⟩ hM cw ⟨zPc_blind, va_recv hX.2.2.2.2.2.2.2.2.1.1 hB hc.1 hat, hp⟩ rfl (by simp) hL.1 (by subst hst; simp [zV]) (lv_room (zsum hsum)) hd ⟨by omega, by omega⟩
  refine z_runX hr hV (fun v H1 locs1 hv hB1 hV1 => ?_) (fun Ex ce q9 H1 locs1 hv hB1 hV1 g1 g2 g3 => ?_) T9 hT9 X9
  · have h9 := h v hv i hi p e R s m args below meth c9 H1 locs1 ls (cells + mc') (slots + ms') mc ms hX hB1 hV1 hL (by omega) (by omega) (fun q => by have := hal q; have := hZ this.1; omega)
    rwa [zst_app] at h9
  · rw [hx Ex hv i hi]
    exact vx_out (fun x hx9 => by rw [hX.2.2.2.2.2.2.2.1, hh] at hx9; cases hx9) hX.2.2.2.2.2.2.1 g1 g2 g3 (fun t ht hW => ⟨⟨hv, by rw [ht]; exact hB1⟩, hV1.F ht⟩) hV1.2.2 (by omega) (by omega)
theorem z_iret {x : Int32} (hem : ∀ i, X = some i → em i = (.inl (some (.int x)), S, w)) (hr : C.ret = some .int) (hd : decode C.cc pc = .ok (.ireturn, 1)) : zOk C kc ks S w pc lv [.int x] em X := by
  intro i hi p e R s m args below meth c9 H locs ls cells slots mc ms hX hB hV hL h1 h2 hZ
  rw [hem i hi]
  exact vx_ret (W.widen (k := mc) (n := ms) (by omega) (by omega) (W.iret hX.1 hX.2.1 (hX.2.2.2.2.2.1.trans hr) (fun t ht hW => ⟨⟨_, rfl, rfl, by rw [ht]; exact hB⟩, hV.F ht⟩) hV.2.2 hd (hlocks := hX.2.2.2.2.2.2.1)))
theorem z_zret {x : Int32} {ty : FieldType} (hem : ∀ i, X = some i → em i = (.inl (some (.int x)), S, w)) (hr : C.ret = some ty) (hn : narrow ty (.int x) = .int x) (hd : decode C.cc pc = .ok (.ireturn, 1)) : zOk C kc ks S w pc lv [.int x] em X := by
  intro i hi p e R s m args below meth c9 H locs ls cells slots mc ms hX hB hV hL h1 h2 hZ
  rw [hem i hi]
  exact vx_ret (W.widen (k := mc) (n := ms) (by omega) (by omega) (W.zret hX.1 hX.2.1 (hX.2.2.2.2.2.1.trans hr) hn (fun t ht hW => ⟨⟨_, rfl, rfl, by rw [ht]; exact hB⟩, hV.F ht⟩) hV.2.2 hd (hlocks := hX.2.2.2.2.2.2.1)))
theorem z_vret (hem : ∀ i, X = some i → em i = (.inl none, S, w)) (hr : C.ret = none) (hd : decode C.cc pc = .ok (.return_, 1)) : zOk C kc ks S w pc lv [] em X := by
  intro i hi p e R s m args below meth c9 H locs ls cells slots mc ms hX hB hV hL h1 h2 hZ
  rw [hem i hi]
  exact vx_ret (W.widen (k := mc) (n := ms) (by omega) (by omega) (W.vret hX.1 hX.2.1 (hX.2.2.2.2.2.1.trans hr) (fun t ht hW => ⟨⟨_, rfl, rfl, by rw [ht]; exact hB⟩, hV.F ht⟩) hV.2.2 hd (hlocks := hX.2.2.2.2.2.2.1)))
theorem z_lret {x : Int64} (hem : ∀ i, X = some i → em i = (.inl (some (.long x)), S, w)) (hr : C.ret = some .long) (hd : decode C.cc pc = .ok (.lreturn, 1)) : zOk C kc ks S w pc lv [.long x] em X := by
  intro i hi p e R s m args below meth c9 H locs ls cells slots mc ms hX hB hV hL h1 h2 hZ
  rw [hem i hi]
  exact vx_ret (W.widen (k := mc) (n := ms) (by omega) (by omega) (W.lret hX.1 hX.2.1 (hX.2.2.2.2.2.1.trans hr) (fun t ht hW => ⟨⟨_, rfl, rfl, by rw [ht]; exact hB⟩, hV.F ht⟩) hV.2.2 hd (hlocks := hX.2.2.2.2.2.2.1)))
theorem z_fret {x : UInt32} (hem : ∀ i, X = some i → em i = (.inl (some (.float x)), S, w)) (hr : C.ret = some .float) (hd : decode C.cc pc = .ok (.freturn, 1)) : zOk C kc ks S w pc lv [.float x] em X := by
  intro i hi p e R s m args below meth c9 H locs ls cells slots mc ms hX hB hV hL h1 h2 hZ
  rw [hem i hi]
  exact vx_ret (W.widen (k := mc) (n := ms) (by omega) (by omega) (W.fret hX.1 hX.2.1 (hX.2.2.2.2.2.1.trans hr) (fun t ht hW => ⟨⟨_, rfl, rfl, by rw [ht]; exact hB⟩, hV.F ht⟩) hV.2.2 hd (hlocks := hX.2.2.2.2.2.2.1)))
theorem z_dret {x : UInt64} (hem : ∀ i, X = some i → em i = (.inl (some (.double x)), S, w)) (hr : C.ret = some .double) (hd : decode C.cc pc = .ok (.dreturn, 1)) : zOk C kc ks S w pc lv [.double x] em X := by
  intro i hi p e R s m args below meth c9 H locs ls cells slots mc ms hX hB hV hL h1 h2 hZ
  rw [hem i hi]
  exact vx_ret (W.widen (k := mc) (n := ms) (by omega) (by omega) (W.dret hX.1 hX.2.1 (hX.2.2.2.2.2.1.trans hr) (fun t ht hW => ⟨⟨_, rfl, rfl, by rw [ht]; exact hB⟩, hV.F ht⟩) hV.2.2 hd (hlocks := hX.2.2.2.2.2.2.1)))
theorem z_aret {a : Nat} {n : String} (hem : ∀ i, X = some i → em i = (.inl (some (.ref a)), S, w)) (hr : C.ret = some (.object n)) (hd : decode C.cc pc = .ok (.areturn, 1)) : zOk C kc ks S w pc lv [.ref a] em X := by
  intro i hi p e R s m args below meth c9 H locs ls cells slots mc ms hX hB hV hL h1 h2 hZ
  rw [hem i hi]
  exact vx_ret (W.widen (k := mc) (n := ms) (by omega) (by omega) (W.aret hX.1 hX.2.1 (hX.2.2.2.2.2.1.trans hr) (Or.inl ⟨n, rfl⟩) (Or.inr ⟨_, rfl⟩) (fun t ht hW => ⟨⟨_, rfl, rfl, by rw [ht]; exact hB⟩, hV.F ht⟩) hV.2.2 hd (hlocks := hX.2.2.2.2.2.2.1)))
theorem zlv_args (E : ZE) (vs : List Value) : ∀ k, lv_args k (vs.map (zV E)) = zLv E (lv_args k vs) := by
  induction vs with
  | nil => intro k; rfl
  | cons v vs ih => intro k; simp only [List.map_cons, lv_args, zV_cat, ih, zLv, List.map_cons]
theorem zlg_sl (E : ZE) (vs : List Value) : (lg_sl (vs.map (zV E))).length = (lg_sl vs).length := by
  induction vs with
  | nil => rfl
  | cons v vs ih =>
    simp only [lg_sl, List.map_cons, List.flatMap_cons, List.length_append] at ih ⊢
    rw [ih, zV_cat]
    congr 1
    split <;> rfl
/-- from the walk of a body to its contract -/
theorem z_enterX {E : ZE} {y : MethodName} {bytes : ByteArray} {maxL d mc ms : Nat} {ret : Option FieldType} {as : List Value} {r : Zr} (hy : plainName y.cls = true) (ha : (lg_sl as).length ≤ maxL)
    (h : zJ (E, (y.cls, bytes, maxL, ret, [], y.name), d) mc ms S w 0 (lv_args 0 as) [] r) : zMx E y bytes maxL ret d mc ms as S w r := by
  refine vx_ofW (cc := bytes) (maxL := maxL) (ret := ret) hy rfl ?_
  intro p e s m args below meth c s₁ B hml htab hP
  obtain ⟨rfl, hB, hK, hb, hz⟩ := hP
  have hts := atoms_spec (ws := zWs y bytes maxL ret) B.pre
  have hl := lv_entry (as.map (zV E)) (n := maxL) (by rw [zlg_sl]; exact ha)
  rw [lg_entry_eq]
  rw [zlv_args] at hl
  exact h p e (zRm d mc ms) s m _ below meth c s.heap [] _ 0 0 mc ms ⟨B.exec, B.bytes, findClass_of_methodNamed B.named, hml, fun w hw => hts w (List.mem_cons_of_mem _ hw), B.returns, B.notSynchronized, by
    show c.exceptionTable.toList = []
    exact List.eq_nil_iff_forall_not_mem.mpr fun x hx => htab x hx, hK, hb, Nat.le_refl _, Nat.le_refl _, rfl, rfl, (name_of_methodNamed B.named B.method).1⟩ hB va_S.rf hl (by omega) (by omega) hz
theorem z_enter {E : ZE} {y : MethodName} {bytes : ByteArray} {maxL d mc ms : Nat} {ret : Option FieldType} {as : List Value} {v : Option Value} {S1 : Zs} {w1 : Zw} (hy : plainName y.cls = true) (ha : (lg_sl as).length ≤ maxL)
    (h : zJ (E, (y.cls, bytes, maxL, ret, [], y.name), d) mc ms S w 0 (lv_args 0 as) [] (.inl v, S1, w1)) : zMr E y bytes maxL ret d mc ms as S w (.inl v, S1, w1) := by
  have hx := z_enterX hy ha h
  intro p e a1 a2 a3 s m args below b1 b2 b3 b4
  obtain ⟨n, o, c1, c2, c3, c4⟩ := hx p e a1 a2 a3 s m args below b1 b2 b3 b4
  refine ⟨n, o, c1, c2, c3, ?_⟩
  rcases c4 with c4 | ⟨q, -, E9, ce, L9, ⟨⟨hx9, -⟩, -⟩, -⟩
  · exact c4
  · cases hx9
end ZC
