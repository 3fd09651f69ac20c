section ZC
variable {I : Type} {C : Zc} {kc ks : Nat} {S : Zs} {w : Zw} {pc : Nat} {lv : List (Nat × Value)} {st st0 : List Value} {em : I → Zr} {X : Option I}
def zRm (d mc ms : Nat) : Room := { frames := d, cells := mc, slots := ms, locals := 64 * d }
abbrev zWs (y : MethodName) (bytes : ByteArray) (maxL : Nat) (ret : Option FieldType) : List Cond := Cond.code y bytes maxL ret :: zGW
def zPc (E : ZE) (args : List Value) (S : Zs) (w : Zw) : Array Value → State → Prop := va_Pc (args.map (zV E)) (fun U => zB E S w U.heap ∧ zK E U ∧ E.base ≤ U.heap.size ∧ (S.al = true → U.heap.size = E.base + S.n))
/-- the contract of a method that returns; of one that returns or throws -/
def zMr (E : ZE) (y : MethodName) (bytes : ByteArray) (maxL : Nat) (ret : Option FieldType) (d mc ms : Nat) (args : List Value) (S : Zs) (w : Zw) (r : Zr) : Prop := Met E.l y (zWs y bytes maxL ret) (zRm d mc ms) (zPc E args S w) (zQc E r) mc ms (zA E)
def zMx (E : ZE) (y : MethodName) (bytes : ByteArray) (maxL : Nat) (ret : Option FieldType) (d mc ms : Nat) (args : List Value) (S : Zs) (w : Zw) (r : Zr) : Prop := vx_Met E.l y (zWs y bytes maxL ret) (zRm d mc ms) (zPc E args S w) (zQc E r) (zXC E r) mc ms (zA E)
theorem zK.moved {E : ZE} {s U : State} {H : Heap} {locs : List Loc} (h : zK E s) (hW : s.WarmedH U.vm) (hH : U.heap = H) (hS : va_S (zA E) s.heap H locs) : zK E U := by
  subst hH
  obtain ⟨k1, k2, k3, k4, k5, k6, k7, k8, k9, k10, k11, k12, k13⟩ := h
  refine ⟨va_K.moved hW.alike k1, (vx_Zq.moved hW.alike k2).kept hS.2.1, (vx_Zq.moved hW.alike k3).kept hS.2.1, fun q hq => ?_, fun q hq => va_Nw.warmF hW (k5 q hq), fun q hq => va_Nw.warmM hW (k6 q hq), fun q hq => (k7 q hq).moved hW.alike, k8.moved hW.alike, k9.moved hW.alike, (va_X.moved hW.alike k10).kept (hS.2.1 _ k12 (Nat.not_le.mpr k11)), k11, Nat.lt_of_lt_of_le k12 hS.1, k13⟩
  obtain ⟨sa, h⟩ := k4 q hq
  exact ⟨sa, h.warm hW⟩
theorem zPc_blind {E : ZE} {args : List Value} {S : Zs} {w : Zw} : FrameBlind (zPc E args S w) := by
  intro a U g mk h
  obtain ⟨h1, h2, h3, h4⟩ := h
  exact ⟨h1, h2, zK.moved (U := U.calling g mk a) (H := U.heap) h3 (State.WarmedH.refl U) rfl va_S.rf, h4⟩
theorem zGW_GoodIn {y : MethodName} {bytes : ByteArray} {maxL : Nat} {ret : Option FieldType} (h : Cond.code y bytes maxL ret ∈ zGW) : GoodIn zGW (zWs y bytes maxL ret) := by
  intro w hw
  rcases List.mem_cons.mp hw with rfl | hw
  · exact ⟨h, good_of_word (zGW_good h)⟩
  · exact ⟨hw, good_of_word (zGW_good hw)⟩
/-- what the tables say of a method -/
def zY (y : MethodName) (bytes : ByteArray) (maxL : Nat) (ret : Option FieldType) (n : Nat) : Prop := Cond.code y bytes maxL ret ∈ zGW ∧ Cond.initialized y.cls ∈ zGW ∧ (y.cls ≠ "java/lang/invoke/MethodHandle" ∧ y.cls ≠ "java/lang/invoke/VarHandle" ∧ (parseMethodDescriptor y.desc).map (fun d => d.parameters.length) = some n) ∧ maxL ≤ 45
theorem zheap {E : ZE} {S : Zs} {w : Zw} {H : Heap} {sz cells : Nat} (hB : zB E S w H) (hb : E.base ≤ H.size) (hu : H.size ≤ sz + cells) (hz : sz + cells = E.base + S.n) : H.size = E.base + S.n := by
  rcases Nat.eq_zero_or_pos S.n with h0 | h0
  · omega
  · have h1 := (hB (S.n - 1) _ (zL_get (by omega))).lt
    have h2 : E.base + (S.n - 1) < H.size := h1
    omega
theorem z_run {p : Program} {E : ZE} {e : Env} {R : Room} {s : State} {m : MethodId} {args : Array Value} {below : List Frame} {meth : Method} {c : Code} {H : Heap} {locs : List Loc} {cells slots mc ms pc : Nat} {ls : Array Slot} {s0 rest : List Value} {Q : State → Prop} {v : Option Value} {S1 : Zs} {w1 : Zw} {a : Array Value}
    (hr : va_Run p E.l e R s m args below meth c H locs cells slots mc ms (F0 m pc ls s0) rest (zQc E (.inl v, S1, w1) a) (zA E)) (hS : va_S (zA E) s.heap H locs)
    (kk : ∀ (H1 : Heap) (locs1 : List Loc), zB E S1 w1 H1 → va_S (zA E) s.heap H1 locs1 → W p E.l e R s m args below meth c H1 locs1 (cells + mc) (slots + ms) Q (F0 m (pc + 3) ls ((v.map (zV E)).toList ++ rest))) : W p E.l e R s m args below meth c H locs cells slots Q (F0 m pc ls s0) := by
  intro T hT X
  obtain ⟨v9, st₀, t, T', L, h0, X', hL, e1, e2, ⟨⟨v8, hv8, hv, hb⟩, hF⟩, stp⟩ := hr T hT X
  cases hv8
  cases hv
  obtain ⟨k1, k2, k3⟩ := vx_keep h0 e1 hS (fun _ _ h => h) (fun _ h => h) hL hF
  obtain ⟨t2, a1, b1⟩ := kk T'.heap (locs ++ L) (by rw [e1]; exact hb) k3 T' rfl X'
  exact ⟨t2, stp t2 a1, b1⟩
theorem z_runX {p : Program} {E : ZE} {e : Env} {R : Room} {s : State} {m : MethodId} {args : Array Value} {below : List Frame} {meth : Method} {c : Code} {H : Heap} {locs : List Loc} {cells slots mc ms pc : Nat} {ls : Array Slot} {s0 rest : List Value} {Q : State → Prop} {r : Zr} {a : Array Value}
    (hr : vx_Run p E.l e R s m args below meth c H locs cells slots mc ms (F0 m pc ls s0) rest (zQc E r a) (zXC E r) (zA E)) (hS : va_S (zA E) s.heap H locs)
    (kk : ∀ (v : Option Value) (H1 : Heap) (locs1 : List Loc), r.1 = .inl v → zB E r.2.1 r.2.2 H1 → va_S (zA E) s.heap H1 locs1 → W p E.l e R s m args below meth c H1 locs1 (cells + mc) (slots + ms) Q (F0 m (pc + 3) ls ((v.map (zV E)).toList ++ rest)))
    (kx : ∀ (Ex : String) (ce : Cell) (q9 : Addr) (H1 : Heap) (locs1 : List Loc), r.1 = .inr Ex → zB E r.2.1 r.2.2 H1 → va_S (zA E) s.heap H1 locs1 → H1[q9]? = some ce → ce.vm = .none → s.vm.findClass Ex = some ce.cls → vx_W p E.l e R s m args below meth c H1 locs1 (cells + mc) (slots + ms) Q (F0 m pc ls rest) q9) : W p E.l e R s m args below meth c H locs cells slots Q (F0 m pc ls s0) := by
  intro T hT X
  rcases hr T hT X with ⟨v9, st₀, t, T', L, h0, X', hL, e1, e2, ⟨⟨v8, hv8, hv, hb⟩, hF⟩, stp⟩ | ⟨q, st₀, t, T', L, Ex, ce, h0, X', hL, e1, e2, ⟨⟨hx8, hb⟩, hF⟩, hce, hcv, hcl, stp⟩
  · cases hv
    obtain ⟨k1, k2, k3⟩ := vx_keep h0 e1 hS (fun _ _ h => h) (fun _ h => h) hL hF
    obtain ⟨t2, a1, b1⟩ := kk v8 T'.heap (locs ++ L) hv8 (by rw [e1]; exact hb) k3 T' rfl X'
    exact ⟨t2, stp t2 a1, b1⟩
  · obtain ⟨k1, k2, k3⟩ := vx_keep h0 e1 hS (fun _ _ h => h) (fun _ h => h) hL hF
    obtain ⟨t2, a1, b1⟩ := kx Ex ce q T'.heap (locs ++ L) hx8 (by rw [e1]; exact hb) k3 (by rw [e1]; exact hce) hcv hcl T' rfl X'
    exact ⟨t2, stp.trans a1, b1⟩
theorem zst_app {E : ZE} (v : Option Value) (st : List Value) : ((v.toList ++ st).map (zV E)) = (v.map (zV E)).toList ++ st.map (zV E) := by cases v <;> rfl
theorem zsum {E : ZE} {st : List Value} (h : (st.map fun v => v.category).sum ≤ 8) : ((st.map (zV E)).map fun v => v.category).sum ≤ 8 := by
  simp only [List.map_map, Function.comp_def, zV_cat]
  exact h
/-- the world as a callee's start sees it -/
theorem zpre {C : Zc} {p : Program} {l : Launch} {e : Env} {R : Room} {s : State} {m : MethodId} {args : Array Value} {below : List Frame} {meth : Method} {c : Code} {mc ms : Nat} {S : Zs} {w : Zw} {H : Heap} {locs L9 : List Loc} {cells slots : Nat} {T : State} (as : List Value) (hX : zX C p R s m args meth c mc ms) (hB : zB C.1 S w H) (hV : va_S (zA C.1) s.heap H locs) (hZ : S.al = true → s.heap.size + cells = C.1.base + S.n) (hT : T.heap = H) (X : Stand p l e R s m args below meth c T L9 cells slots) : ∀ U : State, U.heap = H → s.WarmedH U.vm → zPc C.1 as S w (as.map (zV C.1)).toArray U := by
  intro U hU hW
  have hb : C.1.base ≤ H.size := Nat.le_trans hX.2.2.2.2.2.2.2.2.2.1 hV.1
  have hu := X.heapSize
  rw [hT] at hu
  exact ⟨rfl, by rw [hU]; exact hB, hX.2.2.2.2.2.2.2.2.1.moved hW hU hV, by rw [hU]; exact hb, fun h => by rw [hU]; exact zheap hB hb hu (hZ h)⟩
theorem z_callV {c id index maxL d' mc' ms' kc' ks' N : Nat} {nm : String} {T : u_T} {y : MethodName} {bytes : ByteArray} {ret : Option FieldType} {v : Option Value} {S1 : Zs} {w1 : Zw} (as : List Value)
    (hM : zMr C.1 y bytes maxL ret d' mc' ms' (.ref id :: as) S w (.inl v, S1, w1)) (hc : zCls c nm T N) (ho : zObj S id c) (hy : zY y bytes maxL ret as.length) (hi9 : Cond.instanceMethod y ∈ zGW) (hs9 : Cond.selects nm y y ∈ zGW) (hl : Cond.methodLink C.own index y ∈ zGW)
    (hd1 : d' + 1 ≤ C.d) (hsum : (st.map fun v => v.category).sum ≤ 8) (hkc : mc' + kc' ≤ kc) (hks : ms' + ks' ≤ ks) (hal : S1.al = true → S.al = true ∧ S1.n = S.n + mc') (hst : as.reverse ++ .ref id :: st = st0) (hd : decode C.cc pc = .ok (.invokevirtual index, 3))
    (h : zOk C kc' ks' S1 w1 (pc + 3) lv (v.toList ++ st) em X) : zOk C kc ks S w pc lv st0 em X := by
  intro i hi p e R s m args below meth c9 H locs ls cells slots mc ms hX hB hV hL h1 h2 hZ T9 hT9 X9
  obtain ⟨q, hid, hq, hro, hat⟩ := ho.at (E := C.1) (w := w)
  have hts := hX.2.2.2.2.1
  have hp := zpre (.ref id :: as) hX hB hV hZ hT9 X9
  have hdl : 8 + (maxL + 11) + 64 * d' ≤ R.locals := by
    have a1 := hX.2.2.2.2.2.2.2.2.2.2.2.1
    have a2 := hy.2.2.2
    omega
  have hdf : d' + 1 ≤ R.frames := Nat.le_trans hd1 hX.2.2.2.2.2.2.2.2.2.2.1
  have hrc := hX.2.2.2.2.2.2.2.2.2.2.2.2.1
  have hrs := hX.2.2.2.2.2.2.2.2.2.2.2.2.2.1
  have cw : CallW R s args C.own nm index y bytes maxL ret (zWs y bytes maxL ret) (zRm d' mc' ms') mc' ms' as.length := ⟨callB_of _ hts (zGW_GoodIn hy.1) rfl rfl rfl (hts _ hy.2.1) (hts _ hl) hy.2.2.1 ⟨hdf, hdl⟩, hts _ hi9, hts _ hs9⟩
  have hr := va_runV (As := as.map (zV C.1)) (b := zRo C.1 id) (rest := st.map (zV C.1)) (g := F0 m pc ls (st0.map (zV C.1))) (locs := locs) (cells := cells) (slots := slots) (below := below) (meth := meth) (e := e) (H := H) ⟨hX.1, hX.2.1, hX.2.2.2.1, hX.2.2.1, hts⟩ hM cw ⟨zPc_blind, va_recv hX.2.2.2.2.2.2.2.2.1.1 hB hc.1 hat, hp⟩ rfl (by simp) hL.1 (by subst hst; simp [zV]) (lv_room (zsum hsum)) hd ⟨by omega, by omega⟩
  refine z_run hr hV (fun H1 locs1 hB1 hV1 => ?_) T9 hT9 X9
  have h9 := h i hi p e R s m args below meth c9 H1 locs1 ls (cells + mc') (slots + ms') mc ms hX hB1 hV1 hL (by omega) (by omega) (fun q => by have := hal q; have := hZ this.1; omega)
  rwa [zst_app] at h9
end ZC
