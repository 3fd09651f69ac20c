section ZNN
variable {I : Type} {C : Zc} {kc ks : Nat} {S : Zs} {w : Zw} {pc : Nat} {lv : List (Nat × Value)} {st st0 : List Value} {em : I → Zr} {X : Option I}
theorem dN_0 : decode prog_25_method_4_code 0 = .ok (.aload_n 0, 1) := by decide +kernel
theorem dN_1 : decode prog_25_method_4_code 1 = .ok (.aload_n 1, 1) := by decide +kernel
theorem dN_2 : decode prog_25_method_4_code 2 = .ok (.invokespecial 13, 3) := by decide +kernel
theorem dN_5 : decode prog_25_method_4_code 5 = .ok (.return_, 1) := by decide +kernel
def zExN (own : String) (ic : Nat) (cls : String) : Prop := Bundle.fit cls = true ∧ Cond.initialized cls ∈ zGW ∧ (∀ w ∈ ((zOwnX own ic cls 13 prog_25_method_4_code ["java/lang/RuntimeException", "java/lang/Exception"]).filter vx_no).filter goodWord, w ∈ zGW) ∧ (∀ w ∈ ((zOwnX own ic cls 13 prog_25_method_4_code ["java/lang/RuntimeException", "java/lang/Exception"]).filter vx_no).filter (fun w => !goodWord w), w ∈ zBd) ∧ ((zOwnX own ic cls 13 prog_25_method_4_code ["java/lang/RuntimeException", "java/lang/Exception"]).filter vx_no).all vx_ot = true
theorem zx_NSE : zExN RX7 155 "java/util/NoSuchElementException" := ⟨by decide +kernel, by decide +kernel, by decide +kernel, by decide +kernel, by decide +kernel⟩
theorem z_throwN {ik is ic : Nat} {cls text : String} (hex : zExN C.own ic cls) (hk : Cond.classLink C.own ik cls ∈ zGW) (hs : (C.own, is, text) ∈ zStr)
    (hd : 6 ≤ C.d) (hc : 1 ≤ kc) (hs6 : 6 ≤ ks) (hh : C.hh = []) (hst : (st.map fun v => v.category).sum ≤ 8) (hem : ∀ i, X = some i → em i = (.inr cls, S, w))
    (d0 : decode C.cc pc = .ok (.new ik, 3)) (d3 : decode C.cc (pc + 3) = .ok (.dup, 1)) (d4 : decode C.cc (pc + 4) = .ok (.ldc is, 2)) (d6 : decode C.cc (pc + 6) = .ok (.invokespecial ic, 3)) (d9 : decode C.cc (pc + 9) = .ok (.athrow, 1)) : zOk C kc ks S w pc lv st em X := by
  intro i hi p e R s m args below meth c9 H locs ls cells slots mc ms hX hB hV hL h1 h2 hZ
  rw [hem i hi]
  have hts := hX.2.2.2.2.1
  have hK := hX.2.2.2.2.2.2.2.2.1
  have hb : C.1.base ≤ H.size := Nat.le_trans hX.2.2.2.2.2.2.2.2.2.1 hV.1
  obtain ⟨sa, hstr⟩ := hK.2.2.2.1 _ hs
  have hrc := hX.2.2.2.2.2.2.2.2.2.2.2.2.1
  have hrs := hX.2.2.2.2.2.2.2.2.2.2.2.2.2.1
  have hfr : C.d ≤ R.frames := hX.2.2.2.2.2.2.2.2.2.2.1
  have hlo : 64 * C.d ≤ R.locals := hX.2.2.2.2.2.2.2.2.2.2.2.1
  refine zx_throwS (A := zA C.1) (own := C.own) (cls := cls) (text := text) (names := ["java/lang/RuntimeException", "java/lang/Exception"]) hX.1 hX.2.1 hK.2.2.2.2.2.2.2.2.2.2.2.2.2.2.2 dN_0 dN_1 dN_2 dN_5 hX.2.2.1 hex.1 (by decide +kernel) (hts _ hk) (hts _ hex.2.1) hstr (vx_hat (fun w9 h9 => hts _ (hex.2.2.1 w9 h9)) hex.2.2.2.1 (zBd_ok hK)) (fun w9 h9 => ?_) hK.2.1 hK.2.2.1 hV (hL.1.trans hX.2.2.2.1.symm) d0 d3 d4 d6 d9 (fun x hx9 => by rw [hX.2.2.2.2.2.2.2.1, hh] at hx9; cases hx9) ?_ ?_ (by omega) (by omega) hX.2.2.2.2.2.2.1 (fun t hW hz hq => ⟨⟨rfl, ?_⟩, Nat.le_trans hV.1 hz, fun q h3 h4 => (hq q (Nat.lt_of_lt_of_le h3 hV.1)).trans (hV.2.1 q h3 h4)⟩) hV.2.2 (by omega) (by omega)
  · rcases List.mem_cons.mp h9 with rfl | h9
    · simp [vx_ot, zGW_good hk]
    · rcases List.mem_cons.mp h9 with rfl | h9
      · simp [vx_ot, zGW_good hex.2.1]
      · exact List.all_eq_true.mp hex.2.2.2.2 w9 h9
  · show 2 + 3 < R.frames
    omega
  · have h9 := zsum (E := C.1) hst
    show ((st.map (zV C.1)).map fun v => v.category).sum + (13 * 3 + 43) ≤ R.locals
    omega
  · exact va_P.kept hB (fun k q hk9 => hq q.1 ((hB k q hk9).lt))
theorem z_throwWN {ik is ic : Nat} {cls text : String} (hex : zExN C.own ic cls) (hk : Cond.classLink C.own ik cls ∈ zGW) (hs : (C.own, is, text) ∈ zStr)
    (hd : 6 ≤ C.d) (hc : 1 ≤ kc) (hs6 : 6 ≤ ks) (hh : C.hh = []) (hst : (st.map fun v => v.category).sum ≤ 8) (hem : ∀ i, X = some i → em i = (.inr cls, S, w))
    (d0 : decode C.cc pc = .ok (.new ik, 3)) (d3 : decode C.cc (pc + 3) = .ok (.dup, 1)) (d4 : decode C.cc (pc + 4) = .ok (.ldc_w is, 3)) (d6 : decode C.cc (pc + 7) = .ok (.invokespecial ic, 3)) (d9 : decode C.cc (pc + 10) = .ok (.athrow, 1)) : zOk C kc ks S w pc lv st em X := by
  intro i hi p e R s m args below meth c9 H locs ls cells slots mc ms hX hB hV hL h1 h2 hZ
  rw [hem i hi]
  have hts := hX.2.2.2.2.1
  have hK := hX.2.2.2.2.2.2.2.2.1
  have hb : C.1.base ≤ H.size := Nat.le_trans hX.2.2.2.2.2.2.2.2.2.1 hV.1
  obtain ⟨sa, hstr⟩ := hK.2.2.2.1 _ hs
  have hrc := hX.2.2.2.2.2.2.2.2.2.2.2.2.1
  have hrs := hX.2.2.2.2.2.2.2.2.2.2.2.2.2.1
  have hfr : C.d ≤ R.frames := hX.2.2.2.2.2.2.2.2.2.2.1
  have hlo : 64 * C.d ≤ R.locals := hX.2.2.2.2.2.2.2.2.2.2.2.1
  refine zx_throwSW (A := zA C.1) (own := C.own) (cls := cls) (text := text) (names := ["java/lang/RuntimeException", "java/lang/Exception"]) hX.1 hX.2.1 hK.2.2.2.2.2.2.2.2.2.2.2.2.2.2.2 dN_0 dN_1 dN_2 dN_5 hX.2.2.1 hex.1 (by decide +kernel) (hts _ hk) (hts _ hex.2.1) hstr (vx_hat (fun w9 h9 => hts _ (hex.2.2.1 w9 h9)) hex.2.2.2.1 (zBd_ok hK)) (fun w9 h9 => ?_) hK.2.1 hK.2.2.1 hV (hL.1.trans hX.2.2.2.1.symm) d0 d3 d4 d6 d9 (fun x hx9 => by rw [hX.2.2.2.2.2.2.2.1, hh] at hx9; cases hx9) ?_ ?_ (by omega) (by omega) hX.2.2.2.2.2.2.1 (fun t hW hz hq => ⟨⟨rfl, ?_⟩, Nat.le_trans hV.1 hz, fun q h3 h4 => (hq q (Nat.lt_of_lt_of_le h3 hV.1)).trans (hV.2.1 q h3 h4)⟩) hV.2.2 (by omega) (by omega)
  · rcases List.mem_cons.mp h9 with rfl | h9
    · simp [vx_ot, zGW_good hk]
    · rcases List.mem_cons.mp h9 with rfl | h9
      · simp [vx_ot, zGW_good hex.2.1]
      · exact List.all_eq_true.mp hex.2.2.2.2 w9 h9
  · show 2 + 3 < R.frames
    omega
  · have h9 := zsum (E := C.1) hst
    show ((st.map (zV C.1)).map fun v => v.category).sum + (13 * 3 + 43) ≤ R.locals
    omega
  · exact va_P.kept hB (fun k q hk9 => hq q.1 ((hB k q hk9).lt))
def zn32 (r : UInt32) : Bool := decide (r &&& 0x7fffffff ≤ 0x7f800000)
def zn64 (r : UInt64) : Bool := decide (r &&& 0x7fffffffffffffff ≤ 0x7ff0000000000000)
theorem zn32_ok {r : UInt32} (h : zn32 r = true) : vf_n32 r := by
  show r &&& 0x7fffffff ≤ 0x7f800000
  exact of_decide_eq_true h
theorem zn64_ok {r : UInt64} (h : zn64 r = true) : vf_n64 r := by
  show r &&& 0x7fffffffffffffff ≤ 0x7ff0000000000000
  exact of_decide_eq_true h
theorem z_putNI {c index id : Nat} {nm host : String} {T : u_T} {N : Nat} {x : Int32} (hc : zCls c nm T N) (k : Nat) (hk : k < N) (hf : zFty c k = .int ∨ (zFty c k = .boolean ∧ (x = 0 ∨ x = 1))) (hfin : (T k).2.2.2 = false) (hg : (C.own, index, (T k).1, (T k).2.1, (T k).2.2.1, host) ∈ zNf1) (ho : zObj S id c) (hd : decode C.cc pc = .ok (.putfield index, 3)) (h : zOk C kc ks S (zput w id k x) (pc + 3) lv st em X) : zOk C kc ks S w pc lv (.int x :: .ref id :: st) em X := by
  intro i hi p e R s m args below meth c9 H locs ls cells slots mc ms hX hB hV hL h1 h2 hZ
  obtain ⟨q, hid, hq, hro, hat⟩ := ho.at (E := C.1) (w := w)
  have hf0 : zIsR (zFty c k) = false := by rcases hf with hf | ⟨hf, -⟩ <;> rw [hf] <;> rfl
  have hn : narrow (zFty c k) (.int x) = .int x := by rcases hf with hf | ⟨hf, rfl | rfl⟩ <;> rw [hf] <;> rfl
  have hft : fits (zFty c k) (.int x) = true := by rcases hf with hf | ⟨hf, rfl | rfl⟩ <;> rw [hf] <;> rfl
  refine va_putN (D := C.1.G) (v := .int x) hX.1 hX.2.1 hX.2.2.2.2.1 hc.2.2.1 (zFty c) hc.2.2.2.1 hc.2.2.2.2 hX.2.2.1 hX.2.2.2.2.2.2.2.2.1.1 hB (zL_D C.1 S w) hV q hat hc.1 k hk (va_Nw.use rfl (hX.2.2.2.2.2.2.2.2.1.2.2.2.2.1 _ hg)) (fun _ h9 => h9) hfin (hc.2.2.2.1 k hk) hn hft (by simp; exact hc.2.1 ▸ hk) hd (fun H1 locs1 hP1 hD1 hS1 => ?_)
  rw [zL_put (k := k) (x := x) hid hq (by rw [zF_setI hf0]; simp [zCe, ho.2.2])] at hP1
  exact h i hi p e R s m args below meth c9 H1 locs1 ls cells slots mc ms hX hP1 hS1 hL h1 h2 hZ
theorem z_ldci {index : Nat} {v : Int32} (hg : Cond.constant C.own index v ∈ zGW) (hd : decode C.cc pc = .ok (.ldc index, 2)) (h : zOk C kc ks S w (pc + 2) lv (.int v :: st) em X) : zOk C kc ks S w pc lv st em X :=
  fun i hi p e R s m args below meth c H locs ls cells slots mc ms hX hB hV hL h1 h2 hZ => lv_ldc hX.1 hX.2.1 hX.2.2.1 (hX.2.2.2.2.1 _ hg) hd (h i hi p e R s m args below meth c H locs ls cells slots mc ms hX hB hV hL h1 h2 hZ)
theorem z_iincW {k : Nat} {n : Int} {x v : Int32} {lv' : List (Nat × Value)} (j : Nat) (hd : decode C.cc pc = .ok (.iinc k n, 6)) (hj : lv[j]? = some (k, .int x)) (hv : x + Int32.ofInt n = v) (hn : k < C.nL) (hl : zst1 lv k (.int v) = lv') (h : zOk C kc ks S w (pc + 6) lv' st em X) : zOk C kc ks S w pc lv st em X :=
  fun i hi p e R s m args below meth c H locs ls cells slots mc ms hX hB hV hL h1 h2 hZ => lv_iincW hX.1 hX.2.1 hd hL (k := j) (zlv_at hj) hv hn (zst1_map (E := C.1) (v := .int v) hl) fun ls2 hL2 => h i hi p e R s m args below meth c H locs ls2 cells slots mc ms hX hB hV hL2 h1 h2 hZ
theorem gw_maxint : Cond.constant RX8 154 (2147483647) ∈ zGW := zGW_i 1265 (by decide +kernel) rfl
theorem z_letT {A B : Type} {em : B → Zr} {a : A} (lv : A → List (Nat × Value)) (st : A → List Value) {f : A → B} (h : ∀ x, zOk C kc ks S w pc (lv x) (st x) em (some (f x))) : zOk C kc ks S w pc (lv a) (st a) em (some (zlet a f)) := h a
end ZNN
