/-! CONSTRUCTORS: the static part grows; what is where is checked as it runs. -/
section ZCT
variable {I : Type} {C : Zc} {kc ks : Nat} {S : Zs} {w : Zw} {pc : Nat} {lv : List (Nat × Value)} {st st0 : List Value} {em : I → Zr} {X : Option I}
def zckO (S : Zs) (id c : Nat) : Bool := decide (0 < id) && (decide (id ≤ S.n) && (match S.sh id with | .inl c' => decide (c' = c) | .inr _ => false))
theorem zckO_ok {id c : Nat} (h : zckO S id c = true) : zObj S id c := by
  simp only [zckO, Bool.and_eq_true, decide_eq_true_eq] at h
  obtain ⟨h1, h2, h3⟩ := h
  refine ⟨h1, h2, ?_⟩
  split at h3
  · rename_i c' hc
    rw [hc, of_decide_eq_true h3]
  · cases h3
def zckT (S : Zs) (id t : Nat) : Bool := decide (0 < id) && (decide (id ≤ S.n) && (match S.sh id with | .inl _ => false | .inr q => decide (q.1 = t)))
theorem zckT_ok {id t : Nat} (h : zckT S id t = true) : zArr S id t := by
  simp only [zckT, Bool.and_eq_true, decide_eq_true_eq] at h
  obtain ⟨h1, h2, h3⟩ := h
  refine ⟨h1, h2, ?_⟩
  split at h3
  · cases h3
  · rename_i q hq
    exact ⟨q.2, by rw [hq, ← of_decide_eq_true h3]⟩
def zckN (S S1 : Zs) (k : Nat) : Bool := S.al && decide (S1.n = S.n + k)
theorem zckN_ok {S1 : Zs} {k : Nat} (h : zckN S S1 k = true) : S1.al = true → S.al = true ∧ S1.n = S.n + k := by
  simp only [zckN, Bool.and_eq_true, decide_eq_true_eq] at h
  exact fun _ => h
theorem z_letS {a : Zs} {f : Zs → Option I} (h : ∀ x, zOk C kc ks x w pc lv st em (f x)) : zOk C kc ks a w pc lv st em (zlet a f) := h a
theorem z_putIF {c index id : Nat} {nm : String} {T : u_T} {N : Nat} {x : Int32} (hc : zCls c nm T N) (k : Nat) (hk : k < N) (hf : zFty c k = .int) (hfin : (T k).2.2.2 = true) (hnm : C.nm = "<init>") (hdecl : (T k).1 = C.own) (hg : Cond.fieldLink C.own index (T k).1 (T k).2.1 (T k).2.2.1 ∈ zGW) (ho : zObj S id c) (hd : decode C.cc pc = .ok (.putfield index, 3)) (h : zOk C kc ks S (zput w id k x) (pc + 3) lv st em X) : zOk C kc ks S w pc lv (.int x :: .ref id :: st) em X := by
  intro i hi p e R s m args below meth c9 H locs ls cells slots mc ms hX hB hV hL h1 h2 hZ
  obtain ⟨q, hid, hq, hro, hat⟩ := ho.at (E := C.1) (w := w)
  have hf0 : zIsR (zFty c k) = false := by rw [hf]; rfl
  have hn : narrow (zFty c k) (.int x) = .int x := by rw [hf]; rfl
  have hft : fits (zFty c k) (.int x) = true := by rw [hf]; rfl
  refine va_putF (D := C.1.G) (v := .int x) hX.1 hX.2.1 hX.2.2.2.2.1 hc.2.2.1 (zFty c) hc.2.2.2.1 hc.2.2.2.2 hX.2.2.1 hX.2.2.2.2.2.2.2.2.1.1 hB (zL_D C.1 S w) hV q hat hc.1 k hk (hX.2.2.2.2.1 _ hg) (fun _ h9 => h9) hfin (hX.2.2.2.2.2.2.2.2.2.2.2.2.2.2.trans hnm) hdecl (hc.2.2.2.1 k hk) hn hft (by simp; exact hc.2.1 ▸ hk) hd (fun H1 locs1 hP1 hD1 hS1 => ?_)
  rw [zL_put (k := k) (x := x) hid hq (by rw [zF_setI hf0]; simp [zCe, ho.2.2])] at hP1
  exact h i hi p e R s m args below meth c9 H1 locs1 ls cells slots mc ms hX hP1 hS1 hL h1 h2 hZ
theorem z_objInit {id index : Nat} (hl : Cond.methodLink C.own index objectInit ∈ zGW) (h6 : 1 ≤ C.d) (hst : (st.map fun v => v.category).sum ≤ 8) (hd : decode C.cc pc = .ok (.invokespecial index, 3)) (h : zOk C kc ks S w (pc + 3) lv st em X) : zOk C kc ks S w pc lv (.ref id :: st) em X := by
  intro i hi p e R s m args below meth c9 H locs ls cells slots mc ms hX hB hV hL h1 h2 hZ
  have hts := hX.2.2.2.2.1
  have h9 := zsum (E := C.1) hst
  have hfr : C.d ≤ R.frames := hX.2.2.2.2.2.2.2.2.2.2.1
  have hlo : 64 * C.d ≤ R.locals := hX.2.2.2.2.2.2.2.2.2.2.2.1
  refine W.objInit (g := F0 m pc ls ((Value.ref id :: st).map (zV C.1))) (rest := st.map (zV C.1)) hX.1 hX.2.1 hX.2.2.1 (hts _ hl) (hts _ gw30) (hts _ gw31) rfl (hL.1.trans hX.2.2.2.1.symm) rfl hd (by omega) ?_ (h i hi p e R s m args below meth c9 H locs ls cells slots mc ms hX hB hV hL h1 h2 hZ)
  show 2 * 0 + ((st.map (zV C.1)).map fun v => v.category).sum + 12 ≤ R.locals
  omega
end ZCT
