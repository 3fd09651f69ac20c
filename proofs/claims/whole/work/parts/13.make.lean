section ZM
variable {I : Type} {C : Zc} {kc ks : Nat} {S : Zs} {w : Zw} {pc : Nat} {lv : List (Nat × Value)} {st st0 : List Value} {em : I → Zr} {X : Option I}
/-- a cell more -/
def zmk (S : Zs) (z : Nat ⊕ (Nat × Nat)) : Zs := (S.1 + 1, fun j => if j = S.1 + 1 then z else S.2.1 j, fun j i => if j = S.1 + 1 then none else S.2.2.1 j i, fun j i => if j = S.1 + 1 then 0 else S.2.2.2.1 j i, fun j i => if j = S.1 + 1 then 0 else S.2.2.2.2.1 j i, S.2.2.2.2.2)
theorem zmk_sh {S : Zs} {z : Nat ⊕ (Nat × Nat)} {j : Nat} : (zmk S z).sh j = if j = S.1 + 1 then z else S.sh j := rfl
theorem zmk_cr {S : Zs} {z : Nat ⊕ (Nat × Nat)} {j i : Nat} : (zmk S z).cr j i = if j = S.1 + 1 then none else S.cr j i := rfl
theorem zmk_cl {S : Zs} {z : Nat ⊕ (Nat × Nat)} {j i : Nat} : (zmk S z).cl j i = if j = S.1 + 1 then 0 else S.cl j i := rfl
theorem zmk_cd {S : Zs} {z : Nat ⊕ (Nat × Nat)} {j i : Nat} : (zmk S z).cd j i = if j = S.1 + 1 then 0 else S.cd j i := rfl
theorem zL_mk {E : ZE} {S : Zs} {w : Zw} {z : Nat ⊕ (Nat × Nat)} : zL E (zmk S z) (zwup w (S.1 + 1) fun _ => 0) = zL E S w ++ [(E.base + S.1, zCe E (zmk S z) (S.1 + 1) (fun _ => 0))] := by
  show (List.range (S.1 + 1)).map _ = (List.range S.1).map _ ++ _
  rw [List.range_succ, List.map_append]
  congr 1
  · apply List.map_congr_left
    intro k hk
    have hk9 : k < S.1 := List.mem_range.mp hk
    have hne : ¬ (k + 1 = S.1 + 1) := by omega
    have e1 : (zmk S z).sh (k + 1) = S.sh (k + 1) := by rw [zmk_sh, if_neg hne]
    have e2 : (zmk S z).cr (k + 1) = S.cr (k + 1) := by funext i; rw [zmk_cr, if_neg hne]
    have e3 : (zmk S z).cl (k + 1) = S.cl (k + 1) := by funext i; rw [zmk_cl, if_neg hne]
    have e4 : (zmk S z).cd (k + 1) = S.cd (k + 1) := by funext i; rw [zmk_cd, if_neg hne]
    have e5 : (zwup w (S.1 + 1) fun _ => 0) (k + 1) = w (k + 1) := by unfold zwup; rw [if_neg hne]
    simp only [zCe, e1, e5]
    rcases h9 : S.sh (k + 1) with c | ⟨t, n⟩
    · have e7 : zFv E (zmk S z) (k + 1) c (w (k + 1)) = zFv E S (k + 1) c (w (k + 1)) := by funext j; simp only [zFv, e2]
      simp only [e7]
    · have e6 : zCt E (zmk S z) (k + 1) t (w (k + 1)) = zCt E S (k + 1) t (w (k + 1)) := by
        unfold zCt
        rw [e2, e3, e4]
      simp only [e6]
  · have e5 : (zwup w (S.1 + 1) fun _ => 0) (S.1 + 1) = fun _ => 0 := by unfold zwup; rw [if_pos rfl]
    simp only [List.map_cons, List.map_nil, e5]
def zCd (c : Nat) : Prop := ∀ j, j < zNf c → defaultValue (zFty c j) = if zIsR (zFty c j) = true then .null else .int 0
theorem zcd0 : zCd 0 := by unfold zCd; decide +kernel
theorem zcd1 : zCd 1 := by unfold zCd; decide +kernel
theorem zcd2 : zCd 2 := by unfold zCd; decide +kernel
theorem zcd3 : zCd 3 := by unfold zCd; decide +kernel
theorem zcd4 : zCd 4 := by unfold zCd; decide +kernel
theorem zcd5 : zCd 5 := by unfold zCd; decide +kernel
theorem zcd6 : zCd 6 := by unfold zCd; decide +kernel
theorem zcd7 : zCd 7 := by unfold zCd; decide +kernel
theorem zcd8 : zCd 8 := by unfold zCd; decide +kernel
theorem z_new {c index kc' ks' N : Nat} {nm : String} {T : u_T} (hc : zCls c nm T N) (hcd : zCd c) (hcl : Cond.classLink C.own index nm ∈ zGW) (hin : Cond.instantiable nm N ∈ zGW) (hini : Cond.initialized nm ∈ zGW) (hal : S.al = true) (hkc : 1 + kc' ≤ kc) (hks : N + ks' ≤ ks) (hd : decode C.cc pc = .ok (.new index, 3))
    (h : zOk C kc' ks' (zmk S (.inl c)) (zwup w (S.1 + 1) fun _ => 0) (pc + 3) lv (.ref (S.1 + 1) :: st) em X) : zOk C kc ks S w pc lv st em X := by
  intro i hi p e R s m args below meth c9 H locs ls cells slots mc ms hX hB hV hL h1 h2 hZ T9 hT9 X9
  have hts := hX.2.2.2.2.1
  have hK := hX.2.2.2.2.2.2.2.2.1.1
  have hrc := hX.2.2.2.2.2.2.2.2.2.2.2.2.1
  have hrs := hX.2.2.2.2.2.2.2.2.2.2.2.2.2.1
  have hb : C.1.base ≤ H.size := Nat.le_trans hX.2.2.2.2.2.2.2.2.2.1 hV.1
  have hu := X9.heapSize
  rw [hT9] at hu
  have hsz := zheap hB hb hu (hZ hal)
  have hKn := hK.1 c _ hc.1
  refine W.newcK (p := p) (e := e) (l := C.1.l) (R := R) (s := s) (m := m) (args := args) (below := below) (meth := meth) (c := c9) (H := H) (locs := locs) (cells := cells) (slots := slots) (Q := vx_MQ below (zQc C.1 (em i)) (zXC C.1 (em i)) args s mc ms (zA C.1)) (g := F0 m pc ls (st.map (zV C.1))) hX.1 hX.2.1 hX.2.2.1 (hts _ hcl) (hts _ hin) (hts _ hini) rfl hd (by omega) (by omega) hKn.2.1 hsz (fun H1 kC hkC e1 z1 o1 => ?_) T9 hT9 X9
  have hk : ∀ (k : Nat) (x : Nat × va_E), (zL C.1 S w)[k]? = some x → H1[x.1]? = H[x.1]? := fun k x hx => o1 x.1 (Nat.lt_of_lt_of_eq (hB k x hx).lt hsz)
  have hP1 : zB C.1 (zmk S (.inl c)) (zwup w (S.1 + 1) fun _ => 0) H1 := by
    unfold zB
    rw [zL_mk]
    refine (va_P.kept hB hk).app (fun k x hx => ?_)
    have hz : k < 1 := (List.getElem?_eq_some_iff.mp hx).1
    rw [show k = 0 by omega] at hx
    cases hx
    have e9 : zCe C.1 (zmk S (.inl c)) (S.1 + 1) (fun _ => 0) = .inr (c, (List.range (zNf c)).map (zFv C.1 (zmk S (.inl c)) (S.1 + 1) c (fun _ => 0))) := by simp only [zCe, zmk_sh, if_pos]
    show va_at _ _ (_, zCe C.1 (zmk S (.inl c)) (S.1 + 1) (fun _ => 0)) _
    rw [e9]
    refine ⟨_, hc.1, (u_born (zFty c) hts hc.2.2.1 hKn hkC e1 hc.2.2.2.1).to (fun j hj => ?_)⟩
    rw [hcd j (hc.2.1 ▸ hj)]
    have hj9 : j < zNf c := hc.2.1 ▸ hj
    have e7 : ((List.range (zNf c)).map (zFv C.1 (zmk S (.inl c)) (S.1 + 1) c fun _ => 0))[j]? = some (zFv C.1 (zmk S (.inl c)) (S.1 + 1) c (fun _ => 0) j) := by simp [List.getElem?_map, hj9]
    rw [vp_V, List.getD_eq_getElem?_getD, e7]
    simp only [Option.getD_some, zFv, zmk_cr, if_pos, Option.map_none, va_rf]
  exact h i hi p e R s m args below meth c9 H1 locs ls (cells + 1) (slots + N) mc ms hX hP1 ⟨Nat.le_trans hV.1 (by omega), fun x g1 g2 => (o1 x (by have := hV.1; omega)).trans (hV.2.1 x g1 g2), hV.2.2⟩ hL (by omega) (by omega) (fun _ => by have q9 : s.heap.size + cells = C.1.base + S.1 := hZ hal; show s.heap.size + (cells + 1) = C.1.base + (S.1 + 1); omega)
theorem z_newa {atype : ArrayType} {n : Int32} {N kc' ks' : Nat} (t : Nat) (ht : t < 5) (hty : newarray.typeOf atype = zAty t) (hg : Cond.arrayClass (zAty t) ∈ zGW) (hn : ¬ n < 0) (hN : n.toNatClampNeg = N) (hsm : N ≤ 100000) (hal : S.al = true) (hkc : 1 + kc' ≤ kc) (hks : N + ks' ≤ ks) (hd : decode C.cc pc = .ok (.newarray atype, 2))
    (h : zOk C kc' ks' (zmk S (.inr (t, N))) (zwup w (S.1 + 1) fun _ => 0) (pc + 2) lv (.ref (S.1 + 1) :: st) em X) : zOk C kc ks S w pc lv (.int n :: st) em X := by
  intro i hi p e R s m args below meth c9 H locs ls cells slots mc ms hX hB hV hL h1 h2 hZ T9 hT9 X9
  have hts := hX.2.2.2.2.1
  have hK := hX.2.2.2.2.2.2.2.2.1.1
  have hrc := hX.2.2.2.2.2.2.2.2.2.2.2.2.1
  have hrs := hX.2.2.2.2.2.2.2.2.2.2.2.2.2.1
  have hb : C.1.base ≤ H.size := Nat.le_trans hX.2.2.2.2.2.2.2.2.2.1 hV.1
  have hu := X9.heapSize
  rw [hT9] at hu
  have hsz := zheap hB hb hu (hZ hal)
  have hcb : componentBytes (zAty t) ≤ 8 := by
    match t, ht with
    | 0, _ | 1, _ | 2, _ | 3, _ | 4, _ => decide +kernel
  refine va_newaK (p := p) (e := e) (l := C.1.l) (R := R) (s := s) (m := m) (args := args) (below := below) (meth := meth) (c := c9) (H := H) (locs := locs) (cells := cells) (slots := slots) (Q := vx_MQ below (zQc C.1 (em i)) (zXC C.1 (em i)) args s mc ms (zA C.1)) (g := F0 m pc ls ((Value.int n :: st).map (zV C.1))) hX.1 hX.2.1 (by rw [hty]; exact hts _ hg) rfl hd rfl hn hN (by rw [hty]; exact Nat.le_trans (Nat.mul_le_mul hsm hcb) (Nat.le_of_ble_eq_true rfl)) (by omega) (by omega) hsz (fun H1 cA e1 z1 o1 hAr hNm => ?_) T9 hT9 X9
  rw [hty] at e1 hNm
  have hcA : cA = C.1.cA t := by
    match t, ht with
    | 0, _ => exact Option.some.inj (hNm.symm.trans (hK.2 0 _ rfl).2)
    | 1, _ => exact Option.some.inj (hNm.symm.trans (hK.2 1 _ rfl).2)
    | 2, _ => exact Option.some.inj (hNm.symm.trans (hK.2 2 _ rfl).2)
    | 3, _ => exact Option.some.inj (hNm.symm.trans (hK.2 3 _ rfl).2)
    | 4, _ => exact Option.some.inj (hNm.symm.trans (hK.2 4 _ rfl).2)
  subst hcA
  have hk : ∀ (k : Nat) (x : Nat × va_E), (zL C.1 S w)[k]? = some x → H1[x.1]? = H[x.1]? := fun k x hx => o1 x.1 (Nat.lt_of_lt_of_eq (hB k x hx).lt hsz)
  have hP1 : zB C.1 (zmk S (.inr (t, N))) (zwup w (S.1 + 1) fun _ => 0) H1 := by
    unfold zB
    rw [zL_mk]
    refine (va_P.kept hB hk).app (fun k x hx => ?_)
    have hz : k < 1 := (List.getElem?_eq_some_iff.mp hx).1
    rw [show k = 0 by omega] at hx
    cases hx
    have e9 : zCe C.1 (zmk S (.inr (t, N))) (S.1 + 1) (fun _ => 0) = .inl (C.1.cA t, N, zCt C.1 (zmk S (.inr (t, N))) (S.1 + 1) t (fun _ => 0)) := by simp only [zCe, zmk_sh, if_pos]
    show va_at _ _ (_, zCe C.1 (zmk S (.inr (t, N))) (S.1 + 1) (fun _ => 0)) _
    rw [e9]
    show H1[C.1.base + S.1]? = some (vp_cell _ _)
    rw [e1]
    match t, ht with
    | 0, _ => rfl
    | 1, _ => rfl
    | 2, _ => rfl
    | 3, _ =>
      show _ = some (arrV _ _ fun j => Value.long ((zmk S (.inr (3, N))).cl (S.1 + 1) j))
      simp only [zmk_cl, if_pos]
      rfl
    | 4, _ =>
      show _ = some (arrV _ _ fun j => Value.double ((zmk S (.inr (4, N))).cd (S.1 + 1) j))
      simp only [zmk_cd, if_pos]
      rfl
  exact h i hi p e R s m args below meth c9 H1 locs ls (cells + 1) (slots + N) mc ms hX hP1 ⟨Nat.le_trans hV.1 (by omega), fun x g1 g2 => (o1 x (by have := hV.1; omega)).trans (hV.2.1 x g1 g2), hV.2.2⟩ hL (by omega) (by omega) (fun _ => by have q9 : s.heap.size + cells = C.1.base + S.1 := hZ hal; show s.heap.size + (cells + 1) = C.1.base + (S.1 + 1); omega)
theorem z_newq {index : Nat} {n : Int32} {N kc' ks' : Nat} {nm : String} (t : Nat) (ht : (t = 5 ∧ nm = "ParkingRobot$Machine") ∨ (t = 6 ∧ nm = "ParkingRobot$Garage")) (hcl : Cond.classLink C.own index nm ∈ zGW) (hn : ¬ n < 0) (hN : n.toNatClampNeg = N) (hsm : N ≤ 100000) (hal : S.al = true) (hkc : 1 + kc' ≤ kc) (hks : N + ks' ≤ ks) (hd : decode C.cc pc = .ok (.anewarray index, 3))
    (h : zOk C kc' ks' (zmk S (.inr (t, N))) (zwup w (S.1 + 1) fun _ => 0) (pc + 3) lv (.ref (S.1 + 1) :: st) em X) : zOk C kc ks S w pc lv (.int n :: st) em X := by
  subst hN
  intro i hi p e R s m args below meth c9 H locs ls cells slots mc ms hX hB hV hL h1 h2 hZ T9 hT9 X9
  have hts := hX.2.2.2.2.1
  have hK9 := hX.2.2.2.2.2.2.2.2.1
  have hK := hK9.1
  have hrc := hX.2.2.2.2.2.2.2.2.2.2.2.2.1
  have hrs := hX.2.2.2.2.2.2.2.2.2.2.2.2.2.1
  have hb : C.1.base ≤ H.size := Nat.le_trans hX.2.2.2.2.2.2.2.2.2.1 hV.1
  have hu := X9.heapSize
  rw [hT9] at hu
  have hsz := zheap hB hb hu (hZ hal)
  have hao : va_AO nm s := by
    rcases ht with ⟨-, rfl⟩ | ⟨-, rfl⟩
    · exact hK9.2.2.2.2.2.2.2.2.2.1
    · exact hK9.2.2.2.2.2.2.2.2.2.2.1
  refine W.anew (p := p) (e := e) (l := C.1.l) (R := R) (s := s) (m := m) (args := args) (below := below) (meth := meth) (c := c9) (H := H) (locs := locs) (cells := cells) (slots := slots) (Q := vx_MQ below (zQc C.1 (em i)) (zXC C.1 (em i)) args s mc ms (zA C.1)) (g := F0 m pc ls ((Value.int n :: st).map (zV C.1))) hX.1 hX.2.1 hX.2.2.1 (hts _ hcl) (va_AO.use hao) rfl hd rfl hn (by omega) (by omega) (by omega) (fun cA kA comp f1 f2 f3 f4 => ?_) T9 hT9 X9
  have hcA : cA = C.1.cA t := by
    rcases ht with ⟨rfl, rfl⟩ | ⟨rfl, rfl⟩
    · obtain ⟨kA9, comp9, -, -, -, g4⟩ := (hK.2 5 _ rfl).2
      exact Option.some.inj (f1.symm.trans g4)
    · obtain ⟨kA9, comp9, -, -, -, g4⟩ := (hK.2 6 _ rfl).2
      exact Option.some.inj (f1.symm.trans g4)
  subst hcA
  generalize hH1 : H.push ({ cls := C.1.cA t, slots := Array.replicate n.toNatClampNeg .null, vm := .none } : Cell) = H1
  have z1 : H1.size = H.size + 1 := by rw [← hH1, Array.size_push]
  have e1 : H1[H.size]? = some (arrV (C.1.cA t) n.toNatClampNeg (fun _ => .null)) := by rw [← hH1, Array.getElem?_push_size, ← arrV_new]
  have o1 : ∀ q : Nat, q < H.size → H1[q]? = H[q]? := fun q hq => by rw [← hH1, Array.getElem?_push, if_neg (Nat.ne_of_lt hq)]
  have hk : ∀ (k : Nat) (x : Nat × va_E), (zL C.1 S w)[k]? = some x → H1[x.1]? = H[x.1]? := fun k x hx => o1 x.1 ((hB k x hx).lt)
  have hP1 : zB C.1 (zmk S (.inr (t, n.toNatClampNeg))) (zwup w (S.1 + 1) fun _ => 0) H1 := by
    unfold zB
    rw [zL_mk]
    refine (va_P.kept hB hk).app (fun k x hx => ?_)
    have hz : k < 1 := (List.getElem?_eq_some_iff.mp hx).1
    rw [show k = 0 by omega] at hx
    cases hx
    have e9 : zCe C.1 (zmk S (.inr (t, n.toNatClampNeg))) (S.1 + 1) (fun _ => 0) = .inl (C.1.cA t, n.toNatClampNeg, .inr (.inr (.inr (.inr fun _ => none)))) := by
      rcases ht with ⟨rfl, -⟩ | ⟨rfl, -⟩ <;> simp only [zCe, zmk_sh, if_pos, zCt, zmk_cr, Option.map_none]
    show va_at _ _ (_, zCe C.1 (zmk S (.inr (t, n.toNatClampNeg))) (S.1 + 1) (fun _ => 0)) _
    rw [e9]
    show H1[C.1.base + S.1]? = some (vp_cell _ _)
    rw [vp_cell_q, ← hsz]
    exact e1
  have h9 := h i hi p e R s m args below meth c9 H1 locs ls (cells + 1) (slots + n.toNatClampNeg) mc ms hX hP1 ⟨Nat.le_trans hV.1 (by omega), fun x g1 g2 => (o1 x (by have := hV.1; omega)).trans (hV.2.1 x g1 g2), hV.2.2⟩ hL (by omega) (by omega) (fun _ => by have q9 : s.heap.size + cells = C.1.base + S.1 := hZ hal; show s.heap.size + (cells + 1) = C.1.base + (S.1 + 1); omega)
  have e8 : zV C.1 (.ref (S.1 + 1)) = .ref H.size := by show Value.ref (C.1.base + S.1) = _; rw [hsz]
  rw [List.map_cons, e8] at h9
  exact h9
/-- a reference into a field, in a constructor -/
def zsR (S : Zs) (id k a : Nat) : Zs := (S.1, S.2.1, zup S.2.2.1 id k (some a), S.2.2.2)
theorem zIsR_fit {ty : FieldType} (h : zIsR ty = true) (a : Nat) : narrow ty (.ref a) = .ref a ∧ fits ty (.ref a) = true := by
  cases ty <;> simp [zIsR] at h <;> exact ⟨rfl, rfl⟩
theorem zsR_cr {S : Zs} {id k a j i : Nat} : (zsR S id k a).cr j i = if j = id ∧ i = k then some a else S.cr j i := rfl
theorem zCe_R {E : ZE} {S : Zs} {id k a j : Nat} {wi : Nat → Int32} (h : j ≠ id) : zCe E (zsR S id k a) j wi = zCe E S j wi := by
  have e2 : (zsR S id k a).cr j = S.cr j := by funext i; rw [zsR_cr, if_neg (fun q => h q.1)]
  have e3 : (zsR S id k a).cl = S.cl := rfl
  have e4 : (zsR S id k a).cd = S.cd := rfl
  have e1 : (zsR S id k a).sh = S.sh := rfl
  simp only [zCe, e1]
  rcases h9 : S.sh j with c | ⟨t, n⟩
  · have e7 : zFv E (zsR S id k a) j c wi = zFv E S j c wi := by funext i; simp only [zFv, e2]
    simp only [e7]
  · have e6 : zCt E (zsR S id k a) j t wi = zCt E S j t wi := by
      unfold zCt
      rw [e2, e3, e4]
    simp only [e6]
theorem z_putR {c index id a : Nat} {nm : String} {T : u_T} {N : Nat} (hc : zCls c nm T N) (k : Nat) (hk : k < N) (hf : zIsR (zFty c k) = true) (hfin : (T k).2.2.2 = true) (hnm : C.nm = "<init>") (hdecl : (T k).1 = C.own) (hg : Cond.fieldLink C.own index (T k).1 (T k).2.1 (T k).2.2.1 ∈ zGW) (ho : zObj S id c) (hd : decode C.cc pc = .ok (.putfield index, 3)) (h : zOk C kc ks (zsR S id k a) w (pc + 3) lv st em X) : zOk C kc ks S w pc lv (.ref a :: .ref id :: st) em X := by
  intro i hi p e R s m args below meth c9 H locs ls cells slots mc ms hX hB hV hL h1 h2 hZ
  obtain ⟨q, hid, hq, hro, hat⟩ := ho.at (E := C.1) (w := w)
  have hfit := zIsR_fit hf (zRo C.1 a)
  refine va_putF (D := C.1.G) (v := .ref (zRo C.1 a)) hX.1 hX.2.1 hX.2.2.2.2.1 hc.2.2.1 (zFty c) hc.2.2.2.1 hc.2.2.2.2 hX.2.2.1 hX.2.2.2.2.2.2.2.2.1.1 hB (zL_D C.1 S w) hV q hat hc.1 k hk (hX.2.2.2.2.1 _ hg) (fun _ h9 => h9) hfin (hX.2.2.2.2.2.2.2.2.2.2.2.2.2.2.trans hnm) hdecl (hc.2.2.2.1 k hk) hfit.1 hfit.2 (by simp; exact hc.2.1 ▸ hk) hd (fun H1 locs1 hP1 hD1 hS1 => ?_)
  have hset : (zL C.1 S w).set q (zRo C.1 id, .inr (c, ((List.range (zNf c)).map (zFv C.1 S id c (w id))).set k (.ref (zRo C.1 a)))) = zL C.1 (zsR S id k a) w := by
    have h9 := zL_set (E := C.1) (S := S) (S' := zsR S id k a) (w := w) (w' := w) hq rfl (fun j hj => zCe_R (by omega))
    rw [← h9, ← hid, hro]
    congr 2
    have e9 : (zsR S id k a).sh id = .inl c := ho.2.2
    simp only [zCe, e9]
    congr 2
    apply List.ext_getElem?
    intro j
    rw [List.getElem?_set]
    by_cases hj : k = j
    · subst hj
      have hl : k < zNf c := hc.2.1 ▸ hk
      simp [List.getElem?_map, hl, zFv, hf, zsR_cr, va_rf]
    · by_cases hl : j < zNf c
      · simp [List.getElem?_map, hl, zFv, zsR_cr, hj, Ne.symm hj]
      · simp [List.getElem?_map, hl, hj]
  rw [hset] at hP1
  exact h i hi p e R s m args below meth c9 H1 locs1 ls cells slots mc ms hX hP1 hS1 hL h1 h2 hZ
theorem z_aast {id t c a : Nat} {x : Int32} {nm : String} {T : u_T} {N : Nat} (ht : (t = 5 ∧ nm = "ParkingRobot$Machine") ∨ (t = 6 ∧ nm = "ParkingRobot$Garage")) (hc : zCls c nm T N) (harr : zArr S id t) (ho : zObj S a c) (hin : zin x (zlen S id) = true) (hd : decode C.cc pc = .ok (.aastore, 1)) (h : zOk C kc ks (zsR S id (zix x) a) w (pc + 1) lv st em X) : zOk C kc ks S w pc lv (.ref a :: .int x :: .ref id :: st) em X := by
  intro i hi p e R s m args below meth c9 H locs ls cells slots mc ms hX hB hV hL h1 h2 hZ
  obtain ⟨q, hid, hq, hro, hat⟩ := harr.at (E := C.1) (w := w)
  obtain ⟨q2, hid2, hq2, hro2, hat2⟩ := ho.at (E := C.1) (w := w)
  have hct : ∀ S9 : Zs, zCt C.1 S9 id t (w id) = .inr (.inr (.inr (.inr fun j => (S9.cr id j).map (zRo C.1)))) := by
    intro S9
    rcases ht with ⟨rfl, -⟩ | ⟨rfl, -⟩ <;> rfl
  have ht9 : (zTys C.1)[t]? = some (C.1.cA t, .object nm) := by rcases ht with ⟨rfl, rfl⟩ | ⟨rfl, rfl⟩ <;> rfl
  rw [hct] at hat
  refine va_astq (D := C.1.G) hX.1 hX.2.1 hX.2.2.2.2.2.2.2.2.1.1 hB (zL_D C.1 S w) hV q t q2 c hat ht9 hat2 hc.1 (zin_vp hin) hd (fun H1 locs1 hP1 hD1 hS1 => ?_)
  obtain ⟨_, _, n9, hn9⟩ := harr
  have hset : (zL C.1 S w).set q (zRo C.1 id, .inl (C.1.cA t, zlen S id, .inr (.inr (.inr (.inr (va_up (fun j => (S.cr id j).map (zRo C.1)) (zix x) (some (zRo C.1 a)))))))) = zL C.1 (zsR S id (zix x) a) w := by
    have h9 := zL_set (E := C.1) (S := S) (S' := zsR S id (zix x) a) (w := w) (w' := w) hq rfl (fun j hj => zCe_R (by omega))
    rw [← h9, ← hid, hro]
    congr 2
    have e9 : (zsR S id (zix x) a).sh id = .inr (t, n9) := hn9
    simp only [zCe, e9, hct]
    have e8 : zlen S id = n9 := by simp [zlen, hn9]
    rw [e8]
    congr 7
    funext j
    by_cases hj : j = zix x
    · subst hj
      simp [va_up, zsR_cr]
    · simp [va_up, zsR_cr, hj]
  rw [hset] at hP1
  exact h i hi p e R s m args below meth c9 H1 locs1 ls cells slots mc ms hX hP1 hS1 hL h1 h2 hZ
end ZM
