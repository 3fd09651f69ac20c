/-! THE ABSTRACT WORLD. Cells have small numbers (ids): 0 the script, 1 .. n the cells that the law's run has made, in their order: id k+1 lies at base + k. What is whole numbers lies in ONE function w : id → place → Int32 (fields, int/boolean/char arrays);
 references, long and double arrays, kinds and lengths lie in the static part S. zJ: from an abstract frame the method ends with just this answer, static part and world. zOk: so for every answer that a computed option has. -/
abbrev ZE : Type := Launch × va_G × (Nat → ClassId) × Nat × Nat × Nat × (Nat → Int32)
abbrev ZE.l (E : ZE) : Launch := E.1
abbrev ZE.G (E : ZE) : va_G := E.2.1
abbrev ZE.cA (E : ZE) : Nat → ClassId := E.2.2.1
abbrev ZE.base (E : ZE) : Nat := E.2.2.2.1
abbrev ZE.b (E : ZE) : Nat := E.2.2.2.2.1
abbrev ZE.L (E : ZE) : Nat := E.2.2.2.2.2.1
abbrev ZE.xs (E : ZE) : Nat → Int32 := E.2.2.2.2.2.2
/-- kinds of arrays -/
def zAty : Nat → FieldType
  | 0 => .int | 1 => .boolean | 2 => .char | 3 => .long | 4 => .double | 5 => .object "ParkingRobot$Machine" | _ => .object "ParkingRobot$Garage"
abbrev zTys (E : ZE) : List (ClassId × FieldType) := [(E.cA 0, zAty 0), (E.cA 1, zAty 1), (E.cA 2, zAty 2), (E.cA 3, zAty 3), (E.cA 4, zAty 4), (E.cA 5, zAty 5), (E.cA 6, zAty 6)]
abbrev zCl : List vw_C := [(RX0, TX0, 7), (RX1, TX1, 11), (RX2, TX2, 3), (RX3, TX3, 4), (RX4, TX4, 4), (RX5, TX5, 8), (RX6, TX6, 4), (RX7, TX7, 8), (RX8, TX8, 27)]
def zNf : Nat → Nat
  | 0 => 7 | 1 => 11 | 2 => 3 | 3 => 4 | 4 => 4 | 5 => 8 | 6 => 4 | 7 => 8 | 8 => 27 | _ => 0
def zFty : Nat → Nat → FieldType
  | 0 => tyX0 | 1 => tyX1 | 2 => tyX2 | 3 => tyX3 | 4 => tyX4 | 5 => tyX5 | 6 => tyX6 | 7 => tyX7 | _ => tyX8
def zIsR : FieldType → Bool
  | .object _ => true | .array _ => true | _ => false
abbrev Zs : Type := Nat × (Nat → Nat ⊕ (Nat × Nat)) × (Nat → Nat → Option Nat) × (Nat → Nat → Int64) × (Nat → Nat → UInt64) × Bool
abbrev Zs.n (S : Zs) : Nat := S.1
abbrev Zs.sh (S : Zs) : Nat → Nat ⊕ (Nat × Nat) := S.2.1
abbrev Zs.cr (S : Zs) : Nat → Nat → Option Nat := S.2.2.1
abbrev Zs.cl (S : Zs) : Nat → Nat → Int64 := S.2.2.2.1
abbrev Zs.cd (S : Zs) : Nat → Nat → UInt64 := S.2.2.2.2.1
abbrev Zs.al (S : Zs) : Bool := S.2.2.2.2.2
abbrev Zw : Type := Nat → Nat → Int32
def zput (w : Zw) (a i : Nat) (x : Int32) : Zw := fun a' i' => if a' = a ∧ i' = i then x else w a' i'
def zup {α : Type} (w : Nat → Nat → α) (a i : Nat) (x : α) : Nat → Nat → α := fun a' i' => if a' = a ∧ i' = i then x else w a' i'
/-- an id's address -/
def zRo (E : ZE) : Nat → Nat
  | 0 => E.b
  | k + 1 => E.base + k
def zV (E : ZE) : Value → Value
  | .ref a => .ref (zRo E a)
  | v => v
theorem zV_cat (E : ZE) (v : Value) : (zV E v).category = v.category := by cases v <;> rfl
def zFv (E : ZE) (S : Zs) (id c : Nat) (wi : Nat → Int32) (k : Nat) : Value := if zIsR (zFty c k) = true then va_rf ((S.cr id k).map (zRo E)) else .int (wi k)
def zCt (E : ZE) (S : Zs) (id t : Nat) (wi : Nat → Int32) : (Nat → Int32) ⊕ (Nat → Int64) ⊕ (Nat → UInt32) ⊕ (Nat → UInt64) ⊕ (Nat → Option Nat) :=
  match t with
  | 0 => .inl wi
  | 1 => .inl wi
  | 2 => .inl wi
  | 3 => .inr (.inl (S.cl id))
  | 4 => .inr (.inr (.inr (.inl (S.cd id))))
  | _ => .inr (.inr (.inr (.inr fun j => (S.cr id j).map (zRo E))))
def zCe (E : ZE) (S : Zs) (id : Nat) (wi : Nat → Int32) : va_E := match S.sh id with
  | .inl c => .inr (c, (List.range (zNf c)).map (zFv E S id c wi))
  | .inr (t, n) => .inl (E.cA t, n, zCt E S id t wi)
def zL (E : ZE) (S : Zs) (w : Zw) : va_W := (List.range S.n).map fun k => (E.base + k, zCe E S (k + 1) (w (k + 1)))
abbrev zA (E : ZE) : Nat → Prop := fun q => E.base ≤ q
/-- the heap holds the world -/
def zB (E : ZE) (S : Zs) (w : Zw) (H : Heap) : Prop := va_P E.G zCl (zL E S w) H
theorem zL_get {E : ZE} {S : Zs} {w : Zw} {k : Nat} (h : k < S.n) : (zL E S w)[k]? = some (E.base + k, zCe E S (k + 1) (w (k + 1))) := by
  simp [zL, List.getElem?_map, h]
theorem zL_some {E : ZE} {S : Zs} {w : Zw} {k : Nat} {q : Nat × va_E} (h : (zL E S w)[k]? = some q) : k < S.n ∧ q = (E.base + k, zCe E S (k + 1) (w (k + 1))) := by
  by_cases hk : k < S.n
  · rw [zL_get hk] at h
    exact ⟨hk, (Option.some.inj h).symm⟩
  · simp [zL, List.getElem?_map, hk] at h
theorem zL_D (E : ZE) (S : Zs) (w : Zw) : va_D (zA E) (zL E S w) := by
  refine ⟨fun i j p q hi hj e => ?_, fun k q hk => ?_⟩
  · obtain ⟨-, rfl⟩ := zL_some hi
    obtain ⟨-, rfl⟩ := zL_some hj
    exact Nat.add_left_cancel e
  · obtain ⟨-, rfl⟩ := zL_some hk
    exact Nat.le_add_right _ _
/-- the list with one cell changed -/
theorem zL_set {E : ZE} {S S' : Zs} {w w' : Zw} {k : Nat} (hk : k < S.n) (hn : S'.n = S.n) (ho : ∀ j, j ≠ k + 1 → zCe E S' j (w' j) = zCe E S j (w j)) : (zL E S w).set k (E.base + k, zCe E S' (k + 1) (w' (k + 1))) = zL E S' w' := by
  apply List.ext_getElem?
  intro j
  rw [List.getElem?_set]
  by_cases hj : k = j
  · subst hj
    rw [if_pos rfl, zL_get (by rw [hn]; exact hk)]
    have hl : (zL E S w).length = S.n := by simp [zL]
    rw [hl, if_pos hk]
  · rw [if_neg hj]
    by_cases hjn : j < S.n
    · rw [zL_get hjn, zL_get (by rw [hn]; exact hjn), ho (j + 1) (by omega)]
    · simp [zL, List.getElem?_map, hjn, hn]
def zObj (S : Zs) (id c : Nat) : Prop := 0 < id ∧ id ≤ S.n ∧ S.sh id = .inl c
def zArr (S : Zs) (id t : Nat) : Prop := 0 < id ∧ id ≤ S.n ∧ ∃ n, S.sh id = .inr (t, n)
def zlen (S : Zs) (id : Nat) : Nat := match S.sh id with
  | .inr (_, n) => n
  | .inl _ => 0
def zr (S : Zs) (id k : Nat) : Nat := (S.cr id k).getD 0
theorem zObj.at {E : ZE} {S : Zs} {w : Zw} {id c : Nat} (h : zObj S id c) : ∃ k, id = k + 1 ∧ k < S.n ∧ zRo E id = E.base + k ∧ (zL E S w)[k]? = some (zRo E id, .inr (c, (List.range (zNf c)).map (zFv E S id c (w id)))) := by
  obtain ⟨h0, h1, h2⟩ := h
  obtain ⟨k, rfl⟩ : ∃ k, id = k + 1 := ⟨id - 1, by omega⟩
  refine ⟨k, rfl, by omega, rfl, ?_⟩
  rw [zL_get (by omega)]
  simp [zCe, h2, zRo]
theorem zArr.at {E : ZE} {S : Zs} {w : Zw} {id t : Nat} (h : zArr S id t) : ∃ k, id = k + 1 ∧ k < S.n ∧ zRo E id = E.base + k ∧ (zL E S w)[k]? = some (zRo E id, .inl (E.cA t, zlen S id, zCt E S id t (w id))) := by
  obtain ⟨h0, h1, n, h2⟩ := h
  obtain ⟨k, rfl⟩ : ∃ k, id = k + 1 := ⟨id - 1, by omega⟩
  refine ⟨k, rfl, by omega, rfl, ?_⟩
  rw [zL_get (by omega)]
  simp [zCe, h2, zRo, zlen]
/-- the method: own class, code, locals, answer's type, handlers, name -/
abbrev Zm : Type := String × ByteArray × Nat × Option FieldType × List (Nat × Nat × Nat × Nat) × String
abbrev Zc : Type := ZE × Zm × Nat
abbrev Zc.own (C : Zc) : String := C.2.1.1
abbrev Zc.cc (C : Zc) : ByteArray := C.2.1.2.1
abbrev Zc.nL (C : Zc) : Nat := C.2.1.2.2.1
abbrev Zc.ret (C : Zc) : Option FieldType := C.2.1.2.2.2.1
abbrev Zc.hh (C : Zc) : List (Nat × Nat × Nat × Nat) := C.2.1.2.2.2.2.1
abbrev Zc.nm (C : Zc) : String := C.2.1.2.2.2.2.2
abbrev Zc.d (C : Zc) : Nat := C.2.2
abbrev Zo : Type := Option Value ⊕ String
abbrev Zr : Type := Zo × Zs × Zw
/-- what the tables and the statics say all along -/
def zK (E : ZE) (U : State) : Prop := va_K E.G zCl (zTys E) U ∧ vx_Zq Bundle.tN "UNASSIGNED_STACK" Bundle.steD (zA E) U U.heap ∧ vx_Zq Bundle.tN "SUPPRESSED_SENTINEL" Bundle.listD (zA E) U U.heap ∧ (∀ q ∈ zStr, ∃ sa : Nat, vk_R q.1 q.2.1 q.2.2 sa U) ∧ (∀ q ∈ zNf1, va_Nw (.fieldLinkNest q.1 q.2.1 q.2.2.1 q.2.2.2.1 q.2.2.2.2.1 q.2.2.2.2.2) U) ∧ (∀ q ∈ zNm1, va_Nw (.methodLinkNest q.1 q.2.1 q.2.2.1 q.2.2.2) U) ∧ (∀ q ∈ zNc, va_Nc q.1 q.2 U) ∧ (∀ q ∈ zCa, va_Nw (.castable q q) U) ∧ (∀ q ∈ zDe, va_Nw (.declares q) U) ∧ va_AO "ParkingRobot$Machine" U ∧ va_AO "ParkingRobot$Garage" U ∧ va_X E.b E.L E.xs U U.heap ∧ E.b < E.base ∧ E.b < U.heap.size ∧ E.L ≤ 2048 ∧ E.l.stackTraces = false
def zX (C : Zc) (p : Program) (R : Room) (s : State) (m : MethodId) (args : Array Value) (meth : Method) (c : Code) (mc ms : Nat) : Prop :=
  p.tables.exec = Jvm.exec ∧ c.code = C.cc ∧ s.vm.findClass C.own = some m.cls ∧ c.maxLocals = C.nL ∧ (∀ w ∈ zGW, w.before args s = true) ∧ meth.sig.returnType = C.ret ∧ meth.locks = false ∧ c.exceptionTable.toList = tableOf C.hh ∧ zK C.1 s ∧ C.1.base ≤ s.heap.size ∧ C.d ≤ R.frames ∧ 64 * C.d ≤ R.locals ∧ R.cells = mc ∧ R.slots = ms ∧ meth.name = C.nm
def zQc (E : ZE) (r : Zr) : Array Value → State → Outcome → State → Prop := fun _ st o t => (∃ v : Option Value, r.1 = .inl v ∧ o = .returned (v.map (zV E)) ∧ zB E r.2.1 r.2.2 t.heap) ∧ va_F (zA E) st t
def zXC (E : ZE) (r : Zr) : String → State → State → Prop := fun X st t => (r.1 = .inr X ∧ zB E r.2.1 r.2.2 t.heap) ∧ va_F (zA E) st t
abbrev zLv (E : ZE) (lv : List (Nat × Value)) : List (Nat × Value) := lv.map fun q => (q.1, zV E q.2)
def zJ (C : Zc) (kc ks : Nat) (S : Zs) (w : Zw) (pc : Nat) (lv : List (Nat × Value)) (st : List Value) (r : Zr) : Prop :=
  ∀ (p : Program) (e : Env) (R : Room) (s : State) (m : MethodId) (args : Array Value) (below : List Frame) (meth : Method) (c : Code) (H : Heap) (locs : List Loc) (ls : Array Slot) (cells slots mc ms : Nat),
    zX C p R s m args meth c mc ms → zB C.1 S w H → va_S (zA C.1) s.heap H locs → lv_has ls C.nL (zLv C.1 lv) → cells + kc ≤ mc → slots + ks ≤ ms → (S.al = true → s.heap.size + cells = C.1.base + S.n) →
    W p C.1.l e R s m args below meth c H locs cells slots (vx_MQ below (zQc C.1 r) (zXC C.1 r) args s mc ms (zA C.1)) (F0 m pc ls (st.map (zV C.1)))
/-- for every answer that the option has -/
def zOk {I : Type} (C : Zc) (kc ks : Nat) (S : Zs) (w : Zw) (pc : Nat) (lv : List (Nat × Value)) (st : List Value) (em : I → Zr) (X : Option I) : Prop := ∀ i, X = some i → zJ C kc ks S w pc lv st (em i)
