/-! FROM THE LAW's ENTRY to the abstract world: zK at the start, and the whole's end out of zJ. -/
section ZS2
theorem zTerm_str {args : Array Value} {s : State} {own : String} {i : Nat} {text : String} {cur : Nat} (hc : s.vm.findClass own = some cur) (h : (Cond.stringRef own i text).before args s = true) : ∃ sa : Nat, vk_R own i text sa s := by
  obtain ⟨k, cf, i9, a, -, -, -, -, -, he⟩ := Cond.stringRef_spec hc h
  exact ⟨a, vk_R.of h he⟩
theorem zRA_prim {args : Array Value} {s : State} {ty : FieldType} (h : (Cond.arrayClass ty).before args s = true) (hp : ∀ C, ty ≠ .object C) : ∃ cA, ArrOfT s cA ty ∧ va_RA s cA ty := by
  obtain ⟨cA, k, comp, h1, h2, h3⟩ := Cond.arrayClass_spec h
  refine ⟨cA, fun n z => ⟨fun q hq => (by cases hq), k, h2, comp, h3⟩, ?_⟩
  cases ty with
  | object C => exact absurd rfl (hp C)
  | _ => exact h1
theorem zRA_obj {args : Array Value} {s : State} {C : String} (h : (Cond.arrayOver (.object C)).before args s = true) : ∃ cA, ArrOfT s cA (.object C) ∧ va_RA s cA (.object C) := by
  obtain ⟨comp, cA, k, h1, -, h3, h4, h5⟩ := Cond.arrayOver_spec h
  exact ⟨cA, fun n z => ⟨fun q hq => (by cases hq), k, h3, comp, h4⟩, k, comp, h3, h4, h1, h5⟩
def zArrT : List FieldType := [.int, .boolean, .char, .long, .double]
theorem zArrT_ok : ∀ ty ∈ zArrT, Cond.arrayClass ty ∈ lw_tbl := by decide +kernel
theorem zAO_ok : Cond.arrayOver (.object "ParkingRobot$Machine") ∈ lw_tbl ∧ Cond.arrayOver (.object "ParkingRobot$Garage") ∈ lw_tbl := by decide +kernel
theorem zStr_ok : ∀ q ∈ zStr, Cond.stringRef q.1 q.2.1 q.2.2 ∈ lw_tbl ∧ Cond.initialized q.1 ∈ lw_tbl := by decide +kernel
theorem zNf1_ok : ∀ q ∈ zNf1, Cond.fieldLinkNest q.1 q.2.1 q.2.2.1 q.2.2.2.1 q.2.2.2.2.1 q.2.2.2.2.2 ∈ lw_tbl := by decide +kernel
theorem zNm1_ok : ∀ q ∈ zNm1, Cond.methodLinkNest q.1 q.2.1 q.2.2.1 q.2.2.2 ∈ lw_tbl := by decide +kernel
theorem zCa_ok : ∀ q ∈ zCa, Cond.castable q q ∈ lw_tbl := by decide +kernel
theorem zDe_ok : ∀ q ∈ zDe, Cond.declares q ∈ lw_tbl := by decide +kernel
theorem zNc_ok : ∀ q ∈ zNc, Cond.not (Cond.castable q.1 q.2) ∈ flatC (Jvm.Cond.and given_1 narrow_1) := by decide +kernel
theorem zZq_ok : Cond.laysStatic Bundle.tN "UNASSIGNED_STACK" Bundle.steD ∈ lw_tbl ∧ Cond.laysStatic Bundle.tN "SUPPRESSED_SENTINEL" Bundle.listD ∈ lw_tbl ∧ Cond.initialized Bundle.tN ∈ lw_tbl ∧ Cond.isRef (.static Bundle.tN "UNASSIGNED_STACK" Bundle.steD) ∈ flatC (Jvm.Cond.and given_1 narrow_1) ∧ Cond.isRef (.static Bundle.tN "SUPPRESSED_SENTINEL" Bundle.listD) ∈ flatC (Jvm.Cond.and given_1 narrow_1) := by decide +kernel
theorem zIns_ok : ∀ q ∈ zCl, Cond.instantiable q.1 q.2.2 ∈ lw_tbl := by decide +kernel
theorem zIni {args : Array Value} {s : State} {cls : String} (h : (Cond.initialized cls).before args s = true) : ∃ c, s.vm.findClass cls = some c := by
  simp only [Cond.before, Cond.holds, Cond.value] at h
  cases hc : s.vm.findClass cls with
  | none => simp [hc] at h
  | some c => exact ⟨c, rfl⟩
theorem zcls_gw {c : Nat} {q : vw_C} (h : zCl[c]? = some q) : ∀ w ∈ u_ws q.1 q.2.1 q.2.2, w ∈ zGW := by
  match c, h with
  | 0, h => cases h; exact gc0
  | 1, h => cases h; exact gc1
  | 2, h => cases h; exact gc2
  | 3, h => cases h; exact gc3
  | 4, h => cases h; exact gc4
  | 5, h => cases h; exact gc5
  | 6, h => cases h; exact gc6
  | 7, h => cases h; exact gc7
  | 8, h => cases h; exact gc8
  | c + 9, h => simp [zCl] at h
theorem zK_start {p : Program} {s : State} {m : MethodId} {meth : Method} {c : Code} (l : Launch) (hflags : l.flags = flags0) {b L : Nat} {xs : Nat → Int32} (hL : L ≤ 2048) (C0 : lw_At p s m meth c b L xs) : ∃ (G : va_G) (cA : Nat → ClassId), zK (l, G, cA, s.heap.size, b, L, xs) s := by
  obtain ⟨hx, hb, hr, hml, hown, hts, hX, hbl, hlocks, hgv⟩ := id C0
  have hfl := flat_of_before _ hgv
  have hCl : ∀ (k : Nat) (q : vw_C), zCl[k]? = some q → ∃ (dC : ClassId) (dI : Nat → Nat), u_Kn s q.1 q.2.1 q.2.2 dC dI := fun k q hq =>
    u_known (n := q.2.2) (ws := zGW) (fun w hw => hts w (zGW_in hw)) (zcls_gw hq) (hts _ (zIns_ok q (List.mem_of_getElem? hq)))
  have hG : ∃ G : va_G, ∀ (k : Nat) (q : vw_C), zCl[k]? = some q → u_Kn s q.1 q.2.1 q.2.2 (G.1 k) (G.2 k) := by
    have h9 : ∀ k : Nat, ∃ g : ClassId × (Nat → Nat), ∀ q : vw_C, zCl[k]? = some q → u_Kn s q.1 q.2.1 q.2.2 g.1 g.2 := by
      intro k
      cases hk : zCl[k]? with
      | none => exact ⟨(0, fun _ => 0), fun q hq => by cases hq⟩
      | some q =>
        obtain ⟨dC, dI, h⟩ := hCl k q hk
        exact ⟨(dC, dI), fun q9 hq => by cases hq; exact h⟩
    exact ⟨(fun k => (h9 k).choose.1, fun k => (h9 k).choose.2), fun k q hq => (h9 k).choose_spec q hq⟩
  obtain ⟨G, hG⟩ := hG
  obtain ⟨a0, k0⟩ := zRA_prim (hts _ (zArrT_ok .int (by decide +kernel))) (fun C q => by cases q)
  obtain ⟨a1, k1⟩ := zRA_prim (hts _ (zArrT_ok .boolean (by decide +kernel))) (fun C q => by cases q)
  obtain ⟨a2, k2⟩ := zRA_prim (hts _ (zArrT_ok .char (by decide +kernel))) (fun C q => by cases q)
  obtain ⟨a3, k3⟩ := zRA_prim (hts _ (zArrT_ok .long (by decide +kernel))) (fun C q => by cases q)
  obtain ⟨a4, k4⟩ := zRA_prim (hts _ (zArrT_ok .double (by decide +kernel))) (fun C q => by cases q)
  obtain ⟨a5, k5⟩ := zRA_obj (hts _ zAO_ok.1)
  obtain ⟨a6, k6⟩ := zRA_obj (hts _ zAO_ok.2)
  refine ⟨G, fun k => if k = 0 then a0 else if k = 1 then a1 else if k = 2 then a2 else if k = 3 then a3 else if k = 4 then a4 else if k = 5 then a5 else a6, ⟨hG, fun k q hq => ?_⟩, vx_Zqof (hts _ zZq_ok.1) (hts _ zZq_ok.2.2.1) (hfl _ zZq_ok.2.2.2.1) (fun a h => Nat.not_le.mpr h), vx_Zqof (hts _ zZq_ok.2.1) (hts _ zZq_ok.2.2.1) (hfl _ zZq_ok.2.2.2.2) (fun a h => Nat.not_le.mpr h), fun q hq => ?_, fun q hq => va_Nw.of rfl (hts _ (zNf1_ok q hq)), fun q hq => va_Nw.of rfl (hts _ (zNm1_ok q hq)), fun q hq => va_Nc.of (hfl _ (zNc_ok q hq)), fun q hq => va_Nw.of rfl (hts _ (zCa_ok q hq)), fun q hq => va_Nw.of rfl (hts _ (zDe_ok q hq)), va_AO.of (hts _ zAO_ok.1), va_AO.of (hts _ zAO_ok.2), hX, hbl, hbl, hL, ?_⟩
  · match k, hq with
    | 0, hq => cases hq; exact k0
    | 1, hq => cases hq; exact k1
    | 2, hq => cases hq; exact k2
    | 3, hq => cases hq; exact k3
    | 4, hq => cases hq; exact k4
    | 5, hq => cases hq; exact k5
    | 6, hq => cases hq; exact k6
    | k + 7, hq => simp [zTys] at hq
  · obtain ⟨h1, h2⟩ := zStr_ok q hq
    obtain ⟨cur, hc⟩ := zIni (hts _ h2)
    exact zTerm_str hc (hts _ h1)
  · show (!l.flags.contains noTraceFlag) = false
    rw [hflags]
    decide +kernel
end ZS2
