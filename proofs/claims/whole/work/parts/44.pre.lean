section ZPR
def f_pre {I : Type} (S : Zs) (w : Zw) (k : Zs → Zw → Nat → Nat → Nat → Nat → Option I) : Option I :=
  if S.al = true then zlet (zmk S (.inl 7)) fun s2 => zlet (zwup w (S.1 + 1) fun _ => 0) fun w3 => (f_X7_init s2 w3 (S.1 + 1)).bind fun r4 => if zckN s2 r4.2.1 253 = true then zlet r4.2.1 fun s7 => zlet r4.2.2 fun w8 => if s7.al = true then zlet (zmk s7 (.inl 8)) fun s10 => zlet (zwup w8 (s7.1 + 1) fun _ => 0) fun w11 => (f_X8_init s10 w11 (s7.1 + 1)).bind fun r12 => if zckN s10 r12.2.1 11 = true then zlet r12.2.1 fun s15 => zlet r12.2.2 fun w16 => if s15.al = true then zlet (zmk s15 (.inr (3, 1))) fun s18 => zlet (zwup w16 (s15.1 + 1) fun _ => 0) fun w19 => if s18.al = true then zlet (zmk s18 (.inr (4, 1))) fun s21 => zlet (zwup w19 (s18.1 + 1) fun _ => 0) fun w22 => k s21 w22 (S.1 + 1) (s7.1 + 1) (s15.1 + 1) (s18.1 + 1) else none else none else none else none else none else none
theorem m_pre {I : Type} {E : ZE} (em : I → Zr) (S : Zs) (w : Zw) (k : Zs → Zw → Nat → Nat → Nat → Nat → Option I) (hk : ∀ S w x1 x2 x3 x4, zOk (E, i_L_law, 100) 1026 6156 S w 28 [(0, .ref 0), (1, .ref x1), (2, .ref x2), (3, .ref x3), (4, .ref x4), (5, .int 0)] [] em (k S w x1 x2 x3 x4)) : zOk (E, i_L_law, 100) 1294 17374 S w 0 [(0, .ref 0)] [] em (f_pre S w k) := by
  unfold f_pre
  refine z_chk (fun c1 => ?_)
  refine z_new (kc' := 1293) (ks' := 17366) zc7 zcd7 gw24 gw25 gw1 c1 (Nat.le_of_ble_eq_true rfl) (Nat.le_of_ble_eq_true rfl) dL_law_0 (z_letS (fun s2 => z_letw (fun w3 => ?_)))
  refine z_dup dL_law_3 rfl ?_
  refine z_bind (fun r4 h5 => ?_)
  refine z_chk (fun c6 => ?_)
  refine z_callI (kc' := 1040) (ks' := 10312) (v := none) (S1 := r4.2.1) (w1 := r4.2.2) (st := [.ref (S.1 + 1)]) [] (m_X7_init s2 w3 (S.1 + 1) r4 h5) zy_X7_init gw27 rfl gw26 (Nat.le_of_ble_eq_true rfl) (Nat.le_of_ble_eq_true rfl) (Nat.le_of_ble_eq_true rfl) (Nat.le_of_ble_eq_true rfl) (zckN_ok c6) rfl dL_law_4 (z_at 7 _ [.ref (S.1 + 1)] rfl rfl rfl ?_)
  refine z_letS (fun s7 => z_letw (fun w8 => ?_))
  refine z_astore_n (lv' := [(1, .ref (S.1 + 1)), (0, .ref 0)]) dL_law_7 (Nat.le_of_ble_eq_true rfl) rfl ?_
  refine z_chk (fun c9 => ?_)
  refine z_new (kc' := 1039) (ks' := 10285) zc8 zcd8 gw1101 gw1102 gw9 c9 (Nat.le_of_ble_eq_true rfl) (Nat.le_of_ble_eq_true rfl) dL_law_8 (z_letS (fun s10 => z_letw (fun w11 => ?_)))
  refine z_dup dL_law_11 rfl ?_
  refine z_bind (fun r12 h13 => ?_)
  refine z_chk (fun c14 => ?_)
  refine z_callI (kc' := 1028) (ks' := 6158) (v := none) (S1 := r12.2.1) (w1 := r12.2.2) (st := [.ref (s7.1 + 1)]) [] (m_X8_init s10 w11 (s7.1 + 1) r12 h13) zy_X8_init gw1104 rfl gw1103 (Nat.le_of_ble_eq_true rfl) (Nat.le_of_ble_eq_true rfl) (Nat.le_of_ble_eq_true rfl) (Nat.le_of_ble_eq_true rfl) (zckN_ok c14) rfl dL_law_12 (z_at 15 _ [.ref (s7.1 + 1)] rfl rfl rfl ?_)
  refine z_letS (fun s15 => z_letw (fun w16 => ?_))
  refine z_astore_n (lv' := [(2, .ref (s7.1 + 1)), (1, .ref (S.1 + 1)), (0, .ref 0)]) dL_law_15 (Nat.le_of_ble_eq_true rfl) rfl (z_iconst dL_law_16 zi_1 ?_)
  refine z_chk (fun c17 => ?_)
  refine z_newa (N := 1) (kc' := 1027) (ks' := 6157) 3 (by decide) rfl gw1511 (by decide) rfl (Nat.le_of_ble_eq_true rfl) c17 (Nat.le_of_ble_eq_true rfl) (Nat.le_of_ble_eq_true rfl) dL_law_17 (z_letS (fun s18 => z_letw (fun w19 => ?_)))
  refine z_astore_n (lv' := [(3, .ref (s15.1 + 1)), (2, .ref (s7.1 + 1)), (1, .ref (S.1 + 1)), (0, .ref 0)]) dL_law_19 (Nat.le_of_ble_eq_true rfl) rfl (z_iconst dL_law_20 zi_1 ?_)
  refine z_chk (fun c20 => ?_)
  refine z_newa (N := 1) (kc' := 1026) (ks' := 6156) 4 (by decide) rfl gw1512 (by decide) rfl (Nat.le_of_ble_eq_true rfl) c20 (Nat.le_of_ble_eq_true rfl) (Nat.le_of_ble_eq_true rfl) dL_law_21 (z_letS (fun s21 => z_letw (fun w22 => ?_)))
  refine z_astore (lv' := [(4, .ref (s18.1 + 1)), (3, .ref (s15.1 + 1)), (2, .ref (s7.1 + 1)), (1, .ref (S.1 + 1)), (0, .ref 0)]) dL_law_23 (Nat.le_of_ble_eq_true rfl) rfl (z_iconst dL_law_25 zi_0 (z_istore (lv' := [(5, .int (0 : Int32)), (4, .ref (s18.1 + 1)), (3, .ref (s15.1 + 1)), (2, .ref (s7.1 + 1)), (1, .ref (S.1 + 1)), (0, .ref 0)]) dL_law_26 (Nat.le_of_ble_eq_true rfl) rfl ?_))
  refine z_sub (lv' := [(0, .ref 0), (1, .ref (S.1 + 1)), (2, .ref (s7.1 + 1)), (3, .ref (s15.1 + 1)), (4, .ref (s18.1 + 1)), (5, .int 0)]) [5, 4, 3, 2, 1, 0] rfl ?_
  exact hk _ _ _ _ _ _
end ZPR
