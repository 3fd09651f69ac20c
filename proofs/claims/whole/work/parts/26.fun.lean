section ZFN
/-! ParkingRobotModel.open ()I : P, depth 1 -/
abbrev i_X8_open : Zm := (yX8_open.cls, cX8_open, 3, (some .int), [], yX8_open.name)
def f_X8_open_b4 (S : Zs) (w : Zw) (x0 : Nat) (k : (Int32 × Int32) → Option (Int32)) (x1 : Int32) (x2 : Int32) : Option (Int32) :=
  if (60 : Int32) ≤ x2 then some x1 else if zin ((19 : Int32) + x2) (zlen S (zr S x0 1)) = true then if (w (zr S x0 1) (zix ((19 : Int32) + x2))) = 0 then (f_X8_isEmpty S w x0 x2).bind fun v5 => if v5 = 0 then (zlet (x1 + (0 : Int32)) fun z8 => k (z8, (x2 + (1 : Int32)))) else (zlet (x1 + (1 : Int32)) fun z9 => k (z9, (x2 + (1 : Int32)))) else (zlet (x1 + (0 : Int32)) fun z4 => k (z4, (x2 + (1 : Int32)))) else none
def f_X8_open_l4 (S : Zs) (w : Zw) (x0 : Nat) (a : Int32 × Int32) : Option (Int32) :=
  zlp (fun k a => f_X8_open_b4 S w x0 k a.1 a.2) zFU a
theorem m_X8_open_l4 {E : ZE} {S : Zs} (hW : zWF S) (w : Zw) (x0 : Nat) (hx0 : zObj S x0 8) : ∀ a : Int32 × Int32, zOk (E, i_X8_open, 1) 0 0 S w 4 [(0, .ref x0), (1, .int a.1), (2, .int a.2)] [] (emP eI S w) (f_X8_open_l4 S w x0 a) := by
  intro a
  refine z_lp (P := fun _ => True) (W9 := fun a : Int32 × Int32 => w) (L9 := fun a : Int32 × Int32 => [(0, .ref x0), (1, .int a.1), (2, .int a.2)]) (T9 := fun _ => []) (fun k hk9 a _ => ?_) zFU a trivial
  have hk : ∀ a : Int32 × Int32, zOk (E, i_X8_open, 1) 0 0 S w 4 [(0, .ref x0), (1, .int a.1), (2, .int a.2)] [] (emP eI S w) (k a) := fun a => hk9 a trivial
  clear hk9
  obtain ⟨x1, x2⟩ := a
  show zOk (E, i_X8_open, 1) 0 0 S w 4 [(0, .ref x0), (1, .int x1), (2, .int x2)] [] (emP eI S w) (f_X8_open_b4 S w x0 k x1 x2)
  unfold f_X8_open_b4
  refine z_iload_n 2 dX8_open_4 rfl (z_bipush dX8_open_5 zb_60 ?_)
  refine z_icmp_ge 44 dX8_open_7 rfl (fun q1 => ?_) (fun q1 => ?_)
  · refine z_iload_n 1 dX8_open_44 rfl ?_
    exact z_iret zemP rfl dX8_open_45
  · refine z_iload_n 1 dX8_open_10 rfl (z_aload_n 0 dX8_open_11 rfl (z_getR zc8 1 (by decide) rfl gw1108 hx0 (zW_some hW hx0 1 rfl) dX8_open_12 (z_bipush dX8_open_15 zb_19 (z_iload_n 2 dX8_open_17 rfl (z_iadd dX8_open_18 ?_)))))
    refine z_chk (fun c2 => ?_)
    refine z_iald (zW_arr hW hx0 1 0 rfl) c2 dX8_open_19 ?_
    refine z_if_ne 35 dX8_open_20 rfl (fun q3 => ?_) (fun q3 => ?_)
    · refine z_iconst dX8_open_35 zi_0 (z_iadd dX8_open_36 ?_)
      refine z_let (a := (x1 + (0 : Int32))) (fun z4 => [(0, .ref x0), (1, .int x1), (2, .int x2)]) (fun z4 => .int z4 :: []) (fun z4 => ?_)
      refine z_istore_n (lv' := [(1, .int z4), (0, .ref x0), (2, .int x2)]) dX8_open_37 (Nat.le_of_ble_eq_true rfl) rfl (z_iinc (v := (x2 + (1 : Int32))) (lv' := [(2, .int (x2 + (1 : Int32))), (1, .int z4), (0, .ref x0)]) 2 dX8_open_38 rfl (zi_inc _ zi_1) (Nat.le_of_ble_eq_true rfl) rfl (z_goto 4 dX8_open_41 rfl ?_))
      refine z_sub (lv' := [(0, .ref x0), (1, .int z4), (2, .int (x2 + (1 : Int32)))]) [2, 1, 0] rfl ?_
      refine z_pc (pc' := 4) rfl ?_
      exact hk (z4, (x2 + (1 : Int32)))
    · refine z_aload_n 0 dX8_open_23 rfl (z_iload_n 2 dX8_open_24 rfl ?_)
      refine z_bind (fun v5 hb6 => ?_)
      refine z_callV (kc' := 0) (ks' := 0) (v := (some (.int v5))) (S1 := S) (w1 := w) (st := [.int x1]) [.int x2] (m_X8_isEmpty hW w x0 hx0 x2 v5 hb6) zc8 hx0 zy_X8_isEmpty gw1223 gp29 gw1221 (Nat.le_of_ble_eq_true rfl) (Nat.le_of_ble_eq_true rfl) (Nat.le_of_ble_eq_true rfl) (Nat.le_of_ble_eq_true rfl) (zal hW) rfl dX8_open_25 (z_at 28 _ [.int v5, .int x1] rfl rfl rfl ?_)
      refine z_if_eq 35 dX8_open_28 rfl (fun q7 => ?_) (fun q7 => ?_)
      · refine z_iconst dX8_open_35 zi_0 (z_iadd dX8_open_36 ?_)
        refine z_let (a := (x1 + (0 : Int32))) (fun z8 => [(0, .ref x0), (1, .int x1), (2, .int x2)]) (fun z8 => .int z8 :: []) (fun z8 => ?_)
        refine z_istore_n (lv' := [(1, .int z8), (0, .ref x0), (2, .int x2)]) dX8_open_37 (Nat.le_of_ble_eq_true rfl) rfl (z_iinc (v := (x2 + (1 : Int32))) (lv' := [(2, .int (x2 + (1 : Int32))), (1, .int z8), (0, .ref x0)]) 2 dX8_open_38 rfl (zi_inc _ zi_1) (Nat.le_of_ble_eq_true rfl) rfl (z_goto 4 dX8_open_41 rfl ?_))
        refine z_sub (lv' := [(0, .ref x0), (1, .int z8), (2, .int (x2 + (1 : Int32)))]) [2, 1, 0] rfl ?_
        refine z_pc (pc' := 4) rfl ?_
        exact hk (z8, (x2 + (1 : Int32)))
      · refine z_iconst dX8_open_31 zi_1 (z_goto 36 dX8_open_32 rfl (z_iadd dX8_open_36 ?_))
        refine z_let (a := (x1 + (1 : Int32))) (fun z9 => [(0, .ref x0), (1, .int x1), (2, .int x2)]) (fun z9 => .int z9 :: []) (fun z9 => ?_)
        refine z_istore_n (lv' := [(1, .int z9), (0, .ref x0), (2, .int x2)]) dX8_open_37 (Nat.le_of_ble_eq_true rfl) rfl (z_iinc (v := (x2 + (1 : Int32))) (lv' := [(2, .int (x2 + (1 : Int32))), (1, .int z9), (0, .ref x0)]) 2 dX8_open_38 rfl (zi_inc _ zi_1) (Nat.le_of_ble_eq_true rfl) rfl (z_goto 4 dX8_open_41 rfl ?_))
        refine z_sub (lv' := [(0, .ref x0), (1, .int z9), (2, .int (x2 + (1 : Int32)))]) [2, 1, 0] rfl ?_
        refine z_pc (pc' := 4) rfl ?_
        exact hk (z9, (x2 + (1 : Int32)))

def f_X8_open (S : Zs) (w : Zw) (a0 : Nat) : Option (Int32) :=
  f_X8_open_l4 S w a0 ((0 : Int32), (0 : Int32))
theorem mw_X8_open {E : ZE} {S : Zs} (hW : zWF S) (w : Zw) (a0 : Nat) (h0 : zObj S a0 8) : zOk (E, i_X8_open, 1) 0 0 S w 0 [(0, .ref a0)] [] (emP eI S w) (f_X8_open S w a0) := by
  unfold f_X8_open
  refine z_iconst dX8_open_0 zi_0 (z_istore_n (lv' := [(1, .int (0 : Int32)), (0, .ref a0)]) dX8_open_1 (Nat.le_of_ble_eq_true rfl) rfl (z_iconst dX8_open_2 zi_0 (z_istore_n (lv' := [(2, .int (0 : Int32)), (1, .int (0 : Int32)), (0, .ref a0)]) dX8_open_3 (Nat.le_of_ble_eq_true rfl) rfl ?_)))
  refine z_sub (lv' := [(0, .ref a0), (1, .int (0 : Int32)), (2, .int (0 : Int32))]) [2, 1, 0] rfl ?_
  refine z_pc (pc' := 4) rfl ?_
  exact m_X8_open_l4 hW w a0 h0 ((0 : Int32), (0 : Int32))

theorem m_X8_open {E : ZE} {S : Zs} (hW : zWF S) (w : Zw) (a0 : Nat) (h0 : zObj S a0 8) : ∀ i, f_X8_open S w a0 = some i → zMr E yX8_open cX8_open 3 ((some .int)) 1 0 0 [.ref a0] S w ((emP eI S w) i) :=
  fun i hi => z_enter (by decide +kernel) (Nat.le_of_ble_eq_true rfl) (mw_X8_open hW w a0 h0 i hi)
/-! ParkingRobotModel.retrieves (I)I : W, depth 10 -/
abbrev i_X8_retrieves : Zm := (yX8_retrieves.cls, cX8_retrieves, 4, (some .int), [], yX8_retrieves.name)
def f_X8_retrieves (S : Zs) (w : Zw) (a0 : Nat) (a1 : Int32) : Option (Int32 × Zw) :=
  (f_X8_isCar S w a0 a1).bind fun v1 => if v1 = 0 then (f_X8_fails S w a0 (1 : Int32)).bind fun r16 => some (r16.1, r16.2) else (f_X8_blocking S w a0 a1).bind fun v4 => (f_X8_takesOut S w a0 a1).bind fun r6 => if r6.1 ≤ 0 then (zlet (zput r6.2 a0 10 a1) fun w9 => zlet (zput w9 a0 11 v4) fun w10 => (f_X8_open S w10 a0).bind fun v11 => zlet (zput w10 a0 12 v11) fun w13 => (f_X8_fails S w13 a0 (2 : Int32)).bind fun r14 => some (r14.1, r14.2)) else some (r6.1, r6.2)
theorem mw_X8_retrieves {E : ZE} {S : Zs} (hW : zWF S) (w : Zw) (a0 : Nat) (h0 : zObj S a0 8) (a1 : Int32) : zOk (E, i_X8_retrieves, 10) 0 0 S w 0 [(0, .ref a0), (1, .int a1)] [] (emW eI S) (f_X8_retrieves S w a0 a1) := by
  unfold f_X8_retrieves
  refine z_aload_n 0 dX8_retrieves_0 rfl (z_iload_n 1 dX8_retrieves_1 rfl ?_)
  refine z_bind (fun v1 hb2 => ?_)
  refine z_callV (kc' := 0) (ks' := 0) (v := (some (.int v1))) (S1 := S) (w1 := w) (st := []) [.int a1] (m_X8_isCar hW w a0 h0 a1 v1 hb2) zc8 h0 zy_X8_isCar gw1301 gp42 gw1299 (Nat.le_of_ble_eq_true rfl) (Nat.le_of_ble_eq_true rfl) (Nat.le_of_ble_eq_true rfl) (Nat.le_of_ble_eq_true rfl) (zal hW) rfl dX8_retrieves_2 (z_at 5 _ [.int v1] rfl rfl rfl ?_)
  refine z_if_ne 14 dX8_retrieves_5 rfl (fun q3 => ?_) (fun q3 => ?_)
  · refine z_aload_n 0 dX8_retrieves_14 rfl (z_iload_n 1 dX8_retrieves_15 rfl ?_)
    refine z_bind (fun v4 hb5 => ?_)
    refine z_callV (kc' := 0) (ks' := 0) (v := (some (.int v4))) (S1 := S) (w1 := w) (st := []) [.int a1] (m_X8_blocking hW w a0 h0 a1 v4 hb5) zc8 h0 zy_X8_blocking gw1309 gp44 gw1307 (Nat.le_of_ble_eq_true rfl) (Nat.le_of_ble_eq_true rfl) (Nat.le_of_ble_eq_true rfl) (Nat.le_of_ble_eq_true rfl) (zal hW) rfl dX8_retrieves_16 (z_at 19 _ [.int v4] rfl rfl rfl ?_)
    refine z_istore_n (lv' := [(2, .int v4), (0, .ref a0), (1, .int a1)]) dX8_retrieves_19 (Nat.le_of_ble_eq_true rfl) rfl (z_aload_n 1 dX8_retrieves_20 rfl (z_iload_n 2 dX8_retrieves_21 rfl ?_))
    refine z_bind (fun r6 hb7 => ?_)
    refine z_callV (kc' := 0) (ks' := 0) (v := (some (.int r6.1))) (S1 := S) (w1 := r6.2) (st := []) [.int a1] (m_X8_takesOut hW w a0 h0 a1 r6 hb7) zc8 h0 zy_X8_takesOut gw1313 gp45 gw1311 (Nat.le_of_ble_eq_true rfl) (Nat.le_of_ble_eq_true rfl) (Nat.le_of_ble_eq_true rfl) (Nat.le_of_ble_eq_true rfl) (zal hW) rfl dX8_retrieves_22 (z_at 25 _ [.int r6.1] rfl rfl rfl ?_)
    refine z_istore_n (lv' := [(3, .int r6.1), (2, .int v4), (0, .ref a0), (1, .int a1)]) dX8_retrieves_25 (Nat.le_of_ble_eq_true rfl) rfl (z_iload_n 0 dX8_retrieves_26 rfl ?_)
    refine z_if_le 32 dX8_retrieves_27 rfl (fun q8 => ?_) (fun q8 => ?_)
    · refine z_aload_n 2 dX8_retrieves_32 rfl (z_iload_n 3 dX8_retrieves_33 rfl ?_)
      refine z_putI zc8 10 (by decide) (Or.inl rfl) rfl gw1117 h0 dX8_retrieves_34 (z_letw (fun w9 => ?_))
      refine z_aload_n 2 dX8_retrieves_37 rfl (z_iload_n 1 dX8_retrieves_38 rfl ?_)
      refine z_putI zc8 11 (by decide) (Or.inl rfl) rfl gw1118 h0 dX8_retrieves_39 (z_letw (fun w10 => ?_))
      refine z_aload_n 2 dX8_retrieves_42 rfl (z_aload_n 2 dX8_retrieves_43 rfl ?_)
      refine z_bind (fun v11 hb12 => ?_)
      refine z_callV (kc' := 0) (ks' := 0) (v := (some (.int v11))) (S1 := S) (w1 := w10) (st := [.ref a0]) [] (m_X8_open hW w10 a0 h0 v11 hb12) zc8 h0 zy_X8_open gw1325 gp48 gw1323 (Nat.le_of_ble_eq_true rfl) (Nat.le_of_ble_eq_true rfl) (Nat.le_of_ble_eq_true rfl) (Nat.le_of_ble_eq_true rfl) (zal hW) rfl dX8_retrieves_44 (z_at 47 _ [.int v11, .ref a0] rfl rfl rfl ?_)
      refine z_putI zc8 12 (by decide) (Or.inl rfl) rfl gw1119 h0 dX8_retrieves_47 (z_letw (fun w13 => ?_))
      refine z_aload_n 2 dX8_retrieves_50 rfl (z_iconst dX8_retrieves_51 zi_2 ?_)
      refine z_bind (fun r14 hb15 => ?_)
      refine z_callV (kc' := 0) (ks' := 0) (v := (some (.int r14.1))) (S1 := S) (w1 := r14.2) (st := []) [.int (2 : Int32)] (m_X8_fails hW w13 a0 h0 (2 : Int32) r14 hb15) zc8 h0 zy_X8_fails gw1215 gp27 gw1213 (Nat.le_of_ble_eq_true rfl) (Nat.le_of_ble_eq_true rfl) (Nat.le_of_ble_eq_true rfl) (Nat.le_of_ble_eq_true rfl) (zal hW) rfl dX8_retrieves_52 (z_at 55 _ [.int r14.1] rfl rfl rfl ?_)
      exact z_iret zemW rfl dX8_retrieves_55
    · refine z_iload_n 0 dX8_retrieves_30 rfl ?_
      exact z_iret zemW rfl dX8_retrieves_31
  · refine z_aload_n 0 dX8_retrieves_8 rfl (z_iconst dX8_retrieves_9 zi_1 ?_)
    refine z_bind (fun r16 hb17 => ?_)
    refine z_callV (kc' := 0) (ks' := 0) (v := (some (.int r16.1))) (S1 := S) (w1 := r16.2) (st := []) [.int (1 : Int32)] (m_X8_fails hW w a0 h0 (1 : Int32) r16 hb17) zc8 h0 zy_X8_fails gw1215 gp27 gw1213 (Nat.le_of_ble_eq_true rfl) (Nat.le_of_ble_eq_true rfl) (Nat.le_of_ble_eq_true rfl) (Nat.le_of_ble_eq_true rfl) (zal hW) rfl dX8_retrieves_10 (z_at 13 _ [.int r16.1] rfl rfl rfl ?_)
    exact z_iret zemW rfl dX8_retrieves_13

theorem m_X8_retrieves {E : ZE} {S : Zs} (hW : zWF S) (w : Zw) (a0 : Nat) (h0 : zObj S a0 8) (a1 : Int32) : ∀ i, f_X8_retrieves S w a0 a1 = some i → zMr E yX8_retrieves cX8_retrieves 4 ((some .int)) 10 0 0 [.ref a0, .int a1] S w ((emW eI S) i) :=
  fun i hi => z_enter (by decide +kernel) (Nat.le_of_ble_eq_true rfl) (mw_X8_retrieves hW w a0 h0 a1 i hi)
/-! ParkingRobotModel.passes (I)I : W, depth 1 -/
abbrev i_X8_passes : Zm := (yX8_passes.cls, cX8_passes, 2, (some .int), [], yX8_passes.name)
def f_X8_passes (S : Zs) (w : Zw) (a0 : Nat) (a1 : Int32) : Option (Int32 × Zw) :=
  (f_X8_in a1 (1 : Int32) (999 : Int32)).bind fun v1 => if v1 = 0 then (f_X8_fails S w a0 (1 : Int32)).bind fun r12 => some (r12.1, r12.2) else if zin (0 : Int32) (zlen S (zr S a0 1)) = true then if ((w (zr S a0 1) (zix (0 : Int32))) + a1) ≤ (9999 : Int32) then (if zin (0 : Int32) (zlen S (zr S a0 1)) = true then if zin (0 : Int32) (zlen S (zr S a0 1)) = true then zlet (zput w (zr S a0 1) (zix (0 : Int32)) ((w (zr S a0 1) (zix (0 : Int32))) + a1)) fun w8 => if zin (0 : Int32) (zlen S (zr S a0 1)) = true then some ((w8 (zr S a0 1) (zix (0 : Int32))), w8) else none else none else none) else (f_X8_fails S w a0 (2 : Int32)).bind fun r10 => some (r10.1, r10.2) else none
theorem mw_X8_passes {E : ZE} {S : Zs} (hW : zWF S) (w : Zw) (a0 : Nat) (h0 : zObj S a0 8) (a1 : Int32) : zOk (E, i_X8_passes, 1) 0 0 S w 0 [(0, .ref a0), (1, .int a1)] [] (emW eI S) (f_X8_passes S w a0 a1) := by
  unfold f_X8_passes
  refine z_iload_n 1 dX8_passes_0 rfl (z_iconst dX8_passes_1 zi_1 (z_sipush dX8_passes_2 zs_999 ?_))
  refine z_bind (fun v1 hb2 => ?_)
  refine z_callS (kc' := 0) (ks' := 0) (v := (some (.int v1))) (S1 := S) (w1 := w) (st := []) [.int a1, .int (1 : Int32), .int (999 : Int32)] (m_X8_in hW w a1 (1 : Int32) (999 : Int32) v1 hb2) zy_X8_in gw1208 gw1207 (Nat.le_of_ble_eq_true rfl) (Nat.le_of_ble_eq_true rfl) (Nat.le_of_ble_eq_true rfl) (Nat.le_of_ble_eq_true rfl) (zal hW) rfl dX8_passes_5 (z_at 8 _ [.int v1] rfl rfl rfl ?_)
  refine z_if_ne 17 dX8_passes_8 rfl (fun q3 => ?_) (fun q3 => ?_)
  · refine z_aload_n 0 dX8_passes_17 rfl (z_getR zc8 1 (by decide) rfl gw1108 h0 (zW_some hW h0 1 rfl) dX8_passes_18 (z_iconst dX8_passes_21 zi_0 ?_))
    refine z_chk (fun c4 => ?_)
    refine z_iald (zW_arr hW h0 1 0 rfl) c4 dX8_passes_22 (z_iload_n 1 dX8_passes_23 rfl (z_iadd dX8_passes_24 (z_sipush dX8_passes_25 zs_9999 ?_)))
    refine z_icmp_le 37 dX8_passes_28 rfl (fun q5 => ?_) (fun q5 => ?_)
    · refine z_aload_n 0 dX8_passes_37 rfl (z_getR zc8 1 (by decide) rfl gw1108 h0 (zW_some hW h0 1 rfl) dX8_passes_38 (z_iconst dX8_passes_41 zi_0 (z_dup2_11 dX8_passes_42 rfl rfl ?_)))
      refine z_chk (fun c6 => ?_)
      refine z_iald (zW_arr hW h0 1 0 rfl) c6 dX8_passes_43 (z_iload_n 1 dX8_passes_44 rfl (z_iadd dX8_passes_45 ?_))
      refine z_chk (fun c7 => ?_)
      refine z_iast (zW_arr hW h0 1 0 rfl) c7 dX8_passes_46 (z_letw (fun w8 => ?_))
      refine z_aload_n 0 dX8_passes_47 rfl (z_getR zc8 1 (by decide) rfl gw1108 h0 (zW_some hW h0 1 rfl) dX8_passes_48 (z_iconst dX8_passes_51 zi_0 ?_))
      refine z_chk (fun c9 => ?_)
      refine z_iald (zW_arr hW h0 1 0 rfl) c9 dX8_passes_52 ?_
      exact z_iret zemW rfl dX8_passes_53
    · refine z_aload_n 0 dX8_passes_31 rfl (z_iconst dX8_passes_32 zi_2 ?_)
      refine z_bind (fun r10 hb11 => ?_)
      refine z_callV (kc' := 0) (ks' := 0) (v := (some (.int r10.1))) (S1 := S) (w1 := r10.2) (st := []) [.int (2 : Int32)] (m_X8_fails hW w a0 h0 (2 : Int32) r10 hb11) zc8 h0 zy_X8_fails gw1215 gp27 gw1213 (Nat.le_of_ble_eq_true rfl) (Nat.le_of_ble_eq_true rfl) (Nat.le_of_ble_eq_true rfl) (Nat.le_of_ble_eq_true rfl) (zal hW) rfl dX8_passes_33 (z_at 36 _ [.int r10.1] rfl rfl rfl ?_)
      exact z_iret zemW rfl dX8_passes_36
  · refine z_aload_n 0 dX8_passes_11 rfl (z_iconst dX8_passes_12 zi_1 ?_)
    refine z_bind (fun r12 hb13 => ?_)
    refine z_callV (kc' := 0) (ks' := 0) (v := (some (.int r12.1))) (S1 := S) (w1 := r12.2) (st := []) [.int (1 : Int32)] (m_X8_fails hW w a0 h0 (1 : Int32) r12 hb13) zc8 h0 zy_X8_fails gw1215 gp27 gw1213 (Nat.le_of_ble_eq_true rfl) (Nat.le_of_ble_eq_true rfl) (Nat.le_of_ble_eq_true rfl) (Nat.le_of_ble_eq_true rfl) (zal hW) rfl dX8_passes_13 (z_at 16 _ [.int r12.1] rfl rfl rfl ?_)
    exact z_iret zemW rfl dX8_passes_16

theorem m_X8_passes {E : ZE} {S : Zs} (hW : zWF S) (w : Zw) (a0 : Nat) (h0 : zObj S a0 8) (a1 : Int32) : ∀ i, f_X8_passes S w a0 a1 = some i → zMr E yX8_passes cX8_passes 2 ((some .int)) 1 0 0 [.ref a0, .int a1] S w ((emW eI S) i) :=
  fun i hi => z_enter (by decide +kernel) (Nat.le_of_ble_eq_true rfl) (mw_X8_passes hW w a0 h0 a1 i hi)
/-! ParkingRobotModel.closes (II)I : W, depth 2 -/
abbrev i_X8_closes : Zm := (yX8_closes.cls, cX8_closes, 4, (some .int), [], yX8_closes.name)
def f_X8_closes (S : Zs) (w : Zw) (a0 : Nat) (a1 : Int32) (a2 : Int32) : Option (Int32 × Zw) :=
  (f_X8_isBay a1).bind fun v1 => if v1 = 0 then (f_X8_fails S w a0 (1 : Int32)).bind fun r8 => some (r8.1, r8.2) else if zin ((19 : Int32) + a1) (zlen S (zr S a0 1)) = true then zlet (w (zr S a0 1) (zix ((19 : Int32) + a1))) fun z5 => if zin ((19 : Int32) + a1) (zlen S (zr S a0 1)) = true then zlet (zput w (zr S a0 1) (zix ((19 : Int32) + a1)) a2) fun w7 => some (z5, w7) else none else none
theorem mw_X8_closes {E : ZE} {S : Zs} (hW : zWF S) (w : Zw) (a0 : Nat) (h0 : zObj S a0 8) (a1 : Int32) (a2 : Int32) : zOk (E, i_X8_closes, 2) 0 0 S w 0 [(0, .ref a0), (1, .int a1), (2, .int a2)] [] (emW eI S) (f_X8_closes S w a0 a1 a2) := by
  unfold f_X8_closes
  refine z_iload_n 1 dX8_closes_0 rfl ?_
  refine z_bind (fun v1 hb2 => ?_)
  refine z_callS (kc' := 0) (ks' := 0) (v := (some (.int v1))) (S1 := S) (w1 := w) (st := []) [.int a1] (m_X8_isBay hW w a1 v1 hb2) zy_X8_isBay gw1352 gw1351 (Nat.le_of_ble_eq_true rfl) (Nat.le_of_ble_eq_true rfl) (Nat.le_of_ble_eq_true rfl) (Nat.le_of_ble_eq_true rfl) (zal hW) rfl dX8_closes_1 (z_at 4 _ [.int v1] rfl rfl rfl ?_)
  refine z_if_ne 13 dX8_closes_4 rfl (fun q3 => ?_) (fun q3 => ?_)
  · refine z_aload_n 0 dX8_closes_13 rfl (z_getR zc8 1 (by decide) rfl gw1108 h0 (zW_some hW h0 1 rfl) dX8_closes_14 (z_bipush dX8_closes_17 zb_19 (z_iload_n 1 dX8_closes_19 rfl (z_iadd dX8_closes_20 ?_))))
    refine z_chk (fun c4 => ?_)
    refine z_iald (zW_arr hW h0 1 0 rfl) c4 dX8_closes_21 ?_
    refine z_let (a := (w (zr S a0 1) (zix ((19 : Int32) + a1)))) (fun z5 => [(0, .ref a0), (1, .int a1), (2, .int a2)]) (fun z5 => .int z5 :: []) (fun z5 => ?_)
    refine z_istore_n (lv' := [(3, .int z5), (0, .ref a0), (1, .int a1), (2, .int a2)]) dX8_closes_22 (Nat.le_of_ble_eq_true rfl) rfl (z_aload_n 1 dX8_closes_23 rfl (z_getR zc8 1 (by decide) rfl gw1108 h0 (zW_some hW h0 1 rfl) dX8_closes_24 (z_bipush dX8_closes_27 zb_19 (z_iload_n 2 dX8_closes_29 rfl (z_iadd dX8_closes_30 ?_)))))
    refine z_iload_n 3 dX8_closes_31 rfl ?_
    refine z_chk (fun c6 => ?_)
    refine z_iast (zW_arr hW h0 1 0 rfl) c6 dX8_closes_32 (z_letw (fun w7 => ?_))
    refine z_iload_n 0 dX8_closes_33 rfl ?_
    exact z_iret zemW rfl dX8_closes_34
  · refine z_aload_n 0 dX8_closes_7 rfl (z_iconst dX8_closes_8 zi_1 ?_)
    refine z_bind (fun r8 hb9 => ?_)
    refine z_callV (kc' := 0) (ks' := 0) (v := (some (.int r8.1))) (S1 := S) (w1 := r8.2) (st := []) [.int (1 : Int32)] (m_X8_fails hW w a0 h0 (1 : Int32) r8 hb9) zc8 h0 zy_X8_fails gw1215 gp27 gw1213 (Nat.le_of_ble_eq_true rfl) (Nat.le_of_ble_eq_true rfl) (Nat.le_of_ble_eq_true rfl) (Nat.le_of_ble_eq_true rfl) (zal hW) rfl dX8_closes_9 (z_at 12 _ [.int r8.1] rfl rfl rfl ?_)
    exact z_iret zemW rfl dX8_closes_12

theorem m_X8_closes {E : ZE} {S : Zs} (hW : zWF S) (w : Zw) (a0 : Nat) (h0 : zObj S a0 8) (a1 : Int32) (a2 : Int32) : ∀ i, f_X8_closes S w a0 a1 a2 = some i → zMr E yX8_closes cX8_closes 4 ((some .int)) 2 0 0 [.ref a0, .int a1, .int a2] S w ((emW eI S) i) :=
  fun i hi => z_enter (by decide +kernel) (Nat.le_of_ble_eq_true rfl) (mw_X8_closes hW w a0 h0 a1 a2 i hi)
/-! ParkingRobotModel.carriesOut (I)I : W, depth 11 -/
abbrev i_X8_carriesOut : Zm := (yX8_carriesOut.cls, cX8_carriesOut, 2, (some .int), [], yX8_carriesOut.name)
def f_X8_carriesOut_j85 (S : Zs) (w : Zw) (y0 : Int32) (y1 : Int32) (y2 : Nat) : Option (Int32 × Zw) :=
  (f_X8_closes S w y2 y1 y0).bind fun r16 => some (r16.1, r16.2)
theorem m_X8_carriesOut_j85 {E : ZE} {S : Zs} (hW : zWF S) (w : Zw) (y0 : Int32) (y1 : Int32) (y2 : Nat) (hy2 : zObj S y2 8) : zOk (E, i_X8_carriesOut, 11) 0 0 S w 85 [] [.int y0, .int y1, .ref y2] (emW eI S) (f_X8_carriesOut_j85 S w y0 y1 y2) := by
  unfold f_X8_carriesOut_j85
  refine z_bind (fun r16 hb17 => ?_)
  refine z_callV (kc' := 0) (ks' := 0) (v := (some (.int r16.1))) (S1 := S) (w1 := r16.2) (st := []) [.int y1, .int y0] (m_X8_closes hW w y2 hy2 y1 y0 r16 hb17) zc8 hy2 zy_X8_closes gw1349 gp50 gw1347 (Nat.le_of_ble_eq_true rfl) (Nat.le_of_ble_eq_true rfl) (Nat.le_of_ble_eq_true rfl) (Nat.le_of_ble_eq_true rfl) (zal hW) rfl dX8_carriesOut_85 (z_at 88 _ [.int r16.1] rfl rfl rfl ?_)
  exact z_iret zemW rfl dX8_carriesOut_88

def f_X8_carriesOut (S : Zs) (w : Zw) (a0 : Nat) (a1 : Int32) : Option (Int32 × Zw) :=
  if a1 = (114 : Int32) then (if zin (0 : Int32) (zlen S (zr S a0 23)) = true then (f_X8_retrieves S w a0 (w (zr S a0 23) (zix (0 : Int32)))).bind fun r3 => some (r3.1, r3.2) else none) else if a1 = (115 : Int32) then (if zin (1 : Int32) (zlen S (zr S a0 23)) = true then if zin (0 : Int32) (zlen S (zr S a0 23)) = true then (f_X8_stores S w a0 (w (zr S a0 23) (zix (1 : Int32))) (w (zr S a0 23) (zix (0 : Int32)))).bind fun r8 => some (r8.1, r8.2) else none else none) else if a1 = (116 : Int32) then (if zin (0 : Int32) (zlen S (zr S a0 23)) = true then (f_X8_passes S w a0 (w (zr S a0 23) (zix (0 : Int32)))).bind fun r12 => some (r12.1, r12.2) else none) else (if zin (0 : Int32) (zlen S (zr S a0 23)) = true then if a1 = (99 : Int32) then f_X8_carriesOut_j85 S w (1 : Int32) ((w (zr S a0 23) (zix (0 : Int32)))) a0  else f_X8_carriesOut_j85 S w (0 : Int32) ((w (zr S a0 23) (zix (0 : Int32)))) a0  else none)
theorem mw_X8_carriesOut {E : ZE} {S : Zs} (hW : zWF S) (w : Zw) (a0 : Nat) (h0 : zObj S a0 8) (a1 : Int32) : zOk (E, i_X8_carriesOut, 11) 0 0 S w 0 [(0, .ref a0), (1, .int a1)] [] (emW eI S) (f_X8_carriesOut S w a0 a1) := by
  unfold f_X8_carriesOut
  refine z_iload_n 1 dX8_carriesOut_0 rfl ?_
  refine z_ite _ (fun q1 => ?_) (fun q1 => ?_)
  · refine z_tabIn (off := 44) 45 dX8_carriesOut_1 (by rw [q1]; decide) (by rw [q1]; decide) (by rw [q1]; decide) rfl ?_
    refine z_aload_n 0 dX8_carriesOut_45 rfl (z_aload_n 0 dX8_carriesOut_46 rfl (z_getR zc8 23 (by decide) rfl gw1130 h0 (zW_some hW h0 23 rfl) dX8_carriesOut_47 (z_iconst dX8_carriesOut_50 zi_0 ?_)))
    refine z_chk (fun c2 => ?_)
    refine z_iald (zW_arr hW h0 23 0 rfl) c2 dX8_carriesOut_51 ?_
    refine z_bind (fun r3 hb4 => ?_)
    refine z_callV (kc' := 0) (ks' := 0) (v := (some (.int r3.1))) (S1 := S) (w1 := r3.2) (st := []) [.int (w (zr S a0 23) (zix (0 : Int32)))] (m_X8_retrieves hW w a0 h0 (w (zr S a0 23) (zix (0 : Int32))) r3 hb4) zc8 h0 zy_X8_retrieves gw1297 gp41 gw1295 (Nat.le_of_ble_eq_true rfl) (Nat.le_of_ble_eq_true rfl) (Nat.le_of_ble_eq_true rfl) (Nat.le_of_ble_eq_true rfl) (zal hW) rfl dX8_carriesOut_52 (z_at 55 _ [.int r3.1] rfl rfl rfl ?_)
    exact z_iret zemW rfl dX8_carriesOut_55
  refine z_ite _ (fun q5 => ?_) (fun q5 => ?_)
  · refine z_tabIn (off := 27) 28 dX8_carriesOut_1 (by rw [q5]; decide) (by rw [q5]; decide) (by rw [q5]; decide) rfl ?_
    refine z_aload_n 0 dX8_carriesOut_28 rfl (z_aload_n 0 dX8_carriesOut_29 rfl (z_getR zc8 23 (by decide) rfl gw1130 h0 (zW_some hW h0 23 rfl) dX8_carriesOut_30 (z_iconst dX8_carriesOut_33 zi_1 ?_)))
    refine z_chk (fun c6 => ?_)
    refine z_iald (zW_arr hW h0 23 0 rfl) c6 dX8_carriesOut_34 (z_aload_n 0 dX8_carriesOut_35 rfl (z_getR zc8 23 (by decide) rfl gw1130 h0 (zW_some hW h0 23 rfl) dX8_carriesOut_36 (z_iconst dX8_carriesOut_39 zi_0 ?_)))
    refine z_chk (fun c7 => ?_)
    refine z_iald (zW_arr hW h0 23 0 rfl) c7 dX8_carriesOut_40 ?_
    refine z_bind (fun r8 hb9 => ?_)
    refine z_callV (kc' := 0) (ks' := 0) (v := (some (.int r8.1))) (S1 := S) (w1 := r8.2) (st := []) [.int (w (zr S a0 23) (zix (1 : Int32))), .int (w (zr S a0 23) (zix (0 : Int32)))] (m_X8_stores hW w a0 h0 (w (zr S a0 23) (zix (1 : Int32))) (w (zr S a0 23) (zix (0 : Int32))) r8 hb9) zc8 h0 zy_X8_stores gw1202 gp26 gw1200 (Nat.le_of_ble_eq_true rfl) (Nat.le_of_ble_eq_true rfl) (Nat.le_of_ble_eq_true rfl) (Nat.le_of_ble_eq_true rfl) (zal hW) rfl dX8_carriesOut_41 (z_at 44 _ [.int r8.1] rfl rfl rfl ?_)
    exact z_iret zemW rfl dX8_carriesOut_44
  refine z_ite _ (fun q10 => ?_) (fun q10 => ?_)
  · refine z_tabIn (off := 55) 56 dX8_carriesOut_1 (by rw [q10]; decide) (by rw [q10]; decide) (by rw [q10]; decide) rfl ?_
    refine z_aload_n 0 dX8_carriesOut_56 rfl (z_aload_n 0 dX8_carriesOut_57 rfl (z_getR zc8 23 (by decide) rfl gw1130 h0 (zW_some hW h0 23 rfl) dX8_carriesOut_58 (z_iconst dX8_carriesOut_61 zi_0 ?_)))
    refine z_chk (fun c11 => ?_)
    refine z_iald (zW_arr hW h0 23 0 rfl) c11 dX8_carriesOut_62 ?_
    refine z_bind (fun r12 hb13 => ?_)
    refine z_callV (kc' := 0) (ks' := 0) (v := (some (.int r12.1))) (S1 := S) (w1 := r12.2) (st := []) [.int (w (zr S a0 23) (zix (0 : Int32)))] (m_X8_passes hW w a0 h0 (w (zr S a0 23) (zix (0 : Int32))) r12 hb13) zc8 h0 zy_X8_passes gw1436 gp59 gw1434 (Nat.le_of_ble_eq_true rfl) (Nat.le_of_ble_eq_true rfl) (Nat.le_of_ble_eq_true rfl) (Nat.le_of_ble_eq_true rfl) (zal hW) rfl dX8_carriesOut_63 (z_at 66 _ [.int r12.1] rfl rfl rfl ?_)
    exact z_iret zemW rfl dX8_carriesOut_66
  refine z_tabOut 67 dX8_carriesOut_1 ?_ rfl ?_
  · have n0 := zsw_ne (k := 114) (114 : Int32) (by decide) q1; have n1 := zsw_ne (k := 115) (115 : Int32) (by decide) q5; have n2 := zsw_ne (k := 116) (116 : Int32) (by decide) q10; omega
  refine z_aload_n 0 dX8_carriesOut_67 rfl (z_aload_n 0 dX8_carriesOut_68 rfl (z_getR zc8 23 (by decide) rfl gw1130 h0 (zW_some hW h0 23 rfl) dX8_carriesOut_69 (z_iconst dX8_carriesOut_72 zi_0 ?_)))
  refine z_chk (fun c14 => ?_)
  refine z_iald (zW_arr hW h0 23 0 rfl) c14 dX8_carriesOut_73 (z_iload_n 1 dX8_carriesOut_74 rfl (z_bipush dX8_carriesOut_75 zb_99 ?_))
  refine z_icmp_ne 84 dX8_carriesOut_77 rfl (fun q15 => ?_) (fun q15 => ?_)
  · refine z_iconst dX8_carriesOut_84 zi_0 ?_
    refine z_sub (lv' := []) [] rfl ?_
    refine z_pc (pc' := 85) rfl ?_
    exact m_X8_carriesOut_j85 hW w (0 : Int32) ((w (zr S a0 23) (zix (0 : Int32)))) a0 h0 
  · refine z_iconst dX8_carriesOut_80 zi_1 (z_goto 85 dX8_carriesOut_81 rfl ?_)
    refine z_sub (lv' := []) [] rfl ?_
    refine z_pc (pc' := 85) rfl ?_
    exact m_X8_carriesOut_j85 hW w (1 : Int32) ((w (zr S a0 23) (zix (0 : Int32)))) a0 h0 

theorem m_X8_carriesOut {E : ZE} {S : Zs} (hW : zWF S) (w : Zw) (a0 : Nat) (h0 : zObj S a0 8) (a1 : Int32) : ∀ i, f_X8_carriesOut S w a0 a1 = some i → zMr E yX8_carriesOut cX8_carriesOut 2 ((some .int)) 11 0 0 [.ref a0, .int a1] S w ((emW eI S) i) :=
  fun i hi => z_enter (by decide +kernel) (Nat.le_of_ble_eq_true rfl) (mw_X8_carriesOut hW w a0 h0 a1 i hi)
/-! ParkingRobotModel.choice (II)I : W, depth 8 -/
abbrev i_X8_choice : Zm := (yX8_choice.cls, cX8_choice, 4, (some .int), [], yX8_choice.name)
def f_X8_choice_j19 (S : Zs) (w : Zw) (x0 : Nat) : Option (Int32 × Zw) :=
  (f_X8_fails S w x0 (1 : Int32)).bind fun r5 => some (r5.1, r5.2)
theorem m_X8_choice_j19 {E : ZE} {S : Zs} (hW : zWF S) (w : Zw) (x0 : Nat) (hx0 : zObj S x0 8) : zOk (E, i_X8_choice, 8) 0 0 S w 19 [(0, .ref x0)] [] (emW eI S) (f_X8_choice_j19 S w x0) := by
  unfold f_X8_choice_j19
  refine z_aload_n 0 dX8_choice_19 rfl (z_iconst dX8_choice_20 zi_1 ?_)
  refine z_bind (fun r5 hb6 => ?_)
  refine z_callV (kc' := 0) (ks' := 0) (v := (some (.int r5.1))) (S1 := S) (w1 := r5.2) (st := []) [.int (1 : Int32)] (m_X8_fails hW w x0 hx0 (1 : Int32) r5 hb6) zc8 hx0 zy_X8_fails gw1215 gp27 gw1213 (Nat.le_of_ble_eq_true rfl) (Nat.le_of_ble_eq_true rfl) (Nat.le_of_ble_eq_true rfl) (Nat.le_of_ble_eq_true rfl) (zal hW) rfl dX8_choice_21 (z_at 24 _ [.int r5.1] rfl rfl rfl ?_)
  exact z_iret zemW rfl dX8_choice_24

def f_X8_choice (S : Zs) (w : Zw) (a0 : Nat) (a1 : Int32) (a2 : Int32) : Option (Int32 × Zw) :=
  zlet (zput w a0 0 (0 : Int32)) fun w1 => (f_X8_isSize a1).bind fun v2 => if v2 = 0 then f_X8_choice_j19 S w1 a0  else (f_X8_isPickup a2).bind fun v7 => if v7 = 0 then f_X8_choice_j19 S w1 a0  else (f_X8_chosen S w1 a0 a1 a2 (-1 : Int32)).bind fun v10 => if 0 ≤ v10 then some (v10, w1) else (f_X8_fails S w1 a0 (2 : Int32)).bind fun r13 => some (r13.1, r13.2)
theorem mw_X8_choice {E : ZE} {S : Zs} (hW : zWF S) (w : Zw) (a0 : Nat) (h0 : zObj S a0 8) (a1 : Int32) (a2 : Int32) : zOk (E, i_X8_choice, 8) 0 0 S w 0 [(0, .ref a0), (1, .int a1), (2, .int a2)] [] (emW eI S) (f_X8_choice S w a0 a1 a2) := by
  unfold f_X8_choice
  refine z_aload_n 0 dX8_choice_0 rfl (z_iconst dX8_choice_1 zi_0 ?_)
  refine z_putI zc8 0 (by decide) (Or.inl rfl) rfl gw1107 h0 dX8_choice_2 (z_letw (fun w1 => ?_))
  refine z_iload_n 1 dX8_choice_5 rfl ?_
  refine z_bind (fun v2 hb3 => ?_)
  refine z_callS (kc' := 0) (ks' := 0) (v := (some (.int v2))) (S1 := S) (w1 := w1) (st := []) [.int a1] (m_X8_isSize hW w1 a1 v2 hb3) zy_X8_isSize gw1205 gw1204 (Nat.le_of_ble_eq_true rfl) (Nat.le_of_ble_eq_true rfl) (Nat.le_of_ble_eq_true rfl) (Nat.le_of_ble_eq_true rfl) (zal hW) rfl dX8_choice_6 (z_at 9 _ [.int v2] rfl rfl rfl ?_)
  refine z_if_eq 19 dX8_choice_9 rfl (fun q4 => ?_) (fun q4 => ?_)
  · refine z_sub (lv' := [(0, .ref a0)]) [0] rfl ?_
    refine z_pc (pc' := 19) rfl ?_
    exact m_X8_choice_j19 hW w1 a0 h0 
  · refine z_iload_n 2 dX8_choice_12 rfl ?_
    refine z_bind (fun v7 hb8 => ?_)
    refine z_callS (kc' := 0) (ks' := 0) (v := (some (.int v7))) (S1 := S) (w1 := w1) (st := []) [.int a2] (m_X8_isPickup hW w1 a2 v7 hb8) zy_X8_isPickup gw1211 gw1210 (Nat.le_of_ble_eq_true rfl) (Nat.le_of_ble_eq_true rfl) (Nat.le_of_ble_eq_true rfl) (Nat.le_of_ble_eq_true rfl) (zal hW) rfl dX8_choice_13 (z_at 16 _ [.int v7] rfl rfl rfl ?_)
    refine z_if_ne 25 dX8_choice_16 rfl (fun q9 => ?_) (fun q9 => ?_)
    · refine z_aload_n 0 dX8_choice_25 rfl (z_iload_n 1 dX8_choice_26 rfl (z_iload_n 2 dX8_choice_27 rfl (z_iconst dX8_choice_28 zi_m1 ?_)))
      refine z_bind (fun v10 hb11 => ?_)
      refine z_callV (kc' := 0) (ks' := 0) (v := (some (.int v10))) (S1 := S) (w1 := w1) (st := []) [.int a1, .int a2, .int (-1 : Int32)] (m_X8_chosen hW w1 a0 h0 a1 a2 (-1 : Int32) v10 hb11) zc8 h0 zy_X8_chosen gw1219 gp28 gw1217 (Nat.le_of_ble_eq_true rfl) (Nat.le_of_ble_eq_true rfl) (Nat.le_of_ble_eq_true rfl) (Nat.le_of_ble_eq_true rfl) (zal hW) rfl dX8_choice_29 (z_at 32 _ [.int v10] rfl rfl rfl ?_)
      refine z_istore_n (lv' := [(3, .int v10), (0, .ref a0), (1, .int a1), (2, .int a2)]) dX8_choice_32 (Nat.le_of_ble_eq_true rfl) rfl (z_iload_n 0 dX8_choice_33 rfl ?_)
      refine z_if_ge 45 dX8_choice_34 rfl (fun q12 => ?_) (fun q12 => ?_)
      · refine z_iload_n 0 dX8_choice_45 rfl ?_
        exact z_iret zemW rfl dX8_choice_46
      · refine z_aload_n 1 dX8_choice_37 rfl (z_iconst dX8_choice_38 zi_2 ?_)
        refine z_bind (fun r13 hb14 => ?_)
        refine z_callV (kc' := 0) (ks' := 0) (v := (some (.int r13.1))) (S1 := S) (w1 := r13.2) (st := []) [.int (2 : Int32)] (m_X8_fails hW w1 a0 h0 (2 : Int32) r13 hb14) zc8 h0 zy_X8_fails gw1215 gp27 gw1213 (Nat.le_of_ble_eq_true rfl) (Nat.le_of_ble_eq_true rfl) (Nat.le_of_ble_eq_true rfl) (Nat.le_of_ble_eq_true rfl) (zal hW) rfl dX8_choice_39 (z_at 42 _ [.int r13.1] rfl rfl rfl ?_)
        refine z_goto 46 dX8_choice_42 rfl ?_
        exact z_iret zemW rfl dX8_choice_46
    · refine z_sub (lv' := [(0, .ref a0)]) [0] rfl ?_
      refine z_pc (pc' := 19) rfl ?_
      exact m_X8_choice_j19 hW w1 a0 h0 

theorem m_X8_choice {E : ZE} {S : Zs} (hW : zWF S) (w : Zw) (a0 : Nat) (h0 : zObj S a0 8) (a1 : Int32) (a2 : Int32) : ∀ i, f_X8_choice S w a0 a1 a2 = some i → zMr E yX8_choice cX8_choice 4 ((some .int)) 8 0 0 [.ref a0, .int a1, .int a2] S w ((emW eI S) i) :=
  fun i hi => z_enter (by decide +kernel) (Nat.le_of_ble_eq_true rfl) (mw_X8_choice hW w a0 h0 a1 a2 i hi)
/-! ParkingRobotModel.sign ()I : P, depth 0 -/
abbrev i_X8_sign : Zm := (yX8_sign.cls, cX8_sign, 1, (some .int), [], yX8_sign.name)
def f_X8_sign (S : Zs) (w : Zw) (a0 : Nat) : Option (Int32) :=
  if (w a0 26) = 0 then (if (w a0 24) ≤ (w a0 25) then some (-1 : Int32) else if zin (w a0 25) (zlen S (zr S a0 22)) = true then some (w (zr S a0 22) (zix (w a0 25))) else none) else some (-1 : Int32)
theorem mw_X8_sign {E : ZE} {S : Zs} (hW : zWF S) (w : Zw) (a0 : Nat) (h0 : zObj S a0 8) : zOk (E, i_X8_sign, 0) 0 0 S w 0 [(0, .ref a0)] [] (emP eI S w) (f_X8_sign S w a0) := by
  unfold f_X8_sign
  refine z_aload_n 0 dX8_sign_0 rfl (z_getI zc8 26 (by decide) rfl gw1133 h0 dX8_sign_1 ?_)
  refine z_if_ne 30 dX8_sign_4 rfl (fun q1 => ?_) (fun q1 => ?_)
  · refine z_iconst dX8_sign_30 zi_m1 ?_
    exact z_iret zemP rfl dX8_sign_31
  · refine z_aload_n 0 dX8_sign_7 rfl (z_getI zc8 25 (by decide) rfl gw1132 h0 dX8_sign_8 (z_aload_n 0 dX8_sign_11 rfl (z_getI zc8 24 (by decide) rfl gw1131 h0 dX8_sign_12 ?_)))
    refine z_icmp_ge 30 dX8_sign_15 rfl (fun q2 => ?_) (fun q2 => ?_)
    · refine z_iconst dX8_sign_30 zi_m1 ?_
      exact z_iret zemP rfl dX8_sign_31
    · refine z_aload_n 0 dX8_sign_18 rfl (z_getR zc8 22 (by decide) rfl gw1129 h0 (zW_some hW h0 22 rfl) dX8_sign_19 (z_aload_n 0 dX8_sign_22 rfl (z_getI zc8 25 (by decide) rfl gw1132 h0 dX8_sign_23 ?_)))
      refine z_chk (fun c3 => ?_)
      refine z_iald (zW_arr hW h0 22 0 rfl) c3 dX8_sign_26 (z_goto 31 dX8_sign_27 rfl ?_)
      exact z_iret zemP rfl dX8_sign_31

theorem m_X8_sign {E : ZE} {S : Zs} (hW : zWF S) (w : Zw) (a0 : Nat) (h0 : zObj S a0 8) : ∀ i, f_X8_sign S w a0 = some i → zMr E yX8_sign cX8_sign 1 ((some .int)) 0 0 0 [.ref a0] S w ((emP eI S w) i) :=
  fun i hi => z_enter (by decide +kernel) (Nat.le_of_ble_eq_true rfl) (mw_X8_sign hW w a0 h0 i hi)
/-! ParkingRobotModel.number (II)I : W, depth 1 -/
abbrev i_X8_number : Zm := (yX8_number.cls, cX8_number, 5, (some .int), [], yX8_number.name)
def f_X8_number_j68 (S : Zs) (w : Zw) (x3 : Int32) (y0 : Int32) (y1 : Int32) (y2 : Nat) : Option (Int32 × Zw) :=
  if zb1 (y1 ||| y0) = true then zlet (zput w y2 26 (y1 ||| y0)) fun w4 => some (x3, w4) else none
theorem m_X8_number_j68 {E : ZE} {S : Zs} (hW : zWF S) (w : Zw) (x3 : Int32) (y0 : Int32) (y1 : Int32) (y2 : Nat) (hy2 : zObj S y2 8) : zOk (E, i_X8_number, 1) 0 0 S w 68 [(3, .int x3)] [.int y0, .int y1, .ref y2] (emW eI S) (f_X8_number_j68 S w x3 y0 y1 y2) := by
  unfold f_X8_number_j68
  refine z_ior dX8_number_68 ?_
  refine z_chk (fun c3 => ?_)
  refine z_putI zc8 26 (by decide) (Or.inr ⟨rfl, zb1_or c3⟩) rfl gw1133 hy2 dX8_number_69 (z_letw (fun w4 => ?_))
  refine z_iload_n 0 dX8_number_72 rfl ?_
  exact z_iret zemW rfl dX8_number_73

def f_X8_number_j53 (S : Zs) (w : Zw) (x0 : Nat) (x3 : Int32) (x4 : Int32) : Option (Int32 × Zw) :=
  if x4 = 0 then f_X8_number_j68 S w x3 (1 : Int32) ((w x0 26)) x0  else f_X8_number_j68 S w x3 (0 : Int32) ((w x0 26)) x0 
theorem m_X8_number_j53 {E : ZE} {S : Zs} (hW : zWF S) (w : Zw) (x0 : Nat) (hx0 : zObj S x0 8) (x3 : Int32) (x4 : Int32) : zOk (E, i_X8_number, 1) 0 0 S w 53 [(0, .ref x0), (3, .int x3), (4, .int x4)] [] (emW eI S) (f_X8_number_j53 S w x0 x3 x4) := by
  unfold f_X8_number_j53
  refine z_aload_n 0 dX8_number_53 rfl (z_dup dX8_number_54 rfl (z_getI zc8 26 (by decide) rfl gw1133 hx0 dX8_number_55 (z_iload 2 dX8_number_58 rfl ?_)))
  refine z_if_ne 67 dX8_number_60 rfl (fun q2 => ?_) (fun q2 => ?_)
  · refine z_iconst dX8_number_67 zi_0 ?_
    refine z_sub (lv' := [(3, .int x3)]) [1] rfl ?_
    refine z_pc (pc' := 68) rfl ?_
    exact m_X8_number_j68 hW w x3 (0 : Int32) ((w x0 26)) x0 hx0 
  · refine z_iconst dX8_number_63 zi_1 (z_goto 68 dX8_number_64 rfl ?_)
    refine z_sub (lv' := [(3, .int x3)]) [1] rfl ?_
    refine z_pc (pc' := 68) rfl ?_
    exact m_X8_number_j68 hW w x3 (1 : Int32) ((w x0 26)) x0 hx0 

def f_X8_number_b5 (S : Zs) (x0 : Nat) (x1 : Int32) (x2 : Int32) (k : (Int32 × Int32 × Zw) → Option (Int32 × Zw)) (x3 : Int32) (x4 : Int32) (w : Zw) : Option (Int32 × Zw) :=
  if x1 ≤ x4 then f_X8_number_j53 S w x0 x3 x4  else (f_X8_sign S w x0).bind fun v5 => (f_X8_in v5 (48 : Int32) x2).bind fun v7 => if v7 = 0 then f_X8_number_j53 S w x0 x3 x4  else (f_X8_sign S w x0).bind fun v10 => zlet ((((10 : Int32) * x3) + v10) - (48 : Int32)) fun z12 => zlet (zput w x0 25 ((w x0 25) + (1 : Int32))) fun w13 => k (z12, (x4 + (1 : Int32)), w13)
def f_X8_number_l5 (S : Zs) (x0 : Nat) (x1 : Int32) (x2 : Int32) (a : Int32 × Int32 × Zw) : Option (Int32 × Zw) :=
  zlp (fun k a => f_X8_number_b5 S x0 x1 x2 k a.1 a.2.1 a.2.2) zFU a
theorem m_X8_number_l5 {E : ZE} {S : Zs} (hW : zWF S) (x0 : Nat) (hx0 : zObj S x0 8) (x1 : Int32) (x2 : Int32) : ∀ a : Int32 × Int32 × Zw, zOk (E, i_X8_number, 1) 0 0 S a.2.2 5 [(0, .ref x0), (1, .int x1), (2, .int x2), (3, .int a.1), (4, .int a.2.1)] [] (emW eI S) (f_X8_number_l5 S x0 x1 x2 a) := by
  intro a
  refine z_lp (P := fun _ => True) (W9 := fun a : Int32 × Int32 × Zw => a.2.2) (L9 := fun a : Int32 × Int32 × Zw => [(0, .ref x0), (1, .int x1), (2, .int x2), (3, .int a.1), (4, .int a.2.1)]) (T9 := fun _ => []) (fun k hk9 a _ => ?_) zFU a trivial
  have hk : ∀ a : Int32 × Int32 × Zw, zOk (E, i_X8_number, 1) 0 0 S a.2.2 5 [(0, .ref x0), (1, .int x1), (2, .int x2), (3, .int a.1), (4, .int a.2.1)] [] (emW eI S) (k a) := fun a => hk9 a trivial
  clear hk9
  obtain ⟨x3, x4, w⟩ := a
  show zOk (E, i_X8_number, 1) 0 0 S w 5 [(0, .ref x0), (1, .int x1), (2, .int x2), (3, .int x3), (4, .int x4)] [] (emW eI S) (f_X8_number_b5 S x0 x1 x2 k x3 x4 w)
  unfold f_X8_number_b5
  refine z_iload 4 dX8_number_5 rfl (z_iload_n 1 dX8_number_7 rfl ?_)
  refine z_icmp_ge 53 dX8_number_8 rfl (fun q1 => ?_) (fun q1 => ?_)
  · refine z_sub (lv' := [(0, .ref x0), (3, .int x3), (4, .int x4)]) [0, 3, 4] rfl ?_
    refine z_pc (pc' := 53) rfl ?_
    exact m_X8_number_j53 hW w x0 hx0 x3 x4 
  · refine z_aload_n 0 dX8_number_11 rfl ?_
    refine z_bind (fun v5 hb6 => ?_)
    refine z_callV (kc' := 0) (ks' := 0) (v := (some (.int v5))) (S1 := S) (w1 := w) (st := []) [] (m_X8_sign hW w x0 hx0 v5 hb6) zc8 hx0 zy_X8_sign gw1480 gp61 gw1478 (Nat.le_of_ble_eq_true rfl) (Nat.le_of_ble_eq_true rfl) (Nat.le_of_ble_eq_true rfl) (Nat.le_of_ble_eq_true rfl) (zal hW) rfl dX8_number_12 (z_at 15 _ [.int v5] rfl rfl rfl ?_)
    refine z_bipush dX8_number_15 zb_48 (z_iload_n 2 dX8_number_17 rfl ?_)
    refine z_bind (fun v7 hb8 => ?_)
    refine z_callS (kc' := 0) (ks' := 0) (v := (some (.int v7))) (S1 := S) (w1 := w) (st := []) [.int v5, .int (48 : Int32), .int x2] (m_X8_in hW w v5 (48 : Int32) x2 v7 hb8) zy_X8_in gw1208 gw1207 (Nat.le_of_ble_eq_true rfl) (Nat.le_of_ble_eq_true rfl) (Nat.le_of_ble_eq_true rfl) (Nat.le_of_ble_eq_true rfl) (zal hW) rfl dX8_number_18 (z_at 21 _ [.int v7] rfl rfl rfl ?_)
    refine z_if_eq 53 dX8_number_21 rfl (fun q9 => ?_) (fun q9 => ?_)
    · refine z_sub (lv' := [(0, .ref x0), (3, .int x3), (4, .int x4)]) [0, 3, 4] rfl ?_
      refine z_pc (pc' := 53) rfl ?_
      exact m_X8_number_j53 hW w x0 hx0 x3 x4 
    · refine z_bipush dX8_number_24 zb_10 (z_iload_n 3 dX8_number_26 rfl (z_imul dX8_number_27 (z_aload_n 0 dX8_number_28 rfl ?_)))
      refine z_bind (fun v10 hb11 => ?_)
      refine z_callV (kc' := 0) (ks' := 0) (v := (some (.int v10))) (S1 := S) (w1 := w) (st := [.int ((10 : Int32) * x3)]) [] (m_X8_sign hW w x0 hx0 v10 hb11) zc8 hx0 zy_X8_sign gw1480 gp61 gw1478 (Nat.le_of_ble_eq_true rfl) (Nat.le_of_ble_eq_true rfl) (Nat.le_of_ble_eq_true rfl) (Nat.le_of_ble_eq_true rfl) (zal hW) rfl dX8_number_29 (z_at 32 _ [.int v10, .int ((10 : Int32) * x3)] rfl rfl rfl ?_)
      refine z_iadd dX8_number_32 (z_bipush dX8_number_33 zb_48 (z_isub dX8_number_35 ?_))
      refine z_let (a := ((((10 : Int32) * x3) + v10) - (48 : Int32))) (fun z12 => [(0, .ref x0), (1, .int x1), (2, .int x2), (3, .int x3), (4, .int x4)]) (fun z12 => .int z12 :: []) (fun z12 => ?_)
      refine z_istore_n (lv' := [(3, .int z12), (0, .ref x0), (1, .int x1), (2, .int x2), (4, .int x4)]) dX8_number_36 (Nat.le_of_ble_eq_true rfl) rfl (z_aload_n 1 dX8_number_37 rfl (z_dup dX8_number_38 rfl (z_getI zc8 25 (by decide) rfl gw1132 hx0 dX8_number_39 (z_iconst dX8_number_42 zi_1 (z_iadd dX8_number_43 ?_)))))
      refine z_putI zc8 25 (by decide) (Or.inl rfl) rfl gw1132 hx0 dX8_number_44 (z_letw (fun w13 => ?_))
      refine z_iinc (v := (x4 + (1 : Int32))) (lv' := [(4, .int (x4 + (1 : Int32))), (3, .int z12), (0, .ref x0), (1, .int x1), (2, .int x2)]) 4 dX8_number_47 rfl (zi_inc _ zi_1) (Nat.le_of_ble_eq_true rfl) rfl (z_goto 5 dX8_number_50 rfl ?_)
      refine z_sub (lv' := [(0, .ref x0), (1, .int x1), (2, .int x2), (3, .int z12), (4, .int (x4 + (1 : Int32)))]) [2, 3, 4, 1, 0] rfl ?_
      refine z_pc (pc' := 5) rfl ?_
      exact hk (z12, (x4 + (1 : Int32)), w13)

def f_X8_number (S : Zs) (w : Zw) (a0 : Nat) (a1 : Int32) (a2 : Int32) : Option (Int32 × Zw) :=
  f_X8_number_l5 S a0 a1 a2 ((0 : Int32), (0 : Int32), w)
theorem mw_X8_number {E : ZE} {S : Zs} (hW : zWF S) (w : Zw) (a0 : Nat) (h0 : zObj S a0 8) (a1 : Int32) (a2 : Int32) : zOk (E, i_X8_number, 1) 0 0 S w 0 [(0, .ref a0), (1, .int a1), (2, .int a2)] [] (emW eI S) (f_X8_number S w a0 a1 a2) := by
  unfold f_X8_number
  refine z_iconst dX8_number_0 zi_0 (z_istore_n (lv' := [(3, .int (0 : Int32)), (0, .ref a0), (1, .int a1), (2, .int a2)]) dX8_number_1 (Nat.le_of_ble_eq_true rfl) rfl (z_iconst dX8_number_2 zi_0 (z_istore (lv' := [(4, .int (0 : Int32)), (3, .int (0 : Int32)), (0, .ref a0), (1, .int a1), (2, .int a2)]) dX8_number_3 (Nat.le_of_ble_eq_true rfl) rfl ?_)))
  refine z_sub (lv' := [(0, .ref a0), (1, .int a1), (2, .int a2), (3, .int (0 : Int32)), (4, .int (0 : Int32))]) [2, 3, 4, 1, 0] rfl ?_
  refine z_pc (pc' := 5) rfl ?_
  exact m_X8_number_l5 hW a0 h0 a1 a2 ((0 : Int32), (0 : Int32), w)

theorem m_X8_number {E : ZE} {S : Zs} (hW : zWF S) (w : Zw) (a0 : Nat) (h0 : zObj S a0 8) (a1 : Int32) (a2 : Int32) : ∀ i, f_X8_number S w a0 a1 a2 = some i → zMr E yX8_number cX8_number 5 ((some .int)) 1 0 0 [.ref a0, .int a1, .int a2] S w ((emW eI S) i) :=
  fun i hi => z_enter (by decide +kernel) (Nat.le_of_ble_eq_true rfl) (mw_X8_number hW w a0 h0 a1 a2 i hi)
/-! ParkingRobotModel.takes (I)V : W, depth 1 -/
abbrev i_X8_takes : Zm := (yX8_takes.cls, cX8_takes, 2, none, [], yX8_takes.name)
def f_X8_takes (S : Zs) (w : Zw) (a0 : Nat) (a1 : Int32) : Option (Unit × Zw) :=
  (f_X8_sign S w a0).bind fun v1 => if v1 = a1 then (zlet (zput w a0 25 ((w a0 25) + (1 : Int32))) fun w5 => some ((), w5)) else (zlet (zput w a0 26 (1 : Int32)) fun w4 => some ((), w4))
theorem mw_X8_takes {E : ZE} {S : Zs} (hW : zWF S) (w : Zw) (a0 : Nat) (h0 : zObj S a0 8) (a1 : Int32) : zOk (E, i_X8_takes, 1) 0 0 S w 0 [(0, .ref a0), (1, .int a1)] [] (emW eU S) (f_X8_takes S w a0 a1) := by
  unfold f_X8_takes
  refine z_aload_n 0 dX8_takes_0 rfl ?_
  refine z_bind (fun v1 hb2 => ?_)
  refine z_callV (kc' := 0) (ks' := 0) (v := (some (.int v1))) (S1 := S) (w1 := w) (st := []) [] (m_X8_sign hW w a0 h0 v1 hb2) zc8 h0 zy_X8_sign gw1480 gp61 gw1478 (Nat.le_of_ble_eq_true rfl) (Nat.le_of_ble_eq_true rfl) (Nat.le_of_ble_eq_true rfl) (Nat.le_of_ble_eq_true rfl) (zal hW) rfl dX8_takes_1 (z_at 4 _ [.int v1] rfl rfl rfl ?_)
  refine z_iload_n 1 dX8_takes_4 rfl ?_
  refine z_icmp_ne 21 dX8_takes_5 rfl (fun q3 => ?_) (fun q3 => ?_)
  · refine z_aload_n 0 dX8_takes_21 rfl (z_iconst dX8_takes_22 zi_1 ?_)
    refine z_putI zc8 26 (by decide) (Or.inr ⟨rfl, Or.inr rfl⟩) rfl gw1133 h0 dX8_takes_23 (z_letw (fun w4 => ?_))
    exact z_vret zemW rfl dX8_takes_26
  · refine z_aload_n 0 dX8_takes_8 rfl (z_dup dX8_takes_9 rfl (z_getI zc8 25 (by decide) rfl gw1132 h0 dX8_takes_10 (z_iconst dX8_takes_13 zi_1 (z_iadd dX8_takes_14 ?_))))
    refine z_putI zc8 25 (by decide) (Or.inl rfl) rfl gw1132 h0 dX8_takes_15 (z_letw (fun w5 => ?_))
    refine z_goto 26 dX8_takes_18 rfl ?_
    exact z_vret zemW rfl dX8_takes_26

theorem m_X8_takes {E : ZE} {S : Zs} (hW : zWF S) (w : Zw) (a0 : Nat) (h0 : zObj S a0 8) (a1 : Int32) : ∀ i, f_X8_takes S w a0 a1 = some i → zMr E yX8_takes cX8_takes 2 none 1 0 0 [.ref a0, .int a1] S w ((emW eU S) i) :=
  fun i hi => z_enter (by decide +kernel) (Nat.le_of_ble_eq_true rfl) (mw_X8_takes hW w a0 h0 a1 i hi)
/-! ParkingRobotModel.command ()I : W, depth 2 -/
abbrev i_X8_command : Zm := (yX8_command.cls, cX8_command, 2, (some .int), [], yX8_command.name)
def f_X8_command_j116 (S : Zs) (w : Zw) (x0 : Nat) (x1 : Int32) (y0 : Int32) (y1 : Int32) (y2 : Nat) : Option (Int32 × Zw) :=
  if zin y1 (zlen S y2) = true then zlet (zput w y2 (zix y1) y0) fun w13 => (f_X8_takes S w13 x0 (59 : Int32)).bind fun r14 => some (x1, r14.2) else none
theorem m_X8_command_j116 {E : ZE} {S : Zs} (hW : zWF S) (w : Zw) (x0 : Nat) (hx0 : zObj S x0 8) (x1 : Int32) (y0 : Int32) (y1 : Int32) (y2 : Nat) (hy2 : zArr S y2 0) : zOk (E, i_X8_command, 2) 0 0 S w 116 [(0, .ref x0), (1, .int x1)] [.int y0, .int y1, .ref y2] (emW eI S) (f_X8_command_j116 S w x0 x1 y0 y1 y2) := by
  unfold f_X8_command_j116
  refine z_chk (fun c12 => ?_)
  refine z_iast hy2 c12 dX8_command_116 (z_letw (fun w13 => ?_))
  refine z_aload_n 0 dX8_command_117 rfl (z_bipush dX8_command_118 zb_59 ?_)
  refine z_bind (fun r14 hb15 => ?_)
  refine z_callV (kc' := 0) (ks' := 0) (v := none) (S1 := S) (w1 := r14.2) (st := []) [.int (59 : Int32)] (m_X8_takes hW w13 x0 hx0 (59 : Int32) r14 hb15) zc8 hx0 zy_X8_takes gw1488 gp63 gw1486 (Nat.le_of_ble_eq_true rfl) (Nat.le_of_ble_eq_true rfl) (Nat.le_of_ble_eq_true rfl) (Nat.le_of_ble_eq_true rfl) (zal hW) rfl dX8_command_120 (z_at 123 _ [] rfl rfl rfl ?_)
  refine z_iload_n 1 dX8_command_123 rfl ?_
  exact z_iret zemW rfl dX8_command_124

def f_X8_command_j93 (S : Zs) (w : Zw) (x0 : Nat) (x1 : Int32) : Option (Int32 × Zw) :=
  if (w x0 26) = 0 then (f_X8_number S w x0 (4 : Int32) (57 : Int32)).bind fun r10 => f_X8_command_j116 S r10.2 x0 x1 r10.1 (0 : Int32) ((zr S x0 23))  else f_X8_command_j116 S w x0 x1 (0 : Int32) (0 : Int32) ((zr S x0 23)) 
theorem m_X8_command_j93 {E : ZE} {S : Zs} (hW : zWF S) (w : Zw) (x0 : Nat) (hx0 : zObj S x0 8) (x1 : Int32) : zOk (E, i_X8_command, 2) 0 0 S w 93 [(0, .ref x0), (1, .int x1)] [] (emW eI S) (f_X8_command_j93 S w x0 x1) := by
  unfold f_X8_command_j93
  refine z_aload_n 0 dX8_command_93 rfl (z_getR zc8 23 (by decide) rfl gw1130 hx0 (zW_some hW hx0 23 rfl) dX8_command_94 (z_iconst dX8_command_97 zi_0 (z_aload_n 0 dX8_command_98 rfl (z_getI zc8 26 (by decide) rfl gw1133 hx0 dX8_command_99 ?_))))
  refine z_if_eq 109 dX8_command_102 rfl (fun q9 => ?_) (fun q9 => ?_)
  · refine z_aload_n 0 dX8_command_109 rfl (z_iconst dX8_command_110 zi_4 (z_bipush dX8_command_111 zb_57 ?_))
    refine z_bind (fun r10 hb11 => ?_)
    refine z_callV (kc' := 0) (ks' := 0) (v := (some (.int r10.1))) (S1 := S) (w1 := r10.2) (st := [.int (0 : Int32), .ref (zr S x0 23)]) [.int (4 : Int32), .int (57 : Int32)] (m_X8_number hW w x0 hx0 (4 : Int32) (57 : Int32) r10 hb11) zc8 hx0 zy_X8_number gw1484 gp62 gw1482 (Nat.le_of_ble_eq_true rfl) (Nat.le_of_ble_eq_true rfl) (Nat.le_of_ble_eq_true rfl) (Nat.le_of_ble_eq_true rfl) (zal hW) rfl dX8_command_113 (z_at 116 _ [.int r10.1, .int (0 : Int32), .ref (zr S x0 23)] rfl rfl rfl ?_)
    refine z_pc (pc' := 116) rfl ?_
    exact m_X8_command_j116 hW r10.2 x0 hx0 x1 r10.1 (0 : Int32) ((zr S x0 23)) (zW_arr hW hx0 23 0 rfl) 
  · refine z_iconst dX8_command_105 zi_0 (z_goto 116 dX8_command_106 rfl ?_)
    refine z_pc (pc' := 116) rfl ?_
    exact m_X8_command_j116 hW w x0 hx0 x1 (0 : Int32) (0 : Int32) ((zr S x0 23)) (zW_arr hW hx0 23 0 rfl) 

def f_X8_command_j45 (S : Zs) (w : Zw) (x0 : Nat) (x1 : Int32) (y0 : Int32) (y1 : Int32) (y2 : Nat) : Option (Int32 × Zw) :=
  if zb1 (y1 ||| y0) = true then zlet (zput w y2 26 (y1 ||| y0)) fun w5 => if (w5 x0 26) = 0 then (zlet (zput w5 x0 25 ((w5 x0 25) + (1 : Int32))) fun w7 => if x1 = (115 : Int32) then (f_X8_number S w7 x0 (1 : Int32) (49 : Int32)).bind fun r16 => if zin (1 : Int32) (zlen S (zr S x0 23)) = true then zlet (zput r16.2 (zr S x0 23) (zix (1 : Int32)) r16.1) fun w19 => (f_X8_takes S w19 x0 (44 : Int32)).bind fun r20 => f_X8_command_j93 S r20.2 x0 x1  else none else f_X8_command_j93 S w7 x0 x1 ) else some ((-1 : Int32), w5) else none
theorem m_X8_command_j45 {E : ZE} {S : Zs} (hW : zWF S) (w : Zw) (x0 : Nat) (hx0 : zObj S x0 8) (x1 : Int32) (y0 : Int32) (y1 : Int32) (y2 : Nat) (hy2 : zObj S y2 8) : zOk (E, i_X8_command, 2) 0 0 S w 45 [(0, .ref x0), (1, .int x1)] [.int y0, .int y1, .ref y2] (emW eI S) (f_X8_command_j45 S w x0 x1 y0 y1 y2) := by
  unfold f_X8_command_j45
  refine z_ior dX8_command_45 ?_
  refine z_chk (fun c4 => ?_)
  refine z_putI zc8 26 (by decide) (Or.inr ⟨rfl, zb1_or c4⟩) rfl gw1133 hy2 dX8_command_46 (z_letw (fun w5 => ?_))
  refine z_aload_n 0 dX8_command_49 rfl (z_getI zc8 26 (by decide) rfl gw1133 hx0 dX8_command_50 ?_)
  refine z_if_eq 58 dX8_command_53 rfl (fun q6 => ?_) (fun q6 => ?_)
  · refine z_aload_n 0 dX8_command_58 rfl (z_dup dX8_command_59 rfl (z_getI zc8 25 (by decide) rfl gw1132 hx0 dX8_command_60 (z_iconst dX8_command_63 zi_1 (z_iadd dX8_command_64 ?_))))
    refine z_putI zc8 25 (by decide) (Or.inl rfl) rfl gw1132 hx0 dX8_command_65 (z_letw (fun w7 => ?_))
    refine z_iload_n 1 dX8_command_68 rfl (z_bipush dX8_command_69 zb_115 ?_)
    refine z_icmp_ne 93 dX8_command_71 rfl (fun q8 => ?_) (fun q8 => ?_)
    · refine z_pc (pc' := 93) rfl ?_
      exact m_X8_command_j93 hW w7 x0 hx0 x1 
    · refine z_aload_n 0 dX8_command_74 rfl (z_getR zc8 23 (by decide) rfl gw1130 hx0 (zW_some hW hx0 23 rfl) dX8_command_75 (z_iconst dX8_command_78 zi_1 (z_aload_n 0 dX8_command_79 rfl (z_iconst dX8_command_80 zi_1 (z_bipush dX8_command_81 zb_49 ?_)))))
      refine z_bind (fun r16 hb17 => ?_)
      refine z_callV (kc' := 0) (ks' := 0) (v := (some (.int r16.1))) (S1 := S) (w1 := r16.2) (st := [.int (1 : Int32), .ref (zr S x0 23)]) [.int (1 : Int32), .int (49 : Int32)] (m_X8_number hW w7 x0 hx0 (1 : Int32) (49 : Int32) r16 hb17) zc8 hx0 zy_X8_number gw1484 gp62 gw1482 (Nat.le_of_ble_eq_true rfl) (Nat.le_of_ble_eq_true rfl) (Nat.le_of_ble_eq_true rfl) (Nat.le_of_ble_eq_true rfl) (zal hW) rfl dX8_command_83 (z_at 86 _ [.int r16.1, .int (1 : Int32), .ref (zr S x0 23)] rfl rfl rfl ?_)
      refine z_chk (fun c18 => ?_)
      refine z_iast (zW_arr hW hx0 23 0 rfl) c18 dX8_command_86 (z_letw (fun w19 => ?_))
      refine z_aload_n 0 dX8_command_87 rfl (z_bipush dX8_command_88 zb_44 ?_)
      refine z_bind (fun r20 hb21 => ?_)
      refine z_callV (kc' := 0) (ks' := 0) (v := none) (S1 := S) (w1 := r20.2) (st := []) [.int (44 : Int32)] (m_X8_takes hW w19 x0 hx0 (44 : Int32) r20 hb21) zc8 hx0 zy_X8_takes gw1488 gp63 gw1486 (Nat.le_of_ble_eq_true rfl) (Nat.le_of_ble_eq_true rfl) (Nat.le_of_ble_eq_true rfl) (Nat.le_of_ble_eq_true rfl) (zal hW) rfl dX8_command_90 (z_at 93 _ [] rfl rfl rfl ?_)
      refine z_pc (pc' := 93) rfl ?_
      exact m_X8_command_j93 hW r20.2 x0 hx0 x1 
  · refine z_iconst dX8_command_56 zi_m1 ?_
    exact z_iret zemW rfl dX8_command_57

def f_X8_command_j44 (S : Zs) (w : Zw) (x0 : Nat) (x1 : Int32) (y0 : Int32) (y1 : Nat) : Option (Int32 × Zw) :=
  f_X8_command_j45 S w x0 x1 (0 : Int32) y0 y1 
theorem m_X8_command_j44 {E : ZE} {S : Zs} (hW : zWF S) (w : Zw) (x0 : Nat) (hx0 : zObj S x0 8) (x1 : Int32) (y0 : Int32) (y1 : Nat) (hy1 : zObj S y1 8) : zOk (E, i_X8_command, 2) 0 0 S w 44 [(0, .ref x0), (1, .int x1)] [.int y0, .ref y1] (emW eI S) (f_X8_command_j44 S w x0 x1 y0 y1) := by
  unfold f_X8_command_j44
  refine z_iconst dX8_command_44 zi_0 ?_
  refine z_pc (pc' := 45) rfl ?_
  exact m_X8_command_j45 hW w x0 hx0 x1 (0 : Int32) y0 y1 hy1 

def f_X8_command (S : Zs) (w : Zw) (a0 : Nat) : Option (Int32 × Zw) :=
  (f_X8_sign S w a0).bind fun v1 => if v1 = (115 : Int32) then f_X8_command_j44 S w a0 v1 ((w a0 26)) a0  else if v1 = (114 : Int32) then f_X8_command_j44 S w a0 v1 ((w a0 26)) a0  else if v1 = (116 : Int32) then f_X8_command_j44 S w a0 v1 ((w a0 26)) a0  else if v1 = (99 : Int32) then f_X8_command_j44 S w a0 v1 ((w a0 26)) a0  else if v1 = (111 : Int32) then f_X8_command_j44 S w a0 v1 ((w a0 26)) a0  else f_X8_command_j45 S w a0 v1 (1 : Int32) ((w a0 26)) a0 
theorem mw_X8_command {E : ZE} {S : Zs} (hW : zWF S) (w : Zw) (a0 : Nat) (h0 : zObj S a0 8) : zOk (E, i_X8_command, 2) 0 0 S w 0 [(0, .ref a0)] [] (emW eI S) (f_X8_command S w a0) := by
  unfold f_X8_command
  refine z_aload_n 0 dX8_command_0 rfl ?_
  refine z_bind (fun v1 hb2 => ?_)
  refine z_callV (kc' := 0) (ks' := 0) (v := (some (.int v1))) (S1 := S) (w1 := w) (st := []) [] (m_X8_sign hW w a0 h0 v1 hb2) zc8 h0 zy_X8_sign gw1480 gp61 gw1478 (Nat.le_of_ble_eq_true rfl) (Nat.le_of_ble_eq_true rfl) (Nat.le_of_ble_eq_true rfl) (Nat.le_of_ble_eq_true rfl) (zal hW) rfl dX8_command_1 (z_at 4 _ [.int v1] rfl rfl rfl ?_)
  refine z_istore_n (lv' := [(1, .int v1), (0, .ref a0)]) dX8_command_4 (Nat.le_of_ble_eq_true rfl) rfl (z_aload_n 1 dX8_command_5 rfl (z_dup dX8_command_6 rfl (z_getI zc8 26 (by decide) rfl gw1133 h0 dX8_command_7 (z_iload_n 0 dX8_command_10 rfl (z_bipush dX8_command_11 zb_115 ?_)))))
  refine z_icmp_eq 44 dX8_command_13 rfl (fun q3 => ?_) (fun q3 => ?_)
  · refine z_sub (lv' := [(0, .ref a0), (1, .int v1)]) [1, 0] rfl ?_
    refine z_pc (pc' := 44) rfl ?_
    exact m_X8_command_j44 hW w a0 h0 v1 ((w a0 26)) a0 h0 
  · refine z_iload_n 0 dX8_command_16 rfl (z_bipush dX8_command_17 zb_114 ?_)
    refine z_icmp_eq 44 dX8_command_19 rfl (fun q22 => ?_) (fun q22 => ?_)
    · refine z_sub (lv' := [(0, .ref a0), (1, .int v1)]) [1, 0] rfl ?_
      refine z_pc (pc' := 44) rfl ?_
      exact m_X8_command_j44 hW w a0 h0 v1 ((w a0 26)) a0 h0 
    · refine z_iload_n 0 dX8_command_22 rfl (z_bipush dX8_command_23 zb_116 ?_)
      refine z_icmp_eq 44 dX8_command_25 rfl (fun q23 => ?_) (fun q23 => ?_)
      · refine z_sub (lv' := [(0, .ref a0), (1, .int v1)]) [1, 0] rfl ?_
        refine z_pc (pc' := 44) rfl ?_
        exact m_X8_command_j44 hW w a0 h0 v1 ((w a0 26)) a0 h0 
      · refine z_iload_n 0 dX8_command_28 rfl (z_bipush dX8_command_29 zb_99 ?_)
        refine z_icmp_eq 44 dX8_command_31 rfl (fun q24 => ?_) (fun q24 => ?_)
        · refine z_sub (lv' := [(0, .ref a0), (1, .int v1)]) [1, 0] rfl ?_
          refine z_pc (pc' := 44) rfl ?_
          exact m_X8_command_j44 hW w a0 h0 v1 ((w a0 26)) a0 h0 
        · refine z_iload_n 0 dX8_command_34 rfl (z_bipush dX8_command_35 zb_111 ?_)
          refine z_icmp_eq 44 dX8_command_37 rfl (fun q25 => ?_) (fun q25 => ?_)
          · refine z_sub (lv' := [(0, .ref a0), (1, .int v1)]) [1, 0] rfl ?_
            refine z_pc (pc' := 44) rfl ?_
            exact m_X8_command_j44 hW w a0 h0 v1 ((w a0 26)) a0 h0 
          · refine z_iconst dX8_command_40 zi_1 (z_goto 45 dX8_command_41 rfl ?_)
            refine z_sub (lv' := [(0, .ref a0), (1, .int v1)]) [1, 0] rfl ?_
            refine z_pc (pc' := 45) rfl ?_
            exact m_X8_command_j45 hW w a0 h0 v1 (1 : Int32) ((w a0 26)) a0 h0 

theorem m_X8_command {E : ZE} {S : Zs} (hW : zWF S) (w : Zw) (a0 : Nat) (h0 : zObj S a0 8) : ∀ i, f_X8_command S w a0 = some i → zMr E yX8_command cX8_command 2 ((some .int)) 2 0 0 [.ref a0] S w ((emW eI S) i) :=
  fun i hi => z_enter (by decide +kernel) (Nat.le_of_ble_eq_true rfl) (mw_X8_command hW w a0 h0 i hi)
/-! ParkingRobotModel.due (I)J : W, depth 3 -/
abbrev i_X8_due : Zm := (yX8_due.cls, cX8_due, 5, (some .long), [], yX8_due.name)
def f_X8_due_b24 (S : Zs) (w : Zw) (x0 : Nat) (x1 : Int32) (k : (Int64 × Int32) → Option (Int64 × Zw)) (x2 : Int64) (x4 : Int32) : Option (Int64 × Zw) :=
  if zin (1 : Int32) (zlen S (zr S x0 1)) = true then if (w (zr S x0 1) (zix (1 : Int32))) ≤ x4 then some (x2, w) else (f_X8_isCar S w x0 x4).bind fun v7 => if v7 = 0 then (zlet (x2 ||| (0 : Int64)) fun z10 => k (z10, (x4 + (1 : Int32)))) else (f_X8_pickup S w x0 x4).bind fun v11 => if x1 < v11 then (zlet (x2 ||| (0 : Int64)) fun z14 => k (z14, (x4 + (1 : Int32)))) else (zlet (x2 ||| (zlshl (1 : Int64) x4)) fun z15 => k (z15, (x4 + (1 : Int32)))) else none
def f_X8_due_l24 (S : Zs) (w : Zw) (x0 : Nat) (x1 : Int32) (a : Int64 × Int32) : Option (Int64 × Zw) :=
  zlp (fun k a => f_X8_due_b24 S w x0 x1 k a.1 a.2) zFU a
theorem m_X8_due_l24 {E : ZE} {S : Zs} (hW : zWF S) (w : Zw) (x0 : Nat) (hx0 : zObj S x0 8) (x1 : Int32) : ∀ a : Int64 × Int32, zOk (E, i_X8_due, 3) 0 0 S w 24 [(0, .ref x0), (1, .int x1), (2, .long a.1), (4, .int a.2)] [] (emW eL S) (f_X8_due_l24 S w x0 x1 a) := by
  intro a
  refine z_lp (P := fun _ => True) (W9 := fun a : Int64 × Int32 => w) (L9 := fun a : Int64 × Int32 => [(0, .ref x0), (1, .int x1), (2, .long a.1), (4, .int a.2)]) (T9 := fun _ => []) (fun k hk9 a _ => ?_) zFU a trivial
  have hk : ∀ a : Int64 × Int32, zOk (E, i_X8_due, 3) 0 0 S w 24 [(0, .ref x0), (1, .int x1), (2, .long a.1), (4, .int a.2)] [] (emW eL S) (k a) := fun a => hk9 a trivial
  clear hk9
  obtain ⟨x2, x4⟩ := a
  show zOk (E, i_X8_due, 3) 0 0 S w 24 [(0, .ref x0), (1, .int x1), (2, .long x2), (4, .int x4)] [] (emW eL S) (f_X8_due_b24 S w x0 x1 k x2 x4)
  unfold f_X8_due_b24
  refine z_iload 3 dX8_due_24 rfl (z_aload_n 0 dX8_due_26 rfl (z_getR zc8 1 (by decide) rfl gw1108 hx0 (zW_some hW hx0 1 rfl) dX8_due_27 (z_iconst dX8_due_30 zi_1 ?_)))
  refine z_chk (fun c5 => ?_)
  refine z_iald (zW_arr hW hx0 1 0 rfl) c5 dX8_due_31 ?_
  refine z_icmp_ge 71 dX8_due_32 rfl (fun q6 => ?_) (fun q6 => ?_)
  · refine z_lload_n 2 dX8_due_71 rfl ?_
    exact z_lret zemW rfl dX8_due_72
  · refine z_lload_n 2 dX8_due_35 rfl (z_aload_n 0 dX8_due_36 rfl (z_iload 3 dX8_due_37 rfl ?_))
    refine z_bind (fun v7 hb8 => ?_)
    refine z_callV (kc' := 0) (ks' := 0) (v := (some (.int v7))) (S1 := S) (w1 := w) (st := [.long x2]) [.int x4] (m_X8_isCar hW w x0 hx0 x4 v7 hb8) zc8 hx0 zy_X8_isCar gw1301 gp42 gw1299 (Nat.le_of_ble_eq_true rfl) (Nat.le_of_ble_eq_true rfl) (Nat.le_of_ble_eq_true rfl) (Nat.le_of_ble_eq_true rfl) (zal hW) rfl dX8_due_39 (z_at 42 _ [.int v7, .long x2] rfl rfl rfl ?_)
    refine z_if_eq 62 dX8_due_42 rfl (fun q9 => ?_) (fun q9 => ?_)
    · refine z_lconst dX8_due_62 zl_0 (z_lor dX8_due_63 ?_)
      refine z_let (a := (x2 ||| (0 : Int64))) (fun z10 => [(0, .ref x0), (1, .int x1), (2, .long x2), (4, .int x4)]) (fun z10 => .long z10 :: []) (fun z10 => ?_)
      refine z_lstore_n (lv' := [(2, .long z10), (0, .ref x0), (1, .int x1), (4, .int x4)]) dX8_due_64 (Nat.le_of_ble_eq_true rfl) rfl (z_iinc (v := (x4 + (1 : Int32))) (lv' := [(4, .int (x4 + (1 : Int32))), (2, .long z10), (0, .ref x0), (1, .int x1)]) 3 dX8_due_65 rfl (zi_inc _ zi_1) (Nat.le_of_ble_eq_true rfl) rfl (z_goto 24 dX8_due_68 rfl ?_))
      refine z_sub (lv' := [(0, .ref x0), (1, .int x1), (2, .long z10), (4, .int (x4 + (1 : Int32)))]) [2, 3, 1, 0] rfl ?_
      refine z_pc (pc' := 24) rfl ?_
      exact hk (z10, (x4 + (1 : Int32)))
    · refine z_aload_n 0 dX8_due_45 rfl (z_iload 3 dX8_due_46 rfl ?_)
      refine z_bind (fun v11 hb12 => ?_)
      refine z_callV (kc' := 0) (ks' := 0) (v := (some (.int v11))) (S1 := S) (w1 := w) (st := [.long x2]) [.int x4] (m_X8_pickup hW w x0 hx0 x4 v11 hb12) zc8 hx0 zy_X8_pickup gw1251 gp32 gw1249 (Nat.le_of_ble_eq_true rfl) (Nat.le_of_ble_eq_true rfl) (Nat.le_of_ble_eq_true rfl) (Nat.le_of_ble_eq_true rfl) (zal hW) rfl dX8_due_48 (z_at 51 _ [.int v11, .long x2] rfl rfl rfl ?_)
      refine z_iload_n 1 dX8_due_51 rfl ?_
      refine z_icmp_gt 62 dX8_due_52 rfl (fun q13 => ?_) (fun q13 => ?_)
      · refine z_lconst dX8_due_62 zl_0 (z_lor dX8_due_63 ?_)
        refine z_let (a := (x2 ||| (0 : Int64))) (fun z14 => [(0, .ref x0), (1, .int x1), (2, .long x2), (4, .int x4)]) (fun z14 => .long z14 :: []) (fun z14 => ?_)
        refine z_lstore_n (lv' := [(2, .long z14), (0, .ref x0), (1, .int x1), (4, .int x4)]) dX8_due_64 (Nat.le_of_ble_eq_true rfl) rfl (z_iinc (v := (x4 + (1 : Int32))) (lv' := [(4, .int (x4 + (1 : Int32))), (2, .long z14), (0, .ref x0), (1, .int x1)]) 3 dX8_due_65 rfl (zi_inc _ zi_1) (Nat.le_of_ble_eq_true rfl) rfl (z_goto 24 dX8_due_68 rfl ?_))
        refine z_sub (lv' := [(0, .ref x0), (1, .int x1), (2, .long z14), (4, .int (x4 + (1 : Int32)))]) [2, 3, 1, 0] rfl ?_
        refine z_pc (pc' := 24) rfl ?_
        exact hk (z14, (x4 + (1 : Int32)))
      · refine z_lconst dX8_due_55 zl_1 (z_iload 3 dX8_due_56 rfl (z_lshl (v := (zlshl (1 : Int64) x4)) dX8_due_58 rfl (z_goto 63 dX8_due_59 rfl (z_lor dX8_due_63 ?_))))
        refine z_let (a := (x2 ||| (zlshl (1 : Int64) x4))) (fun z15 => [(0, .ref x0), (1, .int x1), (2, .long x2), (4, .int x4)]) (fun z15 => .long z15 :: []) (fun z15 => ?_)
        refine z_lstore_n (lv' := [(2, .long z15), (0, .ref x0), (1, .int x1), (4, .int x4)]) dX8_due_64 (Nat.le_of_ble_eq_true rfl) rfl (z_iinc (v := (x4 + (1 : Int32))) (lv' := [(4, .int (x4 + (1 : Int32))), (2, .long z15), (0, .ref x0), (1, .int x1)]) 3 dX8_due_65 rfl (zi_inc _ zi_1) (Nat.le_of_ble_eq_true rfl) rfl (z_goto 24 dX8_due_68 rfl ?_))
        refine z_sub (lv' := [(0, .ref x0), (1, .int x1), (2, .long z15), (4, .int (x4 + (1 : Int32)))]) [2, 3, 1, 0] rfl ?_
        refine z_pc (pc' := 24) rfl ?_
        exact hk (z15, (x4 + (1 : Int32)))

def f_X8_due (S : Zs) (w : Zw) (a0 : Nat) (a1 : Int32) : Option (Int64 × Zw) :=
  zlet (zput w a0 0 (0 : Int32)) fun w1 => (f_X8_isPickup a1).bind fun v2 => if v2 = 0 then (f_X8_fails S w1 a0 (1 : Int32)).bind fun r16 => some ((r16.1).toInt64, r16.2) else f_X8_due_l24 S w1 a0 a1 ((0 : Int64), (0 : Int32))
theorem mw_X8_due {E : ZE} {S : Zs} (hW : zWF S) (w : Zw) (a0 : Nat) (h0 : zObj S a0 8) (a1 : Int32) : zOk (E, i_X8_due, 3) 0 0 S w 0 [(0, .ref a0), (1, .int a1)] [] (emW eL S) (f_X8_due S w a0 a1) := by
  unfold f_X8_due
  refine z_aload_n 0 dX8_due_0 rfl (z_iconst dX8_due_1 zi_0 ?_)
  refine z_putI zc8 0 (by decide) (Or.inl rfl) rfl gw1107 h0 dX8_due_2 (z_letw (fun w1 => ?_))
  refine z_iload_n 1 dX8_due_5 rfl ?_
  refine z_bind (fun v2 hb3 => ?_)
  refine z_callS (kc' := 0) (ks' := 0) (v := (some (.int v2))) (S1 := S) (w1 := w1) (st := []) [.int a1] (m_X8_isPickup hW w1 a1 v2 hb3) zy_X8_isPickup gw1211 gw1210 (Nat.le_of_ble_eq_true rfl) (Nat.le_of_ble_eq_true rfl) (Nat.le_of_ble_eq_true rfl) (Nat.le_of_ble_eq_true rfl) (zal hW) rfl dX8_due_6 (z_at 9 _ [.int v2] rfl rfl rfl ?_)
  refine z_if_ne 19 dX8_due_9 rfl (fun q4 => ?_) (fun q4 => ?_)
  · refine z_lconst dX8_due_19 zl_0 (z_lstore_n (lv' := [(2, .long (0 : Int64)), (0, .ref a0), (1, .int a1)]) dX8_due_20 (Nat.le_of_ble_eq_true rfl) rfl (z_iconst dX8_due_21 zi_0 (z_istore (lv' := [(4, .int (0 : Int32)), (2, .long (0 : Int64)), (0, .ref a0), (1, .int a1)]) dX8_due_22 (Nat.le_of_ble_eq_true rfl) rfl ?_)))
    refine z_sub (lv' := [(0, .ref a0), (1, .int a1), (2, .long (0 : Int64)), (4, .int (0 : Int32))]) [2, 3, 1, 0] rfl ?_
    refine z_pc (pc' := 24) rfl ?_
    exact m_X8_due_l24 hW w1 a0 h0 a1 ((0 : Int64), (0 : Int32))
  · refine z_aload_n 0 dX8_due_12 rfl (z_iconst dX8_due_13 zi_1 ?_)
    refine z_bind (fun r16 hb17 => ?_)
    refine z_callV (kc' := 0) (ks' := 0) (v := (some (.int r16.1))) (S1 := S) (w1 := r16.2) (st := []) [.int (1 : Int32)] (m_X8_fails hW w1 a0 h0 (1 : Int32) r16 hb17) zc8 h0 zy_X8_fails gw1215 gp27 gw1213 (Nat.le_of_ble_eq_true rfl) (Nat.le_of_ble_eq_true rfl) (Nat.le_of_ble_eq_true rfl) (Nat.le_of_ble_eq_true rfl) (zal hW) rfl dX8_due_14 (z_at 17 _ [.int r16.1] rfl rfl rfl ?_)
    refine z_i2l (v := (r16.1).toInt64) dX8_due_17 rfl ?_
    exact z_lret zemW rfl dX8_due_18

theorem m_X8_due {E : ZE} {S : Zs} (hW : zWF S) (w : Zw) (a0 : Nat) (h0 : zObj S a0 8) (a1 : Int32) : ∀ i, f_X8_due S w a0 a1 = some i → zMr E yX8_due cX8_due 5 ((some .long)) 3 0 0 [.ref a0, .int a1] S w ((emW eL S) i) :=
  fun i hi => z_enter (by decide +kernel) (Nat.le_of_ble_eq_true rfl) (mw_X8_due hW w a0 h0 a1 i hi)
/-! ParkingRobotModel.feed (C)I : W, depth 1 -/
abbrev i_X8_feed : Zm := (yX8_feed.cls, cX8_feed, 2, (some .int), [], yX8_feed.name)
def f_X8_feed (S : Zs) (w : Zw) (a0 : Nat) (a1 : Int32) : Option (Int32 × Zw) :=
  zlet (zput w a0 0 (0 : Int32)) fun w1 => if (w1 a0 24) = (60 : Int32) then (f_X8_fails S w1 a0 (1 : Int32)).bind fun r6 => some (r6.1, r6.2) else if zin (w1 a0 24) (zlen S (zr S a0 22)) = true then zlet (zput w1 (zr S a0 22) (zix (w1 a0 24)) a1) fun w4 => zlet (zput w4 a0 24 ((w4 a0 24) + (1 : Int32))) fun w5 => some ((w5 a0 24), w5) else none
theorem mw_X8_feed {E : ZE} {S : Zs} (hW : zWF S) (w : Zw) (a0 : Nat) (h0 : zObj S a0 8) (a1 : Int32) : zOk (E, i_X8_feed, 1) 0 0 S w 0 [(0, .ref a0), (1, .int a1)] [] (emW eI S) (f_X8_feed S w a0 a1) := by
  unfold f_X8_feed
  refine z_aload_n 0 dX8_feed_0 rfl (z_iconst dX8_feed_1 zi_0 ?_)
  refine z_putI zc8 0 (by decide) (Or.inl rfl) rfl gw1107 h0 dX8_feed_2 (z_letw (fun w1 => ?_))
  refine z_aload_n 0 dX8_feed_5 rfl (z_getI zc8 24 (by decide) rfl gw1131 h0 dX8_feed_6 (z_bipush dX8_feed_9 zb_60 ?_))
  refine z_icmp_ne 20 dX8_feed_11 rfl (fun q2 => ?_) (fun q2 => ?_)
  · refine z_aload_n 0 dX8_feed_20 rfl (z_getR zc8 22 (by decide) rfl gw1129 h0 (zW_some hW h0 22 rfl) dX8_feed_21 (z_aload_n 0 dX8_feed_24 rfl (z_getI zc8 24 (by decide) rfl gw1131 h0 dX8_feed_25 (z_iload_n 1 dX8_feed_28 rfl ?_))))
    refine z_chk (fun c3 => ?_)
    refine z_iast (zW_arr hW h0 22 0 rfl) c3 dX8_feed_29 (z_letw (fun w4 => ?_))
    refine z_aload_n 0 dX8_feed_30 rfl (z_dup dX8_feed_31 rfl (z_getI zc8 24 (by decide) rfl gw1131 h0 dX8_feed_32 (z_iconst dX8_feed_35 zi_1 (z_iadd dX8_feed_36 ?_))))
    refine z_putI zc8 24 (by decide) (Or.inl rfl) rfl gw1131 h0 dX8_feed_37 (z_letw (fun w5 => ?_))
    refine z_aload_n 0 dX8_feed_40 rfl (z_getI zc8 24 (by decide) rfl gw1131 h0 dX8_feed_41 ?_)
    exact z_iret zemW rfl dX8_feed_44
  · refine z_aload_n 0 dX8_feed_14 rfl (z_iconst dX8_feed_15 zi_1 ?_)
    refine z_bind (fun r6 hb7 => ?_)
    refine z_callV (kc' := 0) (ks' := 0) (v := (some (.int r6.1))) (S1 := S) (w1 := r6.2) (st := []) [.int (1 : Int32)] (m_X8_fails hW w1 a0 h0 (1 : Int32) r6 hb7) zc8 h0 zy_X8_fails gw1215 gp27 gw1213 (Nat.le_of_ble_eq_true rfl) (Nat.le_of_ble_eq_true rfl) (Nat.le_of_ble_eq_true rfl) (Nat.le_of_ble_eq_true rfl) (zal hW) rfl dX8_feed_16 (z_at 19 _ [.int r6.1] rfl rfl rfl ?_)
    exact z_iret zemW rfl dX8_feed_19

theorem m_X8_feed {E : ZE} {S : Zs} (hW : zWF S) (w : Zw) (a0 : Nat) (h0 : zObj S a0 8) (a1 : Int32) : ∀ i, f_X8_feed S w a0 a1 = some i → zMr E yX8_feed cX8_feed 2 ((some .int)) 1 0 0 [.ref a0, .int a1] S w ((emW eI S) i) :=
  fun i hi => z_enter (by decide +kernel) (Nat.le_of_ble_eq_true rfl) (mw_X8_feed hW w a0 h0 a1 i hi)
/-! ParkingRobotModel.isAhead (II)Z : P, depth 2 -/
abbrev i_X8_isAhead : Zm := (yX8_isAhead.cls, cX8_isAhead, 5, (some .boolean), [], yX8_isAhead.name)
def f_X8_isAhead (S : Zs) (w : Zw) (a0 : Nat) (a1 : Int32) (a2 : Int32) : Option (Int32) :=
  if zin ((79 : Int32) + a1) (zlen S (zr S a0 1)) = true then zlet (w (zr S a0 1) (zix ((79 : Int32) + a1))) fun z2 => if zin ((79 : Int32) + a2) (zlen S (zr S a0 1)) = true then zlet (w (zr S a0 1) (zix ((79 : Int32) + a2))) fun z4 => (f_X8_pickup S w a0 z2).bind fun v5 => (f_X8_pickup S w a0 z4).bind fun v7 => if v5 = v7 then (if z4 ≤ z2 then some (0 : Int32) else some (1 : Int32)) else (f_X8_pickup S w a0 z2).bind fun v11 => (f_X8_pickup S w a0 z4).bind fun v13 => if v13 ≤ v11 then some (0 : Int32) else some (1 : Int32) else none else none
theorem mw_X8_isAhead {E : ZE} {S : Zs} (hW : zWF S) (w : Zw) (a0 : Nat) (h0 : zObj S a0 8) (a1 : Int32) (a2 : Int32) : zOk (E, i_X8_isAhead, 2) 0 0 S w 0 [(0, .ref a0), (1, .int a1), (2, .int a2)] [] (emP eI S w) (f_X8_isAhead S w a0 a1 a2) := by
  unfold f_X8_isAhead
  refine z_aload_n 0 dX8_isAhead_0 rfl (z_getR zc8 1 (by decide) rfl gw1108 h0 (zW_some hW h0 1 rfl) dX8_isAhead_1 (z_bipush dX8_isAhead_4 zb_79 (z_iload_n 1 dX8_isAhead_6 rfl (z_iadd dX8_isAhead_7 ?_))))
  refine z_chk (fun c1 => ?_)
  refine z_iald (zW_arr hW h0 1 0 rfl) c1 dX8_isAhead_8 ?_
  refine z_let (a := (w (zr S a0 1) (zix ((79 : Int32) + a1)))) (fun z2 => [(0, .ref a0), (1, .int a1), (2, .int a2)]) (fun z2 => .int z2 :: []) (fun z2 => ?_)
  refine z_istore_n (lv' := [(3, .int z2), (0, .ref a0), (1, .int a1), (2, .int a2)]) dX8_isAhead_9 (Nat.le_of_ble_eq_true rfl) rfl (z_aload_n 1 dX8_isAhead_10 rfl (z_getR zc8 1 (by decide) rfl gw1108 h0 (zW_some hW h0 1 rfl) dX8_isAhead_11 (z_bipush dX8_isAhead_14 zb_79 (z_iload_n 3 dX8_isAhead_16 rfl (z_iadd dX8_isAhead_17 ?_)))))
  refine z_chk (fun c3 => ?_)
  refine z_iald (zW_arr hW h0 1 0 rfl) c3 dX8_isAhead_18 ?_
  refine z_let (a := (w (zr S a0 1) (zix ((79 : Int32) + a2)))) (fun z4 => [(3, .int z2), (0, .ref a0), (1, .int a1), (2, .int a2)]) (fun z4 => .int z4 :: []) (fun z4 => ?_)
  refine z_istore (lv' := [(4, .int z4), (3, .int z2), (0, .ref a0), (1, .int a1), (2, .int a2)]) dX8_isAhead_19 (Nat.le_of_ble_eq_true rfl) rfl (z_aload_n 2 dX8_isAhead_21 rfl (z_iload_n 1 dX8_isAhead_22 rfl ?_))
  refine z_bind (fun v5 hb6 => ?_)
  refine z_callV (kc' := 0) (ks' := 0) (v := (some (.int v5))) (S1 := S) (w1 := w) (st := []) [.int z2] (m_X8_pickup hW w a0 h0 z2 v5 hb6) zc8 h0 zy_X8_pickup gw1251 gp32 gw1249 (Nat.le_of_ble_eq_true rfl) (Nat.le_of_ble_eq_true rfl) (Nat.le_of_ble_eq_true rfl) (Nat.le_of_ble_eq_true rfl) (zal hW) rfl dX8_isAhead_23 (z_at 26 _ [.int v5] rfl rfl rfl ?_)
  refine z_aload_n 2 dX8_isAhead_26 rfl (z_iload 0 dX8_isAhead_27 rfl ?_)
  refine z_bind (fun v7 hb8 => ?_)
  refine z_callV (kc' := 0) (ks' := 0) (v := (some (.int v7))) (S1 := S) (w1 := w) (st := [.int v5]) [.int z4] (m_X8_pickup hW w a0 h0 z4 v7 hb8) zc8 h0 zy_X8_pickup gw1251 gp32 gw1249 (Nat.le_of_ble_eq_true rfl) (Nat.le_of_ble_eq_true rfl) (Nat.le_of_ble_eq_true rfl) (Nat.le_of_ble_eq_true rfl) (zal hW) rfl dX8_isAhead_29 (z_at 32 _ [.int v7, .int v5] rfl rfl rfl ?_)
  refine z_icmp_eq 57 dX8_isAhead_32 rfl (fun q9 => ?_) (fun q9 => ?_)
  · refine z_iload_n 1 dX8_isAhead_57 rfl (z_iload 0 dX8_isAhead_58 rfl ?_)
    refine z_icmp_ge 67 dX8_isAhead_60 rfl (fun q10 => ?_) (fun q10 => ?_)
    · refine z_iconst dX8_isAhead_67 zi_0 ?_
      exact z_zret zemP rfl rfl dX8_isAhead_68
    · refine z_iconst dX8_isAhead_63 zi_1 (z_goto 68 dX8_isAhead_64 rfl ?_)
      exact z_zret zemP rfl rfl dX8_isAhead_68
  · refine z_aload_n 2 dX8_isAhead_35 rfl (z_iload_n 1 dX8_isAhead_36 rfl ?_)
    refine z_bind (fun v11 hb12 => ?_)
    refine z_callV (kc' := 0) (ks' := 0) (v := (some (.int v11))) (S1 := S) (w1 := w) (st := []) [.int z2] (m_X8_pickup hW w a0 h0 z2 v11 hb12) zc8 h0 zy_X8_pickup gw1251 gp32 gw1249 (Nat.le_of_ble_eq_true rfl) (Nat.le_of_ble_eq_true rfl) (Nat.le_of_ble_eq_true rfl) (Nat.le_of_ble_eq_true rfl) (zal hW) rfl dX8_isAhead_37 (z_at 40 _ [.int v11] rfl rfl rfl ?_)
    refine z_aload_n 2 dX8_isAhead_40 rfl (z_iload 0 dX8_isAhead_41 rfl ?_)
    refine z_bind (fun v13 hb14 => ?_)
    refine z_callV (kc' := 0) (ks' := 0) (v := (some (.int v13))) (S1 := S) (w1 := w) (st := [.int v11]) [.int z4] (m_X8_pickup hW w a0 h0 z4 v13 hb14) zc8 h0 zy_X8_pickup gw1251 gp32 gw1249 (Nat.le_of_ble_eq_true rfl) (Nat.le_of_ble_eq_true rfl) (Nat.le_of_ble_eq_true rfl) (Nat.le_of_ble_eq_true rfl) (zal hW) rfl dX8_isAhead_43 (z_at 46 _ [.int v13, .int v11] rfl rfl rfl ?_)
    refine z_icmp_ge 53 dX8_isAhead_46 rfl (fun q15 => ?_) (fun q15 => ?_)
    · refine z_iconst dX8_isAhead_53 zi_0 (z_goto 68 dX8_isAhead_54 rfl ?_)
      exact z_zret zemP rfl rfl dX8_isAhead_68
    · refine z_iconst dX8_isAhead_49 zi_1 (z_goto 68 dX8_isAhead_50 rfl ?_)
      exact z_zret zemP rfl rfl dX8_isAhead_68

theorem m_X8_isAhead {E : ZE} {S : Zs} (hW : zWF S) (w : Zw) (a0 : Nat) (h0 : zObj S a0 8) (a1 : Int32) (a2 : Int32) : ∀ i, f_X8_isAhead S w a0 a1 a2 = some i → zMr E yX8_isAhead cX8_isAhead 5 ((some .boolean)) 2 0 0 [.ref a0, .int a1, .int a2] S w ((emP eI S w) i) :=
  fun i hi => z_enter (by decide +kernel) (Nat.le_of_ble_eq_true rfl) (mw_X8_isAhead hW w a0 h0 a1 a2 i hi)
/-! ParkingRobotModel.isWrong (I)Z : P, depth 2 -/
abbrev i_X8_isWrong : Zm := (yX8_isWrong.cls, cX8_isWrong, 2, (some .boolean), [], yX8_isWrong.name)
def f_X8_isWrong (S : Zs) (w : Zw) (a0 : Nat) (a1 : Int32) : Option (Int32) :=
  (f_X8_isEmpty S w a0 a1).bind fun v1 => if v1 = 0 then (f_X8_isEmpty S w a0 (a1 - (1 : Int32))).bind fun v4 => if v4 = 0 then (if zin ((79 : Int32) + a1) (zlen S (zr S a0 1)) = true then (f_X8_pickup S w a0 (w (zr S a0 1) (zix ((79 : Int32) + a1)))).bind fun v8 => if zin (((79 : Int32) + a1) - (1 : Int32)) (zlen S (zr S a0 1)) = true then (f_X8_pickup S w a0 (w (zr S a0 1) (zix (((79 : Int32) + a1) - (1 : Int32))))).bind fun v11 => if v11 ≤ v8 then some (0 : Int32) else some (1 : Int32) else none else none) else some (0 : Int32) else some (0 : Int32)
theorem mw_X8_isWrong {E : ZE} {S : Zs} (hW : zWF S) (w : Zw) (a0 : Nat) (h0 : zObj S a0 8) (a1 : Int32) : zOk (E, i_X8_isWrong, 2) 0 0 S w 0 [(0, .ref a0), (1, .int a1)] [] (emP eI S w) (f_X8_isWrong S w a0 a1) := by
  unfold f_X8_isWrong
  refine z_aload_n 0 dX8_isWrong_0 rfl (z_iload_n 1 dX8_isWrong_1 rfl ?_)
  refine z_bind (fun v1 hb2 => ?_)
  refine z_callV (kc' := 0) (ks' := 0) (v := (some (.int v1))) (S1 := S) (w1 := w) (st := []) [.int a1] (m_X8_isEmpty hW w a0 h0 a1 v1 hb2) zc8 h0 zy_X8_isEmpty gw1223 gp29 gw1221 (Nat.le_of_ble_eq_true rfl) (Nat.le_of_ble_eq_true rfl) (Nat.le_of_ble_eq_true rfl) (Nat.le_of_ble_eq_true rfl) (zal hW) rfl dX8_isWrong_2 (z_at 5 _ [.int v1] rfl rfl rfl ?_)
  refine z_if_ne 53 dX8_isWrong_5 rfl (fun q3 => ?_) (fun q3 => ?_)
  · refine z_iconst dX8_isWrong_53 zi_0 ?_
    exact z_zret zemP rfl rfl dX8_isWrong_54
  · refine z_aload_n 0 dX8_isWrong_8 rfl (z_iload_n 1 dX8_isWrong_9 rfl (z_iconst dX8_isWrong_10 zi_1 (z_isub dX8_isWrong_11 ?_)))
    refine z_bind (fun v4 hb5 => ?_)
    refine z_callV (kc' := 0) (ks' := 0) (v := (some (.int v4))) (S1 := S) (w1 := w) (st := []) [.int (a1 - (1 : Int32))] (m_X8_isEmpty hW w a0 h0 (a1 - (1 : Int32)) v4 hb5) zc8 h0 zy_X8_isEmpty gw1223 gp29 gw1221 (Nat.le_of_ble_eq_true rfl) (Nat.le_of_ble_eq_true rfl) (Nat.le_of_ble_eq_true rfl) (Nat.le_of_ble_eq_true rfl) (zal hW) rfl dX8_isWrong_12 (z_at 15 _ [.int v4] rfl rfl rfl ?_)
    refine z_if_ne 53 dX8_isWrong_15 rfl (fun q6 => ?_) (fun q6 => ?_)
    · refine z_iconst dX8_isWrong_53 zi_0 ?_
      exact z_zret zemP rfl rfl dX8_isWrong_54
    · refine z_aload_n 0 dX8_isWrong_18 rfl (z_aload_n 0 dX8_isWrong_19 rfl (z_getR zc8 1 (by decide) rfl gw1108 h0 (zW_some hW h0 1 rfl) dX8_isWrong_20 (z_bipush dX8_isWrong_23 zb_79 (z_iload_n 1 dX8_isWrong_25 rfl (z_iadd dX8_isWrong_26 ?_)))))
      refine z_chk (fun c7 => ?_)
      refine z_iald (zW_arr hW h0 1 0 rfl) c7 dX8_isWrong_27 ?_
      refine z_bind (fun v8 hb9 => ?_)
      refine z_callV (kc' := 0) (ks' := 0) (v := (some (.int v8))) (S1 := S) (w1 := w) (st := []) [.int (w (zr S a0 1) (zix ((79 : Int32) + a1)))] (m_X8_pickup hW w a0 h0 (w (zr S a0 1) (zix ((79 : Int32) + a1))) v8 hb9) zc8 h0 zy_X8_pickup gw1251 gp32 gw1249 (Nat.le_of_ble_eq_true rfl) (Nat.le_of_ble_eq_true rfl) (Nat.le_of_ble_eq_true rfl) (Nat.le_of_ble_eq_true rfl) (zal hW) rfl dX8_isWrong_28 (z_at 31 _ [.int v8] rfl rfl rfl ?_)
      refine z_aload_n 0 dX8_isWrong_31 rfl (z_aload_n 0 dX8_isWrong_32 rfl (z_getR zc8 1 (by decide) rfl gw1108 h0 (zW_some hW h0 1 rfl) dX8_isWrong_33 (z_bipush dX8_isWrong_36 zb_79 (z_iload_n 1 dX8_isWrong_38 rfl (z_iadd dX8_isWrong_39 ?_)))))
      refine z_iconst dX8_isWrong_40 zi_1 (z_isub dX8_isWrong_41 ?_)
      refine z_chk (fun c10 => ?_)
      refine z_iald (zW_arr hW h0 1 0 rfl) c10 dX8_isWrong_42 ?_
      refine z_bind (fun v11 hb12 => ?_)
      refine z_callV (kc' := 0) (ks' := 0) (v := (some (.int v11))) (S1 := S) (w1 := w) (st := [.int v8]) [.int (w (zr S a0 1) (zix (((79 : Int32) + a1) - (1 : Int32))))] (m_X8_pickup hW w a0 h0 (w (zr S a0 1) (zix (((79 : Int32) + a1) - (1 : Int32)))) v11 hb12) zc8 h0 zy_X8_pickup gw1251 gp32 gw1249 (Nat.le_of_ble_eq_true rfl) (Nat.le_of_ble_eq_true rfl) (Nat.le_of_ble_eq_true rfl) (Nat.le_of_ble_eq_true rfl) (zal hW) rfl dX8_isWrong_43 (z_at 46 _ [.int v11, .int v8] rfl rfl rfl ?_)
      refine z_icmp_ge 53 dX8_isWrong_46 rfl (fun q13 => ?_) (fun q13 => ?_)
      · refine z_iconst dX8_isWrong_53 zi_0 ?_
        exact z_zret zemP rfl rfl dX8_isWrong_54
      · refine z_iconst dX8_isWrong_49 zi_1 (z_goto 54 dX8_isWrong_50 rfl ?_)
        exact z_zret zemP rfl rfl dX8_isWrong_54

theorem m_X8_isWrong {E : ZE} {S : Zs} (hW : zWF S) (w : Zw) (a0 : Nat) (h0 : zObj S a0 8) (a1 : Int32) : ∀ i, f_X8_isWrong S w a0 a1 = some i → zMr E yX8_isWrong cX8_isWrong 2 ((some .boolean)) 2 0 0 [.ref a0, .int a1] S w ((emP eI S w) i) :=
  fun i hi => z_enter (by decide +kernel) (Nat.le_of_ble_eq_true rfl) (mw_X8_isWrong hW w a0 h0 a1 i hi)
/-! ParkingRobotModel.job (II)I : W, depth 1 -/
abbrev i_X8_job : Zm := (yX8_job.cls, cX8_job, 3, (some .int), [], yX8_job.name)
def f_X8_job (S : Zs) (w : Zw) (a0 : Nat) (a1 : Int32) (a2 : Int32) : Option (Int32 × Zw) :=
  zlet (zput w a0 0 (0 : Int32)) fun w1 => if zin (6 : Int32) (zlen S (zr S a0 1)) = true then (f_X8_in a1 (0 : Int32) ((w1 (zr S a0 1) (zix (6 : Int32))) - (1 : Int32))).bind fun v3 => if v3 = 0 then (f_X8_fails S w1 a0 (1 : Int32)).bind fun r12 => some (r12.1, r12.2) else (f_X8_in a2 (0 : Int32) (4 : Int32)).bind fun v6 => if v6 = 0 then (f_X8_fails S w1 a0 (2 : Int32)).bind fun r9 => some (r9.1, r9.2) else if zin (((299 : Int32) + ((5 : Int32) * a1)) + a2) (zlen S (zr S a0 1)) = true then some ((w1 (zr S a0 1) (zix (((299 : Int32) + ((5 : Int32) * a1)) + a2))), w1) else none else none
theorem mw_X8_job {E : ZE} {S : Zs} (hW : zWF S) (w : Zw) (a0 : Nat) (h0 : zObj S a0 8) (a1 : Int32) (a2 : Int32) : zOk (E, i_X8_job, 1) 0 0 S w 0 [(0, .ref a0), (1, .int a1), (2, .int a2)] [] (emW eI S) (f_X8_job S w a0 a1 a2) := by
  unfold f_X8_job
  refine z_aload_n 0 dX8_job_0 rfl (z_iconst dX8_job_1 zi_0 ?_)
  refine z_putI zc8 0 (by decide) (Or.inl rfl) rfl gw1107 h0 dX8_job_2 (z_letw (fun w1 => ?_))
  refine z_iload_n 1 dX8_job_5 rfl (z_iconst dX8_job_6 zi_0 (z_aload_n 0 dX8_job_7 rfl (z_getR zc8 1 (by decide) rfl gw1108 h0 (zW_some hW h0 1 rfl) dX8_job_8 (z_bipush dX8_job_11 zb_6 ?_))))
  refine z_chk (fun c2 => ?_)
  refine z_iald (zW_arr hW h0 1 0 rfl) c2 dX8_job_13 (z_iconst dX8_job_14 zi_1 (z_isub dX8_job_15 ?_))
  refine z_bind (fun v3 hb4 => ?_)
  refine z_callS (kc' := 0) (ks' := 0) (v := (some (.int v3))) (S1 := S) (w1 := w1) (st := []) [.int a1, .int (0 : Int32), .int ((w1 (zr S a0 1) (zix (6 : Int32))) - (1 : Int32))] (m_X8_in hW w1 a1 (0 : Int32) ((w1 (zr S a0 1) (zix (6 : Int32))) - (1 : Int32)) v3 hb4) zy_X8_in gw1208 gw1207 (Nat.le_of_ble_eq_true rfl) (Nat.le_of_ble_eq_true rfl) (Nat.le_of_ble_eq_true rfl) (Nat.le_of_ble_eq_true rfl) (zal hW) rfl dX8_job_16 (z_at 19 _ [.int v3] rfl rfl rfl ?_)
  refine z_if_ne 28 dX8_job_19 rfl (fun q5 => ?_) (fun q5 => ?_)
  · refine z_iload_n 2 dX8_job_28 rfl (z_iconst dX8_job_29 zi_0 (z_iconst dX8_job_30 zi_4 ?_))
    refine z_bind (fun v6 hb7 => ?_)
    refine z_callS (kc' := 0) (ks' := 0) (v := (some (.int v6))) (S1 := S) (w1 := w1) (st := []) [.int a2, .int (0 : Int32), .int (4 : Int32)] (m_X8_in hW w1 a2 (0 : Int32) (4 : Int32) v6 hb7) zy_X8_in gw1208 gw1207 (Nat.le_of_ble_eq_true rfl) (Nat.le_of_ble_eq_true rfl) (Nat.le_of_ble_eq_true rfl) (Nat.le_of_ble_eq_true rfl) (zal hW) rfl dX8_job_31 (z_at 34 _ [.int v6] rfl rfl rfl ?_)
    refine z_if_eq 54 dX8_job_34 rfl (fun q8 => ?_) (fun q8 => ?_)
    · refine z_aload_n 0 dX8_job_54 rfl (z_iconst dX8_job_55 zi_2 ?_)
      refine z_bind (fun r9 hb10 => ?_)
      refine z_callV (kc' := 0) (ks' := 0) (v := (some (.int r9.1))) (S1 := S) (w1 := r9.2) (st := []) [.int (2 : Int32)] (m_X8_fails hW w1 a0 h0 (2 : Int32) r9 hb10) zc8 h0 zy_X8_fails gw1215 gp27 gw1213 (Nat.le_of_ble_eq_true rfl) (Nat.le_of_ble_eq_true rfl) (Nat.le_of_ble_eq_true rfl) (Nat.le_of_ble_eq_true rfl) (zal hW) rfl dX8_job_56 (z_at 59 _ [.int r9.1] rfl rfl rfl ?_)
      exact z_iret zemW rfl dX8_job_59
    · refine z_aload_n 0 dX8_job_37 rfl (z_getR zc8 1 (by decide) rfl gw1108 h0 (zW_some hW h0 1 rfl) dX8_job_38 (z_sipush dX8_job_41 zs_299 (z_iconst dX8_job_44 zi_5 (z_iload_n 1 dX8_job_45 rfl (z_imul dX8_job_46 ?_)))))
      refine z_iadd dX8_job_47 (z_iload_n 2 dX8_job_48 rfl (z_iadd dX8_job_49 ?_))
      refine z_chk (fun c11 => ?_)
      refine z_iald (zW_arr hW h0 1 0 rfl) c11 dX8_job_50 (z_goto 59 dX8_job_51 rfl ?_)
      exact z_iret zemW rfl dX8_job_59
  · refine z_aload_n 0 dX8_job_22 rfl (z_iconst dX8_job_23 zi_1 ?_)
    refine z_bind (fun r12 hb13 => ?_)
    refine z_callV (kc' := 0) (ks' := 0) (v := (some (.int r12.1))) (S1 := S) (w1 := r12.2) (st := []) [.int (1 : Int32)] (m_X8_fails hW w1 a0 h0 (1 : Int32) r12 hb13) zc8 h0 zy_X8_fails gw1215 gp27 gw1213 (Nat.le_of_ble_eq_true rfl) (Nat.le_of_ble_eq_true rfl) (Nat.le_of_ble_eq_true rfl) (Nat.le_of_ble_eq_true rfl) (zal hW) rfl dX8_job_24 (z_at 27 _ [.int r12.1] rfl rfl rfl ?_)
    exact z_iret zemW rfl dX8_job_27

theorem m_X8_job {E : ZE} {S : Zs} (hW : zWF S) (w : Zw) (a0 : Nat) (h0 : zObj S a0 8) (a1 : Int32) (a2 : Int32) : ∀ i, f_X8_job S w a0 a1 a2 = some i → zMr E yX8_job cX8_job 3 ((some .int)) 1 0 0 [.ref a0, .int a1, .int a2] S w ((emW eI S) i) :=
  fun i hi => z_enter (by decide +kernel) (Nat.le_of_ble_eq_true rfl) (mw_X8_job hW w a0 h0 a1 a2 i hi)
/-! ParkingRobotModel.jobs ()I : P, depth 0 -/
abbrev i_X8_jobs : Zm := (yX8_jobs.cls, cX8_jobs, 1, (some .int), [], yX8_jobs.name)
def f_X8_jobs (S : Zs) (w : Zw) (a0 : Nat) : Option (Int32) :=
  if zin (6 : Int32) (zlen S (zr S a0 1)) = true then some (w (zr S a0 1) (zix (6 : Int32))) else none
theorem mw_X8_jobs {E : ZE} {S : Zs} (hW : zWF S) (w : Zw) (a0 : Nat) (h0 : zObj S a0 8) : zOk (E, i_X8_jobs, 0) 0 0 S w 0 [(0, .ref a0)] [] (emP eI S w) (f_X8_jobs S w a0) := by
  unfold f_X8_jobs
  refine z_aload_n 0 dX8_jobs_0 rfl (z_getR zc8 1 (by decide) rfl gw1108 h0 (zW_some hW h0 1 rfl) dX8_jobs_1 (z_bipush dX8_jobs_4 zb_6 ?_))
  refine z_chk (fun c1 => ?_)
  refine z_iald (zW_arr hW h0 1 0 rfl) c1 dX8_jobs_6 ?_
  exact z_iret zemP rfl dX8_jobs_7

theorem m_X8_jobs {E : ZE} {S : Zs} (hW : zWF S) (w : Zw) (a0 : Nat) (h0 : zObj S a0 8) : ∀ i, f_X8_jobs S w a0 = some i → zMr E yX8_jobs cX8_jobs 1 ((some .int)) 0 0 0 [.ref a0] S w ((emP eI S w) i) :=
  fun i hi => z_enter (by decide +kernel) (Nat.le_of_ble_eq_true rfl) (mw_X8_jobs hW w a0 h0 i hi)
/-! ParkingRobotModel.load (I)F : W, depth 1 -/
abbrev i_X8_load : Zm := (yX8_load.cls, cX8_load, 3, (some .float), [], yX8_load.name)
def f_X8_load (S : Zs) (w : Zw) (a0 : Nat) (a1 : Int32) : Option (UInt32 × Zw) :=
  zlet (zput w a0 0 (0 : Int32)) fun w1 => (f_X8_in a1 (0 : Int32) (3 : Int32)).bind fun v2 => if v2 = 0 then (f_X8_fails S w1 a0 (1 : Int32)).bind fun r12 => some ((FP.i2f r12.1), r12.2) else if zin (((7 : Int32) + ((3 : Int32) * a1)) + (1 : Int32)) (zlen S (zr S a0 1)) = true then zlet (w1 (zr S a0 1) (zix (((7 : Int32) + ((3 : Int32) * a1)) + (1 : Int32)))) fun z6 => if z6 = 0 then (f_X8_fails S w1 a0 (2 : Int32)).bind fun r10 => some ((FP.i2f r10.1), r10.2) else if zin (((7 : Int32) + ((3 : Int32) * a1)) + (2 : Int32)) (zlen S (zr S a0 1)) = true then if zn32 (FP.fdiv (FP.i2f (w1 (zr S a0 1) (zix (((7 : Int32) + ((3 : Int32) * a1)) + (2 : Int32))))) (FP.i2f z6)) = true then some ((FP.fdiv (FP.i2f (w1 (zr S a0 1) (zix (((7 : Int32) + ((3 : Int32) * a1)) + (2 : Int32))))) (FP.i2f z6)), w1) else none else none else none
theorem mw_X8_load {E : ZE} {S : Zs} (hW : zWF S) (w : Zw) (a0 : Nat) (h0 : zObj S a0 8) (a1 : Int32) : zOk (E, i_X8_load, 1) 0 0 S w 0 [(0, .ref a0), (1, .int a1)] [] (emW eF S) (f_X8_load S w a0 a1) := by
  unfold f_X8_load
  refine z_aload_n 0 dX8_load_0 rfl (z_iconst dX8_load_1 zi_0 ?_)
  refine z_putI zc8 0 (by decide) (Or.inl rfl) rfl gw1107 h0 dX8_load_2 (z_letw (fun w1 => ?_))
  refine z_iload_n 1 dX8_load_5 rfl (z_iconst dX8_load_6 zi_0 (z_iconst dX8_load_7 zi_3 ?_))
  refine z_bind (fun v2 hb3 => ?_)
  refine z_callS (kc' := 0) (ks' := 0) (v := (some (.int v2))) (S1 := S) (w1 := w1) (st := []) [.int a1, .int (0 : Int32), .int (3 : Int32)] (m_X8_in hW w1 a1 (0 : Int32) (3 : Int32) v2 hb3) zy_X8_in gw1208 gw1207 (Nat.le_of_ble_eq_true rfl) (Nat.le_of_ble_eq_true rfl) (Nat.le_of_ble_eq_true rfl) (Nat.le_of_ble_eq_true rfl) (zal hW) rfl dX8_load_8 (z_at 11 _ [.int v2] rfl rfl rfl ?_)
  refine z_if_ne 21 dX8_load_11 rfl (fun q4 => ?_) (fun q4 => ?_)
  · refine z_aload_n 0 dX8_load_21 rfl (z_getR zc8 1 (by decide) rfl gw1108 h0 (zW_some hW h0 1 rfl) dX8_load_22 (z_bipush dX8_load_25 zb_7 (z_iconst dX8_load_27 zi_3 (z_iload_n 1 dX8_load_28 rfl (z_imul dX8_load_29 ?_)))))
    refine z_iadd dX8_load_30 (z_iconst dX8_load_31 zi_1 (z_iadd dX8_load_32 ?_))
    refine z_chk (fun c5 => ?_)
    refine z_iald (zW_arr hW h0 1 0 rfl) c5 dX8_load_33 ?_
    refine z_let (a := (w1 (zr S a0 1) (zix (((7 : Int32) + ((3 : Int32) * a1)) + (1 : Int32))))) (fun z6 => [(0, .ref a0), (1, .int a1)]) (fun z6 => .int z6 :: []) (fun z6 => ?_)
    refine z_istore_n (lv' := [(2, .int z6), (0, .ref a0), (1, .int a1)]) dX8_load_34 (Nat.le_of_ble_eq_true rfl) rfl (z_iload_n 0 dX8_load_35 rfl ?_)
    refine z_if_ne 48 dX8_load_36 rfl (fun q7 => ?_) (fun q7 => ?_)
    · refine z_aload_n 1 dX8_load_48 rfl (z_getR zc8 1 (by decide) rfl gw1108 h0 (zW_some hW h0 1 rfl) dX8_load_49 (z_bipush dX8_load_52 zb_7 (z_iconst dX8_load_54 zi_3 (z_iload_n 2 dX8_load_55 rfl (z_imul dX8_load_56 ?_)))))
      refine z_iadd dX8_load_57 (z_iconst dX8_load_58 zi_2 (z_iadd dX8_load_59 ?_))
      refine z_chk (fun c8 => ?_)
      refine z_iald (zW_arr hW h0 1 0 rfl) c8 dX8_load_60 (z_i2f dX8_load_61 (z_iload_n 0 dX8_load_62 rfl (z_i2f dX8_load_63 ?_)))
      refine z_chk (fun c9 => ?_)
      refine z_fdiv dX8_load_64 (zn32_ok c9) ?_
      exact z_fret zemW rfl dX8_load_65
    · refine z_aload_n 1 dX8_load_39 rfl (z_iconst dX8_load_40 zi_2 ?_)
      refine z_bind (fun r10 hb11 => ?_)
      refine z_callV (kc' := 0) (ks' := 0) (v := (some (.int r10.1))) (S1 := S) (w1 := r10.2) (st := []) [.int (2 : Int32)] (m_X8_fails hW w1 a0 h0 (2 : Int32) r10 hb11) zc8 h0 zy_X8_fails gw1215 gp27 gw1213 (Nat.le_of_ble_eq_true rfl) (Nat.le_of_ble_eq_true rfl) (Nat.le_of_ble_eq_true rfl) (Nat.le_of_ble_eq_true rfl) (zal hW) rfl dX8_load_41 (z_at 44 _ [.int r10.1] rfl rfl rfl ?_)
      refine z_i2f dX8_load_44 (z_goto 65 dX8_load_45 rfl ?_)
      exact z_fret zemW rfl dX8_load_65
  · refine z_aload_n 0 dX8_load_14 rfl (z_iconst dX8_load_15 zi_1 ?_)
    refine z_bind (fun r12 hb13 => ?_)
    refine z_callV (kc' := 0) (ks' := 0) (v := (some (.int r12.1))) (S1 := S) (w1 := r12.2) (st := []) [.int (1 : Int32)] (m_X8_fails hW w1 a0 h0 (1 : Int32) r12 hb13) zc8 h0 zy_X8_fails gw1215 gp27 gw1213 (Nat.le_of_ble_eq_true rfl) (Nat.le_of_ble_eq_true rfl) (Nat.le_of_ble_eq_true rfl) (Nat.le_of_ble_eq_true rfl) (zal hW) rfl dX8_load_16 (z_at 19 _ [.int r12.1] rfl rfl rfl ?_)
    refine z_i2f dX8_load_19 ?_
    exact z_fret zemW rfl dX8_load_20

theorem m_X8_load {E : ZE} {S : Zs} (hW : zWF S) (w : Zw) (a0 : Nat) (h0 : zObj S a0 8) (a1 : Int32) : ∀ i, f_X8_load S w a0 a1 = some i → zMr E yX8_load cX8_load 3 ((some .float)) 1 0 0 [.ref a0, .int a1] S w ((emW eF S) i) :=
  fun i hi => z_enter (by decide +kernel) (Nat.le_of_ble_eq_true rfl) (mw_X8_load hW w a0 h0 a1 i hi)
/-! ParkingRobotModel.machine (II)I : W, depth 1 -/
abbrev i_X8_machine : Zm := (yX8_machine.cls, cX8_machine, 3, (some .int), [], yX8_machine.name)
def f_X8_machine (S : Zs) (w : Zw) (a0 : Nat) (a1 : Int32) (a2 : Int32) : Option (Int32 × Zw) :=
  zlet (zput w a0 0 (0 : Int32)) fun w1 => (f_X8_in a1 (0 : Int32) (3 : Int32)).bind fun v2 => if v2 = 0 then (f_X8_fails S w1 a0 (1 : Int32)).bind fun r11 => some (r11.1, r11.2) else (f_X8_in a2 (0 : Int32) (2 : Int32)).bind fun v5 => if v5 = 0 then (f_X8_fails S w1 a0 (2 : Int32)).bind fun r8 => some (r8.1, r8.2) else if zin (((7 : Int32) + ((3 : Int32) * a1)) + a2) (zlen S (zr S a0 1)) = true then some ((w1 (zr S a0 1) (zix (((7 : Int32) + ((3 : Int32) * a1)) + a2))), w1) else none
theorem mw_X8_machine {E : ZE} {S : Zs} (hW : zWF S) (w : Zw) (a0 : Nat) (h0 : zObj S a0 8) (a1 : Int32) (a2 : Int32) : zOk (E, i_X8_machine, 1) 0 0 S w 0 [(0, .ref a0), (1, .int a1), (2, .int a2)] [] (emW eI S) (f_X8_machine S w a0 a1 a2) := by
  unfold f_X8_machine
  refine z_aload_n 0 dX8_machine_0 rfl (z_iconst dX8_machine_1 zi_0 ?_)
  refine z_putI zc8 0 (by decide) (Or.inl rfl) rfl gw1107 h0 dX8_machine_2 (z_letw (fun w1 => ?_))
  refine z_iload_n 1 dX8_machine_5 rfl (z_iconst dX8_machine_6 zi_0 (z_iconst dX8_machine_7 zi_3 ?_))
  refine z_bind (fun v2 hb3 => ?_)
  refine z_callS (kc' := 0) (ks' := 0) (v := (some (.int v2))) (S1 := S) (w1 := w1) (st := []) [.int a1, .int (0 : Int32), .int (3 : Int32)] (m_X8_in hW w1 a1 (0 : Int32) (3 : Int32) v2 hb3) zy_X8_in gw1208 gw1207 (Nat.le_of_ble_eq_true rfl) (Nat.le_of_ble_eq_true rfl) (Nat.le_of_ble_eq_true rfl) (Nat.le_of_ble_eq_true rfl) (zal hW) rfl dX8_machine_8 (z_at 11 _ [.int v2] rfl rfl rfl ?_)
  refine z_if_ne 20 dX8_machine_11 rfl (fun q4 => ?_) (fun q4 => ?_)
  · refine z_iload_n 2 dX8_machine_20 rfl (z_iconst dX8_machine_21 zi_0 (z_iconst dX8_machine_22 zi_2 ?_))
    refine z_bind (fun v5 hb6 => ?_)
    refine z_callS (kc' := 0) (ks' := 0) (v := (some (.int v5))) (S1 := S) (w1 := w1) (st := []) [.int a2, .int (0 : Int32), .int (2 : Int32)] (m_X8_in hW w1 a2 (0 : Int32) (2 : Int32) v5 hb6) zy_X8_in gw1208 gw1207 (Nat.le_of_ble_eq_true rfl) (Nat.le_of_ble_eq_true rfl) (Nat.le_of_ble_eq_true rfl) (Nat.le_of_ble_eq_true rfl) (zal hW) rfl dX8_machine_23 (z_at 26 _ [.int v5] rfl rfl rfl ?_)
    refine z_if_eq 45 dX8_machine_26 rfl (fun q7 => ?_) (fun q7 => ?_)
    · refine z_aload_n 0 dX8_machine_45 rfl (z_iconst dX8_machine_46 zi_2 ?_)
      refine z_bind (fun r8 hb9 => ?_)
      refine z_callV (kc' := 0) (ks' := 0) (v := (some (.int r8.1))) (S1 := S) (w1 := r8.2) (st := []) [.int (2 : Int32)] (m_X8_fails hW w1 a0 h0 (2 : Int32) r8 hb9) zc8 h0 zy_X8_fails gw1215 gp27 gw1213 (Nat.le_of_ble_eq_true rfl) (Nat.le_of_ble_eq_true rfl) (Nat.le_of_ble_eq_true rfl) (Nat.le_of_ble_eq_true rfl) (zal hW) rfl dX8_machine_47 (z_at 50 _ [.int r8.1] rfl rfl rfl ?_)
      exact z_iret zemW rfl dX8_machine_50
    · refine z_aload_n 0 dX8_machine_29 rfl (z_getR zc8 1 (by decide) rfl gw1108 h0 (zW_some hW h0 1 rfl) dX8_machine_30 (z_bipush dX8_machine_33 zb_7 (z_iconst dX8_machine_35 zi_3 (z_iload_n 1 dX8_machine_36 rfl (z_imul dX8_machine_37 ?_)))))
      refine z_iadd dX8_machine_38 (z_iload_n 2 dX8_machine_39 rfl (z_iadd dX8_machine_40 ?_))
      refine z_chk (fun c10 => ?_)
      refine z_iald (zW_arr hW h0 1 0 rfl) c10 dX8_machine_41 (z_goto 50 dX8_machine_42 rfl ?_)
      exact z_iret zemW rfl dX8_machine_50
  · refine z_aload_n 0 dX8_machine_14 rfl (z_iconst dX8_machine_15 zi_1 ?_)
    refine z_bind (fun r11 hb12 => ?_)
    refine z_callV (kc' := 0) (ks' := 0) (v := (some (.int r11.1))) (S1 := S) (w1 := r11.2) (st := []) [.int (1 : Int32)] (m_X8_fails hW w1 a0 h0 (1 : Int32) r11 hb12) zc8 h0 zy_X8_fails gw1215 gp27 gw1213 (Nat.le_of_ble_eq_true rfl) (Nat.le_of_ble_eq_true rfl) (Nat.le_of_ble_eq_true rfl) (Nat.le_of_ble_eq_true rfl) (zal hW) rfl dX8_machine_16 (z_at 19 _ [.int r11.1] rfl rfl rfl ?_)
    exact z_iret zemW rfl dX8_machine_19

theorem m_X8_machine {E : ZE} {S : Zs} (hW : zWF S) (w : Zw) (a0 : Nat) (h0 : zObj S a0 8) (a1 : Int32) (a2 : Int32) : ∀ i, f_X8_machine S w a0 a1 a2 = some i → zMr E yX8_machine cX8_machine 3 ((some .int)) 1 0 0 [.ref a0, .int a1, .int a2] S w ((emW eI S) i) :=
  fun i hi => z_enter (by decide +kernel) (Nat.le_of_ble_eq_true rfl) (mw_X8_machine hW w a0 h0 a1 a2 i hi)
/-! ParkingRobotModel.meanJob ()D : W, depth 1 -/
abbrev i_X8_meanJob : Zm := (yX8_meanJob.cls, cX8_meanJob, 2, (some .double), [], yX8_meanJob.name)
def f_X8_meanJob (S : Zs) (w : Zw) (a0 : Nat) : Option (UInt64 × Zw) :=
  zlet (zput w a0 0 (0 : Int32)) fun w1 => if zin (1 : Int32) (zlen S (zr S a0 1)) = true then if zin (2 : Int32) (zlen S (zr S a0 1)) = true then if zin (3 : Int32) (zlen S (zr S a0 1)) = true then zlet (((w1 (zr S a0 1) (zix (1 : Int32))) + (w1 (zr S a0 1) (zix (2 : Int32)))) + (w1 (zr S a0 1) (zix (3 : Int32)))) fun z5 => if z5 = 0 then (f_X8_fails S w1 a0 (1 : Int32)).bind fun r9 => some ((FP.i2d r9.1), r9.2) else if zin (4 : Int32) (zlen S (zr S a0 1)) = true then if zn64 (FP.ddiv (FP.i2d (w1 (zr S a0 1) (zix (4 : Int32)))) (FP.i2d z5)) = true then some ((FP.ddiv (FP.i2d (w1 (zr S a0 1) (zix (4 : Int32)))) (FP.i2d z5)), w1) else none else none else none else none else none
theorem mw_X8_meanJob {E : ZE} {S : Zs} (hW : zWF S) (w : Zw) (a0 : Nat) (h0 : zObj S a0 8) : zOk (E, i_X8_meanJob, 1) 0 0 S w 0 [(0, .ref a0)] [] (emW eD S) (f_X8_meanJob S w a0) := by
  unfold f_X8_meanJob
  refine z_aload_n 0 dX8_meanJob_0 rfl (z_iconst dX8_meanJob_1 zi_0 ?_)
  refine z_putI zc8 0 (by decide) (Or.inl rfl) rfl gw1107 h0 dX8_meanJob_2 (z_letw (fun w1 => ?_))
  refine z_aload_n 0 dX8_meanJob_5 rfl (z_getR zc8 1 (by decide) rfl gw1108 h0 (zW_some hW h0 1 rfl) dX8_meanJob_6 (z_iconst dX8_meanJob_9 zi_1 ?_))
  refine z_chk (fun c2 => ?_)
  refine z_iald (zW_arr hW h0 1 0 rfl) c2 dX8_meanJob_10 (z_aload_n 0 dX8_meanJob_11 rfl (z_getR zc8 1 (by decide) rfl gw1108 h0 (zW_some hW h0 1 rfl) dX8_meanJob_12 (z_iconst dX8_meanJob_15 zi_2 ?_)))
  refine z_chk (fun c3 => ?_)
  refine z_iald (zW_arr hW h0 1 0 rfl) c3 dX8_meanJob_16 (z_iadd dX8_meanJob_17 (z_aload_n 0 dX8_meanJob_18 rfl (z_getR zc8 1 (by decide) rfl gw1108 h0 (zW_some hW h0 1 rfl) dX8_meanJob_19 (z_iconst dX8_meanJob_22 zi_3 ?_))))
  refine z_chk (fun c4 => ?_)
  refine z_iald (zW_arr hW h0 1 0 rfl) c4 dX8_meanJob_23 (z_iadd dX8_meanJob_24 ?_)
  refine z_let (a := (((w1 (zr S a0 1) (zix (1 : Int32))) + (w1 (zr S a0 1) (zix (2 : Int32)))) + (w1 (zr S a0 1) (zix (3 : Int32))))) (fun z5 => [(0, .ref a0)]) (fun z5 => .int z5 :: []) (fun z5 => ?_)
  refine z_istore_n (lv' := [(1, .int z5), (0, .ref a0)]) dX8_meanJob_25 (Nat.le_of_ble_eq_true rfl) rfl (z_iload_n 0 dX8_meanJob_26 rfl ?_)
  refine z_if_ne 39 dX8_meanJob_27 rfl (fun q6 => ?_) (fun q6 => ?_)
  · refine z_aload_n 1 dX8_meanJob_39 rfl (z_getR zc8 1 (by decide) rfl gw1108 h0 (zW_some hW h0 1 rfl) dX8_meanJob_40 (z_iconst dX8_meanJob_43 zi_4 ?_))
    refine z_chk (fun c7 => ?_)
    refine z_iald (zW_arr hW h0 1 0 rfl) c7 dX8_meanJob_44 (z_i2d dX8_meanJob_45 (z_iload_n 0 dX8_meanJob_46 rfl (z_i2d dX8_meanJob_47 ?_)))
    refine z_chk (fun c8 => ?_)
    refine z_ddiv dX8_meanJob_48 (zn64_ok c8) ?_
    exact z_dret zemW rfl dX8_meanJob_49
  · refine z_aload_n 1 dX8_meanJob_30 rfl (z_iconst dX8_meanJob_31 zi_1 ?_)
    refine z_bind (fun r9 hb10 => ?_)
    refine z_callV (kc' := 0) (ks' := 0) (v := (some (.int r9.1))) (S1 := S) (w1 := r9.2) (st := []) [.int (1 : Int32)] (m_X8_fails hW w1 a0 h0 (1 : Int32) r9 hb10) zc8 h0 zy_X8_fails gw1215 gp27 gw1213 (Nat.le_of_ble_eq_true rfl) (Nat.le_of_ble_eq_true rfl) (Nat.le_of_ble_eq_true rfl) (Nat.le_of_ble_eq_true rfl) (zal hW) rfl dX8_meanJob_32 (z_at 35 _ [.int r9.1] rfl rfl rfl ?_)
    refine z_i2d dX8_meanJob_35 (z_goto 49 dX8_meanJob_36 rfl ?_)
    exact z_dret zemW rfl dX8_meanJob_49

theorem m_X8_meanJob {E : ZE} {S : Zs} (hW : zWF S) (w : Zw) (a0 : Nat) (h0 : zObj S a0 8) : ∀ i, f_X8_meanJob S w a0 = some i → zMr E yX8_meanJob cX8_meanJob 2 ((some .double)) 1 0 0 [.ref a0] S w ((emW eD S) i) :=
  fun i hi => z_enter (by decide +kernel) (Nat.le_of_ble_eq_true rfl) (mw_X8_meanJob hW w a0 h0 i hi)
/-! ParkingRobotModel.pass (I)I : W, depth 2 -/
abbrev i_X8_pass : Zm := (yX8_pass.cls, cX8_pass, 2, (some .int), [], yX8_pass.name)
def f_X8_pass (S : Zs) (w : Zw) (a0 : Nat) (a1 : Int32) : Option (Int32 × Zw) :=
  (f_X8_begins S w a0).bind fun r1 => (f_X8_passes S r1.2 a0 a1).bind fun r3 => (f_X8_ends S r3.2 a0 r3.1).bind fun r5 => some (r5.1, r5.2)
theorem mw_X8_pass {E : ZE} {S : Zs} (hW : zWF S) (w : Zw) (a0 : Nat) (h0 : zObj S a0 8) (a1 : Int32) : zOk (E, i_X8_pass, 2) 0 0 S w 0 [(0, .ref a0), (1, .int a1)] [] (emW eI S) (f_X8_pass S w a0 a1) := by
  unfold f_X8_pass
  refine z_aload_n 0 dX8_pass_0 rfl ?_
  refine z_bind (fun r1 hb2 => ?_)
  refine z_callV (kc' := 0) (ks' := 0) (v := none) (S1 := S) (w1 := r1.2) (st := []) [] (m_X8_begins hW w a0 h0 r1 hb2) zc8 h0 zy_X8_begins gw1195 gp25 gw1193 (Nat.le_of_ble_eq_true rfl) (Nat.le_of_ble_eq_true rfl) (Nat.le_of_ble_eq_true rfl) (Nat.le_of_ble_eq_true rfl) (zal hW) rfl dX8_pass_1 (z_at 4 _ [] rfl rfl rfl ?_)
  refine z_aload_n 0 dX8_pass_4 rfl (z_aload_n 0 dX8_pass_5 rfl (z_iload_n 1 dX8_pass_6 rfl ?_))
  refine z_bind (fun r3 hb4 => ?_)
  refine z_callV (kc' := 0) (ks' := 0) (v := (some (.int r3.1))) (S1 := S) (w1 := r3.2) (st := [.ref a0]) [.int a1] (m_X8_passes hW r1.2 a0 h0 a1 r3 hb4) zc8 h0 zy_X8_passes gw1436 gp59 gw1434 (Nat.le_of_ble_eq_true rfl) (Nat.le_of_ble_eq_true rfl) (Nat.le_of_ble_eq_true rfl) (Nat.le_of_ble_eq_true rfl) (zal hW) rfl dX8_pass_7 (z_at 10 _ [.int r3.1, .ref a0] rfl rfl rfl ?_)
  refine z_bind (fun r5 hb6 => ?_)
  refine z_callV (kc' := 0) (ks' := 0) (v := (some (.int r5.1))) (S1 := S) (w1 := r5.2) (st := []) [.int r3.1] (m_X8_ends hW r3.2 a0 h0 r3.1 r5 hb6) zc8 h0 zy_X8_ends gw1289 gp40 gw1287 (Nat.le_of_ble_eq_true rfl) (Nat.le_of_ble_eq_true rfl) (Nat.le_of_ble_eq_true rfl) (Nat.le_of_ble_eq_true rfl) (zal hW) rfl dX8_pass_10 (z_at 13 _ [.int r5.1] rfl rfl rfl ?_)
  exact z_iret zemW rfl dX8_pass_13

theorem m_X8_pass {E : ZE} {S : Zs} (hW : zWF S) (w : Zw) (a0 : Nat) (h0 : zObj S a0 8) (a1 : Int32) : ∀ i, f_X8_pass S w a0 a1 = some i → zMr E yX8_pass cX8_pass 2 ((some .int)) 2 0 0 [.ref a0, .int a1] S w ((emW eI S) i) :=
  fun i hi => z_enter (by decide +kernel) (Nat.le_of_ble_eq_true rfl) (mw_X8_pass hW w a0 h0 a1 i hi)
/-! ParkingRobotModel.perform ()I : W, depth 12 -/
abbrev i_X8_perform : Zm := (yX8_perform.cls, cX8_perform, 4, (some .int), [], yX8_perform.name)
def f_X8_perform_b72 (S : Zs) (x0 : Nat) (k : (Int32 × Zw) → Option (Int32 × Zw)) (x2 : Int32) (w : Zw) : Option (Int32 × Zw) :=
  if (w x0 24) ≤ (w x0 25) then (zlet (zput w x0 24 (0 : Int32)) fun w11 => (f_X8_ends S w11 x0 x2).bind fun r12 => some (r12.1, r12.2)) else (f_X8_command S w x0).bind fun r14 => (f_X8_carriesOut S r14.2 x0 r14.1).bind fun r16 => if (r16.2 x0 0) = 0 then k ((x2 + (1 : Int32)), r16.2) else (f_X8_copies S r16.2 (zr S x0 2) (0 : Int32) (zr S x0 1) (0 : Int32)).bind fun r19 => zlet (zput r19.2 x0 24 (0 : Int32)) fun w21 => (f_X8_fails S w21 x0 (1 : Int32)).bind fun r22 => some (r22.1, r22.2)
def f_X8_perform_l72 (S : Zs) (x0 : Nat) (a : Int32 × Zw) : Option (Int32 × Zw) :=
  zlp (fun k a => f_X8_perform_b72 S x0 k a.1 a.2) zFU a
theorem m_X8_perform_l72 {E : ZE} {S : Zs} (hW : zWF S) (x0 : Nat) (hx0 : zObj S x0 8) : ∀ a : Int32 × Zw, zOk (E, i_X8_perform, 12) 0 0 S a.2 72 [(0, .ref x0), (2, .int a.1)] [] (emW eI S) (f_X8_perform_l72 S x0 a) := by
  intro a
  refine z_lp (P := fun _ => True) (W9 := fun a : Int32 × Zw => a.2) (L9 := fun a : Int32 × Zw => [(0, .ref x0), (2, .int a.1)]) (T9 := fun _ => []) (fun k hk9 a _ => ?_) zFU a trivial
  have hk : ∀ a : Int32 × Zw, zOk (E, i_X8_perform, 12) 0 0 S a.2 72 [(0, .ref x0), (2, .int a.1)] [] (emW eI S) (k a) := fun a => hk9 a trivial
  clear hk9
  obtain ⟨x2, w⟩ := a
  show zOk (E, i_X8_perform, 12) 0 0 S w 72 [(0, .ref x0), (2, .int x2)] [] (emW eI S) (f_X8_perform_b72 S x0 k x2 w)
  unfold f_X8_perform_b72
  refine z_aload_n 0 dX8_perform_72 rfl (z_getI zc8 25 (by decide) rfl gw1132 hx0 dX8_perform_73 (z_aload_n 0 dX8_perform_76 rfl (z_getI zc8 24 (by decide) rfl gw1131 hx0 dX8_perform_77 ?_)))
  refine z_icmp_ge 131 dX8_perform_80 rfl (fun q10 => ?_) (fun q10 => ?_)
  · refine z_aload_n 0 dX8_perform_131 rfl (z_iconst dX8_perform_132 zi_0 ?_)
    refine z_putI zc8 24 (by decide) (Or.inl rfl) rfl gw1131 hx0 dX8_perform_133 (z_letw (fun w11 => ?_))
    refine z_aload_n 0 dX8_perform_136 rfl (z_iload_n 1 dX8_perform_137 rfl ?_)
    refine z_bind (fun r12 hb13 => ?_)
    refine z_callV (kc' := 0) (ks' := 0) (v := (some (.int r12.1))) (S1 := S) (w1 := r12.2) (st := []) [.int x2] (m_X8_ends hW w11 x0 hx0 x2 r12 hb13) zc8 hx0 zy_X8_ends gw1289 gp40 gw1287 (Nat.le_of_ble_eq_true rfl) (Nat.le_of_ble_eq_true rfl) (Nat.le_of_ble_eq_true rfl) (Nat.le_of_ble_eq_true rfl) (zal hW) rfl dX8_perform_138 (z_at 141 _ [.int r12.1] rfl rfl rfl ?_)
    exact z_iret zemW rfl dX8_perform_141
  · refine z_aload_n 0 dX8_perform_83 rfl ?_
    refine z_bind (fun r14 hb15 => ?_)
    refine z_callV (kc' := 0) (ks' := 0) (v := (some (.int r14.1))) (S1 := S) (w1 := r14.2) (st := []) [] (m_X8_command hW w x0 hx0 r14 hb15) zc8 hx0 zy_X8_command gw1476 gp60 gw1474 (Nat.le_of_ble_eq_true rfl) (Nat.le_of_ble_eq_true rfl) (Nat.le_of_ble_eq_true rfl) (Nat.le_of_ble_eq_true rfl) (zal hW) rfl dX8_perform_84 (z_at 87 _ [.int r14.1] rfl rfl rfl ?_)
    refine z_istore_n (lv' := [(1, .int r14.1), (0, .ref x0), (2, .int x2)]) dX8_perform_87 (Nat.le_of_ble_eq_true rfl) rfl (z_aload_n 1 dX8_perform_88 rfl (z_iload_n 0 dX8_perform_89 rfl ?_))
    refine z_bind (fun r16 hb17 => ?_)
    refine z_callV (kc' := 0) (ks' := 0) (v := (some (.int r16.1))) (S1 := S) (w1 := r16.2) (st := []) [.int r14.1] (m_X8_carriesOut hW r14.2 x0 hx0 r14.1 r16 hb17) zc8 hx0 zy_X8_carriesOut gw1492 gp64 gw1490 (Nat.le_of_ble_eq_true rfl) (Nat.le_of_ble_eq_true rfl) (Nat.le_of_ble_eq_true rfl) (Nat.le_of_ble_eq_true rfl) (zal hW) rfl dX8_perform_90 (z_at 93 _ [.int r16.1] rfl rfl rfl ?_)
    refine z_istore_n (lv' := [(3, .int r16.1), (1, .int r14.1), (0, .ref x0), (2, .int x2)]) dX8_perform_93 (Nat.le_of_ble_eq_true rfl) rfl (z_aload_n 2 dX8_perform_94 rfl (z_getI zc8 0 (by decide) rfl gw1107 hx0 dX8_perform_95 ?_))
    refine z_if_eq 125 dX8_perform_98 rfl (fun q18 => ?_) (fun q18 => ?_)
    · refine z_iinc (v := (x2 + (1 : Int32))) (lv' := [(2, .int (x2 + (1 : Int32))), (3, .int r16.1), (1, .int r14.1), (0, .ref x0)]) 3 dX8_perform_125 rfl (zi_inc _ zi_1) (Nat.le_of_ble_eq_true rfl) rfl (z_goto 72 dX8_perform_128 rfl ?_)
      refine z_sub (lv' := [(0, .ref x0), (2, .int (x2 + (1 : Int32)))]) [3, 0] rfl ?_
      refine z_pc (pc' := 72) rfl ?_
      exact hk ((x2 + (1 : Int32)), r16.2)
    · refine z_aload_n 2 dX8_perform_101 rfl (z_getR zc8 2 (by decide) rfl gw1109 hx0 (zW_some hW hx0 2 rfl) dX8_perform_102 (z_iconst dX8_perform_105 zi_0 (z_aload_n 2 dX8_perform_106 rfl (z_getR zc8 1 (by decide) rfl gw1108 hx0 (zW_some hW hx0 1 rfl) dX8_perform_107 (z_iconst dX8_perform_110 zi_0 ?_)))))
      refine z_bind (fun r19 hb20 => ?_)
      refine z_callS (kc' := 0) (ks' := 0) (v := none) (S1 := S) (w1 := r19.2) (st := []) [.ref (zr S x0 2), .int (0 : Int32), .ref (zr S x0 1), .int (0 : Int32)] (m_X8_copies hW r16.2 (zr S x0 2) (zW_arr hW hx0 2 0 rfl) (0 : Int32) (zr S x0 1) (zW_arr hW hx0 1 0 rfl) (0 : Int32) r19 hb20) zy_X8_copies gw1198 gw1197 (Nat.le_of_ble_eq_true rfl) (Nat.le_of_ble_eq_true rfl) (Nat.le_of_ble_eq_true rfl) (Nat.le_of_ble_eq_true rfl) (zal hW) rfl dX8_perform_111 (z_at 114 _ [] rfl rfl rfl ?_)
      refine z_aload_n 2 dX8_perform_114 rfl (z_iconst dX8_perform_115 zi_0 ?_)
      refine z_putI zc8 24 (by decide) (Or.inl rfl) rfl gw1131 hx0 dX8_perform_116 (z_letw (fun w21 => ?_))
      refine z_aload_n 2 dX8_perform_119 rfl (z_iconst dX8_perform_120 zi_1 ?_)
      refine z_bind (fun r22 hb23 => ?_)
      refine z_callV (kc' := 0) (ks' := 0) (v := (some (.int r22.1))) (S1 := S) (w1 := r22.2) (st := []) [.int (1 : Int32)] (m_X8_fails hW w21 x0 hx0 (1 : Int32) r22 hb23) zc8 hx0 zy_X8_fails gw1215 gp27 gw1213 (Nat.le_of_ble_eq_true rfl) (Nat.le_of_ble_eq_true rfl) (Nat.le_of_ble_eq_true rfl) (Nat.le_of_ble_eq_true rfl) (zal hW) rfl dX8_perform_121 (z_at 124 _ [.int r22.1] rfl rfl rfl ?_)
      exact z_iret zemW rfl dX8_perform_124

def f_X8_perform_j45 (S : Zs) (w : Zw) (x0 : Nat) : Option (Int32 × Zw) :=
  if (w x0 26) = 0 then (zlet (zput w x0 25 (0 : Int32)) fun w9 => f_X8_perform_l72 S x0 ((0 : Int32), w9)) else (zlet (zput w x0 24 (0 : Int32)) fun w24 => some (((-100 : Int32) - (w24 x0 25)), w24))
theorem m_X8_perform_j45 {E : ZE} {S : Zs} (hW : zWF S) (w : Zw) (x0 : Nat) (hx0 : zObj S x0 8) : zOk (E, i_X8_perform, 12) 0 0 S w 45 [(0, .ref x0)] [] (emW eI S) (f_X8_perform_j45 S w x0) := by
  unfold f_X8_perform_j45
  refine z_aload_n 0 dX8_perform_45 rfl (z_getI zc8 26 (by decide) rfl gw1133 hx0 dX8_perform_46 ?_)
  refine z_if_eq 65 dX8_perform_49 rfl (fun q8 => ?_) (fun q8 => ?_)
  · refine z_aload_n 0 dX8_perform_65 rfl (z_iconst dX8_perform_66 zi_0 ?_)
    refine z_putI zc8 25 (by decide) (Or.inl rfl) rfl gw1132 hx0 dX8_perform_67 (z_letw (fun w9 => ?_))
    refine z_iconst dX8_perform_70 zi_0 (z_istore_n (lv' := [(2, .int (0 : Int32)), (0, .ref x0)]) dX8_perform_71 (Nat.le_of_ble_eq_true rfl) rfl ?_)
    refine z_sub (lv' := [(0, .ref x0), (2, .int (0 : Int32))]) [1, 0] rfl ?_
    refine z_pc (pc' := 72) rfl ?_
    exact m_X8_perform_l72 hW x0 hx0 ((0 : Int32), w9)
  · refine z_aload_n 0 dX8_perform_52 rfl (z_iconst dX8_perform_53 zi_0 ?_)
    refine z_putI zc8 24 (by decide) (Or.inl rfl) rfl gw1131 hx0 dX8_perform_54 (z_letw (fun w24 => ?_))
    refine z_bipush dX8_perform_57 zb_m100 (z_aload_n 0 dX8_perform_59 rfl (z_getI zc8 25 (by decide) rfl gw1132 hx0 dX8_perform_60 (z_isub dX8_perform_63 ?_)))
    exact z_iret zemW rfl dX8_perform_64

def f_X8_perform_b19 (S : Zs) (x0 : Nat) (k : (Zw) → Option (Int32 × Zw)) (w : Zw) : Option (Int32 × Zw) :=
  if (w x0 26) = 0 then (if (w x0 24) ≤ (w x0 25) then f_X8_perform_j45 S w x0  else (f_X8_command S w x0).bind fun r26 => k (r26.2)) else f_X8_perform_j45 S w x0 
def f_X8_perform_l19 (S : Zs) (x0 : Nat) (a : Zw) : Option (Int32 × Zw) :=
  zlp (fun k a => f_X8_perform_b19 S x0 k a) zFU a
theorem m_X8_perform_l19 {E : ZE} {S : Zs} (hW : zWF S) (x0 : Nat) (hx0 : zObj S x0 8) : ∀ a : Zw, zOk (E, i_X8_perform, 12) 0 0 S a 19 [(0, .ref x0)] [] (emW eI S) (f_X8_perform_l19 S x0 a) := by
  intro a
  refine z_lp (P := fun _ => True) (W9 := fun a : Zw => a) (L9 := fun a : Zw => [(0, .ref x0)]) (T9 := fun _ => []) (fun k hk9 a _ => ?_) zFU a trivial
  have hk : ∀ a : Zw, zOk (E, i_X8_perform, 12) 0 0 S a 19 [(0, .ref x0)] [] (emW eI S) (k a) := fun a => hk9 a trivial
  clear hk9
  revert a; intro w
  show zOk (E, i_X8_perform, 12) 0 0 S w 19 [(0, .ref x0)] [] (emW eI S) (f_X8_perform_b19 S x0 k w)
  unfold f_X8_perform_b19
  refine z_aload_n 0 dX8_perform_19 rfl (z_getI zc8 26 (by decide) rfl gw1133 hx0 dX8_perform_20 ?_)
  refine z_if_ne 45 dX8_perform_23 rfl (fun q7 => ?_) (fun q7 => ?_)
  · refine z_pc (pc' := 45) rfl ?_
    exact m_X8_perform_j45 hW w x0 hx0 
  · refine z_aload_n 0 dX8_perform_26 rfl (z_getI zc8 25 (by decide) rfl gw1132 hx0 dX8_perform_27 (z_aload_n 0 dX8_perform_30 rfl (z_getI zc8 24 (by decide) rfl gw1131 hx0 dX8_perform_31 ?_)))
    refine z_icmp_ge 45 dX8_perform_34 rfl (fun q25 => ?_) (fun q25 => ?_)
    · refine z_pc (pc' := 45) rfl ?_
      exact m_X8_perform_j45 hW w x0 hx0 
    · refine z_aload_n 0 dX8_perform_37 rfl ?_
      refine z_bind (fun r26 hb27 => ?_)
      refine z_callV (kc' := 0) (ks' := 0) (v := (some (.int r26.1))) (S1 := S) (w1 := r26.2) (st := []) [] (m_X8_command hW w x0 hx0 r26 hb27) zc8 hx0 zy_X8_command gw1476 gp60 gw1474 (Nat.le_of_ble_eq_true rfl) (Nat.le_of_ble_eq_true rfl) (Nat.le_of_ble_eq_true rfl) (Nat.le_of_ble_eq_true rfl) (zal hW) rfl dX8_perform_38 (z_at 41 _ [.int r26.1] rfl rfl rfl ?_)
      refine z_istore_n (lv' := [(1, .int r26.1), (0, .ref x0)]) dX8_perform_41 (Nat.le_of_ble_eq_true rfl) rfl (z_goto 19 dX8_perform_42 rfl ?_)
      refine z_sub (lv' := [(0, .ref x0)]) [1] rfl ?_
      refine z_pc (pc' := 19) rfl ?_
      exact hk (r26.2)

def f_X8_perform (S : Zs) (w : Zw) (a0 : Nat) : Option (Int32 × Zw) :=
  (f_X8_begins S w a0).bind fun r1 => zlet (zput r1.2 a0 25 (0 : Int32)) fun w3 => zlet (zput w3 a0 26 (0 : Int32)) fun w4 => (f_X8_command S w4 a0).bind fun r5 => f_X8_perform_l19 S a0 (r5.2)
theorem mw_X8_perform {E : ZE} {S : Zs} (hW : zWF S) (w : Zw) (a0 : Nat) (h0 : zObj S a0 8) : zOk (E, i_X8_perform, 12) 0 0 S w 0 [(0, .ref a0)] [] (emW eI S) (f_X8_perform S w a0) := by
  unfold f_X8_perform
  refine z_aload_n 0 dX8_perform_0 rfl ?_
  refine z_bind (fun r1 hb2 => ?_)
  refine z_callV (kc' := 0) (ks' := 0) (v := none) (S1 := S) (w1 := r1.2) (st := []) [] (m_X8_begins hW w a0 h0 r1 hb2) zc8 h0 zy_X8_begins gw1195 gp25 gw1193 (Nat.le_of_ble_eq_true rfl) (Nat.le_of_ble_eq_true rfl) (Nat.le_of_ble_eq_true rfl) (Nat.le_of_ble_eq_true rfl) (zal hW) rfl dX8_perform_1 (z_at 4 _ [] rfl rfl rfl ?_)
  refine z_aload_n 0 dX8_perform_4 rfl (z_iconst dX8_perform_5 zi_0 ?_)
  refine z_putI zc8 25 (by decide) (Or.inl rfl) rfl gw1132 h0 dX8_perform_6 (z_letw (fun w3 => ?_))
  refine z_aload_n 0 dX8_perform_9 rfl (z_iconst dX8_perform_10 zi_0 ?_)
  refine z_putI zc8 26 (by decide) (Or.inr ⟨rfl, Or.inl rfl⟩) rfl gw1133 h0 dX8_perform_11 (z_letw (fun w4 => ?_))
  refine z_aload_n 0 dX8_perform_14 rfl ?_
  refine z_bind (fun r5 hb6 => ?_)
  refine z_callV (kc' := 0) (ks' := 0) (v := (some (.int r5.1))) (S1 := S) (w1 := r5.2) (st := []) [] (m_X8_command hW w4 a0 h0 r5 hb6) zc8 h0 zy_X8_command gw1476 gp60 gw1474 (Nat.le_of_ble_eq_true rfl) (Nat.le_of_ble_eq_true rfl) (Nat.le_of_ble_eq_true rfl) (Nat.le_of_ble_eq_true rfl) (zal hW) rfl dX8_perform_15 (z_at 18 _ [.int r5.1] rfl rfl rfl ?_)
  refine z_istore_n (lv' := [(1, .int r5.1), (0, .ref a0)]) dX8_perform_18 (Nat.le_of_ble_eq_true rfl) rfl ?_
  refine z_sub (lv' := [(0, .ref a0)]) [1] rfl ?_
  refine z_pc (pc' := 19) rfl ?_
  exact m_X8_perform_l19 hW a0 h0 (r5.2)

theorem m_X8_perform {E : ZE} {S : Zs} (hW : zWF S) (w : Zw) (a0 : Nat) (h0 : zObj S a0 8) : ∀ i, f_X8_perform S w a0 = some i → zMr E yX8_perform cX8_perform 4 ((some .int)) 12 0 0 [.ref a0] S w ((emW eI S) i) :=
  fun i hi => z_enter (by decide +kernel) (Nat.le_of_ble_eq_true rfl) (mw_X8_perform hW w a0 h0 i hi)
end ZFN
