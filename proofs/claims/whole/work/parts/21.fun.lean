section ZFN
/-! ParkingRobot$Garage.bayToFlee (I)I : P, depth 8 -/
abbrev i_X1_bayToFlee : Zm := (yX1_bayToFlee.cls, cX1_bayToFlee, 2, (some .int), [], yX1_bayToFlee.name)
def f_X1_bayToFlee (S : Zs) (w : Zw) (a0 : Nat) (a1 : Int32) : Option (Int32) :=
  if zin a1 (zlen S (zr S a0 2)) = true then if zin a1 (zlen S (zr S a0 3)) = true then if zin a1 (zlen S (zr S a0 4)) = true then (f_X1_chooseBay S w a0 (w (zr S a0 2) (zix a1)) (w (zr S a0 3) (zix a1)) (w (zr S a0 4) (zix a1))).bind fun v4 => some v4 else none else none else none
theorem mw_X1_bayToFlee {E : ZE} {S : Zs} (hW : zWF S) (w : Zw) (a0 : Nat) (h0 : zObj S a0 1) (a1 : Int32) : zOk (E, i_X1_bayToFlee, 8) 0 0 S w 0 [(0, .ref a0), (1, .int a1)] [] (emP eI S w) (f_X1_bayToFlee S w a0 a1) := by
  unfold f_X1_bayToFlee
  refine z_aload_n 0 dX1_bayToFlee_0 rfl (z_aload_n 0 dX1_bayToFlee_1 rfl (z_getR zc1 2 (by decide) rfl gw103 h0 (zW_some hW h0 2 rfl) dX1_bayToFlee_2 (z_iload_n 1 dX1_bayToFlee_5 rfl ?_)))
  refine z_chk (fun c1 => ?_)
  refine z_iald (zW_arr hW h0 2 0 rfl) c1 dX1_bayToFlee_6 (z_aload_n 0 dX1_bayToFlee_7 rfl (z_getR zc1 3 (by decide) rfl gw104 h0 (zW_some hW h0 3 rfl) dX1_bayToFlee_8 (z_iload_n 1 dX1_bayToFlee_11 rfl ?_)))
  refine z_chk (fun c2 => ?_)
  refine z_iald (zW_arr hW h0 3 0 rfl) c2 dX1_bayToFlee_12 (z_aload_n 0 dX1_bayToFlee_13 rfl (z_getR zc1 4 (by decide) rfl gw105 h0 (zW_some hW h0 4 rfl) dX1_bayToFlee_14 (z_iload_n 1 dX1_bayToFlee_17 rfl ?_)))
  refine z_chk (fun c3 => ?_)
  refine z_iald (zW_arr hW h0 4 0 rfl) c3 dX1_bayToFlee_18 ?_
  refine z_bind (fun v4 hb5 => ?_)
  refine z_callV (kc' := 0) (ks' := 0) (v := (some (.int v4))) (S1 := S) (w1 := w) (st := []) [.int (w (zr S a0 2) (zix a1)), .int (w (zr S a0 3) (zix a1)), .int (w (zr S a0 4) (zix a1))] (m_X1_chooseBay hW w a0 h0 (w (zr S a0 2) (zix a1)) (w (zr S a0 3) (zix a1)) (w (zr S a0 4) (zix a1)) v4 hb5) zc1 h0 zy_X1_chooseBay gw305 gw306 gw304 (Nat.le_of_ble_eq_true rfl) (Nat.le_of_ble_eq_true rfl) (Nat.le_of_ble_eq_true rfl) (Nat.le_of_ble_eq_true rfl) (zal hW) rfl dX1_bayToFlee_19 (z_at 22 _ [.int v4] rfl rfl rfl ?_)
  exact z_iret zemP rfl dX1_bayToFlee_22

theorem m_X1_bayToFlee {E : ZE} {S : Zs} (hW : zWF S) (w : Zw) (a0 : Nat) (h0 : zObj S a0 1) (a1 : Int32) : ∀ i, f_X1_bayToFlee S w a0 a1 = some i → zMr E yX1_bayToFlee cX1_bayToFlee 2 ((some .int)) 8 0 0 [.ref a0, .int a1] S w ((emP eI S w) i) :=
  fun i hi => z_enter (by decide +kernel) (Nat.le_of_ble_eq_true rfl) (mw_X1_bayToFlee hW w a0 h0 a1 i hi)
/-! ParkingRobot$Machine.start (I)I : W, depth 6 -/
abbrev i_X4_start : Zm := (yX4_start.cls, cX4_start, 2, (some .int), [], yX4_start.name)
def f_X4_start (S : Zs) (w : Zw) (a0 : Nat) (a1 : Int32) : Option (Int32 × Zw) :=
  zlet (zput w a0 2 (zmax a1 (w a0 2))) fun w1 => zlet (zput w1 a0 3 ((w1 a0 3) - (w1 a0 2))) fun w2 => some ((w2 a0 2), w2)
theorem mw_X4_start {E : ZE} {S : Zs} (hW : zWF S) (w : Zw) (a0 : Nat) (h0 : zObj S a0 4) (a1 : Int32) : zOk (E, i_X4_start, 6) 0 0 S w 0 [(0, .ref a0), (1, .int a1)] [] (emW eI S) (f_X4_start S w a0 a1) := by
  unfold f_X4_start
  refine z_aload_n 0 dX4_start_0 rfl (z_iload_n 1 dX4_start_1 rfl (z_aload_n 0 dX4_start_2 rfl (z_getI zc4 2 (by decide) rfl gw53 h0 dX4_start_3 (z_max gw345 (Nat.le_of_ble_eq_true rfl) (Nat.le_of_ble_eq_true rfl) dX4_start_6 ?_))))
  refine z_putI zc4 2 (by decide) (Or.inl rfl) rfl gw53 h0 dX4_start_9 (z_letw (fun w1 => ?_))
  refine z_aload_n 0 dX4_start_12 rfl (z_dup dX4_start_13 rfl (z_getI zc4 3 (by decide) rfl gw54 h0 dX4_start_14 (z_aload_n 0 dX4_start_17 rfl (z_getI zc4 2 (by decide) rfl gw53 h0 dX4_start_18 (z_isub dX4_start_21 ?_)))))
  refine z_putI zc4 3 (by decide) (Or.inl rfl) rfl gw54 h0 dX4_start_22 (z_letw (fun w2 => ?_))
  refine z_aload_n 0 dX4_start_25 rfl (z_getI zc4 2 (by decide) rfl gw53 h0 dX4_start_26 ?_)
  exact z_iret zemW rfl dX4_start_29

theorem m_X4_start {E : ZE} {S : Zs} (hW : zWF S) (w : Zw) (a0 : Nat) (h0 : zObj S a0 4) (a1 : Int32) : ∀ i, f_X4_start S w a0 a1 = some i → zMr E yX4_start cX4_start 2 ((some .int)) 6 0 0 [.ref a0, .int a1] S w ((emW eI S) i) :=
  fun i hi => z_enter (by decide +kernel) (Nat.le_of_ble_eq_true rfl) (mw_X4_start hW w a0 h0 a1 i hi)
/-! ParkingRobot$Machine.goTo (I)V : W, depth 6 -/
abbrev i_X4_goTo : Zm := (yX4_goTo.cls, cX4_goTo, 2, none, [], yX4_goTo.name)
def f_X4_goTo (S : Zs) (w : Zw) (a0 : Nat) (a1 : Int32) : Option (Unit × Zw) :=
  zlet (zput w a0 2 ((w a0 2) + ((zabs (a1 - (w a0 1))) * (w a0 0)))) fun w1 => zlet (zput w1 a0 1 a1) fun w2 => some ((), w2)
theorem mw_X4_goTo {E : ZE} {S : Zs} (hW : zWF S) (w : Zw) (a0 : Nat) (h0 : zObj S a0 4) (a1 : Int32) : zOk (E, i_X4_goTo, 6) 0 0 S w 0 [(0, .ref a0), (1, .int a1)] [] (emW eU S) (f_X4_goTo S w a0 a1) := by
  unfold f_X4_goTo
  refine z_aload_n 0 dX4_goTo_0 rfl (z_dup dX4_goTo_1 rfl (z_getI zc4 2 (by decide) rfl gw53 h0 dX4_goTo_2 (z_iload_n 1 dX4_goTo_5 rfl (z_aload_n 0 dX4_goTo_6 rfl (z_getI zc4 1 (by decide) rfl gw52 h0 dX4_goTo_7 ?_)))))
  refine z_isub dX4_goTo_10 (z_abs gw353 (Nat.le_of_ble_eq_true rfl) (Nat.le_of_ble_eq_true rfl) dX4_goTo_11 (z_aload_n 0 dX4_goTo_14 rfl (z_getI zc4 0 (by decide) rfl gw51 h0 dX4_goTo_15 (z_imul dX4_goTo_18 (z_iadd dX4_goTo_19 ?_)))))
  refine z_putI zc4 2 (by decide) (Or.inl rfl) rfl gw53 h0 dX4_goTo_20 (z_letw (fun w1 => ?_))
  refine z_aload_n 0 dX4_goTo_23 rfl (z_iload_n 1 dX4_goTo_24 rfl ?_)
  refine z_putI zc4 1 (by decide) (Or.inl rfl) rfl gw52 h0 dX4_goTo_25 (z_letw (fun w2 => ?_))
  exact z_vret zemW rfl dX4_goTo_28

theorem m_X4_goTo {E : ZE} {S : Zs} (hW : zWF S) (w : Zw) (a0 : Nat) (h0 : zObj S a0 4) (a1 : Int32) : ∀ i, f_X4_goTo S w a0 a1 = some i → zMr E yX4_goTo cX4_goTo 2 none 6 0 0 [.ref a0, .int a1] S w ((emW eU S) i) :=
  fun i hi => z_enter (by decide +kernel) (Nat.le_of_ble_eq_true rfl) (mw_X4_goTo hW w a0 h0 a1 i hi)
/-! ParkingRobot$Plant.workAt (I)I : T, depth 1 -/
abbrev i_X6_workAt : Zm := (yX6_workAt.cls, cX6_workAt, 1, (some .int), [], yX6_workAt.name)
def f_X6_workAt (a0 : Int32) : Int32 :=
  ((2 : Int32) + (f_X7_depthOf a0))
theorem mw_X6_workAt {E : ZE} {S : Zs} (hW : zWF S) (w : Zw) (a0 : Int32) : zOk (E, i_X6_workAt, 1) 0 0 S w 0 [(0, .int a0)] [] (emP eI S w) (some (f_X6_workAt a0)) := by
  unfold f_X6_workAt
  refine z_iconst dX6_workAt_0 zi_2 (z_iload_n 0 dX6_workAt_1 rfl ?_)
  refine z_callSN (kc' := 0) (ks' := 0) (v := (some (.int (f_X7_depthOf a0)))) (S1 := S) (w1 := w) (st := [.int (2 : Int32)]) [.int a0] (m_X7_depthOf hW w a0) zy_X7_depthOf gw290 zn_m9 (Nat.le_of_ble_eq_true rfl) (Nat.le_of_ble_eq_true rfl) (Nat.le_of_ble_eq_true rfl) (Nat.le_of_ble_eq_true rfl) (zal hW) rfl dX6_workAt_2 (z_at 5 _ [.int (f_X7_depthOf a0), .int (2 : Int32)] rfl rfl rfl ?_)
  refine z_iadd dX6_workAt_5 ?_
  exact z_iret zemP rfl dX6_workAt_6

theorem m_X6_workAt {E : ZE} {S : Zs} (hW : zWF S) (w : Zw) (a0 : Int32) : zMr E yX6_workAt cX6_workAt 1 ((some .int)) 1 0 0 [.int a0] S w (.inl (eI (f_X6_workAt a0)), S, w) :=
  z_enter (by decide +kernel) (Nat.le_of_ble_eq_true rfl) (mw_X6_workAt hW w a0 _ rfl)
/-! ParkingRobot$Machine.work (I)V : W, depth 0 -/
abbrev i_X4_work : Zm := (yX4_work.cls, cX4_work, 2, none, [], yX4_work.name)
def f_X4_work (S : Zs) (w : Zw) (a0 : Nat) (a1 : Int32) : Option (Unit × Zw) :=
  zlet (zput w a0 2 ((w a0 2) + a1)) fun w1 => some ((), w1)
theorem mw_X4_work {E : ZE} {S : Zs} (hW : zWF S) (w : Zw) (a0 : Nat) (h0 : zObj S a0 4) (a1 : Int32) : zOk (E, i_X4_work, 0) 0 0 S w 0 [(0, .ref a0), (1, .int a1)] [] (emW eU S) (f_X4_work S w a0 a1) := by
  unfold f_X4_work
  refine z_aload_n 0 dX4_work_0 rfl (z_dup dX4_work_1 rfl (z_getI zc4 2 (by decide) rfl gw53 h0 dX4_work_2 (z_iload_n 1 dX4_work_5 rfl (z_iadd dX4_work_6 ?_))))
  refine z_putI zc4 2 (by decide) (Or.inl rfl) rfl gw53 h0 dX4_work_7 (z_letw (fun w1 => ?_))
  exact z_vret zemW rfl dX4_work_10

theorem m_X4_work {E : ZE} {S : Zs} (hW : zWF S) (w : Zw) (a0 : Nat) (h0 : zObj S a0 4) (a1 : Int32) : ∀ i, f_X4_work S w a0 a1 = some i → zMr E yX4_work cX4_work 2 none 0 0 0 [.ref a0, .int a1] S w ((emW eU S) i) :=
  fun i hi => z_enter (by decide +kernel) (Nat.le_of_ble_eq_true rfl) (mw_X4_work hW w a0 h0 a1 i hi)
/-! ParkingRobot$Machine.finish ()I : W, depth 0 -/
abbrev i_X4_finish : Zm := (yX4_finish.cls, cX4_finish, 1, (some .int), [], yX4_finish.name)
def f_X4_finish (S : Zs) (w : Zw) (a0 : Nat) : Option (Int32 × Zw) :=
  zlet (zput w a0 3 ((w a0 3) + (w a0 2))) fun w1 => some ((w1 a0 2), w1)
theorem mw_X4_finish {E : ZE} {S : Zs} (hW : zWF S) (w : Zw) (a0 : Nat) (h0 : zObj S a0 4) : zOk (E, i_X4_finish, 0) 0 0 S w 0 [(0, .ref a0)] [] (emW eI S) (f_X4_finish S w a0) := by
  unfold f_X4_finish
  refine z_aload_n 0 dX4_finish_0 rfl (z_dup dX4_finish_1 rfl (z_getI zc4 3 (by decide) rfl gw54 h0 dX4_finish_2 (z_aload_n 0 dX4_finish_5 rfl (z_getI zc4 2 (by decide) rfl gw53 h0 dX4_finish_6 (z_iadd dX4_finish_9 ?_)))))
  refine z_putI zc4 3 (by decide) (Or.inl rfl) rfl gw54 h0 dX4_finish_10 (z_letw (fun w1 => ?_))
  refine z_aload_n 0 dX4_finish_13 rfl (z_getI zc4 2 (by decide) rfl gw53 h0 dX4_finish_14 ?_)
  exact z_iret zemW rfl dX4_finish_17

theorem m_X4_finish {E : ZE} {S : Zs} (hW : zWF S) (w : Zw) (a0 : Nat) (h0 : zObj S a0 4) : ∀ i, f_X4_finish S w a0 = some i → zMr E yX4_finish cX4_finish 1 ((some .int)) 0 0 0 [.ref a0] S w ((emW eI S) i) :=
  fun i hi => z_enter (by decide +kernel) (Nat.le_of_ble_eq_true rfl) (mw_X4_finish hW w a0 h0 i hi)
/-! ParkingRobot$JobLog.add (IIIII)V : W, depth 6 -/
abbrev i_X3_add : Zm := (yX3_add.cls, cX3_add, 7, none, [], yX3_add.name)
def f_X3_add (S : Zs) (w : Zw) (a0 : Nat) (a1 : Int32) (a2 : Int32) (a3 : Int32) (a4 : Int32) (a5 : Int32) : Option (Unit × Zw) :=
  zlet ((zrem (w a0 1) (20 : Int32)) * (5 : Int32)) fun z1 => if zin z1 (zlen S (zr S a0 0)) = true then zlet (zput w (zr S a0 0) (zix z1) a1) fun w3 => if zin (z1 + (1 : Int32)) (zlen S (zr S a0 0)) = true then zlet (zput w3 (zr S a0 0) (zix (z1 + (1 : Int32))) a2) fun w5 => if zin (z1 + (2 : Int32)) (zlen S (zr S a0 0)) = true then zlet (zput w5 (zr S a0 0) (zix (z1 + (2 : Int32))) a3) fun w7 => if zin (z1 + (3 : Int32)) (zlen S (zr S a0 0)) = true then zlet (zput w7 (zr S a0 0) (zix (z1 + (3 : Int32))) a4) fun w9 => if zin (z1 + (4 : Int32)) (zlen S (zr S a0 0)) = true then zlet (zput w9 (zr S a0 0) (zix (z1 + (4 : Int32))) a5) fun w11 => zlet (zput w11 a0 1 ((w11 a0 1) + (1 : Int32))) fun w12 => zlet (zput w12 a0 2 ((w12 a0 2) + (a5 - a4))) fun w13 => zlet (zput w13 a0 3 (zmax (w13 a0 3) a5)) fun w14 => some ((), w14) else none else none else none else none else none
theorem mw_X3_add {E : ZE} {S : Zs} (hW : zWF S) (w : Zw) (a0 : Nat) (h0 : zObj S a0 3) (a1 : Int32) (a2 : Int32) (a3 : Int32) (a4 : Int32) (a5 : Int32) : zOk (E, i_X3_add, 6) 0 0 S w 0 [(0, .ref a0), (1, .int a1), (2, .int a2), (3, .int a3), (4, .int a4), (5, .int a5)] [] (emW eU S) (f_X3_add S w a0 a1 a2 a3 a4 a5) := by
  unfold f_X3_add
  refine z_aload_n 0 dX3_add_0 rfl (z_getI zc3 1 (by decide) rfl gw73 h0 dX3_add_1 (z_bipush dX3_add_4 zb_20 (z_rem dX3_add_6 (by decide) (z_iconst dX3_add_7 zi_5 (z_imul dX3_add_8 ?_)))))
  refine z_let (a := ((zrem (w a0 1) (20 : Int32)) * (5 : Int32))) (fun z1 => [(0, .ref a0), (1, .int a1), (2, .int a2), (3, .int a3), (4, .int a4), (5, .int a5)]) (fun z1 => .int z1 :: []) (fun z1 => ?_)
  refine z_istore (lv' := [(6, .int z1), (0, .ref a0), (1, .int a1), (2, .int a2), (3, .int a3), (4, .int a4), (5, .int a5)]) dX3_add_9 (Nat.le_of_ble_eq_true rfl) rfl (z_aload_n 1 dX3_add_11 rfl (z_getR zc3 0 (by decide) rfl gw72 h0 (zW_some hW h0 0 rfl) dX3_add_12 (z_iload 0 dX3_add_15 rfl (z_iload_n 2 dX3_add_17 rfl ?_))))
  refine z_chk (fun c2 => ?_)
  refine z_iast (zW_arr hW h0 0 0 rfl) c2 dX3_add_18 (z_letw (fun w3 => ?_))
  refine z_aload_n 1 dX3_add_19 rfl (z_getR zc3 0 (by decide) rfl gw72 h0 (zW_some hW h0 0 rfl) dX3_add_20 (z_iload 0 dX3_add_23 rfl (z_iconst dX3_add_25 zi_1 (z_iadd dX3_add_26 (z_iload_n 3 dX3_add_27 rfl ?_)))))
  refine z_chk (fun c4 => ?_)
  refine z_iast (zW_arr hW h0 0 0 rfl) c4 dX3_add_28 (z_letw (fun w5 => ?_))
  refine z_aload_n 1 dX3_add_29 rfl (z_getR zc3 0 (by decide) rfl gw72 h0 (zW_some hW h0 0 rfl) dX3_add_30 (z_iload 0 dX3_add_33 rfl (z_iconst dX3_add_35 zi_2 (z_iadd dX3_add_36 (z_iload_n 4 dX3_add_37 rfl ?_)))))
  refine z_chk (fun c6 => ?_)
  refine z_iast (zW_arr hW h0 0 0 rfl) c6 dX3_add_38 (z_letw (fun w7 => ?_))
  refine z_aload_n 1 dX3_add_39 rfl (z_getR zc3 0 (by decide) rfl gw72 h0 (zW_some hW h0 0 rfl) dX3_add_40 (z_iload 0 dX3_add_43 rfl (z_iconst dX3_add_45 zi_3 (z_iadd dX3_add_46 (z_iload 5 dX3_add_47 rfl ?_)))))
  refine z_chk (fun c8 => ?_)
  refine z_iast (zW_arr hW h0 0 0 rfl) c8 dX3_add_49 (z_letw (fun w9 => ?_))
  refine z_aload_n 1 dX3_add_50 rfl (z_getR zc3 0 (by decide) rfl gw72 h0 (zW_some hW h0 0 rfl) dX3_add_51 (z_iload 0 dX3_add_54 rfl (z_iconst dX3_add_56 zi_4 (z_iadd dX3_add_57 (z_iload 6 dX3_add_58 rfl ?_)))))
  refine z_chk (fun c10 => ?_)
  refine z_iast (zW_arr hW h0 0 0 rfl) c10 dX3_add_60 (z_letw (fun w11 => ?_))
  refine z_aload_n 1 dX3_add_61 rfl (z_dup dX3_add_62 rfl (z_getI zc3 1 (by decide) rfl gw73 h0 dX3_add_63 (z_iconst dX3_add_66 zi_1 (z_iadd dX3_add_67 ?_))))
  refine z_putI zc3 1 (by decide) (Or.inl rfl) rfl gw73 h0 dX3_add_68 (z_letw (fun w12 => ?_))
  refine z_aload_n 1 dX3_add_71 rfl (z_dup dX3_add_72 rfl (z_getI zc3 2 (by decide) rfl gw74 h0 dX3_add_73 (z_iload 6 dX3_add_76 rfl (z_iload 5 dX3_add_78 rfl (z_isub dX3_add_80 ?_)))))
  refine z_iadd dX3_add_81 ?_
  refine z_putI zc3 2 (by decide) (Or.inl rfl) rfl gw74 h0 dX3_add_82 (z_letw (fun w13 => ?_))
  refine z_aload_n 1 dX3_add_85 rfl (z_aload_n 1 dX3_add_86 rfl (z_getI zc3 3 (by decide) rfl gw75 h0 dX3_add_87 (z_iload 6 dX3_add_90 rfl (z_max gw370 (Nat.le_of_ble_eq_true rfl) (Nat.le_of_ble_eq_true rfl) dX3_add_92 ?_))))
  refine z_putI zc3 3 (by decide) (Or.inl rfl) rfl gw75 h0 dX3_add_95 (z_letw (fun w14 => ?_))
  exact z_vret zemW rfl dX3_add_98

theorem m_X3_add {E : ZE} {S : Zs} (hW : zWF S) (w : Zw) (a0 : Nat) (h0 : zObj S a0 3) (a1 : Int32) (a2 : Int32) (a3 : Int32) (a4 : Int32) (a5 : Int32) : ∀ i, f_X3_add S w a0 a1 a2 a3 a4 a5 = some i → zMr E yX3_add cX3_add 7 none 6 0 0 [.ref a0, .int a1, .int a2, .int a3, .int a4, .int a5] S w ((emW eU S) i) :=
  fun i hi => z_enter (by decide +kernel) (Nat.le_of_ble_eq_true rfl) (mw_X3_add hW w a0 h0 a1 a2 a3 a4 a5 i hi)
/-! ParkingRobot$Plant.moveOnLevel (III)V : W, depth 7 -/
abbrev i_X6_moveOnLevel : Zm := (yX6_moveOnLevel.cls, cX6_moveOnLevel, 6, none, [], yX6_moveOnLevel.name)
def f_X6_moveOnLevel (S : Zs) (w : Zw) (a0 : Nat) (a1 : Int32) (a2 : Int32) (a3 : Int32) : Option (Unit × Zw) :=
  if zin (f_X7_levelOf a2) (zlen S (zr S a0 0)) = true then (f_X4_start S w (zr S (zr S a0 0) (zix (f_X7_levelOf a2))) (w a0 3)).bind fun r2 => (f_X4_goTo S r2.2 (zr S (zr S a0 0) (zix (f_X7_levelOf a2))) (f_X7_columnOf a2)).bind fun r4 => (f_X4_work S r4.2 (zr S (zr S a0 0) (zix (f_X7_levelOf a2))) (f_X6_workAt a2)).bind fun r6 => (f_X4_goTo S r6.2 (zr S (zr S a0 0) (zix (f_X7_levelOf a2))) (f_X7_columnOf a3)).bind fun r8 => (f_X4_work S r8.2 (zr S (zr S a0 0) (zix (f_X7_levelOf a2))) (f_X6_workAt a3)).bind fun r10 => (f_X4_finish S r10.2 (zr S (zr S a0 0) (zix (f_X7_levelOf a2)))).bind fun r12 => (f_X3_add S r12.2 (zr S a0 2) a1 a2 a3 r2.1 r12.1).bind fun r14 => some ((), r14.2) else none
theorem mw_X6_moveOnLevel {E : ZE} {S : Zs} (hW : zWF S) (w : Zw) (a0 : Nat) (h0 : zObj S a0 6) (a1 : Int32) (a2 : Int32) (a3 : Int32) : zOk (E, i_X6_moveOnLevel, 7) 0 0 S w 0 [(0, .ref a0), (1, .int a1), (2, .int a2), (3, .int a3)] [] (emW eU S) (f_X6_moveOnLevel S w a0 a1 a2 a3) := by
  unfold f_X6_moveOnLevel
  refine z_aload_n 0 dX6_moveOnLevel_0 rfl (z_getR zc6 0 (by decide) rfl gw85 h0 (zW_some hW h0 0 rfl) dX6_moveOnLevel_1 (z_iload_n 2 dX6_moveOnLevel_4 rfl ?_))
  refine z_callSN (kc' := 0) (ks' := 0) (v := (some (.int (f_X7_levelOf a2)))) (S1 := S) (w1 := w) (st := [.ref (zr S a0 0)]) [.int a2] (m_X7_levelOf hW w a2) zy_X7_levelOf gw318 zn_m7 (Nat.le_of_ble_eq_true rfl) (Nat.le_of_ble_eq_true rfl) (Nat.le_of_ble_eq_true rfl) (Nat.le_of_ble_eq_true rfl) (zal hW) rfl dX6_moveOnLevel_5 (z_at 8 _ [.int (f_X7_levelOf a2), .ref (zr S a0 0)] rfl rfl rfl ?_)
  refine z_chk (fun c1 => ?_)
  refine z_aald (Or.inl rfl) (zW_arr hW h0 0 5 rfl) c1 (zW_el5 hW (zW_arr hW h0 0 5 rfl) c1).1 dX6_moveOnLevel_8 (z_astore (lv' := [(4, .ref (zr S (zr S a0 0) (zix (f_X7_levelOf a2)))), (0, .ref a0), (1, .int a1), (2, .int a2), (3, .int a3)]) dX6_moveOnLevel_9 (Nat.le_of_ble_eq_true rfl) rfl (z_aload 0 dX6_moveOnLevel_11 rfl (z_aload_n 1 dX6_moveOnLevel_13 rfl (z_getI zc6 3 (by decide) rfl gw90 h0 dX6_moveOnLevel_14 ?_))))
  refine z_bind (fun r2 hb3 => ?_)
  refine z_callV (kc' := 0) (ks' := 0) (v := (some (.int r2.1))) (S1 := S) (w1 := r2.2) (st := []) [.int (w a0 3)] (m_X4_start hW w (zr S (zr S a0 0) (zix (f_X7_levelOf a2))) (zW_el5 hW (zW_arr hW h0 0 5 rfl) c1).2 (w a0 3) r2 hb3) zc4 (zW_el5 hW (zW_arr hW h0 0 5 rfl) c1).2 zy_X4_start gw342 gw343 gw341 (Nat.le_of_ble_eq_true rfl) (Nat.le_of_ble_eq_true rfl) (Nat.le_of_ble_eq_true rfl) (Nat.le_of_ble_eq_true rfl) (zal hW) rfl dX6_moveOnLevel_17 (z_at 20 _ [.int r2.1] rfl rfl rfl ?_)
  refine z_istore (lv' := [(5, .int r2.1), (4, .ref (zr S (zr S a0 0) (zix (f_X7_levelOf a2)))), (0, .ref a0), (1, .int a1), (2, .int a2), (3, .int a3)]) dX6_moveOnLevel_20 (Nat.le_of_ble_eq_true rfl) rfl (z_aload 1 dX6_moveOnLevel_22 rfl (z_iload_n 4 dX6_moveOnLevel_24 rfl ?_))
  refine z_callSN (kc' := 0) (ks' := 0) (v := (some (.int (f_X7_columnOf a2)))) (S1 := S) (w1 := r2.2) (st := [.ref (zr S (zr S a0 0) (zix (f_X7_levelOf a2)))]) [.int a2] (m_X7_columnOf hW r2.2 a2) zy_X7_columnOf gw312 zn_m8 (Nat.le_of_ble_eq_true rfl) (Nat.le_of_ble_eq_true rfl) (Nat.le_of_ble_eq_true rfl) (Nat.le_of_ble_eq_true rfl) (zal hW) rfl dX6_moveOnLevel_25 (z_at 28 _ [.int (f_X7_columnOf a2), .ref (zr S (zr S a0 0) (zix (f_X7_levelOf a2)))] rfl rfl rfl ?_)
  refine z_bind (fun r4 hb5 => ?_)
  refine z_callV (kc' := 0) (ks' := 0) (v := none) (S1 := S) (w1 := r4.2) (st := []) [.int (f_X7_columnOf a2)] (m_X4_goTo hW r2.2 (zr S (zr S a0 0) (zix (f_X7_levelOf a2))) (zW_el5 hW (zW_arr hW h0 0 5 rfl) c1).2 (f_X7_columnOf a2) r4 hb5) zc4 (zW_el5 hW (zW_arr hW h0 0 5 rfl) c1).2 zy_X4_goTo gw350 gw351 gw349 (Nat.le_of_ble_eq_true rfl) (Nat.le_of_ble_eq_true rfl) (Nat.le_of_ble_eq_true rfl) (Nat.le_of_ble_eq_true rfl) (zal hW) rfl dX6_moveOnLevel_28 (z_at 31 _ [] rfl rfl rfl ?_)
  refine z_aload 1 dX6_moveOnLevel_31 rfl (z_iload_n 4 dX6_moveOnLevel_33 rfl ?_)
  refine z_callS (kc' := 0) (ks' := 0) (v := (some (.int (f_X6_workAt a2)))) (S1 := S) (w1 := r4.2) (st := [.ref (zr S (zr S a0 0) (zix (f_X7_levelOf a2)))]) [.int a2] (m_X6_workAt hW r4.2 a2) zy_X6_workAt gw355 gw354 (Nat.le_of_ble_eq_true rfl) (Nat.le_of_ble_eq_true rfl) (Nat.le_of_ble_eq_true rfl) (Nat.le_of_ble_eq_true rfl) (zal hW) rfl dX6_moveOnLevel_34 (z_at 37 _ [.int (f_X6_workAt a2), .ref (zr S (zr S a0 0) (zix (f_X7_levelOf a2)))] rfl rfl rfl ?_)
  refine z_bind (fun r6 hb7 => ?_)
  refine z_callV (kc' := 0) (ks' := 0) (v := none) (S1 := S) (w1 := r6.2) (st := []) [.int (f_X6_workAt a2)] (m_X4_work hW r4.2 (zr S (zr S a0 0) (zix (f_X7_levelOf a2))) (zW_el5 hW (zW_arr hW h0 0 5 rfl) c1).2 (f_X6_workAt a2) r6 hb7) zc4 (zW_el5 hW (zW_arr hW h0 0 5 rfl) c1).2 zy_X4_work gw359 gw360 gw358 (Nat.le_of_ble_eq_true rfl) (Nat.le_of_ble_eq_true rfl) (Nat.le_of_ble_eq_true rfl) (Nat.le_of_ble_eq_true rfl) (zal hW) rfl dX6_moveOnLevel_37 (z_at 40 _ [] rfl rfl rfl ?_)
  refine z_aload 1 dX6_moveOnLevel_40 rfl (z_iload_n 5 dX6_moveOnLevel_42 rfl ?_)
  refine z_callSN (kc' := 0) (ks' := 0) (v := (some (.int (f_X7_columnOf a3)))) (S1 := S) (w1 := r6.2) (st := [.ref (zr S (zr S a0 0) (zix (f_X7_levelOf a2)))]) [.int a3] (m_X7_columnOf hW r6.2 a3) zy_X7_columnOf gw312 zn_m8 (Nat.le_of_ble_eq_true rfl) (Nat.le_of_ble_eq_true rfl) (Nat.le_of_ble_eq_true rfl) (Nat.le_of_ble_eq_true rfl) (zal hW) rfl dX6_moveOnLevel_43 (z_at 46 _ [.int (f_X7_columnOf a3), .ref (zr S (zr S a0 0) (zix (f_X7_levelOf a2)))] rfl rfl rfl ?_)
  refine z_bind (fun r8 hb9 => ?_)
  refine z_callV (kc' := 0) (ks' := 0) (v := none) (S1 := S) (w1 := r8.2) (st := []) [.int (f_X7_columnOf a3)] (m_X4_goTo hW r6.2 (zr S (zr S a0 0) (zix (f_X7_levelOf a2))) (zW_el5 hW (zW_arr hW h0 0 5 rfl) c1).2 (f_X7_columnOf a3) r8 hb9) zc4 (zW_el5 hW (zW_arr hW h0 0 5 rfl) c1).2 zy_X4_goTo gw350 gw351 gw349 (Nat.le_of_ble_eq_true rfl) (Nat.le_of_ble_eq_true rfl) (Nat.le_of_ble_eq_true rfl) (Nat.le_of_ble_eq_true rfl) (zal hW) rfl dX6_moveOnLevel_46 (z_at 49 _ [] rfl rfl rfl ?_)
  refine z_aload 1 dX6_moveOnLevel_49 rfl (z_iload_n 5 dX6_moveOnLevel_51 rfl ?_)
  refine z_callS (kc' := 0) (ks' := 0) (v := (some (.int (f_X6_workAt a3)))) (S1 := S) (w1 := r8.2) (st := [.ref (zr S (zr S a0 0) (zix (f_X7_levelOf a2)))]) [.int a3] (m_X6_workAt hW r8.2 a3) zy_X6_workAt gw355 gw354 (Nat.le_of_ble_eq_true rfl) (Nat.le_of_ble_eq_true rfl) (Nat.le_of_ble_eq_true rfl) (Nat.le_of_ble_eq_true rfl) (zal hW) rfl dX6_moveOnLevel_52 (z_at 55 _ [.int (f_X6_workAt a3), .ref (zr S (zr S a0 0) (zix (f_X7_levelOf a2)))] rfl rfl rfl ?_)
  refine z_bind (fun r10 hb11 => ?_)
  refine z_callV (kc' := 0) (ks' := 0) (v := none) (S1 := S) (w1 := r10.2) (st := []) [.int (f_X6_workAt a3)] (m_X4_work hW r8.2 (zr S (zr S a0 0) (zix (f_X7_levelOf a2))) (zW_el5 hW (zW_arr hW h0 0 5 rfl) c1).2 (f_X6_workAt a3) r10 hb11) zc4 (zW_el5 hW (zW_arr hW h0 0 5 rfl) c1).2 zy_X4_work gw359 gw360 gw358 (Nat.le_of_ble_eq_true rfl) (Nat.le_of_ble_eq_true rfl) (Nat.le_of_ble_eq_true rfl) (Nat.le_of_ble_eq_true rfl) (zal hW) rfl dX6_moveOnLevel_55 (z_at 58 _ [] rfl rfl rfl ?_)
  refine z_aload_n 2 dX6_moveOnLevel_58 rfl (z_getR zc6 2 (by decide) rfl gw88 h0 (zW_some hW h0 2 rfl) dX6_moveOnLevel_59 (z_iload_n 3 dX6_moveOnLevel_62 rfl (z_iload_n 4 dX6_moveOnLevel_63 rfl (z_iload_n 5 dX6_moveOnLevel_64 rfl (z_iload 0 dX6_moveOnLevel_65 rfl ?_)))))
  refine z_aload 1 dX6_moveOnLevel_67 rfl ?_
  refine z_bind (fun r12 hb13 => ?_)
  refine z_callV (kc' := 0) (ks' := 0) (v := (some (.int r12.1))) (S1 := S) (w1 := r12.2) (st := [.int r2.1, .int a3, .int a2, .int a1, .ref (zr S a0 2)]) [] (m_X4_finish hW r10.2 (zr S (zr S a0 0) (zix (f_X7_levelOf a2))) (zW_el5 hW (zW_arr hW h0 0 5 rfl) c1).2 r12 hb13) zc4 (zW_el5 hW (zW_arr hW h0 0 5 rfl) c1).2 zy_X4_finish gw363 gw364 gw362 (Nat.le_of_ble_eq_true rfl) (Nat.le_of_ble_eq_true rfl) (Nat.le_of_ble_eq_true rfl) (Nat.le_of_ble_eq_true rfl) (zal hW) rfl dX6_moveOnLevel_69 (z_at 72 _ [.int r12.1, .int r2.1, .int a3, .int a2, .int a1, .ref (zr S a0 2)] rfl rfl rfl ?_)
  refine z_bind (fun r14 hb15 => ?_)
  refine z_callV (kc' := 0) (ks' := 0) (v := none) (S1 := S) (w1 := r14.2) (st := []) [.int a1, .int a2, .int a3, .int r2.1, .int r12.1] (m_X3_add hW r12.2 (zr S a0 2) (zW_obj hW h0 2 3 rfl) a1 a2 a3 r2.1 r12.1 r14 hb15) zc3 (zW_obj hW h0 2 3 rfl) zy_X3_add gw367 gw368 gw366 (Nat.le_of_ble_eq_true rfl) (Nat.le_of_ble_eq_true rfl) (Nat.le_of_ble_eq_true rfl) (Nat.le_of_ble_eq_true rfl) (zal hW) rfl dX6_moveOnLevel_72 (z_at 75 _ [] rfl rfl rfl ?_)
  exact z_vret zemW rfl dX6_moveOnLevel_75

theorem m_X6_moveOnLevel {E : ZE} {S : Zs} (hW : zWF S) (w : Zw) (a0 : Nat) (h0 : zObj S a0 6) (a1 : Int32) (a2 : Int32) (a3 : Int32) : ∀ i, f_X6_moveOnLevel S w a0 a1 a2 a3 = some i → zMr E yX6_moveOnLevel cX6_moveOnLevel 6 none 7 0 0 [.ref a0, .int a1, .int a2, .int a3] S w ((emW eU S) i) :=
  fun i hi => z_enter (by decide +kernel) (Nat.le_of_ble_eq_true rfl) (mw_X6_moveOnLevel hW w a0 h0 a1 a2 a3 i hi)
/-! ParkingRobot$Machine.handOver (LParkingRobot$Machine;)V : W, depth 6 -/
abbrev i_X4_handOver : Zm := (yX4_handOver.cls, cX4_handOver, 3, none, [], yX4_handOver.name)
def f_X4_handOver (S : Zs) (w : Zw) (a0 : Nat) (a1 : Nat) : Option (Unit × Zw) :=
  zlet ((zmax (w a0 2) (w a1 2)) + (2 : Int32)) fun z1 => zlet (zput w a0 2 z1) fun w2 => zlet (zput w2 a1 2 z1) fun w3 => some ((), w3)
theorem mw_X4_handOver {E : ZE} {S : Zs} (hW : zWF S) (w : Zw) (a0 : Nat) (h0 : zObj S a0 4) (a1 : Nat) (h1 : zObj S a1 4) : zOk (E, i_X4_handOver, 6) 0 0 S w 0 [(0, .ref a0), (1, .ref a1)] [] (emW eU S) (f_X4_handOver S w a0 a1) := by
  unfold f_X4_handOver
  refine z_aload_n 0 dX4_handOver_0 rfl (z_getI zc4 2 (by decide) rfl gw53 h0 dX4_handOver_1 (z_aload_n 1 dX4_handOver_4 rfl (z_getI zc4 2 (by decide) rfl gw53 h1 dX4_handOver_5 (z_max gw345 (Nat.le_of_ble_eq_true rfl) (Nat.le_of_ble_eq_true rfl) dX4_handOver_8 (z_iconst dX4_handOver_11 zi_2 ?_)))))
  refine z_iadd dX4_handOver_12 ?_
  refine z_let (a := ((zmax (w a0 2) (w a1 2)) + (2 : Int32))) (fun z1 => [(0, .ref a0), (1, .ref a1)]) (fun z1 => .int z1 :: []) (fun z1 => ?_)
  refine z_istore_n (lv' := [(2, .int z1), (0, .ref a0), (1, .ref a1)]) dX4_handOver_13 (Nat.le_of_ble_eq_true rfl) rfl (z_aload_n 1 dX4_handOver_14 rfl (z_iload_n 0 dX4_handOver_15 rfl ?_))
  refine z_putI zc4 2 (by decide) (Or.inl rfl) rfl gw53 h0 dX4_handOver_16 (z_letw (fun w2 => ?_))
  refine z_aload_n 2 dX4_handOver_19 rfl (z_iload_n 0 dX4_handOver_20 rfl ?_)
  refine z_putI zc4 2 (by decide) (Or.inl rfl) rfl gw53 h1 dX4_handOver_21 (z_letw (fun w3 => ?_))
  exact z_vret zemW rfl dX4_handOver_24

theorem m_X4_handOver {E : ZE} {S : Zs} (hW : zWF S) (w : Zw) (a0 : Nat) (h0 : zObj S a0 4) (a1 : Nat) (h1 : zObj S a1 4) : ∀ i, f_X4_handOver S w a0 a1 = some i → zMr E yX4_handOver cX4_handOver 3 none 6 0 0 [.ref a0, .ref a1] S w ((emW eU S) i) :=
  fun i hi => z_enter (by decide +kernel) (Nat.le_of_ble_eq_true rfl) (mw_X4_handOver hW w a0 h0 a1 h1 i hi)
/-! ParkingRobot$Plant.moveToOtherLevel (III)V : W, depth 7 -/
abbrev i_X6_moveToOtherLevel : Zm := (yX6_moveToOtherLevel.cls, cX6_moveToOtherLevel, 8, none, [], yX6_moveToOtherLevel.name)
def f_X6_moveToOtherLevel (S : Zs) (w : Zw) (a0 : Nat) (a1 : Int32) (a2 : Int32) (a3 : Int32) : Option (Unit × Zw) :=
  if zin (f_X7_levelOf a2) (zlen S (zr S a0 0)) = true then if zin (f_X7_levelOf a3) (zlen S (zr S a0 0)) = true then (f_X4_start S w (zr S a0 1) (w a0 3)).bind fun r3 => (f_X4_start S r3.2 (zr S (zr S a0 0) (zix (f_X7_levelOf a2))) (r3.2 a0 3)).bind fun r5 => (f_X4_start S r5.2 (zr S (zr S a0 0) (zix (f_X7_levelOf a3))) (r5.2 a0 3)).bind fun r7 => zlet (zmin r3.1 (zmin r5.1 r7.1)) fun z9 => (f_X4_goTo S r7.2 (zr S (zr S a0 0) (zix (f_X7_levelOf a2))) (f_X7_columnOf a2)).bind fun r10 => (f_X4_work S r10.2 (zr S (zr S a0 0) (zix (f_X7_levelOf a2))) (f_X6_workAt a2)).bind fun r12 => (f_X4_goTo S r12.2 (zr S (zr S a0 0) (zix (f_X7_levelOf a2))) (0 : Int32)).bind fun r14 => (f_X4_goTo S r14.2 (zr S a0 1) (f_X7_levelOf a2)).bind fun r16 => (f_X4_handOver S r16.2 (zr S (zr S a0 0) (zix (f_X7_levelOf a2))) (zr S a0 1)).bind fun r18 => (f_X4_goTo S r18.2 (zr S a0 1) (f_X7_levelOf a3)).bind fun r20 => (f_X4_goTo S r20.2 (zr S (zr S a0 0) (zix (f_X7_levelOf a3))) (0 : Int32)).bind fun r22 => (f_X4_handOver S r22.2 (zr S a0 1) (zr S (zr S a0 0) (zix (f_X7_levelOf a3)))).bind fun r24 => (f_X4_goTo S r24.2 (zr S (zr S a0 0) (zix (f_X7_levelOf a3))) (f_X7_columnOf a3)).bind fun r26 => (f_X4_work S r26.2 (zr S (zr S a0 0) (zix (f_X7_levelOf a3))) (f_X6_workAt a3)).bind fun r28 => (f_X4_finish S r28.2 (zr S a0 1)).bind fun r30 => (f_X4_finish S r30.2 (zr S (zr S a0 0) (zix (f_X7_levelOf a2)))).bind fun r32 => (f_X4_finish S r32.2 (zr S (zr S a0 0) (zix (f_X7_levelOf a3)))).bind fun r34 => zlet (zmax r30.1 (zmax r32.1 r34.1)) fun z36 => (f_X3_add S r34.2 (zr S a0 2) a1 a2 a3 z9 z36).bind fun r37 => some ((), r37.2) else none else none
theorem mw_X6_moveToOtherLevel {E : ZE} {S : Zs} (hW : zWF S) (w : Zw) (a0 : Nat) (h0 : zObj S a0 6) (a1 : Int32) (a2 : Int32) (a3 : Int32) : zOk (E, i_X6_moveToOtherLevel, 7) 0 0 S w 0 [(0, .ref a0), (1, .int a1), (2, .int a2), (3, .int a3)] [] (emW eU S) (f_X6_moveToOtherLevel S w a0 a1 a2 a3) := by
  unfold f_X6_moveToOtherLevel
  refine z_aload_n 0 dX6_moveToOtherLevel_0 rfl (z_getR zc6 0 (by decide) rfl gw85 h0 (zW_some hW h0 0 rfl) dX6_moveToOtherLevel_1 (z_iload_n 2 dX6_moveToOtherLevel_4 rfl ?_))
  refine z_callSN (kc' := 0) (ks' := 0) (v := (some (.int (f_X7_levelOf a2)))) (S1 := S) (w1 := w) (st := [.ref (zr S a0 0)]) [.int a2] (m_X7_levelOf hW w a2) zy_X7_levelOf gw318 zn_m7 (Nat.le_of_ble_eq_true rfl) (Nat.le_of_ble_eq_true rfl) (Nat.le_of_ble_eq_true rfl) (Nat.le_of_ble_eq_true rfl) (zal hW) rfl dX6_moveToOtherLevel_5 (z_at 8 _ [.int (f_X7_levelOf a2), .ref (zr S a0 0)] rfl rfl rfl ?_)
  refine z_chk (fun c1 => ?_)
  refine z_aald (Or.inl rfl) (zW_arr hW h0 0 5 rfl) c1 (zW_el5 hW (zW_arr hW h0 0 5 rfl) c1).1 dX6_moveToOtherLevel_8 (z_astore (lv' := [(4, .ref (zr S (zr S a0 0) (zix (f_X7_levelOf a2)))), (0, .ref a0), (1, .int a1), (2, .int a2), (3, .int a3)]) dX6_moveToOtherLevel_9 (Nat.le_of_ble_eq_true rfl) rfl (z_aload_n 1 dX6_moveToOtherLevel_11 rfl (z_getR zc6 0 (by decide) rfl gw85 h0 (zW_some hW h0 0 rfl) dX6_moveToOtherLevel_12 (z_iload_n 4 dX6_moveToOtherLevel_15 rfl ?_))))
  refine z_callSN (kc' := 0) (ks' := 0) (v := (some (.int (f_X7_levelOf a3)))) (S1 := S) (w1 := w) (st := [.ref (zr S a0 0)]) [.int a3] (m_X7_levelOf hW w a3) zy_X7_levelOf gw318 zn_m7 (Nat.le_of_ble_eq_true rfl) (Nat.le_of_ble_eq_true rfl) (Nat.le_of_ble_eq_true rfl) (Nat.le_of_ble_eq_true rfl) (zal hW) rfl dX6_moveToOtherLevel_16 (z_at 19 _ [.int (f_X7_levelOf a3), .ref (zr S a0 0)] rfl rfl rfl ?_)
  refine z_chk (fun c2 => ?_)
  refine z_aald (Or.inl rfl) (zW_arr hW h0 0 5 rfl) c2 (zW_el5 hW (zW_arr hW h0 0 5 rfl) c2).1 dX6_moveToOtherLevel_19 (z_astore (lv' := [(5, .ref (zr S (zr S a0 0) (zix (f_X7_levelOf a3)))), (4, .ref (zr S (zr S a0 0) (zix (f_X7_levelOf a2)))), (0, .ref a0), (1, .int a1), (2, .int a2), (3, .int a3)]) dX6_moveToOtherLevel_20 (Nat.le_of_ble_eq_true rfl) rfl (z_aload_n 2 dX6_moveToOtherLevel_22 rfl (z_getR zc6 1 (by decide) rfl gw87 h0 (zW_some hW h0 1 rfl) dX6_moveToOtherLevel_23 (z_aload_n 2 dX6_moveToOtherLevel_26 rfl (z_getI zc6 3 (by decide) rfl gw90 h0 dX6_moveToOtherLevel_27 ?_)))))
  refine z_bind (fun r3 hb4 => ?_)
  refine z_callV (kc' := 0) (ks' := 0) (v := (some (.int r3.1))) (S1 := S) (w1 := r3.2) (st := []) [.int (w a0 3)] (m_X4_start hW w (zr S a0 1) (zW_obj hW h0 1 4 rfl) (w a0 3) r3 hb4) zc4 (zW_obj hW h0 1 4 rfl) zy_X4_start gw342 gw343 gw341 (Nat.le_of_ble_eq_true rfl) (Nat.le_of_ble_eq_true rfl) (Nat.le_of_ble_eq_true rfl) (Nat.le_of_ble_eq_true rfl) (zal hW) rfl dX6_moveToOtherLevel_30 (z_at 33 _ [.int r3.1] rfl rfl rfl ?_)
  refine z_aload 1 dX6_moveToOtherLevel_33 rfl (z_aload_n 2 dX6_moveToOtherLevel_35 rfl (z_getI zc6 3 (by decide) rfl gw90 h0 dX6_moveToOtherLevel_36 ?_))
  refine z_bind (fun r5 hb6 => ?_)
  refine z_callV (kc' := 0) (ks' := 0) (v := (some (.int r5.1))) (S1 := S) (w1 := r5.2) (st := [.int r3.1]) [.int (r3.2 a0 3)] (m_X4_start hW r3.2 (zr S (zr S a0 0) (zix (f_X7_levelOf a2))) (zW_el5 hW (zW_arr hW h0 0 5 rfl) c1).2 (r3.2 a0 3) r5 hb6) zc4 (zW_el5 hW (zW_arr hW h0 0 5 rfl) c1).2 zy_X4_start gw342 gw343 gw341 (Nat.le_of_ble_eq_true rfl) (Nat.le_of_ble_eq_true rfl) (Nat.le_of_ble_eq_true rfl) (Nat.le_of_ble_eq_true rfl) (zal hW) rfl dX6_moveToOtherLevel_39 (z_at 42 _ [.int r5.1, .int r3.1] rfl rfl rfl ?_)
  refine z_aload 0 dX6_moveToOtherLevel_42 rfl (z_aload_n 2 dX6_moveToOtherLevel_44 rfl (z_getI zc6 3 (by decide) rfl gw90 h0 dX6_moveToOtherLevel_45 ?_))
  refine z_bind (fun r7 hb8 => ?_)
  refine z_callV (kc' := 0) (ks' := 0) (v := (some (.int r7.1))) (S1 := S) (w1 := r7.2) (st := [.int r5.1, .int r3.1]) [.int (r5.2 a0 3)] (m_X4_start hW r5.2 (zr S (zr S a0 0) (zix (f_X7_levelOf a3))) (zW_el5 hW (zW_arr hW h0 0 5 rfl) c2).2 (r5.2 a0 3) r7 hb8) zc4 (zW_el5 hW (zW_arr hW h0 0 5 rfl) c2).2 zy_X4_start gw342 gw343 gw341 (Nat.le_of_ble_eq_true rfl) (Nat.le_of_ble_eq_true rfl) (Nat.le_of_ble_eq_true rfl) (Nat.le_of_ble_eq_true rfl) (zal hW) rfl dX6_moveToOtherLevel_48 (z_at 51 _ [.int r7.1, .int r5.1, .int r3.1] rfl rfl rfl ?_)
  refine z_min gw375 (Nat.le_of_ble_eq_true rfl) (Nat.le_of_ble_eq_true rfl) dX6_moveToOtherLevel_51 (z_min gw375 (Nat.le_of_ble_eq_true rfl) (Nat.le_of_ble_eq_true rfl) dX6_moveToOtherLevel_54 ?_)
  refine z_let (a := (zmin r3.1 (zmin r5.1 r7.1))) (fun z9 => [(5, .ref (zr S (zr S a0 0) (zix (f_X7_levelOf a3)))), (4, .ref (zr S (zr S a0 0) (zix (f_X7_levelOf a2)))), (0, .ref a0), (1, .int a1), (2, .int a2), (3, .int a3)]) (fun z9 => .int z9 :: []) (fun z9 => ?_)
  refine z_istore (lv' := [(6, .int z9), (5, .ref (zr S (zr S a0 0) (zix (f_X7_levelOf a3)))), (4, .ref (zr S (zr S a0 0) (zix (f_X7_levelOf a2)))), (0, .ref a0), (1, .int a1), (2, .int a2), (3, .int a3)]) dX6_moveToOtherLevel_57 (Nat.le_of_ble_eq_true rfl) rfl (z_aload 2 dX6_moveToOtherLevel_59 rfl (z_iload_n 5 dX6_moveToOtherLevel_61 rfl ?_))
  refine z_callSN (kc' := 0) (ks' := 0) (v := (some (.int (f_X7_columnOf a2)))) (S1 := S) (w1 := r7.2) (st := [.ref (zr S (zr S a0 0) (zix (f_X7_levelOf a2)))]) [.int a2] (m_X7_columnOf hW r7.2 a2) zy_X7_columnOf gw312 zn_m8 (Nat.le_of_ble_eq_true rfl) (Nat.le_of_ble_eq_true rfl) (Nat.le_of_ble_eq_true rfl) (Nat.le_of_ble_eq_true rfl) (zal hW) rfl dX6_moveToOtherLevel_62 (z_at 65 _ [.int (f_X7_columnOf a2), .ref (zr S (zr S a0 0) (zix (f_X7_levelOf a2)))] rfl rfl rfl ?_)
  refine z_bind (fun r10 hb11 => ?_)
  refine z_callV (kc' := 0) (ks' := 0) (v := none) (S1 := S) (w1 := r10.2) (st := []) [.int (f_X7_columnOf a2)] (m_X4_goTo hW r7.2 (zr S (zr S a0 0) (zix (f_X7_levelOf a2))) (zW_el5 hW (zW_arr hW h0 0 5 rfl) c1).2 (f_X7_columnOf a2) r10 hb11) zc4 (zW_el5 hW (zW_arr hW h0 0 5 rfl) c1).2 zy_X4_goTo gw350 gw351 gw349 (Nat.le_of_ble_eq_true rfl) (Nat.le_of_ble_eq_true rfl) (Nat.le_of_ble_eq_true rfl) (Nat.le_of_ble_eq_true rfl) (zal hW) rfl dX6_moveToOtherLevel_65 (z_at 68 _ [] rfl rfl rfl ?_)
  refine z_aload 2 dX6_moveToOtherLevel_68 rfl (z_iload_n 5 dX6_moveToOtherLevel_70 rfl ?_)
  refine z_callS (kc' := 0) (ks' := 0) (v := (some (.int (f_X6_workAt a2)))) (S1 := S) (w1 := r10.2) (st := [.ref (zr S (zr S a0 0) (zix (f_X7_levelOf a2)))]) [.int a2] (m_X6_workAt hW r10.2 a2) zy_X6_workAt gw355 gw354 (Nat.le_of_ble_eq_true rfl) (Nat.le_of_ble_eq_true rfl) (Nat.le_of_ble_eq_true rfl) (Nat.le_of_ble_eq_true rfl) (zal hW) rfl dX6_moveToOtherLevel_71 (z_at 74 _ [.int (f_X6_workAt a2), .ref (zr S (zr S a0 0) (zix (f_X7_levelOf a2)))] rfl rfl rfl ?_)
  refine z_bind (fun r12 hb13 => ?_)
  refine z_callV (kc' := 0) (ks' := 0) (v := none) (S1 := S) (w1 := r12.2) (st := []) [.int (f_X6_workAt a2)] (m_X4_work hW r10.2 (zr S (zr S a0 0) (zix (f_X7_levelOf a2))) (zW_el5 hW (zW_arr hW h0 0 5 rfl) c1).2 (f_X6_workAt a2) r12 hb13) zc4 (zW_el5 hW (zW_arr hW h0 0 5 rfl) c1).2 zy_X4_work gw359 gw360 gw358 (Nat.le_of_ble_eq_true rfl) (Nat.le_of_ble_eq_true rfl) (Nat.le_of_ble_eq_true rfl) (Nat.le_of_ble_eq_true rfl) (zal hW) rfl dX6_moveToOtherLevel_74 (z_at 77 _ [] rfl rfl rfl ?_)
  refine z_aload 2 dX6_moveToOtherLevel_77 rfl (z_iconst dX6_moveToOtherLevel_79 zi_0 ?_)
  refine z_bind (fun r14 hb15 => ?_)
  refine z_callV (kc' := 0) (ks' := 0) (v := none) (S1 := S) (w1 := r14.2) (st := []) [.int (0 : Int32)] (m_X4_goTo hW r12.2 (zr S (zr S a0 0) (zix (f_X7_levelOf a2))) (zW_el5 hW (zW_arr hW h0 0 5 rfl) c1).2 (0 : Int32) r14 hb15) zc4 (zW_el5 hW (zW_arr hW h0 0 5 rfl) c1).2 zy_X4_goTo gw350 gw351 gw349 (Nat.le_of_ble_eq_true rfl) (Nat.le_of_ble_eq_true rfl) (Nat.le_of_ble_eq_true rfl) (Nat.le_of_ble_eq_true rfl) (zal hW) rfl dX6_moveToOtherLevel_80 (z_at 83 _ [] rfl rfl rfl ?_)
  refine z_aload_n 3 dX6_moveToOtherLevel_83 rfl (z_getR zc6 1 (by decide) rfl gw87 h0 (zW_some hW h0 1 rfl) dX6_moveToOtherLevel_84 (z_iload_n 5 dX6_moveToOtherLevel_87 rfl ?_))
  refine z_callSN (kc' := 0) (ks' := 0) (v := (some (.int (f_X7_levelOf a2)))) (S1 := S) (w1 := r14.2) (st := [.ref (zr S a0 1)]) [.int a2] (m_X7_levelOf hW r14.2 a2) zy_X7_levelOf gw318 zn_m7 (Nat.le_of_ble_eq_true rfl) (Nat.le_of_ble_eq_true rfl) (Nat.le_of_ble_eq_true rfl) (Nat.le_of_ble_eq_true rfl) (zal hW) rfl dX6_moveToOtherLevel_88 (z_at 91 _ [.int (f_X7_levelOf a2), .ref (zr S a0 1)] rfl rfl rfl ?_)
  refine z_bind (fun r16 hb17 => ?_)
  refine z_callV (kc' := 0) (ks' := 0) (v := none) (S1 := S) (w1 := r16.2) (st := []) [.int (f_X7_levelOf a2)] (m_X4_goTo hW r14.2 (zr S a0 1) (zW_obj hW h0 1 4 rfl) (f_X7_levelOf a2) r16 hb17) zc4 (zW_obj hW h0 1 4 rfl) zy_X4_goTo gw350 gw351 gw349 (Nat.le_of_ble_eq_true rfl) (Nat.le_of_ble_eq_true rfl) (Nat.le_of_ble_eq_true rfl) (Nat.le_of_ble_eq_true rfl) (zal hW) rfl dX6_moveToOtherLevel_91 (z_at 94 _ [] rfl rfl rfl ?_)
  refine z_aload 2 dX6_moveToOtherLevel_94 rfl (z_aload_n 3 dX6_moveToOtherLevel_96 rfl (z_getR zc6 1 (by decide) rfl gw87 h0 (zW_some hW h0 1 rfl) dX6_moveToOtherLevel_97 ?_))
  refine z_bind (fun r18 hb19 => ?_)
  refine z_callV (kc' := 0) (ks' := 0) (v := none) (S1 := S) (w1 := r18.2) (st := []) [.ref (zr S a0 1)] (m_X4_handOver hW r16.2 (zr S (zr S a0 0) (zix (f_X7_levelOf a2))) (zW_el5 hW (zW_arr hW h0 0 5 rfl) c1).2 (zr S a0 1) (zW_obj hW h0 1 4 rfl) r18 hb19) zc4 (zW_el5 hW (zW_arr hW h0 0 5 rfl) c1).2 zy_X4_handOver gw379 gw380 gw378 (Nat.le_of_ble_eq_true rfl) (Nat.le_of_ble_eq_true rfl) (Nat.le_of_ble_eq_true rfl) (Nat.le_of_ble_eq_true rfl) (zal hW) rfl dX6_moveToOtherLevel_100 (z_at 103 _ [] rfl rfl rfl ?_)
  refine z_aload_n 3 dX6_moveToOtherLevel_103 rfl (z_getR zc6 1 (by decide) rfl gw87 h0 (zW_some hW h0 1 rfl) dX6_moveToOtherLevel_104 (z_iload_n 6 dX6_moveToOtherLevel_107 rfl ?_))
  refine z_callSN (kc' := 0) (ks' := 0) (v := (some (.int (f_X7_levelOf a3)))) (S1 := S) (w1 := r18.2) (st := [.ref (zr S a0 1)]) [.int a3] (m_X7_levelOf hW r18.2 a3) zy_X7_levelOf gw318 zn_m7 (Nat.le_of_ble_eq_true rfl) (Nat.le_of_ble_eq_true rfl) (Nat.le_of_ble_eq_true rfl) (Nat.le_of_ble_eq_true rfl) (zal hW) rfl dX6_moveToOtherLevel_108 (z_at 111 _ [.int (f_X7_levelOf a3), .ref (zr S a0 1)] rfl rfl rfl ?_)
  refine z_bind (fun r20 hb21 => ?_)
  refine z_callV (kc' := 0) (ks' := 0) (v := none) (S1 := S) (w1 := r20.2) (st := []) [.int (f_X7_levelOf a3)] (m_X4_goTo hW r18.2 (zr S a0 1) (zW_obj hW h0 1 4 rfl) (f_X7_levelOf a3) r20 hb21) zc4 (zW_obj hW h0 1 4 rfl) zy_X4_goTo gw350 gw351 gw349 (Nat.le_of_ble_eq_true rfl) (Nat.le_of_ble_eq_true rfl) (Nat.le_of_ble_eq_true rfl) (Nat.le_of_ble_eq_true rfl) (zal hW) rfl dX6_moveToOtherLevel_111 (z_at 114 _ [] rfl rfl rfl ?_)
  refine z_aload 1 dX6_moveToOtherLevel_114 rfl (z_iconst dX6_moveToOtherLevel_116 zi_0 ?_)
  refine z_bind (fun r22 hb23 => ?_)
  refine z_callV (kc' := 0) (ks' := 0) (v := none) (S1 := S) (w1 := r22.2) (st := []) [.int (0 : Int32)] (m_X4_goTo hW r20.2 (zr S (zr S a0 0) (zix (f_X7_levelOf a3))) (zW_el5 hW (zW_arr hW h0 0 5 rfl) c2).2 (0 : Int32) r22 hb23) zc4 (zW_el5 hW (zW_arr hW h0 0 5 rfl) c2).2 zy_X4_goTo gw350 gw351 gw349 (Nat.le_of_ble_eq_true rfl) (Nat.le_of_ble_eq_true rfl) (Nat.le_of_ble_eq_true rfl) (Nat.le_of_ble_eq_true rfl) (zal hW) rfl dX6_moveToOtherLevel_117 (z_at 120 _ [] rfl rfl rfl ?_)
  refine z_aload_n 3 dX6_moveToOtherLevel_120 rfl (z_getR zc6 1 (by decide) rfl gw87 h0 (zW_some hW h0 1 rfl) dX6_moveToOtherLevel_121 (z_aload 1 dX6_moveToOtherLevel_124 rfl ?_))
  refine z_bind (fun r24 hb25 => ?_)
  refine z_callV (kc' := 0) (ks' := 0) (v := none) (S1 := S) (w1 := r24.2) (st := []) [.ref (zr S (zr S a0 0) (zix (f_X7_levelOf a3)))] (m_X4_handOver hW r22.2 (zr S a0 1) (zW_obj hW h0 1 4 rfl) (zr S (zr S a0 0) (zix (f_X7_levelOf a3))) (zW_el5 hW (zW_arr hW h0 0 5 rfl) c2).2 r24 hb25) zc4 (zW_obj hW h0 1 4 rfl) zy_X4_handOver gw379 gw380 gw378 (Nat.le_of_ble_eq_true rfl) (Nat.le_of_ble_eq_true rfl) (Nat.le_of_ble_eq_true rfl) (Nat.le_of_ble_eq_true rfl) (zal hW) rfl dX6_moveToOtherLevel_126 (z_at 129 _ [] rfl rfl rfl ?_)
  refine z_aload 1 dX6_moveToOtherLevel_129 rfl (z_iload_n 6 dX6_moveToOtherLevel_131 rfl ?_)
  refine z_callSN (kc' := 0) (ks' := 0) (v := (some (.int (f_X7_columnOf a3)))) (S1 := S) (w1 := r24.2) (st := [.ref (zr S (zr S a0 0) (zix (f_X7_levelOf a3)))]) [.int a3] (m_X7_columnOf hW r24.2 a3) zy_X7_columnOf gw312 zn_m8 (Nat.le_of_ble_eq_true rfl) (Nat.le_of_ble_eq_true rfl) (Nat.le_of_ble_eq_true rfl) (Nat.le_of_ble_eq_true rfl) (zal hW) rfl dX6_moveToOtherLevel_132 (z_at 135 _ [.int (f_X7_columnOf a3), .ref (zr S (zr S a0 0) (zix (f_X7_levelOf a3)))] rfl rfl rfl ?_)
  refine z_bind (fun r26 hb27 => ?_)
  refine z_callV (kc' := 0) (ks' := 0) (v := none) (S1 := S) (w1 := r26.2) (st := []) [.int (f_X7_columnOf a3)] (m_X4_goTo hW r24.2 (zr S (zr S a0 0) (zix (f_X7_levelOf a3))) (zW_el5 hW (zW_arr hW h0 0 5 rfl) c2).2 (f_X7_columnOf a3) r26 hb27) zc4 (zW_el5 hW (zW_arr hW h0 0 5 rfl) c2).2 zy_X4_goTo gw350 gw351 gw349 (Nat.le_of_ble_eq_true rfl) (Nat.le_of_ble_eq_true rfl) (Nat.le_of_ble_eq_true rfl) (Nat.le_of_ble_eq_true rfl) (zal hW) rfl dX6_moveToOtherLevel_135 (z_at 138 _ [] rfl rfl rfl ?_)
  refine z_aload 1 dX6_moveToOtherLevel_138 rfl (z_iload_n 6 dX6_moveToOtherLevel_140 rfl ?_)
  refine z_callS (kc' := 0) (ks' := 0) (v := (some (.int (f_X6_workAt a3)))) (S1 := S) (w1 := r26.2) (st := [.ref (zr S (zr S a0 0) (zix (f_X7_levelOf a3)))]) [.int a3] (m_X6_workAt hW r26.2 a3) zy_X6_workAt gw355 gw354 (Nat.le_of_ble_eq_true rfl) (Nat.le_of_ble_eq_true rfl) (Nat.le_of_ble_eq_true rfl) (Nat.le_of_ble_eq_true rfl) (zal hW) rfl dX6_moveToOtherLevel_141 (z_at 144 _ [.int (f_X6_workAt a3), .ref (zr S (zr S a0 0) (zix (f_X7_levelOf a3)))] rfl rfl rfl ?_)
  refine z_bind (fun r28 hb29 => ?_)
  refine z_callV (kc' := 0) (ks' := 0) (v := none) (S1 := S) (w1 := r28.2) (st := []) [.int (f_X6_workAt a3)] (m_X4_work hW r26.2 (zr S (zr S a0 0) (zix (f_X7_levelOf a3))) (zW_el5 hW (zW_arr hW h0 0 5 rfl) c2).2 (f_X6_workAt a3) r28 hb29) zc4 (zW_el5 hW (zW_arr hW h0 0 5 rfl) c2).2 zy_X4_work gw359 gw360 gw358 (Nat.le_of_ble_eq_true rfl) (Nat.le_of_ble_eq_true rfl) (Nat.le_of_ble_eq_true rfl) (Nat.le_of_ble_eq_true rfl) (zal hW) rfl dX6_moveToOtherLevel_144 (z_at 147 _ [] rfl rfl rfl ?_)
  refine z_aload_n 3 dX6_moveToOtherLevel_147 rfl (z_getR zc6 1 (by decide) rfl gw87 h0 (zW_some hW h0 1 rfl) dX6_moveToOtherLevel_148 ?_)
  refine z_bind (fun r30 hb31 => ?_)
  refine z_callV (kc' := 0) (ks' := 0) (v := (some (.int r30.1))) (S1 := S) (w1 := r30.2) (st := []) [] (m_X4_finish hW r28.2 (zr S a0 1) (zW_obj hW h0 1 4 rfl) r30 hb31) zc4 (zW_obj hW h0 1 4 rfl) zy_X4_finish gw363 gw364 gw362 (Nat.le_of_ble_eq_true rfl) (Nat.le_of_ble_eq_true rfl) (Nat.le_of_ble_eq_true rfl) (Nat.le_of_ble_eq_true rfl) (zal hW) rfl dX6_moveToOtherLevel_151 (z_at 154 _ [.int r30.1] rfl rfl rfl ?_)
  refine z_aload 2 dX6_moveToOtherLevel_154 rfl ?_
  refine z_bind (fun r32 hb33 => ?_)
  refine z_callV (kc' := 0) (ks' := 0) (v := (some (.int r32.1))) (S1 := S) (w1 := r32.2) (st := [.int r30.1]) [] (m_X4_finish hW r30.2 (zr S (zr S a0 0) (zix (f_X7_levelOf a2))) (zW_el5 hW (zW_arr hW h0 0 5 rfl) c1).2 r32 hb33) zc4 (zW_el5 hW (zW_arr hW h0 0 5 rfl) c1).2 zy_X4_finish gw363 gw364 gw362 (Nat.le_of_ble_eq_true rfl) (Nat.le_of_ble_eq_true rfl) (Nat.le_of_ble_eq_true rfl) (Nat.le_of_ble_eq_true rfl) (zal hW) rfl dX6_moveToOtherLevel_156 (z_at 159 _ [.int r32.1, .int r30.1] rfl rfl rfl ?_)
  refine z_aload 1 dX6_moveToOtherLevel_159 rfl ?_
  refine z_bind (fun r34 hb35 => ?_)
  refine z_callV (kc' := 0) (ks' := 0) (v := (some (.int r34.1))) (S1 := S) (w1 := r34.2) (st := [.int r32.1, .int r30.1]) [] (m_X4_finish hW r32.2 (zr S (zr S a0 0) (zix (f_X7_levelOf a3))) (zW_el5 hW (zW_arr hW h0 0 5 rfl) c2).2 r34 hb35) zc4 (zW_el5 hW (zW_arr hW h0 0 5 rfl) c2).2 zy_X4_finish gw363 gw364 gw362 (Nat.le_of_ble_eq_true rfl) (Nat.le_of_ble_eq_true rfl) (Nat.le_of_ble_eq_true rfl) (Nat.le_of_ble_eq_true rfl) (zal hW) rfl dX6_moveToOtherLevel_161 (z_at 164 _ [.int r34.1, .int r32.1, .int r30.1] rfl rfl rfl ?_)
  refine z_max gw382 (Nat.le_of_ble_eq_true rfl) (Nat.le_of_ble_eq_true rfl) dX6_moveToOtherLevel_164 (z_max gw382 (Nat.le_of_ble_eq_true rfl) (Nat.le_of_ble_eq_true rfl) dX6_moveToOtherLevel_167 ?_)
  refine z_let (a := (zmax r30.1 (zmax r32.1 r34.1))) (fun z36 => [(6, .int z9), (5, .ref (zr S (zr S a0 0) (zix (f_X7_levelOf a3)))), (4, .ref (zr S (zr S a0 0) (zix (f_X7_levelOf a2)))), (0, .ref a0), (1, .int a1), (2, .int a2), (3, .int a3)]) (fun z36 => .int z36 :: []) (fun z36 => ?_)
  refine z_istore (lv' := [(7, .int z36), (6, .int z9), (5, .ref (zr S (zr S a0 0) (zix (f_X7_levelOf a3)))), (4, .ref (zr S (zr S a0 0) (zix (f_X7_levelOf a2)))), (0, .ref a0), (1, .int a1), (2, .int a2), (3, .int a3)]) dX6_moveToOtherLevel_170 (Nat.le_of_ble_eq_true rfl) rfl (z_aload_n 4 dX6_moveToOtherLevel_172 rfl (z_getR zc6 2 (by decide) rfl gw88 h0 (zW_some hW h0 2 rfl) dX6_moveToOtherLevel_173 (z_iload_n 5 dX6_moveToOtherLevel_176 rfl (z_iload_n 6 dX6_moveToOtherLevel_177 rfl (z_iload_n 7 dX6_moveToOtherLevel_178 rfl ?_)))))
  refine z_iload 1 dX6_moveToOtherLevel_179 rfl (z_iload 0 dX6_moveToOtherLevel_181 rfl ?_)
  refine z_bind (fun r37 hb38 => ?_)
  refine z_callV (kc' := 0) (ks' := 0) (v := none) (S1 := S) (w1 := r37.2) (st := []) [.int a1, .int a2, .int a3, .int z9, .int z36] (m_X3_add hW r34.2 (zr S a0 2) (zW_obj hW h0 2 3 rfl) a1 a2 a3 z9 z36 r37 hb38) zc3 (zW_obj hW h0 2 3 rfl) zy_X3_add gw367 gw368 gw366 (Nat.le_of_ble_eq_true rfl) (Nat.le_of_ble_eq_true rfl) (Nat.le_of_ble_eq_true rfl) (Nat.le_of_ble_eq_true rfl) (zal hW) rfl dX6_moveToOtherLevel_183 (z_at 186 _ [] rfl rfl rfl ?_)
  exact z_vret zemW rfl dX6_moveToOtherLevel_186

theorem m_X6_moveToOtherLevel {E : ZE} {S : Zs} (hW : zWF S) (w : Zw) (a0 : Nat) (h0 : zObj S a0 6) (a1 : Int32) (a2 : Int32) (a3 : Int32) : ∀ i, f_X6_moveToOtherLevel S w a0 a1 a2 a3 = some i → zMr E yX6_moveToOtherLevel cX6_moveToOtherLevel 8 none 7 0 0 [.ref a0, .int a1, .int a2, .int a3] S w ((emW eU S) i) :=
  fun i hi => z_enter (by decide +kernel) (Nat.le_of_ble_eq_true rfl) (mw_X6_moveToOtherLevel hW w a0 h0 a1 a2 a3 i hi)
/-! ParkingRobot$Garage.moveCar (II)V : W, depth 8 -/
abbrev i_X1_moveCar : Zm := (yX1_moveCar.cls, cX1_moveCar, 4, none, [], yX1_moveCar.name)
def f_X1_moveCar_j41 (S : Zs) (w : Zw) (x0 : Nat) (x1 : Int32) (x2 : Int32) (x3 : Int32) : Option (Unit × Zw) :=
  if zin x3 (zlen S (zr S x0 1)) = true then zlet (zput w (zr S x0 1) (zix x3) (-1 : Int32)) fun w7 => if zin x2 (zlen S (zr S x0 1)) = true then zlet (zput w7 (zr S x0 1) (zix x2) x1) fun w9 => if zin x1 (zlen S (zr S x0 4)) = true then zlet (zput w9 (zr S x0 4) (zix x1) x2) fun w11 => if zin x1 (zlen S (zr S x0 5)) = true then if zin x1 (zlen S (zr S x0 5)) = true then zlet (zput w11 (zr S x0 5) (zix x1) ((w11 (zr S x0 5) (zix x1)) + (1 : Int32))) fun w14 => zlet (zput w14 x0 10 ((w14 x0 10) + (1 : Int32))) fun w15 => some ((), w15) else none else none else none else none else none
theorem m_X1_moveCar_j41 {E : ZE} {S : Zs} (hW : zWF S) (w : Zw) (x0 : Nat) (hx0 : zObj S x0 1) (x1 : Int32) (x2 : Int32) (x3 : Int32) : zOk (E, i_X1_moveCar, 8) 0 0 S w 41 [(0, .ref x0), (1, .int x1), (2, .int x2), (3, .int x3)] [] (emW eU S) (f_X1_moveCar_j41 S w x0 x1 x2 x3) := by
  unfold f_X1_moveCar_j41
  refine z_aload_n 0 dX1_moveCar_41 rfl (z_getR zc1 1 (by decide) rfl gw102 hx0 (zW_some hW hx0 1 rfl) dX1_moveCar_42 (z_iload_n 3 dX1_moveCar_45 rfl (z_iconst dX1_moveCar_46 zi_m1 ?_)))
  refine z_chk (fun c6 => ?_)
  refine z_iast (zW_arr hW hx0 1 0 rfl) c6 dX1_moveCar_47 (z_letw (fun w7 => ?_))
  refine z_aload_n 0 dX1_moveCar_48 rfl (z_getR zc1 1 (by decide) rfl gw102 hx0 (zW_some hW hx0 1 rfl) dX1_moveCar_49 (z_iload_n 2 dX1_moveCar_52 rfl (z_iload_n 1 dX1_moveCar_53 rfl ?_)))
  refine z_chk (fun c8 => ?_)
  refine z_iast (zW_arr hW hx0 1 0 rfl) c8 dX1_moveCar_54 (z_letw (fun w9 => ?_))
  refine z_aload_n 0 dX1_moveCar_55 rfl (z_getR zc1 4 (by decide) rfl gw105 hx0 (zW_some hW hx0 4 rfl) dX1_moveCar_56 (z_iload_n 1 dX1_moveCar_59 rfl (z_iload_n 2 dX1_moveCar_60 rfl ?_)))
  refine z_chk (fun c10 => ?_)
  refine z_iast (zW_arr hW hx0 4 0 rfl) c10 dX1_moveCar_61 (z_letw (fun w11 => ?_))
  refine z_aload_n 0 dX1_moveCar_62 rfl (z_getR zc1 5 (by decide) rfl gw106 hx0 (zW_some hW hx0 5 rfl) dX1_moveCar_63 (z_iload_n 1 dX1_moveCar_66 rfl (z_dup2_11 dX1_moveCar_67 rfl rfl ?_)))
  refine z_chk (fun c12 => ?_)
  refine z_iald (zW_arr hW hx0 5 0 rfl) c12 dX1_moveCar_68 (z_iconst dX1_moveCar_69 zi_1 (z_iadd dX1_moveCar_70 ?_))
  refine z_chk (fun c13 => ?_)
  refine z_iast (zW_arr hW hx0 5 0 rfl) c13 dX1_moveCar_71 (z_letw (fun w14 => ?_))
  refine z_aload_n 0 dX1_moveCar_72 rfl (z_dup dX1_moveCar_73 rfl (z_getI zc1 10 (by decide) rfl gw111 hx0 dX1_moveCar_74 (z_iconst dX1_moveCar_77 zi_1 (z_iadd dX1_moveCar_78 ?_))))
  refine z_putI zc1 10 (by decide) (Or.inl rfl) rfl gw111 hx0 dX1_moveCar_79 (z_letw (fun w15 => ?_))
  exact z_vret zemW rfl dX1_moveCar_82

def f_X1_moveCar (S : Zs) (w : Zw) (a0 : Nat) (a1 : Int32) (a2 : Int32) : Option (Unit × Zw) :=
  if zin a1 (zlen S (zr S a0 4)) = true then zlet (w (zr S a0 4) (zix a1)) fun z2 => if (f_X7_levelOf z2) = (f_X7_levelOf a2) then (f_X6_moveOnLevel S w (zr S a0 7) a1 z2 a2).bind fun r16 => f_X1_moveCar_j41 S r16.2 a0 a1 a2 z2  else (f_X6_moveToOtherLevel S w (zr S a0 7) a1 z2 a2).bind fun r4 => f_X1_moveCar_j41 S r4.2 a0 a1 a2 z2  else none
theorem mw_X1_moveCar {E : ZE} {S : Zs} (hW : zWF S) (w : Zw) (a0 : Nat) (h0 : zObj S a0 1) (a1 : Int32) (a2 : Int32) : zOk (E, i_X1_moveCar, 8) 0 0 S w 0 [(0, .ref a0), (1, .int a1), (2, .int a2)] [] (emW eU S) (f_X1_moveCar S w a0 a1 a2) := by
  unfold f_X1_moveCar
  refine z_aload_n 0 dX1_moveCar_0 rfl (z_getR zc1 4 (by decide) rfl gw105 h0 (zW_some hW h0 4 rfl) dX1_moveCar_1 (z_iload_n 1 dX1_moveCar_4 rfl ?_))
  refine z_chk (fun c1 => ?_)
  refine z_iald (zW_arr hW h0 4 0 rfl) c1 dX1_moveCar_5 ?_
  refine z_let (a := (w (zr S a0 4) (zix a1))) (fun z2 => [(0, .ref a0), (1, .int a1), (2, .int a2)]) (fun z2 => .int z2 :: []) (fun z2 => ?_)
  refine z_istore_n (lv' := [(3, .int z2), (0, .ref a0), (1, .int a1), (2, .int a2)]) dX1_moveCar_6 (Nat.le_of_ble_eq_true rfl) rfl (z_iload_n 0 dX1_moveCar_7 rfl ?_)
  refine z_callSN (kc' := 0) (ks' := 0) (v := (some (.int (f_X7_levelOf z2)))) (S1 := S) (w1 := w) (st := []) [.int z2] (m_X7_levelOf hW w z2) zy_X7_levelOf gw318 zn_m6 (Nat.le_of_ble_eq_true rfl) (Nat.le_of_ble_eq_true rfl) (Nat.le_of_ble_eq_true rfl) (Nat.le_of_ble_eq_true rfl) (zal hW) rfl dX1_moveCar_8 (z_at 11 _ [.int (f_X7_levelOf z2)] rfl rfl rfl ?_)
  refine z_iload_n 3 dX1_moveCar_11 rfl ?_
  refine z_callSN (kc' := 0) (ks' := 0) (v := (some (.int (f_X7_levelOf a2)))) (S1 := S) (w1 := w) (st := [.int (f_X7_levelOf z2)]) [.int a2] (m_X7_levelOf hW w a2) zy_X7_levelOf gw318 zn_m6 (Nat.le_of_ble_eq_true rfl) (Nat.le_of_ble_eq_true rfl) (Nat.le_of_ble_eq_true rfl) (Nat.le_of_ble_eq_true rfl) (zal hW) rfl dX1_moveCar_12 (z_at 15 _ [.int (f_X7_levelOf a2), .int (f_X7_levelOf z2)] rfl rfl rfl ?_)
  refine z_icmp_ne 31 dX1_moveCar_15 rfl (fun q3 => ?_) (fun q3 => ?_)
  · refine z_aload_n 1 dX1_moveCar_31 rfl (z_getR zc1 7 (by decide) rfl gw108 h0 (zW_some hW h0 7 rfl) dX1_moveCar_32 (z_iload_n 2 dX1_moveCar_35 rfl (z_iload_n 0 dX1_moveCar_36 rfl (z_iload_n 3 dX1_moveCar_37 rfl ?_))))
    refine z_bind (fun r4 hb5 => ?_)
    refine z_callV (kc' := 0) (ks' := 0) (v := none) (S1 := S) (w1 := r4.2) (st := []) [.int a1, .int z2, .int a2] (m_X6_moveToOtherLevel hW w (zr S a0 7) (zW_obj hW h0 7 6 rfl) a1 z2 a2 r4 hb5) zc6 (zW_obj hW h0 7 6 rfl) zy_X6_moveToOtherLevel gw372 gw373 gw371 (Nat.le_of_ble_eq_true rfl) (Nat.le_of_ble_eq_true rfl) (Nat.le_of_ble_eq_true rfl) (Nat.le_of_ble_eq_true rfl) (zal hW) rfl dX1_moveCar_38 (z_at 41 _ [] rfl rfl rfl ?_)
    refine z_sub (lv' := [(0, .ref a0), (1, .int a1), (2, .int a2), (3, .int z2)]) [1, 2, 3, 0] rfl ?_
    refine z_pc (pc' := 41) rfl ?_
    exact m_X1_moveCar_j41 hW r4.2 a0 h0 a1 a2 z2 
  · refine z_aload_n 1 dX1_moveCar_18 rfl (z_getR zc1 7 (by decide) rfl gw108 h0 (zW_some hW h0 7 rfl) dX1_moveCar_19 (z_iload_n 2 dX1_moveCar_22 rfl (z_iload_n 0 dX1_moveCar_23 rfl (z_iload_n 3 dX1_moveCar_24 rfl ?_))))
    refine z_bind (fun r16 hb17 => ?_)
    refine z_callV (kc' := 0) (ks' := 0) (v := none) (S1 := S) (w1 := r16.2) (st := []) [.int a1, .int z2, .int a2] (m_X6_moveOnLevel hW w (zr S a0 7) (zW_obj hW h0 7 6 rfl) a1 z2 a2 r16 hb17) zc6 (zW_obj hW h0 7 6 rfl) zy_X6_moveOnLevel gw337 gw338 gw336 (Nat.le_of_ble_eq_true rfl) (Nat.le_of_ble_eq_true rfl) (Nat.le_of_ble_eq_true rfl) (Nat.le_of_ble_eq_true rfl) (zal hW) rfl dX1_moveCar_25 (z_at 28 _ [] rfl rfl rfl ?_)
    refine z_goto 41 dX1_moveCar_28 rfl ?_
    refine z_sub (lv' := [(0, .ref a0), (1, .int a1), (2, .int a2), (3, .int z2)]) [1, 2, 3, 0] rfl ?_
    refine z_pc (pc' := 41) rfl ?_
    exact m_X1_moveCar_j41 hW r16.2 a0 h0 a1 a2 z2 

theorem m_X1_moveCar {E : ZE} {S : Zs} (hW : zWF S) (w : Zw) (a0 : Nat) (h0 : zObj S a0 1) (a1 : Int32) (a2 : Int32) : ∀ i, f_X1_moveCar S w a0 a1 a2 = some i → zMr E yX1_moveCar cX1_moveCar 4 none 8 0 0 [.ref a0, .int a1, .int a2] S w ((emW eU S) i) :=
  fun i hi => z_enter (by decide +kernel) (Nat.le_of_ble_eq_true rfl) (mw_X1_moveCar hW w a0 h0 a1 a2 i hi)
/-! ParkingRobot$Plant.bringOut (II)V : W, depth 7 -/
abbrev i_X6_bringOut : Zm := (yX6_bringOut.cls, cX6_bringOut, 6, none, [], yX6_bringOut.name)
def f_X6_bringOut (S : Zs) (w : Zw) (a0 : Nat) (a1 : Int32) (a2 : Int32) : Option (Unit × Zw) :=
  if zin (f_X7_levelOf a2) (zlen S (zr S a0 0)) = true then (f_X4_start S w (zr S a0 1) (w a0 3)).bind fun r2 => (f_X4_start S r2.2 (zr S (zr S a0 0) (zix (f_X7_levelOf a2))) (r2.2 a0 3)).bind fun r4 => zlet (zmin r2.1 r4.1) fun z6 => (f_X4_goTo S r4.2 (zr S (zr S a0 0) (zix (f_X7_levelOf a2))) (f_X7_columnOf a2)).bind fun r7 => (f_X4_work S r7.2 (zr S (zr S a0 0) (zix (f_X7_levelOf a2))) (f_X6_workAt a2)).bind fun r9 => (f_X4_goTo S r9.2 (zr S (zr S a0 0) (zix (f_X7_levelOf a2))) (0 : Int32)).bind fun r11 => (f_X4_goTo S r11.2 (zr S a0 1) (f_X7_levelOf a2)).bind fun r13 => (f_X4_handOver S r13.2 (zr S (zr S a0 0) (zix (f_X7_levelOf a2))) (zr S a0 1)).bind fun r15 => (f_X4_goTo S r15.2 (zr S a0 1) (0 : Int32)).bind fun r17 => (f_X4_work S r17.2 (zr S a0 1) (2 : Int32)).bind fun r19 => (f_X4_finish S r19.2 (zr S a0 1)).bind fun r21 => (f_X4_finish S r21.2 (zr S (zr S a0 0) (zix (f_X7_levelOf a2)))).bind fun r23 => zlet (zmax r21.1 r23.1) fun z25 => (f_X3_add S r23.2 (zr S a0 2) a1 a2 (-1 : Int32) z6 z25).bind fun r26 => some ((), r26.2) else none
theorem mw_X6_bringOut {E : ZE} {S : Zs} (hW : zWF S) (w : Zw) (a0 : Nat) (h0 : zObj S a0 6) (a1 : Int32) (a2 : Int32) : zOk (E, i_X6_bringOut, 7) 0 0 S w 0 [(0, .ref a0), (1, .int a1), (2, .int a2)] [] (emW eU S) (f_X6_bringOut S w a0 a1 a2) := by
  unfold f_X6_bringOut
  refine z_aload_n 0 dX6_bringOut_0 rfl (z_getR zc6 0 (by decide) rfl gw85 h0 (zW_some hW h0 0 rfl) dX6_bringOut_1 (z_iload_n 2 dX6_bringOut_4 rfl ?_))
  refine z_callSN (kc' := 0) (ks' := 0) (v := (some (.int (f_X7_levelOf a2)))) (S1 := S) (w1 := w) (st := [.ref (zr S a0 0)]) [.int a2] (m_X7_levelOf hW w a2) zy_X7_levelOf gw318 zn_m7 (Nat.le_of_ble_eq_true rfl) (Nat.le_of_ble_eq_true rfl) (Nat.le_of_ble_eq_true rfl) (Nat.le_of_ble_eq_true rfl) (zal hW) rfl dX6_bringOut_5 (z_at 8 _ [.int (f_X7_levelOf a2), .ref (zr S a0 0)] rfl rfl rfl ?_)
  refine z_chk (fun c1 => ?_)
  refine z_aald (Or.inl rfl) (zW_arr hW h0 0 5 rfl) c1 (zW_el5 hW (zW_arr hW h0 0 5 rfl) c1).1 dX6_bringOut_8 (z_astore_n (lv' := [(3, .ref (zr S (zr S a0 0) (zix (f_X7_levelOf a2)))), (0, .ref a0), (1, .int a1), (2, .int a2)]) dX6_bringOut_9 (Nat.le_of_ble_eq_true rfl) rfl (z_aload_n 1 dX6_bringOut_10 rfl (z_getR zc6 1 (by decide) rfl gw87 h0 (zW_some hW h0 1 rfl) dX6_bringOut_11 (z_aload_n 1 dX6_bringOut_14 rfl (z_getI zc6 3 (by decide) rfl gw90 h0 dX6_bringOut_15 ?_)))))
  refine z_bind (fun r2 hb3 => ?_)
  refine z_callV (kc' := 0) (ks' := 0) (v := (some (.int r2.1))) (S1 := S) (w1 := r2.2) (st := []) [.int (w a0 3)] (m_X4_start hW w (zr S a0 1) (zW_obj hW h0 1 4 rfl) (w a0 3) r2 hb3) zc4 (zW_obj hW h0 1 4 rfl) zy_X4_start gw342 gw343 gw341 (Nat.le_of_ble_eq_true rfl) (Nat.le_of_ble_eq_true rfl) (Nat.le_of_ble_eq_true rfl) (Nat.le_of_ble_eq_true rfl) (zal hW) rfl dX6_bringOut_18 (z_at 21 _ [.int r2.1] rfl rfl rfl ?_)
  refine z_aload_n 0 dX6_bringOut_21 rfl (z_aload_n 1 dX6_bringOut_22 rfl (z_getI zc6 3 (by decide) rfl gw90 h0 dX6_bringOut_23 ?_))
  refine z_bind (fun r4 hb5 => ?_)
  refine z_callV (kc' := 0) (ks' := 0) (v := (some (.int r4.1))) (S1 := S) (w1 := r4.2) (st := [.int r2.1]) [.int (r2.2 a0 3)] (m_X4_start hW r2.2 (zr S (zr S a0 0) (zix (f_X7_levelOf a2))) (zW_el5 hW (zW_arr hW h0 0 5 rfl) c1).2 (r2.2 a0 3) r4 hb5) zc4 (zW_el5 hW (zW_arr hW h0 0 5 rfl) c1).2 zy_X4_start gw342 gw343 gw341 (Nat.le_of_ble_eq_true rfl) (Nat.le_of_ble_eq_true rfl) (Nat.le_of_ble_eq_true rfl) (Nat.le_of_ble_eq_true rfl) (zal hW) rfl dX6_bringOut_26 (z_at 29 _ [.int r4.1, .int r2.1] rfl rfl rfl ?_)
  refine z_min gw375 (Nat.le_of_ble_eq_true rfl) (Nat.le_of_ble_eq_true rfl) dX6_bringOut_29 ?_
  refine z_let (a := (zmin r2.1 r4.1)) (fun z6 => [(3, .ref (zr S (zr S a0 0) (zix (f_X7_levelOf a2)))), (0, .ref a0), (1, .int a1), (2, .int a2)]) (fun z6 => .int z6 :: []) (fun z6 => ?_)
  refine z_istore (lv' := [(4, .int z6), (3, .ref (zr S (zr S a0 0) (zix (f_X7_levelOf a2)))), (0, .ref a0), (1, .int a1), (2, .int a2)]) dX6_bringOut_32 (Nat.le_of_ble_eq_true rfl) rfl (z_aload_n 1 dX6_bringOut_34 rfl (z_iload_n 4 dX6_bringOut_35 rfl ?_))
  refine z_callSN (kc' := 0) (ks' := 0) (v := (some (.int (f_X7_columnOf a2)))) (S1 := S) (w1 := r4.2) (st := [.ref (zr S (zr S a0 0) (zix (f_X7_levelOf a2)))]) [.int a2] (m_X7_columnOf hW r4.2 a2) zy_X7_columnOf gw312 zn_m8 (Nat.le_of_ble_eq_true rfl) (Nat.le_of_ble_eq_true rfl) (Nat.le_of_ble_eq_true rfl) (Nat.le_of_ble_eq_true rfl) (zal hW) rfl dX6_bringOut_36 (z_at 39 _ [.int (f_X7_columnOf a2), .ref (zr S (zr S a0 0) (zix (f_X7_levelOf a2)))] rfl rfl rfl ?_)
  refine z_bind (fun r7 hb8 => ?_)
  refine z_callV (kc' := 0) (ks' := 0) (v := none) (S1 := S) (w1 := r7.2) (st := []) [.int (f_X7_columnOf a2)] (m_X4_goTo hW r4.2 (zr S (zr S a0 0) (zix (f_X7_levelOf a2))) (zW_el5 hW (zW_arr hW h0 0 5 rfl) c1).2 (f_X7_columnOf a2) r7 hb8) zc4 (zW_el5 hW (zW_arr hW h0 0 5 rfl) c1).2 zy_X4_goTo gw350 gw351 gw349 (Nat.le_of_ble_eq_true rfl) (Nat.le_of_ble_eq_true rfl) (Nat.le_of_ble_eq_true rfl) (Nat.le_of_ble_eq_true rfl) (zal hW) rfl dX6_bringOut_39 (z_at 42 _ [] rfl rfl rfl ?_)
  refine z_aload_n 1 dX6_bringOut_42 rfl (z_iload_n 4 dX6_bringOut_43 rfl ?_)
  refine z_callS (kc' := 0) (ks' := 0) (v := (some (.int (f_X6_workAt a2)))) (S1 := S) (w1 := r7.2) (st := [.ref (zr S (zr S a0 0) (zix (f_X7_levelOf a2)))]) [.int a2] (m_X6_workAt hW r7.2 a2) zy_X6_workAt gw355 gw354 (Nat.le_of_ble_eq_true rfl) (Nat.le_of_ble_eq_true rfl) (Nat.le_of_ble_eq_true rfl) (Nat.le_of_ble_eq_true rfl) (zal hW) rfl dX6_bringOut_44 (z_at 47 _ [.int (f_X6_workAt a2), .ref (zr S (zr S a0 0) (zix (f_X7_levelOf a2)))] rfl rfl rfl ?_)
  refine z_bind (fun r9 hb10 => ?_)
  refine z_callV (kc' := 0) (ks' := 0) (v := none) (S1 := S) (w1 := r9.2) (st := []) [.int (f_X6_workAt a2)] (m_X4_work hW r7.2 (zr S (zr S a0 0) (zix (f_X7_levelOf a2))) (zW_el5 hW (zW_arr hW h0 0 5 rfl) c1).2 (f_X6_workAt a2) r9 hb10) zc4 (zW_el5 hW (zW_arr hW h0 0 5 rfl) c1).2 zy_X4_work gw359 gw360 gw358 (Nat.le_of_ble_eq_true rfl) (Nat.le_of_ble_eq_true rfl) (Nat.le_of_ble_eq_true rfl) (Nat.le_of_ble_eq_true rfl) (zal hW) rfl dX6_bringOut_47 (z_at 50 _ [] rfl rfl rfl ?_)
  refine z_aload_n 1 dX6_bringOut_50 rfl (z_iconst dX6_bringOut_51 zi_0 ?_)
  refine z_bind (fun r11 hb12 => ?_)
  refine z_callV (kc' := 0) (ks' := 0) (v := none) (S1 := S) (w1 := r11.2) (st := []) [.int (0 : Int32)] (m_X4_goTo hW r9.2 (zr S (zr S a0 0) (zix (f_X7_levelOf a2))) (zW_el5 hW (zW_arr hW h0 0 5 rfl) c1).2 (0 : Int32) r11 hb12) zc4 (zW_el5 hW (zW_arr hW h0 0 5 rfl) c1).2 zy_X4_goTo gw350 gw351 gw349 (Nat.le_of_ble_eq_true rfl) (Nat.le_of_ble_eq_true rfl) (Nat.le_of_ble_eq_true rfl) (Nat.le_of_ble_eq_true rfl) (zal hW) rfl dX6_bringOut_52 (z_at 55 _ [] rfl rfl rfl ?_)
  refine z_aload_n 2 dX6_bringOut_55 rfl (z_getR zc6 1 (by decide) rfl gw87 h0 (zW_some hW h0 1 rfl) dX6_bringOut_56 (z_iload_n 4 dX6_bringOut_59 rfl ?_))
  refine z_callSN (kc' := 0) (ks' := 0) (v := (some (.int (f_X7_levelOf a2)))) (S1 := S) (w1 := r11.2) (st := [.ref (zr S a0 1)]) [.int a2] (m_X7_levelOf hW r11.2 a2) zy_X7_levelOf gw318 zn_m7 (Nat.le_of_ble_eq_true rfl) (Nat.le_of_ble_eq_true rfl) (Nat.le_of_ble_eq_true rfl) (Nat.le_of_ble_eq_true rfl) (zal hW) rfl dX6_bringOut_60 (z_at 63 _ [.int (f_X7_levelOf a2), .ref (zr S a0 1)] rfl rfl rfl ?_)
  refine z_bind (fun r13 hb14 => ?_)
  refine z_callV (kc' := 0) (ks' := 0) (v := none) (S1 := S) (w1 := r13.2) (st := []) [.int (f_X7_levelOf a2)] (m_X4_goTo hW r11.2 (zr S a0 1) (zW_obj hW h0 1 4 rfl) (f_X7_levelOf a2) r13 hb14) zc4 (zW_obj hW h0 1 4 rfl) zy_X4_goTo gw350 gw351 gw349 (Nat.le_of_ble_eq_true rfl) (Nat.le_of_ble_eq_true rfl) (Nat.le_of_ble_eq_true rfl) (Nat.le_of_ble_eq_true rfl) (zal hW) rfl dX6_bringOut_63 (z_at 66 _ [] rfl rfl rfl ?_)
  refine z_aload_n 1 dX6_bringOut_66 rfl (z_aload_n 2 dX6_bringOut_67 rfl (z_getR zc6 1 (by decide) rfl gw87 h0 (zW_some hW h0 1 rfl) dX6_bringOut_68 ?_))
  refine z_bind (fun r15 hb16 => ?_)
  refine z_callV (kc' := 0) (ks' := 0) (v := none) (S1 := S) (w1 := r15.2) (st := []) [.ref (zr S a0 1)] (m_X4_handOver hW r13.2 (zr S (zr S a0 0) (zix (f_X7_levelOf a2))) (zW_el5 hW (zW_arr hW h0 0 5 rfl) c1).2 (zr S a0 1) (zW_obj hW h0 1 4 rfl) r15 hb16) zc4 (zW_el5 hW (zW_arr hW h0 0 5 rfl) c1).2 zy_X4_handOver gw379 gw380 gw378 (Nat.le_of_ble_eq_true rfl) (Nat.le_of_ble_eq_true rfl) (Nat.le_of_ble_eq_true rfl) (Nat.le_of_ble_eq_true rfl) (zal hW) rfl dX6_bringOut_71 (z_at 74 _ [] rfl rfl rfl ?_)
  refine z_aload_n 2 dX6_bringOut_74 rfl (z_getR zc6 1 (by decide) rfl gw87 h0 (zW_some hW h0 1 rfl) dX6_bringOut_75 (z_iconst dX6_bringOut_78 zi_0 ?_))
  refine z_bind (fun r17 hb18 => ?_)
  refine z_callV (kc' := 0) (ks' := 0) (v := none) (S1 := S) (w1 := r17.2) (st := []) [.int (0 : Int32)] (m_X4_goTo hW r15.2 (zr S a0 1) (zW_obj hW h0 1 4 rfl) (0 : Int32) r17 hb18) zc4 (zW_obj hW h0 1 4 rfl) zy_X4_goTo gw350 gw351 gw349 (Nat.le_of_ble_eq_true rfl) (Nat.le_of_ble_eq_true rfl) (Nat.le_of_ble_eq_true rfl) (Nat.le_of_ble_eq_true rfl) (zal hW) rfl dX6_bringOut_79 (z_at 82 _ [] rfl rfl rfl ?_)
  refine z_aload_n 2 dX6_bringOut_82 rfl (z_getR zc6 1 (by decide) rfl gw87 h0 (zW_some hW h0 1 rfl) dX6_bringOut_83 (z_iconst dX6_bringOut_86 zi_2 ?_))
  refine z_bind (fun r19 hb20 => ?_)
  refine z_callV (kc' := 0) (ks' := 0) (v := none) (S1 := S) (w1 := r19.2) (st := []) [.int (2 : Int32)] (m_X4_work hW r17.2 (zr S a0 1) (zW_obj hW h0 1 4 rfl) (2 : Int32) r19 hb20) zc4 (zW_obj hW h0 1 4 rfl) zy_X4_work gw359 gw360 gw358 (Nat.le_of_ble_eq_true rfl) (Nat.le_of_ble_eq_true rfl) (Nat.le_of_ble_eq_true rfl) (Nat.le_of_ble_eq_true rfl) (zal hW) rfl dX6_bringOut_87 (z_at 90 _ [] rfl rfl rfl ?_)
  refine z_aload_n 2 dX6_bringOut_90 rfl (z_getR zc6 1 (by decide) rfl gw87 h0 (zW_some hW h0 1 rfl) dX6_bringOut_91 ?_)
  refine z_bind (fun r21 hb22 => ?_)
  refine z_callV (kc' := 0) (ks' := 0) (v := (some (.int r21.1))) (S1 := S) (w1 := r21.2) (st := []) [] (m_X4_finish hW r19.2 (zr S a0 1) (zW_obj hW h0 1 4 rfl) r21 hb22) zc4 (zW_obj hW h0 1 4 rfl) zy_X4_finish gw363 gw364 gw362 (Nat.le_of_ble_eq_true rfl) (Nat.le_of_ble_eq_true rfl) (Nat.le_of_ble_eq_true rfl) (Nat.le_of_ble_eq_true rfl) (zal hW) rfl dX6_bringOut_94 (z_at 97 _ [.int r21.1] rfl rfl rfl ?_)
  refine z_aload_n 1 dX6_bringOut_97 rfl ?_
  refine z_bind (fun r23 hb24 => ?_)
  refine z_callV (kc' := 0) (ks' := 0) (v := (some (.int r23.1))) (S1 := S) (w1 := r23.2) (st := [.int r21.1]) [] (m_X4_finish hW r21.2 (zr S (zr S a0 0) (zix (f_X7_levelOf a2))) (zW_el5 hW (zW_arr hW h0 0 5 rfl) c1).2 r23 hb24) zc4 (zW_el5 hW (zW_arr hW h0 0 5 rfl) c1).2 zy_X4_finish gw363 gw364 gw362 (Nat.le_of_ble_eq_true rfl) (Nat.le_of_ble_eq_true rfl) (Nat.le_of_ble_eq_true rfl) (Nat.le_of_ble_eq_true rfl) (zal hW) rfl dX6_bringOut_98 (z_at 101 _ [.int r23.1, .int r21.1] rfl rfl rfl ?_)
  refine z_max gw382 (Nat.le_of_ble_eq_true rfl) (Nat.le_of_ble_eq_true rfl) dX6_bringOut_101 ?_
  refine z_let (a := (zmax r21.1 r23.1)) (fun z25 => [(4, .int z6), (3, .ref (zr S (zr S a0 0) (zix (f_X7_levelOf a2)))), (0, .ref a0), (1, .int a1), (2, .int a2)]) (fun z25 => .int z25 :: []) (fun z25 => ?_)
  refine z_istore (lv' := [(5, .int z25), (4, .int z6), (3, .ref (zr S (zr S a0 0) (zix (f_X7_levelOf a2)))), (0, .ref a0), (1, .int a1), (2, .int a2)]) dX6_bringOut_104 (Nat.le_of_ble_eq_true rfl) rfl (z_aload_n 3 dX6_bringOut_106 rfl (z_getR zc6 2 (by decide) rfl gw88 h0 (zW_some hW h0 2 rfl) dX6_bringOut_107 (z_iload_n 4 dX6_bringOut_110 rfl (z_iload_n 5 dX6_bringOut_111 rfl (z_iconst dX6_bringOut_112 zi_m1 ?_)))))
  refine z_iload 1 dX6_bringOut_113 rfl (z_iload 0 dX6_bringOut_115 rfl ?_)
  refine z_bind (fun r26 hb27 => ?_)
  refine z_callV (kc' := 0) (ks' := 0) (v := none) (S1 := S) (w1 := r26.2) (st := []) [.int a1, .int a2, .int (-1 : Int32), .int z6, .int z25] (m_X3_add hW r23.2 (zr S a0 2) (zW_obj hW h0 2 3 rfl) a1 a2 (-1 : Int32) z6 z25 r26 hb27) zc3 (zW_obj hW h0 2 3 rfl) zy_X3_add gw367 gw368 gw366 (Nat.le_of_ble_eq_true rfl) (Nat.le_of_ble_eq_true rfl) (Nat.le_of_ble_eq_true rfl) (Nat.le_of_ble_eq_true rfl) (zal hW) rfl dX6_bringOut_117 (z_at 120 _ [] rfl rfl rfl ?_)
  exact z_vret zemW rfl dX6_bringOut_120

theorem m_X6_bringOut {E : ZE} {S : Zs} (hW : zWF S) (w : Zw) (a0 : Nat) (h0 : zObj S a0 6) (a1 : Int32) (a2 : Int32) : ∀ i, f_X6_bringOut S w a0 a1 a2 = some i → zMr E yX6_bringOut cX6_bringOut 6 none 7 0 0 [.ref a0, .int a1, .int a2] S w ((emW eU S) i) :=
  fun i hi => z_enter (by decide +kernel) (Nat.le_of_ble_eq_true rfl) (mw_X6_bringOut hW w a0 h0 a1 a2 i hi)
/-! ParkingRobot$Garage.takeOut (I)V : W, depth 8 -/
abbrev i_X1_takeOut : Zm := (yX1_takeOut.cls, cX1_takeOut, 3, none, [], yX1_takeOut.name)
def f_X1_takeOut (S : Zs) (w : Zw) (a0 : Nat) (a1 : Int32) : Option (Unit × Zw) :=
  if zin a1 (zlen S (zr S a0 4)) = true then zlet (w (zr S a0 4) (zix a1)) fun z2 => (f_X6_bringOut S w (zr S a0 7) a1 z2).bind fun r3 => if zin z2 (zlen S (zr S a0 1)) = true then zlet (zput r3.2 (zr S a0 1) (zix z2) (-1 : Int32)) fun w6 => if zin a1 (zlen S (zr S a0 4)) = true then zlet (zput w6 (zr S a0 4) (zix a1) (-1 : Int32)) fun w8 => if zin a1 (zlen S (zr S a0 5)) = true then if zin a1 (zlen S (zr S a0 5)) = true then zlet (zput w8 (zr S a0 5) (zix a1) ((w8 (zr S a0 5) (zix a1)) + (1 : Int32))) fun w11 => zlet (zput w11 a0 9 ((w11 a0 9) - (1 : Int32))) fun w12 => some ((), w12) else none else none else none else none else none
theorem mw_X1_takeOut {E : ZE} {S : Zs} (hW : zWF S) (w : Zw) (a0 : Nat) (h0 : zObj S a0 1) (a1 : Int32) : zOk (E, i_X1_takeOut, 8) 0 0 S w 0 [(0, .ref a0), (1, .int a1)] [] (emW eU S) (f_X1_takeOut S w a0 a1) := by
  unfold f_X1_takeOut
  refine z_aload_n 0 dX1_takeOut_0 rfl (z_getR zc1 4 (by decide) rfl gw105 h0 (zW_some hW h0 4 rfl) dX1_takeOut_1 (z_iload_n 1 dX1_takeOut_4 rfl ?_))
  refine z_chk (fun c1 => ?_)
  refine z_iald (zW_arr hW h0 4 0 rfl) c1 dX1_takeOut_5 ?_
  refine z_let (a := (w (zr S a0 4) (zix a1))) (fun z2 => [(0, .ref a0), (1, .int a1)]) (fun z2 => .int z2 :: []) (fun z2 => ?_)
  refine z_istore_n (lv' := [(2, .int z2), (0, .ref a0), (1, .int a1)]) dX1_takeOut_6 (Nat.le_of_ble_eq_true rfl) rfl (z_aload_n 1 dX1_takeOut_7 rfl (z_getR zc1 7 (by decide) rfl gw108 h0 (zW_some hW h0 7 rfl) dX1_takeOut_8 (z_iload_n 2 dX1_takeOut_11 rfl (z_iload_n 0 dX1_takeOut_12 rfl ?_))))
  refine z_bind (fun r3 hb4 => ?_)
  refine z_callV (kc' := 0) (ks' := 0) (v := none) (S1 := S) (w1 := r3.2) (st := []) [.int a1, .int z2] (m_X6_bringOut hW w (zr S a0 7) (zW_obj hW h0 7 6 rfl) a1 z2 r3 hb4) zc6 (zW_obj hW h0 7 6 rfl) zy_X6_bringOut gw606 gw607 gw605 (Nat.le_of_ble_eq_true rfl) (Nat.le_of_ble_eq_true rfl) (Nat.le_of_ble_eq_true rfl) (Nat.le_of_ble_eq_true rfl) (zal hW) rfl dX1_takeOut_13 (z_at 16 _ [] rfl rfl rfl ?_)
  refine z_aload_n 1 dX1_takeOut_16 rfl (z_getR zc1 1 (by decide) rfl gw102 h0 (zW_some hW h0 1 rfl) dX1_takeOut_17 (z_iload_n 0 dX1_takeOut_20 rfl (z_iconst dX1_takeOut_21 zi_m1 ?_)))
  refine z_chk (fun c5 => ?_)
  refine z_iast (zW_arr hW h0 1 0 rfl) c5 dX1_takeOut_22 (z_letw (fun w6 => ?_))
  refine z_aload_n 1 dX1_takeOut_23 rfl (z_getR zc1 4 (by decide) rfl gw105 h0 (zW_some hW h0 4 rfl) dX1_takeOut_24 (z_iload_n 2 dX1_takeOut_27 rfl (z_iconst dX1_takeOut_28 zi_m1 ?_)))
  refine z_chk (fun c7 => ?_)
  refine z_iast (zW_arr hW h0 4 0 rfl) c7 dX1_takeOut_29 (z_letw (fun w8 => ?_))
  refine z_aload_n 1 dX1_takeOut_30 rfl (z_getR zc1 5 (by decide) rfl gw106 h0 (zW_some hW h0 5 rfl) dX1_takeOut_31 (z_iload_n 2 dX1_takeOut_34 rfl (z_dup2_11 dX1_takeOut_35 rfl rfl ?_)))
  refine z_chk (fun c9 => ?_)
  refine z_iald (zW_arr hW h0 5 0 rfl) c9 dX1_takeOut_36 (z_iconst dX1_takeOut_37 zi_1 (z_iadd dX1_takeOut_38 ?_))
  refine z_chk (fun c10 => ?_)
  refine z_iast (zW_arr hW h0 5 0 rfl) c10 dX1_takeOut_39 (z_letw (fun w11 => ?_))
  refine z_aload_n 1 dX1_takeOut_40 rfl (z_dup dX1_takeOut_41 rfl (z_getI zc1 9 (by decide) rfl gw110 h0 dX1_takeOut_42 (z_iconst dX1_takeOut_45 zi_1 (z_isub dX1_takeOut_46 ?_))))
  refine z_putI zc1 9 (by decide) (Or.inl rfl) rfl gw110 h0 dX1_takeOut_47 (z_letw (fun w12 => ?_))
  exact z_vret zemW rfl dX1_takeOut_50

theorem m_X1_takeOut {E : ZE} {S : Zs} (hW : zWF S) (w : Zw) (a0 : Nat) (h0 : zObj S a0 1) (a1 : Int32) : ∀ i, f_X1_takeOut S w a0 a1 = some i → zMr E yX1_takeOut cX1_takeOut 3 none 8 0 0 [.ref a0, .int a1] S w ((emW eU S) i) :=
  fun i hi => z_enter (by decide +kernel) (Nat.le_of_ble_eq_true rfl) (mw_X1_takeOut hW w a0 h0 a1 i hi)
/-! ParkingRobot$Garage.fetch (I)I : W, depth 9 -/
abbrev i_X1_fetch : Zm := (yX1_fetch.cls, cX1_fetch, 4, (some .int), [], yX1_fetch.name)
def f_X1_fetch_j40 (S : Zs) (w : Zw) (x0 : Nat) (x1 : Int32) (x2 : Int32) : Option (Int32 × Zw) :=
  (f_X1_takeOut S w x0 x1).bind fun r7 => if x2 = (-1 : Int32) then some ((1 : Int32), r7.2) else some ((2 : Int32), r7.2)
theorem m_X1_fetch_j40 {E : ZE} {S : Zs} (hW : zWF S) (w : Zw) (x0 : Nat) (hx0 : zObj S x0 1) (x1 : Int32) (x2 : Int32) : zOk (E, i_X1_fetch, 9) 0 0 S w 40 [(0, .ref x0), (1, .int x1), (2, .int x2)] [] (emW eI S) (f_X1_fetch_j40 S w x0 x1 x2) := by
  unfold f_X1_fetch_j40
  refine z_aload_n 0 dX1_fetch_40 rfl (z_iload_n 1 dX1_fetch_41 rfl ?_)
  refine z_bind (fun r7 hb8 => ?_)
  refine z_callV (kc' := 0) (ks' := 0) (v := none) (S1 := S) (w1 := r7.2) (st := []) [.int x1] (m_X1_takeOut hW w x0 hx0 x1 r7 hb8) zc1 hx0 zy_X1_takeOut gw603 gp7 gw601 (Nat.le_of_ble_eq_true rfl) (Nat.le_of_ble_eq_true rfl) (Nat.le_of_ble_eq_true rfl) (Nat.le_of_ble_eq_true rfl) (zal hW) rfl dX1_fetch_42 (z_at 45 _ [] rfl rfl rfl ?_)
  refine z_iload_n 2 dX1_fetch_45 rfl (z_iconst dX1_fetch_46 zi_m1 ?_)
  refine z_icmp_ne 54 dX1_fetch_47 rfl (fun q9 => ?_) (fun q9 => ?_)
  · refine z_iconst dX1_fetch_54 zi_2 ?_
    exact z_iret zemW rfl dX1_fetch_55
  · refine z_iconst dX1_fetch_50 zi_1 (z_goto 55 dX1_fetch_51 rfl ?_)
    exact z_iret zemW rfl dX1_fetch_55

def f_X1_fetch (S : Zs) (w : Zw) (a0 : Nat) (a1 : Int32) : Option (Int32 × Zw) :=
  (f_X1_isStored S w a0 a1).bind fun v1 => if v1 = 0 then some ((0 : Int32), w) else (f_X1_blockerOf S w a0 a1).bind fun v4 => if v4 = (-1 : Int32) then f_X1_fetch_j40 S w a0 a1 v4  else (f_X1_bayToFlee S w a0 v4).bind fun v10 => if v10 = (-1 : Int32) then some ((0 : Int32), w) else (f_X1_moveCar S w a0 v4 v10).bind fun r13 => f_X1_fetch_j40 S r13.2 a0 a1 v4 
theorem mw_X1_fetch {E : ZE} {S : Zs} (hW : zWF S) (w : Zw) (a0 : Nat) (h0 : zObj S a0 1) (a1 : Int32) : zOk (E, i_X1_fetch, 9) 0 0 S w 0 [(0, .ref a0), (1, .int a1)] [] (emW eI S) (f_X1_fetch S w a0 a1) := by
  unfold f_X1_fetch
  refine z_aload_n 0 dX1_fetch_0 rfl (z_iload_n 1 dX1_fetch_1 rfl ?_)
  refine z_bind (fun v1 hb2 => ?_)
  refine z_callV (kc' := 0) (ks' := 0) (v := (some (.int v1))) (S1 := S) (w1 := w) (st := []) [.int a1] (m_X1_isStored hW w a0 h0 a1 v1 hb2) zc1 h0 zy_X1_isStored gw282 gw283 gw281 (Nat.le_of_ble_eq_true rfl) (Nat.le_of_ble_eq_true rfl) (Nat.le_of_ble_eq_true rfl) (Nat.le_of_ble_eq_true rfl) (zal hW) rfl dX1_fetch_2 (z_at 5 _ [.int v1] rfl rfl rfl ?_)
  refine z_if_ne 10 dX1_fetch_5 rfl (fun q3 => ?_) (fun q3 => ?_)
  · refine z_aload_n 0 dX1_fetch_10 rfl (z_iload_n 1 dX1_fetch_11 rfl ?_)
    refine z_bind (fun v4 hb5 => ?_)
    refine z_callV (kc' := 0) (ks' := 0) (v := (some (.int v4))) (S1 := S) (w1 := w) (st := []) [.int a1] (m_X1_blockerOf hW w a0 h0 a1 v4 hb5) zc1 h0 zy_X1_blockerOf gw278 gw279 gw277 (Nat.le_of_ble_eq_true rfl) (Nat.le_of_ble_eq_true rfl) (Nat.le_of_ble_eq_true rfl) (Nat.le_of_ble_eq_true rfl) (zal hW) rfl dX1_fetch_12 (z_at 15 _ [.int v4] rfl rfl rfl ?_)
    refine z_istore_n (lv' := [(2, .int v4), (0, .ref a0), (1, .int a1)]) dX1_fetch_15 (Nat.le_of_ble_eq_true rfl) rfl (z_iload_n 0 dX1_fetch_16 rfl (z_iconst dX1_fetch_17 zi_m1 ?_))
    refine z_icmp_eq 40 dX1_fetch_18 rfl (fun q6 => ?_) (fun q6 => ?_)
    · refine z_sub (lv' := [(0, .ref a0), (1, .int a1), (2, .int v4)]) [1, 2, 0] rfl ?_
      refine z_pc (pc' := 40) rfl ?_
      exact m_X1_fetch_j40 hW w a0 h0 a1 v4 
    · refine z_aload_n 1 dX1_fetch_21 rfl (z_iload_n 0 dX1_fetch_22 rfl ?_)
      refine z_bind (fun v10 hb11 => ?_)
      refine z_callV (kc' := 0) (ks' := 0) (v := (some (.int v10))) (S1 := S) (w1 := w) (st := []) [.int v4] (m_X1_bayToFlee hW w a0 h0 v4 v10 hb11) zc1 h0 zy_X1_bayToFlee gw301 gw302 gw300 (Nat.le_of_ble_eq_true rfl) (Nat.le_of_ble_eq_true rfl) (Nat.le_of_ble_eq_true rfl) (Nat.le_of_ble_eq_true rfl) (zal hW) rfl dX1_fetch_23 (z_at 26 _ [.int v10] rfl rfl rfl ?_)
      refine z_istore_n (lv' := [(3, .int v10), (2, .int v4), (0, .ref a0), (1, .int a1)]) dX1_fetch_26 (Nat.le_of_ble_eq_true rfl) rfl (z_iload_n 0 dX1_fetch_27 rfl (z_iconst dX1_fetch_28 zi_m1 ?_))
      refine z_icmp_ne 34 dX1_fetch_29 rfl (fun q12 => ?_) (fun q12 => ?_)
      · refine z_aload_n 2 dX1_fetch_34 rfl (z_iload_n 1 dX1_fetch_35 rfl (z_iload_n 0 dX1_fetch_36 rfl ?_))
        refine z_bind (fun r13 hb14 => ?_)
        refine z_callV (kc' := 0) (ks' := 0) (v := none) (S1 := S) (w1 := r13.2) (st := []) [.int v4, .int v10] (m_X1_moveCar hW w a0 h0 v4 v10 r13 hb14) zc1 h0 zy_X1_moveCar gw333 gp2 gw331 (Nat.le_of_ble_eq_true rfl) (Nat.le_of_ble_eq_true rfl) (Nat.le_of_ble_eq_true rfl) (Nat.le_of_ble_eq_true rfl) (zal hW) rfl dX1_fetch_37 (z_at 40 _ [] rfl rfl rfl ?_)
        refine z_sub (lv' := [(0, .ref a0), (1, .int a1), (2, .int v4)]) [2, 3, 1] rfl ?_
        refine z_pc (pc' := 40) rfl ?_
        exact m_X1_fetch_j40 hW r13.2 a0 h0 a1 v4 
      · refine z_iconst dX1_fetch_32 zi_0 ?_
        exact z_iret zemW rfl dX1_fetch_33
  · refine z_iconst dX1_fetch_8 zi_0 ?_
    exact z_iret zemW rfl dX1_fetch_9

theorem m_X1_fetch {E : ZE} {S : Zs} (hW : zWF S) (w : Zw) (a0 : Nat) (h0 : zObj S a0 1) (a1 : Int32) : ∀ i, f_X1_fetch S w a0 a1 = some i → zMr E yX1_fetch cX1_fetch 4 ((some .int)) 9 0 0 [.ref a0, .int a1] S w ((emW eI S) i) :=
  fun i hi => z_enter (by decide +kernel) (Nat.le_of_ble_eq_true rfl) (mw_X1_fetch hW w a0 h0 a1 i hi)
/-! ParkingRobot$Orders.movesAt (I)I : P, depth 1 -/
abbrev i_X5_movesAt : Zm := (yX5_movesAt.cls, cX5_movesAt, 2, (some .int), [], yX5_movesAt.name)
def f_X5_movesAt (S : Zs) (w : Zw) (a0 : Nat) (a1 : Int32) : Option (Int32) :=
  if zin a1 (zlen S (zr S a0 0)) = true then some ((f_X3_total S w (f_X1_log S w (zr S (zr S a0 0) (zix a1)))) - (w a0 5)) else none
theorem mw_X5_movesAt {E : ZE} {S : Zs} (hW : zWF S) (w : Zw) (a0 : Nat) (h0 : zObj S a0 5) (a1 : Int32) : zOk (E, i_X5_movesAt, 1) 0 0 S w 0 [(0, .ref a0), (1, .int a1)] [] (emP eI S w) (f_X5_movesAt S w a0 a1) := by
  unfold f_X5_movesAt
  refine z_aload_n 0 dX5_movesAt_0 rfl (z_getR zc5 0 (by decide) rfl gw162 h0 (zW_some hW h0 0 rfl) dX5_movesAt_1 (z_iload_n 1 dX5_movesAt_4 rfl ?_))
  refine z_chk (fun c1 => ?_)
  refine z_aald (Or.inr rfl) (zW_arr hW h0 0 6 rfl) c1 (zW_el6 hW (zW_arr hW h0 0 6 rfl) c1).1 dX5_movesAt_5 ?_
  refine z_callV (kc' := 0) (ks' := 0) (v := (some (.ref (f_X1_log S w (zr S (zr S a0 0) (zix a1)))))) (S1 := S) (w1 := w) (st := []) [] (m_X1_log hW w (zr S (zr S a0 0) (zix a1)) (zW_el6 hW (zW_arr hW h0 0 6 rfl) c1).2) zc1 (zW_el6 hW (zW_arr hW h0 0 6 rfl) c1).2 zy_X1_log gw393 gw394 gw780 (Nat.le_of_ble_eq_true rfl) (Nat.le_of_ble_eq_true rfl) (Nat.le_of_ble_eq_true rfl) (Nat.le_of_ble_eq_true rfl) (zal hW) rfl dX5_movesAt_6 (z_at 9 _ [.ref (f_X1_log S w (zr S (zr S a0 0) (zix a1)))] rfl rfl rfl ?_)
  refine z_callV (kc' := 0) (ks' := 0) (v := (some (.int (f_X3_total S w (f_X1_log S w (zr S (zr S a0 0) (zix a1))))))) (S1 := S) (w1 := w) (st := []) [] (m_X3_total hW w (f_X1_log S w (zr S (zr S a0 0) (zix a1))) (mo_X1_log hW w (zr S (zr S a0 0) (zix a1)) (zW_el6 hW (zW_arr hW h0 0 6 rfl) c1).2)) zc3 (mo_X1_log hW w (zr S (zr S a0 0) (zix a1)) (zW_el6 hW (zW_arr hW h0 0 6 rfl) c1).2) zy_X3_total gw782 gw783 gw781 (Nat.le_of_ble_eq_true rfl) (Nat.le_of_ble_eq_true rfl) (Nat.le_of_ble_eq_true rfl) (Nat.le_of_ble_eq_true rfl) (zal hW) rfl dX5_movesAt_9 (z_at 12 _ [.int (f_X3_total S w (f_X1_log S w (zr S (zr S a0 0) (zix a1))))] rfl rfl rfl ?_)
  refine z_aload_n 0 dX5_movesAt_12 rfl (z_getI zc5 5 (by decide) rfl gw167 h0 dX5_movesAt_13 (z_isub dX5_movesAt_16 ?_))
  exact z_iret zemP rfl dX5_movesAt_17

theorem m_X5_movesAt {E : ZE} {S : Zs} (hW : zWF S) (w : Zw) (a0 : Nat) (h0 : zObj S a0 5) (a1 : Int32) : ∀ i, f_X5_movesAt S w a0 a1 = some i → zMr E yX5_movesAt cX5_movesAt 2 ((some .int)) 1 0 0 [.ref a0, .int a1] S w ((emP eI S w) i) :=
  fun i hi => z_enter (by decide +kernel) (Nat.le_of_ble_eq_true rfl) (mw_X5_movesAt hW w a0 h0 a1 i hi)
/-! ParkingRobot$Orders.isTooLong (I)Z : P, depth 2 -/
abbrev i_X5_isTooLong : Zm := (yX5_isTooLong.cls, cX5_isTooLong, 2, (some .boolean), [], yX5_isTooLong.name)
def f_X5_isTooLong (S : Zs) (w : Zw) (a0 : Nat) (a1 : Int32) : Option (Int32) :=
  if (w a0 6) = 0 then some (0 : Int32) else (f_X5_movesAt S w a0 a1).bind fun v2 => if ((v2 + (w a0 4)) - a1) ≤ (w a0 6) then some (0 : Int32) else some (1 : Int32)
theorem mw_X5_isTooLong {E : ZE} {S : Zs} (hW : zWF S) (w : Zw) (a0 : Nat) (h0 : zObj S a0 5) (a1 : Int32) : zOk (E, i_X5_isTooLong, 2) 0 0 S w 0 [(0, .ref a0), (1, .int a1)] [] (emP eI S w) (f_X5_isTooLong S w a0 a1) := by
  unfold f_X5_isTooLong
  refine z_aload_n 0 dX5_isTooLong_0 rfl (z_getI zc5 6 (by decide) rfl gw168 h0 dX5_isTooLong_1 ?_)
  refine z_if_eq 30 dX5_isTooLong_4 rfl (fun q1 => ?_) (fun q1 => ?_)
  · refine z_iconst dX5_isTooLong_30 zi_0 ?_
    exact z_zret zemP rfl rfl dX5_isTooLong_31
  · refine z_aload_n 0 dX5_isTooLong_7 rfl (z_iload_n 1 dX5_isTooLong_8 rfl ?_)
    refine z_bind (fun v2 hb3 => ?_)
    refine z_callV (kc' := 0) (ks' := 0) (v := (some (.int v2))) (S1 := S) (w1 := w) (st := []) [.int a1] (m_X5_movesAt hW w a0 h0 a1 v2 hb3) zc5 h0 zy_X5_movesAt gw791 gp13 gw789 (Nat.le_of_ble_eq_true rfl) (Nat.le_of_ble_eq_true rfl) (Nat.le_of_ble_eq_true rfl) (Nat.le_of_ble_eq_true rfl) (zal hW) rfl dX5_isTooLong_9 (z_at 12 _ [.int v2] rfl rfl rfl ?_)
    refine z_aload_n 0 dX5_isTooLong_12 rfl (z_getI zc5 4 (by decide) rfl gw166 h0 dX5_isTooLong_13 (z_iadd dX5_isTooLong_16 (z_iload_n 1 dX5_isTooLong_17 rfl (z_isub dX5_isTooLong_18 (z_aload_n 0 dX5_isTooLong_19 rfl ?_)))))
    refine z_getI zc5 6 (by decide) rfl gw168 h0 dX5_isTooLong_20 ?_
    refine z_icmp_le 30 dX5_isTooLong_23 rfl (fun q4 => ?_) (fun q4 => ?_)
    · refine z_iconst dX5_isTooLong_30 zi_0 ?_
      exact z_zret zemP rfl rfl dX5_isTooLong_31
    · refine z_iconst dX5_isTooLong_26 zi_1 (z_goto 31 dX5_isTooLong_27 rfl ?_)
      exact z_zret zemP rfl rfl dX5_isTooLong_31

theorem m_X5_isTooLong {E : ZE} {S : Zs} (hW : zWF S) (w : Zw) (a0 : Nat) (h0 : zObj S a0 5) (a1 : Int32) : ∀ i, f_X5_isTooLong S w a0 a1 = some i → zMr E yX5_isTooLong cX5_isTooLong 2 ((some .boolean)) 2 0 0 [.ref a0, .int a1] S w ((emP eI S w) i) :=
  fun i hi => z_enter (by decide +kernel) (Nat.le_of_ble_eq_true rfl) (mw_X5_isTooLong hW w a0 h0 a1 i hi)
/-! ParkingRobot$Orders.tryNext (II)V : W, depth 99 -/
abbrev i_X5_tryNext : Zm := (yX5_tryNext.cls, cX5_tryNext, 3, none, [], yX5_tryNext.name)
def f_X5_tryNext_F (S : Zs) (self : (Int32 × Zw) → Option (Unit × Zw)) (w : Zw) (a0 : Nat) (a1 : Int32) (a2 : Int32) : Option (Unit × Zw) :=
  if zin (a1 + (1 : Int32)) (zlen S (zr S a0 0)) = true then if zin a1 (zlen S (zr S a0 0)) = true then (f_X1_copyFrom S w (zr S (zr S a0 0) (zix (a1 + (1 : Int32)))) (zr S (zr S a0 0) (zix a1))).bind fun r3 => if zin (a1 + (1 : Int32)) (zlen S (zr S a0 0)) = true then (f_X1_fetch S r3.2 (zr S (zr S a0 0) (zix (a1 + (1 : Int32)))) a2).bind fun r6 => if r6.1 = 0 then some ((), r6.2) else (f_X5_isTooLong S r6.2 a0 (a1 + (1 : Int32))).bind fun v9 => if v9 = 0 then (if zin a1 (zlen S (zr S a0 2)) = true then zlet (zput r6.2 (zr S a0 2) (zix a1) a2) fun w13 => (self ((a1 + (1 : Int32)), w13)).bind fun r14 => some ((), r14.2) else none) else some ((), r6.2) else none else none else none
theorem mw_X5_tryNext {E : ZE} {S : Zs} (hW : zWF S) (w : Zw) (a0 : Nat) (h0 : zObj S a0 5) (a1 : Int32) (a2 : Int32) (self : (Int32 × Zw) → Option (Unit × Zw)) (n9 : Nat) (hself : ∀ (w : Zw) (x : Int32) (i : Unit × Zw), self (x, w) = some i → zMr E yX5_tryFrom cX5_tryFrom 3 none (14 + 2 * n9) 0 0 [.ref a0, .int x] S w (emW eU S i)) : zOk (E, i_X5_tryNext, (14 + 2 * n9 + 1)) 0 0 S w 0 [(0, .ref a0), (1, .int a1), (2, .int a2)] [] (emW eU S) (f_X5_tryNext_F S self w a0 a1 a2) := by
  unfold f_X5_tryNext_F
  refine z_aload_n 0 dX5_tryNext_0 rfl (z_getR zc5 0 (by decide) rfl gw162 h0 (zW_some hW h0 0 rfl) dX5_tryNext_1 (z_iload_n 1 dX5_tryNext_4 rfl (z_iconst dX5_tryNext_5 zi_1 (z_iadd dX5_tryNext_6 ?_))))
  refine z_chk (fun c1 => ?_)
  refine z_aald (Or.inr rfl) (zW_arr hW h0 0 6 rfl) c1 (zW_el6 hW (zW_arr hW h0 0 6 rfl) c1).1 dX5_tryNext_7 (z_aload_n 0 dX5_tryNext_8 rfl (z_getR zc5 0 (by decide) rfl gw162 h0 (zW_some hW h0 0 rfl) dX5_tryNext_9 (z_iload_n 1 dX5_tryNext_12 rfl ?_)))
  refine z_chk (fun c2 => ?_)
  refine z_aald (Or.inr rfl) (zW_arr hW h0 0 6 rfl) c2 (zW_el6 hW (zW_arr hW h0 0 6 rfl) c2).1 dX5_tryNext_13 ?_
  refine z_bind (fun r3 hb4 => ?_)
  refine z_callV (kc' := 0) (ks' := 0) (v := none) (S1 := S) (w1 := r3.2) (st := []) [.ref (zr S (zr S a0 0) (zix a1))] (m_X1_copyFrom hW w (zr S (zr S a0 0) (zix (a1 + (1 : Int32)))) (zW_el6 hW (zW_arr hW h0 0 6 rfl) c1).2 (zr S (zr S a0 0) (zix a1)) (zW_el6 hW (zW_arr hW h0 0 6 rfl) c2).2 r3 hb4) zc1 (zW_el6 hW (zW_arr hW h0 0 6 rfl) c1).2 zy_X1_copyFrom gw250 gw251 gw779 (by show 8 + 1 ≤ (14 + 2 * n9 + 1); omega) (Nat.le_of_ble_eq_true rfl) (Nat.le_of_ble_eq_true rfl) (Nat.le_of_ble_eq_true rfl) (zal hW) rfl dX5_tryNext_14 (z_at 17 _ [] rfl rfl rfl ?_)
  refine z_aload_n 0 dX5_tryNext_17 rfl (z_getR zc5 0 (by decide) rfl gw162 h0 (zW_some hW h0 0 rfl) dX5_tryNext_18 (z_iload_n 1 dX5_tryNext_21 rfl (z_iconst dX5_tryNext_22 zi_1 (z_iadd dX5_tryNext_23 ?_))))
  refine z_chk (fun c5 => ?_)
  refine z_aald (Or.inr rfl) (zW_arr hW h0 0 6 rfl) c5 (zW_el6 hW (zW_arr hW h0 0 6 rfl) c5).1 dX5_tryNext_24 (z_iload_n 2 dX5_tryNext_25 rfl ?_)
  refine z_bind (fun r6 hb7 => ?_)
  refine z_callV (kc' := 0) (ks' := 0) (v := (some (.int r6.1))) (S1 := S) (w1 := r6.2) (st := []) [.int a2] (m_X1_fetch hW r3.2 (zr S (zr S a0 0) (zix (a1 + (1 : Int32)))) (zW_el6 hW (zW_arr hW h0 0 6 rfl) c5).2 a2 r6 hb7) zc1 (zW_el6 hW (zW_arr hW h0 0 6 rfl) c5).2 zy_X1_fetch gw598 gw599 gw812 (by show 9 + 1 ≤ (14 + 2 * n9 + 1); omega) (Nat.le_of_ble_eq_true rfl) (Nat.le_of_ble_eq_true rfl) (Nat.le_of_ble_eq_true rfl) (zal hW) rfl dX5_tryNext_26 (z_at 29 _ [.int r6.1] rfl rfl rfl ?_)
  refine z_if_eq 42 dX5_tryNext_29 rfl (fun q8 => ?_) (fun q8 => ?_)
  · exact z_vret zemW rfl dX5_tryNext_42
  · refine z_aload_n 0 dX5_tryNext_32 rfl (z_iload_n 1 dX5_tryNext_33 rfl (z_iconst dX5_tryNext_34 zi_1 (z_iadd dX5_tryNext_35 ?_)))
    refine z_bind (fun v9 hb10 => ?_)
    refine z_callV (kc' := 0) (ks' := 0) (v := (some (.int v9))) (S1 := S) (w1 := r6.2) (st := []) [.int (a1 + (1 : Int32))] (m_X5_isTooLong hW r6.2 a0 h0 (a1 + (1 : Int32)) v9 hb10) zc5 h0 zy_X5_isTooLong gw815 gp16 gw813 (by show 2 + 1 ≤ (14 + 2 * n9 + 1); omega) (Nat.le_of_ble_eq_true rfl) (Nat.le_of_ble_eq_true rfl) (Nat.le_of_ble_eq_true rfl) (zal hW) rfl dX5_tryNext_36 (z_at 39 _ [.int v9] rfl rfl rfl ?_)
    refine z_if_eq 43 dX5_tryNext_39 rfl (fun q11 => ?_) (fun q11 => ?_)
    · refine z_aload_n 0 dX5_tryNext_43 rfl (z_getR zc5 2 (by decide) rfl gw164 h0 (zW_some hW h0 2 rfl) dX5_tryNext_44 (z_iload_n 1 dX5_tryNext_47 rfl (z_iload_n 2 dX5_tryNext_48 rfl ?_)))
      refine z_chk (fun c12 => ?_)
      refine z_iast (zW_arr hW h0 2 0 rfl) c12 dX5_tryNext_49 (z_letw (fun w13 => ?_))
      refine z_aload_n 0 dX5_tryNext_50 rfl (z_iload_n 1 dX5_tryNext_51 rfl (z_iconst dX5_tryNext_52 zi_1 (z_iadd dX5_tryNext_53 ?_)))
      refine z_bind (fun r14 hb15 => ?_)
      refine z_callV (kc' := 0) (ks' := 0) (v := none) (S1 := S) (w1 := r14.2) (st := []) [.int (a1 + (1 : Int32))] (hself w13 (a1 + (1 : Int32)) r14 hb15) zc5 h0 zy_X5_tryFrom gw787 gp12 gw785 (by show (14 + 2 * n9) + 1 ≤ (14 + 2 * n9 + 1); omega) (Nat.le_of_ble_eq_true rfl) (Nat.le_of_ble_eq_true rfl) (Nat.le_of_ble_eq_true rfl) (zal hW) rfl dX5_tryNext_54 (z_at 57 _ [] rfl rfl rfl ?_)
      exact z_vret zemW rfl dX5_tryNext_57
    · exact z_vret zemW rfl dX5_tryNext_42

theorem mF_X5_tryNext {E : ZE} {S : Zs} (hW : zWF S) (w : Zw) (a0 : Nat) (h0 : zObj S a0 5) (a1 : Int32) (a2 : Int32) (self : (Int32 × Zw) → Option (Unit × Zw)) (n9 : Nat) (hself : ∀ (w : Zw) (x : Int32) (i : Unit × Zw), self (x, w) = some i → zMr E yX5_tryFrom cX5_tryFrom 3 none (14 + 2 * n9) 0 0 [.ref a0, .int x] S w (emW eU S i)) : ∀ i, f_X5_tryNext_F S self w a0 a1 a2 = some i → zMr E yX5_tryNext cX5_tryNext 3 none (14 + 2 * n9 + 1) 0 0 [.ref a0, .int a1, .int a2] S w ((emW eU S) i) :=
  fun i hi => z_enter (by decide +kernel) (Nat.le_of_ble_eq_true rfl) (mw_X5_tryNext hW w a0 h0 a1 a2 self n9 hself i hi)
/-! ParkingRobot$JobLog.kept ()I : T, depth 6 -/
abbrev i_X3_kept : Zm := (yX3_kept.cls, cX3_kept, 1, (some .int), [], yX3_kept.name)
def f_X3_kept (S : Zs) (w : Zw) (a0 : Nat) : Int32 :=
  (zmin (w a0 1) (20 : Int32))
theorem mw_X3_kept {E : ZE} {S : Zs} (hW : zWF S) (w : Zw) (a0 : Nat) (h0 : zObj S a0 3) : zOk (E, i_X3_kept, 6) 0 0 S w 0 [(0, .ref a0)] [] (emP eI S w) (some (f_X3_kept S w a0)) := by
  unfold f_X3_kept
  refine z_aload_n 0 dX3_kept_0 rfl (z_getI zc3 1 (by decide) rfl gw73 h0 dX3_kept_1 (z_bipush dX3_kept_4 zb_20 (z_min gw400 (Nat.le_of_ble_eq_true rfl) (Nat.le_of_ble_eq_true rfl) dX3_kept_6 ?_)))
  exact z_iret zemP rfl dX3_kept_9

theorem m_X3_kept {E : ZE} {S : Zs} (hW : zWF S) (w : Zw) (a0 : Nat) (h0 : zObj S a0 3) : zMr E yX3_kept cX3_kept 1 ((some .int)) 6 0 0 [.ref a0] S w (.inl (eI (f_X3_kept S w a0)), S, w) :=
  z_enter (by decide +kernel) (Nat.le_of_ble_eq_true rfl) (mw_X3_kept hW w a0 h0 _ rfl)
/-! ParkingRobot$JobLog.partOf (II)I : P, depth 7 -/
abbrev i_X3_partOf : Zm := (yX3_partOf.cls, cX3_partOf, 3, (some .int), [], yX3_partOf.name)
def f_X3_partOf (S : Zs) (w : Zw) (a0 : Nat) (a1 : Int32) (a2 : Int32) : Option (Int32) :=
  if zin (((zrem (((w a0 1) - (f_X3_kept S w a0)) + a1) (20 : Int32)) * (5 : Int32)) + a2) (zlen S (zr S a0 0)) = true then some (w (zr S a0 0) (zix (((zrem (((w a0 1) - (f_X3_kept S w a0)) + a1) (20 : Int32)) * (5 : Int32)) + a2))) else none
theorem mw_X3_partOf {E : ZE} {S : Zs} (hW : zWF S) (w : Zw) (a0 : Nat) (h0 : zObj S a0 3) (a1 : Int32) (a2 : Int32) : zOk (E, i_X3_partOf, 7) 0 0 S w 0 [(0, .ref a0), (1, .int a1), (2, .int a2)] [] (emP eI S w) (f_X3_partOf S w a0 a1 a2) := by
  unfold f_X3_partOf
  refine z_aload_n 0 dX3_partOf_0 rfl (z_getR zc3 0 (by decide) rfl gw72 h0 (zW_some hW h0 0 rfl) dX3_partOf_1 (z_aload_n 0 dX3_partOf_4 rfl (z_getI zc3 1 (by decide) rfl gw73 h0 dX3_partOf_5 (z_aload_n 0 dX3_partOf_8 rfl ?_))))
  refine z_callV (kc' := 0) (ks' := 0) (v := (some (.int (f_X3_kept S w a0)))) (S1 := S) (w1 := w) (st := [.int (w a0 1), .ref (zr S a0 0)]) [] (m_X3_kept hW w a0 h0) zc3 h0 zy_X3_kept gw397 gw398 gw801 (Nat.le_of_ble_eq_true rfl) (Nat.le_of_ble_eq_true rfl) (Nat.le_of_ble_eq_true rfl) (Nat.le_of_ble_eq_true rfl) (zal hW) rfl dX3_partOf_9 (z_at 12 _ [.int (f_X3_kept S w a0), .int (w a0 1), .ref (zr S a0 0)] rfl rfl rfl ?_)
  refine z_isub dX3_partOf_12 (z_iload_n 1 dX3_partOf_13 rfl (z_iadd dX3_partOf_14 (z_bipush dX3_partOf_15 zb_20 (z_rem dX3_partOf_17 (by decide) (z_iconst dX3_partOf_18 zi_5 ?_)))))
  refine z_imul dX3_partOf_19 (z_iload_n 2 dX3_partOf_20 rfl (z_iadd dX3_partOf_21 ?_))
  refine z_chk (fun c1 => ?_)
  refine z_iald (zW_arr hW h0 0 0 rfl) c1 dX3_partOf_22 ?_
  exact z_iret zemP rfl dX3_partOf_23

theorem m_X3_partOf {E : ZE} {S : Zs} (hW : zWF S) (w : Zw) (a0 : Nat) (h0 : zObj S a0 3) (a1 : Int32) (a2 : Int32) : ∀ i, f_X3_partOf S w a0 a1 a2 = some i → zMr E yX3_partOf cX3_partOf 3 ((some .int)) 7 0 0 [.ref a0, .int a1, .int a2] S w ((emP eI S w) i) :=
  fun i hi => z_enter (by decide +kernel) (Nat.le_of_ble_eq_true rfl) (mw_X3_partOf hW w a0 h0 a1 a2 i hi)
/-! ParkingRobot$JobLog.endOfLatest (I)I : P, depth 8 -/
abbrev i_X3_endOfLatest : Zm := (yX3_endOfLatest.cls, cX3_endOfLatest, 4, (some .int), [], yX3_endOfLatest.name)
def f_X3_endOfLatest_b13 (S : Zs) (w : Zw) (x0 : Nat) (k : (Int32 × Int32) → Option (Int32)) (x2 : Int32) (x3 : Int32) : Option (Int32) :=
  if (f_X3_kept S w x0) ≤ x3 then some x2 else (f_X3_partOf S w x0 x3 (4 : Int32)).bind fun v3 => zlet (zmax x2 v3) fun z5 => k (z5, (x3 + (1 : Int32)))
def f_X3_endOfLatest_l13 (S : Zs) (w : Zw) (x0 : Nat) (a : Int32 × Int32) : Option (Int32) :=
  zlp (fun k a => f_X3_endOfLatest_b13 S w x0 k a.1 a.2) zFU a
theorem m_X3_endOfLatest_l13 {E : ZE} {S : Zs} (hW : zWF S) (w : Zw) (x0 : Nat) (hx0 : zObj S x0 3) : ∀ a : Int32 × Int32, zOk (E, i_X3_endOfLatest, 8) 0 0 S w 13 [(0, .ref x0), (2, .int a.1), (3, .int a.2)] [] (emP eI S w) (f_X3_endOfLatest_l13 S w x0 a) := by
  intro a
  refine z_lp (P := fun _ => True) (W9 := fun a : Int32 × Int32 => w) (L9 := fun a : Int32 × Int32 => [(0, .ref x0), (2, .int a.1), (3, .int a.2)]) (T9 := fun _ => []) (fun k hk9 a _ => ?_) zFU a trivial
  have hk : ∀ a : Int32 × Int32, zOk (E, i_X3_endOfLatest, 8) 0 0 S w 13 [(0, .ref x0), (2, .int a.1), (3, .int a.2)] [] (emP eI S w) (k a) := fun a => hk9 a trivial
  clear hk9
  obtain ⟨x2, x3⟩ := a
  show zOk (E, i_X3_endOfLatest, 8) 0 0 S w 13 [(0, .ref x0), (2, .int x2), (3, .int x3)] [] (emP eI S w) (f_X3_endOfLatest_b13 S w x0 k x2 x3)
  unfold f_X3_endOfLatest_b13
  refine z_iload_n 2 dX3_endOfLatest_13 rfl (z_aload_n 0 dX3_endOfLatest_14 rfl ?_)
  refine z_callV (kc' := 0) (ks' := 0) (v := (some (.int (f_X3_kept S w x0)))) (S1 := S) (w1 := w) (st := [.int x3]) [] (m_X3_kept hW w x0 hx0) zc3 hx0 zy_X3_kept gw397 gw398 gw801 (Nat.le_of_ble_eq_true rfl) (Nat.le_of_ble_eq_true rfl) (Nat.le_of_ble_eq_true rfl) (Nat.le_of_ble_eq_true rfl) (zal hW) rfl dX3_endOfLatest_15 (z_at 18 _ [.int (f_X3_kept S w x0), .int x3] rfl rfl rfl ?_)
  refine z_icmp_ge 38 dX3_endOfLatest_18 rfl (fun q2 => ?_) (fun q2 => ?_)
  · refine z_iload_n 1 dX3_endOfLatest_38 rfl ?_
    exact z_iret zemP rfl dX3_endOfLatest_39
  · refine z_iload_n 1 dX3_endOfLatest_21 rfl (z_aload_n 0 dX3_endOfLatest_22 rfl (z_iload_n 2 dX3_endOfLatest_23 rfl (z_iconst dX3_endOfLatest_24 zi_4 ?_)))
    refine z_bind (fun v3 hb4 => ?_)
    refine z_callV (kc' := 0) (ks' := 0) (v := (some (.int v3))) (S1 := S) (w1 := w) (st := [.int x2]) [.int x3, .int (4 : Int32)] (m_X3_partOf hW w x0 hx0 x3 (4 : Int32) v3 hb4) zc3 hx0 zy_X3_partOf gw803 gw804 gw802 (Nat.le_of_ble_eq_true rfl) (Nat.le_of_ble_eq_true rfl) (Nat.le_of_ble_eq_true rfl) (Nat.le_of_ble_eq_true rfl) (zal hW) rfl dX3_endOfLatest_25 (z_at 28 _ [.int v3, .int x2] rfl rfl rfl ?_)
    refine z_max gw370 (Nat.le_of_ble_eq_true rfl) (Nat.le_of_ble_eq_true rfl) dX3_endOfLatest_28 ?_
    refine z_let (a := (zmax x2 v3)) (fun z5 => [(0, .ref x0), (2, .int x2), (3, .int x3)]) (fun z5 => .int z5 :: []) (fun z5 => ?_)
    refine z_istore_n (lv' := [(2, .int z5), (0, .ref x0), (3, .int x3)]) dX3_endOfLatest_31 (Nat.le_of_ble_eq_true rfl) rfl (z_iinc (v := (x3 + (1 : Int32))) (lv' := [(3, .int (x3 + (1 : Int32))), (2, .int z5), (0, .ref x0)]) 2 dX3_endOfLatest_32 rfl (zi_inc _ zi_1) (Nat.le_of_ble_eq_true rfl) rfl (z_goto 13 dX3_endOfLatest_35 rfl ?_))
    refine z_sub (lv' := [(0, .ref x0), (2, .int z5), (3, .int (x3 + (1 : Int32)))]) [2, 1, 0] rfl ?_
    refine z_pc (pc' := 13) rfl ?_
    exact hk (z5, (x3 + (1 : Int32)))

def f_X3_endOfLatest (S : Zs) (w : Zw) (a0 : Nat) (a1 : Int32) : Option (Int32) :=
  zlet (zmax ((f_X3_kept S w a0) - a1) (0 : Int32)) fun z1 => f_X3_endOfLatest_l13 S w a0 ((0 : Int32), z1)
theorem mw_X3_endOfLatest {E : ZE} {S : Zs} (hW : zWF S) (w : Zw) (a0 : Nat) (h0 : zObj S a0 3) (a1 : Int32) : zOk (E, i_X3_endOfLatest, 8) 0 0 S w 0 [(0, .ref a0), (1, .int a1)] [] (emP eI S w) (f_X3_endOfLatest S w a0 a1) := by
  unfold f_X3_endOfLatest
  refine z_iconst dX3_endOfLatest_0 zi_0 (z_istore_n (lv' := [(2, .int (0 : Int32)), (0, .ref a0), (1, .int a1)]) dX3_endOfLatest_1 (Nat.le_of_ble_eq_true rfl) rfl (z_aload_n 1 dX3_endOfLatest_2 rfl ?_))
  refine z_callV (kc' := 0) (ks' := 0) (v := (some (.int (f_X3_kept S w a0)))) (S1 := S) (w1 := w) (st := []) [] (m_X3_kept hW w a0 h0) zc3 h0 zy_X3_kept gw397 gw398 gw801 (Nat.le_of_ble_eq_true rfl) (Nat.le_of_ble_eq_true rfl) (Nat.le_of_ble_eq_true rfl) (Nat.le_of_ble_eq_true rfl) (zal hW) rfl dX3_endOfLatest_3 (z_at 6 _ [.int (f_X3_kept S w a0)] rfl rfl rfl ?_)
  refine z_iload_n 2 dX3_endOfLatest_6 rfl (z_isub dX3_endOfLatest_7 (z_iconst dX3_endOfLatest_8 zi_0 (z_max gw370 (Nat.le_of_ble_eq_true rfl) (Nat.le_of_ble_eq_true rfl) dX3_endOfLatest_9 ?_)))
  refine z_let (a := (zmax ((f_X3_kept S w a0) - a1) (0 : Int32))) (fun z1 => [(2, .int (0 : Int32)), (0, .ref a0), (1, .int a1)]) (fun z1 => .int z1 :: []) (fun z1 => ?_)
  refine z_istore_n (lv' := [(3, .int z1), (2, .int (0 : Int32)), (0, .ref a0), (1, .int a1)]) dX3_endOfLatest_12 (Nat.le_of_ble_eq_true rfl) rfl ?_
  refine z_sub (lv' := [(0, .ref a0), (2, .int (0 : Int32)), (3, .int z1)]) [2, 1, 0] rfl ?_
  refine z_pc (pc' := 13) rfl ?_
  exact m_X3_endOfLatest_l13 hW w a0 h0 ((0 : Int32), z1)

theorem m_X3_endOfLatest {E : ZE} {S : Zs} (hW : zWF S) (w : Zw) (a0 : Nat) (h0 : zObj S a0 3) (a1 : Int32) : ∀ i, f_X3_endOfLatest S w a0 a1 = some i → zMr E yX3_endOfLatest cX3_endOfLatest 4 ((some .int)) 8 0 0 [.ref a0, .int a1] S w ((emP eI S w) i) :=
  fun i hi => z_enter (by decide +kernel) (Nat.le_of_ble_eq_true rfl) (mw_X3_endOfLatest hW w a0 h0 a1 i hi)
/-! ParkingRobot$Orders.judge (ILParkingRobot$JobLog;)V : W, depth 9 -/
abbrev i_X5_judge : Zm := (yX5_judge.cls, cX5_judge, 4, none, [], yX5_judge.name)
def f_X5_judge_j38 (S : Zs) (w : Zw) (x0 : Nat) (x1 : Int32) (x3 : Int32) : Option (Unit × Zw) :=
  zlet (zput w x0 6 x1) fun w4 => zlet (zput w4 x0 7 x3) fun w5 => if zcpk S w5 0 (zr S x0 2) (zr S x0 3) (0 : Int32) (0 : Int32) (w5 x0 4) = true then zlet (zcpy w5 (zr S x0 2) (zr S x0 3) (0 : Int32) (0 : Int32) (w5 x0 4)) fun w7 => some ((), w7) else none
theorem m_X5_judge_j38 {E : ZE} {S : Zs} (hW : zWF S) (w : Zw) (x0 : Nat) (hx0 : zObj S x0 5) (x1 : Int32) (x3 : Int32) : zOk (E, i_X5_judge, 9) 0 0 S w 38 [(0, .ref x0), (1, .int x1), (3, .int x3)] [] (emW eU S) (f_X5_judge_j38 S w x0 x1 x3) := by
  unfold f_X5_judge_j38
  refine z_aload_n 0 dX5_judge_38 rfl (z_iload_n 1 dX5_judge_39 rfl ?_)
  refine z_putI zc5 6 (by decide) (Or.inl rfl) rfl gw168 hx0 dX5_judge_40 (z_letw (fun w4 => ?_))
  refine z_aload_n 0 dX5_judge_43 rfl (z_iload_n 2 dX5_judge_44 rfl ?_)
  refine z_putI zc5 7 (by decide) (Or.inl rfl) rfl gw169 hx0 dX5_judge_45 (z_letw (fun w5 => ?_))
  refine z_aload_n 0 dX5_judge_48 rfl (z_getR zc5 2 (by decide) rfl gw164 hx0 (zW_some hW hx0 2 rfl) dX5_judge_49 (z_iconst dX5_judge_52 zi_0 (z_aload_n 0 dX5_judge_53 rfl (z_getR zc5 3 (by decide) rfl gw165 hx0 (zW_some hW hx0 3 rfl) dX5_judge_54 (z_iconst dX5_judge_57 zi_0 ?_)))))
  refine z_aload_n 0 dX5_judge_58 rfl (z_getI zc5 4 (by decide) rfl gw166 hx0 dX5_judge_59 ?_)
  refine z_chk (fun c6 => ?_)
  refine z_copy 0 (Or.inl rfl) (zW_arr hW hx0 2 0 rfl) (zW_arr hW hx0 3 0 rfl) c6 gw806 (Nat.le_of_ble_eq_true rfl) (Nat.le_of_ble_eq_true rfl) dX5_judge_62 (z_letw (fun w7 => ?_))
  exact z_vret zemW rfl dX5_judge_65

def f_X5_judge (S : Zs) (w : Zw) (a0 : Nat) (a1 : Int32) (a2 : Nat) : Option (Unit × Zw) :=
  (f_X3_endOfLatest S w a2 a1).bind fun v1 => if (w a0 6) = 0 then f_X5_judge_j38 S w a0 a1 v1  else if (w a0 6) < a1 then some ((), w) else if a1 = (w a0 6) then (if v1 < (w a0 7) then f_X5_judge_j38 S w a0 a1 v1  else some ((), w)) else f_X5_judge_j38 S w a0 a1 v1 
theorem mw_X5_judge {E : ZE} {S : Zs} (hW : zWF S) (w : Zw) (a0 : Nat) (h0 : zObj S a0 5) (a1 : Int32) (a2 : Nat) (h2 : zObj S a2 3) : zOk (E, i_X5_judge, 9) 0 0 S w 0 [(0, .ref a0), (1, .int a1), (2, .ref a2)] [] (emW eU S) (f_X5_judge S w a0 a1 a2) := by
  unfold f_X5_judge
  refine z_aload_n 2 dX5_judge_0 rfl (z_iload_n 1 dX5_judge_1 rfl ?_)
  refine z_bind (fun v1 hb2 => ?_)
  refine z_callV (kc' := 0) (ks' := 0) (v := (some (.int v1))) (S1 := S) (w1 := w) (st := []) [.int a1] (m_X3_endOfLatest hW w a2 h2 a1 v1 hb2) zc3 h2 zy_X3_endOfLatest gw798 gw799 gw797 (Nat.le_of_ble_eq_true rfl) (Nat.le_of_ble_eq_true rfl) (Nat.le_of_ble_eq_true rfl) (Nat.le_of_ble_eq_true rfl) (zal hW) rfl dX5_judge_2 (z_at 5 _ [.int v1] rfl rfl rfl ?_)
  refine z_istore_n (lv' := [(3, .int v1), (0, .ref a0), (1, .int a1), (2, .ref a2)]) dX5_judge_5 (Nat.le_of_ble_eq_true rfl) rfl (z_aload_n 1 dX5_judge_6 rfl (z_getI zc5 6 (by decide) rfl gw168 h0 dX5_judge_7 ?_))
  refine z_if_eq 38 dX5_judge_10 rfl (fun q3 => ?_) (fun q3 => ?_)
  · refine z_sub (lv' := [(0, .ref a0), (1, .int a1), (3, .int v1)]) [1, 2, 0] rfl ?_
    refine z_pc (pc' := 38) rfl ?_
    exact m_X5_judge_j38 hW w a0 h0 a1 v1 
  · refine z_iload_n 2 dX5_judge_13 rfl (z_aload_n 1 dX5_judge_14 rfl (z_getI zc5 6 (by decide) rfl gw168 h0 dX5_judge_15 ?_))
    refine z_icmp_gt 37 dX5_judge_18 rfl (fun q8 => ?_) (fun q8 => ?_)
    · exact z_vret zemW rfl dX5_judge_37
    · refine z_iload_n 2 dX5_judge_21 rfl (z_aload_n 1 dX5_judge_22 rfl (z_getI zc5 6 (by decide) rfl gw168 h0 dX5_judge_23 ?_))
      refine z_icmp_ne 38 dX5_judge_26 rfl (fun q9 => ?_) (fun q9 => ?_)
      · refine z_sub (lv' := [(0, .ref a0), (1, .int a1), (3, .int v1)]) [1, 2, 0] rfl ?_
        refine z_pc (pc' := 38) rfl ?_
        exact m_X5_judge_j38 hW w a0 h0 a1 v1 
      · refine z_iload_n 0 dX5_judge_29 rfl (z_aload_n 1 dX5_judge_30 rfl (z_getI zc5 7 (by decide) rfl gw169 h0 dX5_judge_31 ?_))
        refine z_icmp_lt 38 dX5_judge_34 rfl (fun q10 => ?_) (fun q10 => ?_)
        · refine z_sub (lv' := [(0, .ref a0), (1, .int a1), (3, .int v1)]) [1, 2, 0] rfl ?_
          refine z_pc (pc' := 38) rfl ?_
          exact m_X5_judge_j38 hW w a0 h0 a1 v1 
        · exact z_vret zemW rfl dX5_judge_37

theorem m_X5_judge {E : ZE} {S : Zs} (hW : zWF S) (w : Zw) (a0 : Nat) (h0 : zObj S a0 5) (a1 : Int32) (a2 : Nat) (h2 : zObj S a2 3) : ∀ i, f_X5_judge S w a0 a1 a2 = some i → zMr E yX5_judge cX5_judge 4 none 9 0 0 [.ref a0, .int a1, .ref a2] S w ((emW eU S) i) :=
  fun i hi => z_enter (by decide +kernel) (Nat.le_of_ble_eq_true rfl) (mw_X5_judge hW w a0 h0 a1 a2 h2 i hi)
/-! ParkingRobot$Orders.tryFrom (I)V : W, depth 30 -/
abbrev i_X5_tryFrom : Zm := (yX5_tryFrom.cls, cX5_tryFrom, 3, none, [], yX5_tryFrom.name)
def f_X5_tryFrom_b29 (S : Zs) (self : (Int32 × Zw) → Option (Unit × Zw)) (x0 : Nat) (x1 : Int32) (k : (Int32 × Zw) → Option (Unit × Zw)) (x2 : Int32) (w : Zw) : Option (Unit × Zw) :=
  if (w x0 4) ≤ x2 then some ((), w) else if zin x1 (zlen S (zr S x0 0)) = true then if zin x2 (zlen S (zr S x0 1)) = true then (f_X1_isStored S w (zr S (zr S x0 0) (zix x1)) (w (zr S x0 1) (zix x2))).bind fun v5 => if v5 = 0 then k ((x2 + (1 : Int32)), w) else if zin x2 (zlen S (zr S x0 1)) = true then (f_X5_tryNext_F S self w x0 x1 (w (zr S x0 1) (zix x2))).bind fun r9 => k ((x2 + (1 : Int32)), r9.2) else none else none else none
def f_X5_tryFrom_l29 (S : Zs) (self : (Int32 × Zw) → Option (Unit × Zw)) (x0 : Nat) (x1 : Int32) (a : Int32 × Zw) : Option (Unit × Zw) :=
  zlp (fun k a => f_X5_tryFrom_b29 S self x0 x1 k a.1 a.2) zFU a
theorem m_X5_tryFrom_l29 {E : ZE} {S : Zs} (hW : zWF S) (x0 : Nat) (hx0 : zObj S x0 5) (x1 : Int32) (self : (Int32 × Zw) → Option (Unit × Zw)) (n9 : Nat) (hself : ∀ (w : Zw) (x : Int32) (i : Unit × Zw), self (x, w) = some i → zMr E yX5_tryFrom cX5_tryFrom 3 none (14 + 2 * n9) 0 0 [.ref x0, .int x] S w (emW eU S i)) : ∀ a : Int32 × Zw, zOk (E, i_X5_tryFrom, (14 + 2 * (n9 + 1))) 0 0 S a.2 29 [(0, .ref x0), (1, .int x1), (2, .int a.1)] [] (emW eU S) (f_X5_tryFrom_l29 S self x0 x1 a) := by
  intro a
  refine z_lp (P := fun _ => True) (W9 := fun a : Int32 × Zw => a.2) (L9 := fun a : Int32 × Zw => [(0, .ref x0), (1, .int x1), (2, .int a.1)]) (T9 := fun _ => []) (fun k hk9 a _ => ?_) zFU a trivial
  have hk : ∀ a : Int32 × Zw, zOk (E, i_X5_tryFrom, (14 + 2 * (n9 + 1))) 0 0 S a.2 29 [(0, .ref x0), (1, .int x1), (2, .int a.1)] [] (emW eU S) (k a) := fun a => hk9 a trivial
  clear hk9
  obtain ⟨x2, w⟩ := a
  show zOk (E, i_X5_tryFrom, (14 + 2 * (n9 + 1))) 0 0 S w 29 [(0, .ref x0), (1, .int x1), (2, .int x2)] [] (emW eU S) (f_X5_tryFrom_b29 S self x0 x1 k x2 w)
  unfold f_X5_tryFrom_b29
  refine z_iload_n 2 dX5_tryFrom_29 rfl (z_aload_n 0 dX5_tryFrom_30 rfl (z_getI zc5 4 (by decide) rfl gw166 hx0 dX5_tryFrom_31 ?_))
  refine z_icmp_ge 72 dX5_tryFrom_34 rfl (fun q2 => ?_) (fun q2 => ?_)
  · exact z_vret zemW rfl dX5_tryFrom_72
  · refine z_aload_n 0 dX5_tryFrom_37 rfl (z_getR zc5 0 (by decide) rfl gw162 hx0 (zW_some hW hx0 0 rfl) dX5_tryFrom_38 (z_iload_n 1 dX5_tryFrom_41 rfl ?_))
    refine z_chk (fun c3 => ?_)
    refine z_aald (Or.inr rfl) (zW_arr hW hx0 0 6 rfl) c3 (zW_el6 hW (zW_arr hW hx0 0 6 rfl) c3).1 dX5_tryFrom_42 (z_aload_n 0 dX5_tryFrom_43 rfl (z_getR zc5 1 (by decide) rfl gw163 hx0 (zW_some hW hx0 1 rfl) dX5_tryFrom_44 (z_iload_n 2 dX5_tryFrom_47 rfl ?_)))
    refine z_chk (fun c4 => ?_)
    refine z_iald (zW_arr hW hx0 1 0 rfl) c4 dX5_tryFrom_48 ?_
    refine z_bind (fun v5 hb6 => ?_)
    refine z_callV (kc' := 0) (ks' := 0) (v := (some (.int v5))) (S1 := S) (w1 := w) (st := []) [.int (w (zr S x0 1) (zix x2))] (m_X1_isStored hW w (zr S (zr S x0 0) (zix x1)) (zW_el6 hW (zW_arr hW hx0 0 6 rfl) c3).2 (w (zr S x0 1) (zix x2)) v5 hb6) zc1 (zW_el6 hW (zW_arr hW hx0 0 6 rfl) c3).2 zy_X1_isStored gw282 gw283 gw807 (by show 0 + 1 ≤ (14 + 2 * (n9 + 1)); omega) (Nat.le_of_ble_eq_true rfl) (Nat.le_of_ble_eq_true rfl) (Nat.le_of_ble_eq_true rfl) (zal hW) rfl dX5_tryFrom_49 (z_at 52 _ [.int v5] rfl rfl rfl ?_)
    refine z_if_eq 66 dX5_tryFrom_52 rfl (fun q7 => ?_) (fun q7 => ?_)
    · refine z_iinc (v := (x2 + (1 : Int32))) (lv' := [(2, .int (x2 + (1 : Int32))), (0, .ref x0), (1, .int x1)]) 2 dX5_tryFrom_66 rfl (zi_inc _ zi_1) (Nat.le_of_ble_eq_true rfl) rfl (z_goto 29 dX5_tryFrom_69 rfl ?_)
      refine z_sub (lv' := [(0, .ref x0), (1, .int x1), (2, .int (x2 + (1 : Int32)))]) [1, 2, 0] rfl ?_
      refine z_pc (pc' := 29) rfl ?_
      exact hk ((x2 + (1 : Int32)), w)
    · refine z_aload_n 0 dX5_tryFrom_55 rfl (z_iload_n 1 dX5_tryFrom_56 rfl (z_aload_n 0 dX5_tryFrom_57 rfl (z_getR zc5 1 (by decide) rfl gw163 hx0 (zW_some hW hx0 1 rfl) dX5_tryFrom_58 (z_iload_n 2 dX5_tryFrom_61 rfl ?_))))
      refine z_chk (fun c8 => ?_)
      refine z_iald (zW_arr hW hx0 1 0 rfl) c8 dX5_tryFrom_62 ?_
      refine z_bind (fun r9 hb10 => ?_)
      refine z_callV (kc' := 0) (ks' := 0) (v := none) (S1 := S) (w1 := r9.2) (st := []) [.int x1, .int (w (zr S x0 1) (zix x2))] (mF_X5_tryNext hW w x0 hx0 x1 (w (zr S x0 1) (zix x2)) self n9 hself r9 hb10) zc5 hx0 zy_X5_tryNext gw810 gp15 gw808 (by show (14 + 2 * n9 + 1) + 1 ≤ (14 + 2 * (n9 + 1)); omega) (Nat.le_of_ble_eq_true rfl) (Nat.le_of_ble_eq_true rfl) (Nat.le_of_ble_eq_true rfl) (zal hW) rfl dX5_tryFrom_63 (z_at 66 _ [] rfl rfl rfl ?_)
      refine z_iinc (v := (x2 + (1 : Int32))) (lv' := [(2, .int (x2 + (1 : Int32))), (0, .ref x0), (1, .int x1)]) 2 dX5_tryFrom_66 rfl (zi_inc _ zi_1) (Nat.le_of_ble_eq_true rfl) rfl (z_goto 29 dX5_tryFrom_69 rfl ?_)
      refine z_sub (lv' := [(0, .ref x0), (1, .int x1), (2, .int (x2 + (1 : Int32)))]) [1, 2, 0] rfl ?_
      refine z_pc (pc' := 29) rfl ?_
      exact hk ((x2 + (1 : Int32)), r9.2)

def f_X5_tryFrom_F (S : Zs) (self : (Int32 × Zw) → Option (Unit × Zw)) (w : Zw) (a0 : Nat) (a1 : Int32) : Option (Unit × Zw) :=
  if a1 < (w a0 4) then f_X5_tryFrom_l29 S self a0 a1 ((0 : Int32), w) else (f_X5_movesAt S w a0 a1).bind fun v11 => if zin a1 (zlen S (zr S a0 0)) = true then (f_X5_judge S w a0 v11 (f_X1_log S w (zr S (zr S a0 0) (zix a1)))).bind fun r14 => some ((), r14.2) else none
theorem mw_X5_tryFrom {E : ZE} {S : Zs} (hW : zWF S) (w : Zw) (a0 : Nat) (h0 : zObj S a0 5) (a1 : Int32) (self : (Int32 × Zw) → Option (Unit × Zw)) (n9 : Nat) (hself : ∀ (w : Zw) (x : Int32) (i : Unit × Zw), self (x, w) = some i → zMr E yX5_tryFrom cX5_tryFrom 3 none (14 + 2 * n9) 0 0 [.ref a0, .int x] S w (emW eU S i)) : zOk (E, i_X5_tryFrom, (14 + 2 * (n9 + 1))) 0 0 S w 0 [(0, .ref a0), (1, .int a1)] [] (emW eU S) (f_X5_tryFrom_F S self w a0 a1) := by
  unfold f_X5_tryFrom_F
  refine z_iload_n 1 dX5_tryFrom_0 rfl (z_aload_n 0 dX5_tryFrom_1 rfl (z_getI zc5 4 (by decide) rfl gw166 h0 dX5_tryFrom_2 ?_))
  refine z_icmp_lt 27 dX5_tryFrom_5 rfl (fun q1 => ?_) (fun q1 => ?_)
  · refine z_iconst dX5_tryFrom_27 zi_0 (z_istore_n (lv' := [(2, .int (0 : Int32)), (0, .ref a0), (1, .int a1)]) dX5_tryFrom_28 (Nat.le_of_ble_eq_true rfl) rfl ?_)
    refine z_sub (lv' := [(0, .ref a0), (1, .int a1), (2, .int (0 : Int32))]) [1, 2, 0] rfl ?_
    refine z_pc (pc' := 29) rfl ?_
    exact m_X5_tryFrom_l29 hW a0 h0 a1 self n9 hself ((0 : Int32), w)
  · refine z_aload_n 0 dX5_tryFrom_8 rfl (z_aload_n 0 dX5_tryFrom_9 rfl (z_iload_n 1 dX5_tryFrom_10 rfl ?_))
    refine z_bind (fun v11 hb12 => ?_)
    refine z_callV (kc' := 0) (ks' := 0) (v := (some (.int v11))) (S1 := S) (w1 := w) (st := [.ref a0]) [.int a1] (m_X5_movesAt hW w a0 h0 a1 v11 hb12) zc5 h0 zy_X5_movesAt gw791 gp13 gw789 (by show 1 + 1 ≤ (14 + 2 * (n9 + 1)); omega) (Nat.le_of_ble_eq_true rfl) (Nat.le_of_ble_eq_true rfl) (Nat.le_of_ble_eq_true rfl) (zal hW) rfl dX5_tryFrom_11 (z_at 14 _ [.int v11, .ref a0] rfl rfl rfl ?_)
    refine z_aload_n 0 dX5_tryFrom_14 rfl (z_getR zc5 0 (by decide) rfl gw162 h0 (zW_some hW h0 0 rfl) dX5_tryFrom_15 (z_iload_n 1 dX5_tryFrom_18 rfl ?_))
    refine z_chk (fun c13 => ?_)
    refine z_aald (Or.inr rfl) (zW_arr hW h0 0 6 rfl) c13 (zW_el6 hW (zW_arr hW h0 0 6 rfl) c13).1 dX5_tryFrom_19 ?_
    refine z_callV (kc' := 0) (ks' := 0) (v := (some (.ref (f_X1_log S w (zr S (zr S a0 0) (zix a1)))))) (S1 := S) (w1 := w) (st := [.int v11, .ref a0]) [] (m_X1_log hW w (zr S (zr S a0 0) (zix a1)) (zW_el6 hW (zW_arr hW h0 0 6 rfl) c13).2) zc1 (zW_el6 hW (zW_arr hW h0 0 6 rfl) c13).2 zy_X1_log gw393 gw394 gw780 (by show 0 + 1 ≤ (14 + 2 * (n9 + 1)); omega) (Nat.le_of_ble_eq_true rfl) (Nat.le_of_ble_eq_true rfl) (Nat.le_of_ble_eq_true rfl) (zal hW) rfl dX5_tryFrom_20 (z_at 23 _ [.ref (f_X1_log S w (zr S (zr S a0 0) (zix a1))), .int v11, .ref a0] rfl rfl rfl ?_)
    refine z_bind (fun r14 hb15 => ?_)
    refine z_callV (kc' := 0) (ks' := 0) (v := none) (S1 := S) (w1 := r14.2) (st := []) [.int v11, .ref (f_X1_log S w (zr S (zr S a0 0) (zix a1)))] (m_X5_judge hW w a0 h0 v11 (f_X1_log S w (zr S (zr S a0 0) (zix a1))) (mo_X1_log hW w (zr S (zr S a0 0) (zix a1)) (zW_el6 hW (zW_arr hW h0 0 6 rfl) c13).2) r14 hb15) zc5 h0 zy_X5_judge gw795 gp14 gw793 (by show 9 + 1 ≤ (14 + 2 * (n9 + 1)); omega) (Nat.le_of_ble_eq_true rfl) (Nat.le_of_ble_eq_true rfl) (Nat.le_of_ble_eq_true rfl) (zal hW) rfl dX5_tryFrom_23 (z_at 26 _ [] rfl rfl rfl ?_)
    exact z_vret zemW rfl dX5_tryFrom_26

theorem mF_X5_tryFrom {E : ZE} {S : Zs} (hW : zWF S) (w : Zw) (a0 : Nat) (h0 : zObj S a0 5) (a1 : Int32) (self : (Int32 × Zw) → Option (Unit × Zw)) (n9 : Nat) (hself : ∀ (w : Zw) (x : Int32) (i : Unit × Zw), self (x, w) = some i → zMr E yX5_tryFrom cX5_tryFrom 3 none (14 + 2 * n9) 0 0 [.ref a0, .int x] S w (emW eU S i)) : ∀ i, f_X5_tryFrom_F S self w a0 a1 = some i → zMr E yX5_tryFrom cX5_tryFrom 3 none (14 + 2 * (n9 + 1)) 0 0 [.ref a0, .int a1] S w ((emW eU S) i) :=
  fun i hi => z_enter (by decide +kernel) (Nat.le_of_ble_eq_true rfl) (mw_X5_tryFrom hW w a0 h0 a1 self n9 hself i hi)
def f_X5_tryFrom (S : Zs) (w : Zw) (a0 : Nat) (a1 : Int32) : Option (Unit × Zw) := zlp (fun self a => f_X5_tryFrom_F S self a.2 a0 a.1) 8 (a1, w)
theorem mn_X5_tryFrom {E : ZE} {S : Zs} (hW : zWF S) (a0 : Nat) (h0 : zObj S a0 5) (n9 : Nat) : ∀ (w : Zw) (x : Int32) (i : Unit × Zw), zlp (fun self (a : Int32 × Zw) => f_X5_tryFrom_F S self a.2 a0 a.1) n9 (x, w) = some i → zMr E yX5_tryFrom cX5_tryFrom 3 none (14 + 2 * n9) 0 0 [.ref a0, .int x] S w (emW eU S i) := by
  induction n9 with
  | zero => intro w x i h; cases h
  | succ n9 ih => exact fun w x i h => mF_X5_tryFrom hW w a0 h0 x _ n9 ih i h
theorem m_X5_tryFrom {E : ZE} {S : Zs} (hW : zWF S) (w : Zw) (a0 : Nat) (h0 : zObj S a0 5) (a1 : Int32) : ∀ i, f_X5_tryFrom S w a0 a1 = some i → zMr E yX5_tryFrom cX5_tryFrom 3 none 30 0 0 [.ref a0, .int a1] S w (emW eU S i) := fun i h => mn_X5_tryFrom hW a0 h0 8 w a1 i h
/-! ParkingRobot$Orders.findBest (LParkingRobot$Garage;J)Z : W, depth 31 -/
abbrev i_X5_findBest : Zm := (yX5_findBest.cls, cX5_findBest, 5, (some .boolean), [], yX5_findBest.name)
def f_X5_findBest_j66 (S : Zs) (w : Zw) (x0 : Nat) : Option (Int32 × Zw) :=
  zlet (zput w x0 6 (0 : Int32)) fun w5 => (f_X5_tryFrom S w5 x0 (0 : Int32)).bind fun r6 => if (r6.2 x0 6) = 0 then some ((0 : Int32), r6.2) else some ((1 : Int32), r6.2)
theorem m_X5_findBest_j66 {E : ZE} {S : Zs} (hW : zWF S) (w : Zw) (x0 : Nat) (hx0 : zObj S x0 5) : zOk (E, i_X5_findBest, 31) 0 0 S w 66 [(0, .ref x0)] [] (emW eI S) (f_X5_findBest_j66 S w x0) := by
  unfold f_X5_findBest_j66
  refine z_aload_n 0 dX5_findBest_66 rfl (z_iconst dX5_findBest_67 zi_0 ?_)
  refine z_putI zc5 6 (by decide) (Or.inl rfl) rfl gw168 hx0 dX5_findBest_68 (z_letw (fun w5 => ?_))
  refine z_aload_n 0 dX5_findBest_71 rfl (z_iconst dX5_findBest_72 zi_0 ?_)
  refine z_bind (fun r6 hb7 => ?_)
  refine z_callV (kc' := 0) (ks' := 0) (v := none) (S1 := S) (w1 := r6.2) (st := []) [.int (0 : Int32)] (m_X5_tryFrom hW w5 x0 hx0 (0 : Int32) r6 hb7) zc5 hx0 zy_X5_tryFrom gw787 gp12 gw785 (Nat.le_of_ble_eq_true rfl) (Nat.le_of_ble_eq_true rfl) (Nat.le_of_ble_eq_true rfl) (Nat.le_of_ble_eq_true rfl) (zal hW) rfl dX5_findBest_73 (z_at 76 _ [] rfl rfl rfl ?_)
  refine z_aload_n 0 dX5_findBest_76 rfl (z_getI zc5 6 (by decide) rfl gw168 hx0 dX5_findBest_77 ?_)
  refine z_if_eq 87 dX5_findBest_80 rfl (fun q8 => ?_) (fun q8 => ?_)
  · refine z_iconst dX5_findBest_87 zi_0 ?_
    exact z_zret zemW rfl rfl dX5_findBest_88
  · refine z_iconst dX5_findBest_83 zi_1 (z_goto 88 dX5_findBest_84 rfl ?_)
    exact z_zret zemW rfl rfl dX5_findBest_88

def f_X5_findBest_b13 (S : Zs) (x0 : Nat) (x2 : Int64) (k : (Int32 × Zw) → Option (Int32 × Zw)) (x4 : Int32) (w : Zw) : Option (Int32 × Zw) :=
  if (40 : Int32) ≤ x4 then f_X5_findBest_j66 S w x0  else if (5 : Int32) ≤ (w x0 4) then f_X5_findBest_j66 S w x0  else if (lg_cmp ((zlshr x2 x4) &&& (1 : Int64)) (0 : Int64)) = 0 then k ((x4 + (1 : Int32)), w) else if zin (w x0 4) (zlen S (zr S x0 1)) = true then zlet (zput w (zr S x0 1) (zix (w x0 4)) x4) fun w12 => zlet (zput w12 x0 4 ((w12 x0 4) + (1 : Int32))) fun w13 => k ((x4 + (1 : Int32)), w13) else none
def f_X5_findBest_l13 (S : Zs) (x0 : Nat) (x2 : Int64) (a : Int32 × Zw) : Option (Int32 × Zw) :=
  zlp (fun k a => f_X5_findBest_b13 S x0 x2 k a.1 a.2) zFU a
theorem m_X5_findBest_l13 {E : ZE} {S : Zs} (hW : zWF S) (x0 : Nat) (hx0 : zObj S x0 5) (x2 : Int64) : ∀ a : Int32 × Zw, zOk (E, i_X5_findBest, 31) 0 0 S a.2 13 [(0, .ref x0), (2, .long x2), (4, .int a.1)] [] (emW eI S) (f_X5_findBest_l13 S x0 x2 a) := by
  intro a
  refine z_lp (P := fun _ => True) (W9 := fun a : Int32 × Zw => a.2) (L9 := fun a : Int32 × Zw => [(0, .ref x0), (2, .long x2), (4, .int a.1)]) (T9 := fun _ => []) (fun k hk9 a _ => ?_) zFU a trivial
  have hk : ∀ a : Int32 × Zw, zOk (E, i_X5_findBest, 31) 0 0 S a.2 13 [(0, .ref x0), (2, .long x2), (4, .int a.1)] [] (emW eI S) (k a) := fun a => hk9 a trivial
  clear hk9
  obtain ⟨x4, w⟩ := a
  show zOk (E, i_X5_findBest, 31) 0 0 S w 13 [(0, .ref x0), (2, .long x2), (4, .int x4)] [] (emW eI S) (f_X5_findBest_b13 S x0 x2 k x4 w)
  unfold f_X5_findBest_b13
  refine z_iload 2 dX5_findBest_13 rfl (z_bipush dX5_findBest_15 zb_40 ?_)
  refine z_icmp_ge 66 dX5_findBest_17 rfl (fun q4 => ?_) (fun q4 => ?_)
  · refine z_sub (lv' := [(0, .ref x0)]) [0] rfl ?_
    refine z_pc (pc' := 66) rfl ?_
    exact m_X5_findBest_j66 hW w x0 hx0 
  · refine z_aload_n 0 dX5_findBest_20 rfl (z_getI zc5 4 (by decide) rfl gw166 hx0 dX5_findBest_21 (z_iconst dX5_findBest_24 zi_5 ?_))
    refine z_icmp_ge 66 dX5_findBest_25 rfl (fun q9 => ?_) (fun q9 => ?_)
    · refine z_sub (lv' := [(0, .ref x0)]) [0] rfl ?_
      refine z_pc (pc' := 66) rfl ?_
      exact m_X5_findBest_j66 hW w x0 hx0 
    · refine z_lload_n 1 dX5_findBest_28 rfl (z_iload 2 dX5_findBest_29 rfl (z_lshr (v := (zlshr x2 x4)) dX5_findBest_31 rfl (z_lconst dX5_findBest_32 zl_1 (z_land dX5_findBest_33 (z_lconst dX5_findBest_34 zl_0 ?_)))))
      refine z_lcmp dX5_findBest_35 ?_
      refine z_if_eq 60 dX5_findBest_36 rfl (fun q10 => ?_) (fun q10 => ?_)
      · refine z_iinc (v := (x4 + (1 : Int32))) (lv' := [(4, .int (x4 + (1 : Int32))), (0, .ref x0), (2, .long x2)]) 2 dX5_findBest_60 rfl (zi_inc _ zi_1) (Nat.le_of_ble_eq_true rfl) rfl (z_goto 13 dX5_findBest_63 rfl ?_)
        refine z_sub (lv' := [(0, .ref x0), (2, .long x2), (4, .int (x4 + (1 : Int32)))]) [1, 2, 0] rfl ?_
        refine z_pc (pc' := 13) rfl ?_
        exact hk ((x4 + (1 : Int32)), w)
      · refine z_aload_n 0 dX5_findBest_39 rfl (z_getR zc5 1 (by decide) rfl gw163 hx0 (zW_some hW hx0 1 rfl) dX5_findBest_40 (z_aload_n 0 dX5_findBest_43 rfl (z_getI zc5 4 (by decide) rfl gw166 hx0 dX5_findBest_44 (z_iload 2 dX5_findBest_47 rfl ?_))))
        refine z_chk (fun c11 => ?_)
        refine z_iast (zW_arr hW hx0 1 0 rfl) c11 dX5_findBest_49 (z_letw (fun w12 => ?_))
        refine z_aload_n 0 dX5_findBest_50 rfl (z_dup dX5_findBest_51 rfl (z_getI zc5 4 (by decide) rfl gw166 hx0 dX5_findBest_52 (z_iconst dX5_findBest_55 zi_1 (z_iadd dX5_findBest_56 ?_))))
        refine z_putI zc5 4 (by decide) (Or.inl rfl) rfl gw166 hx0 dX5_findBest_57 (z_letw (fun w13 => ?_))
        refine z_iinc (v := (x4 + (1 : Int32))) (lv' := [(4, .int (x4 + (1 : Int32))), (0, .ref x0), (2, .long x2)]) 2 dX5_findBest_60 rfl (zi_inc _ zi_1) (Nat.le_of_ble_eq_true rfl) rfl (z_goto 13 dX5_findBest_63 rfl ?_)
        refine z_sub (lv' := [(0, .ref x0), (2, .long x2), (4, .int (x4 + (1 : Int32)))]) [1, 2, 0] rfl ?_
        refine z_pc (pc' := 13) rfl ?_
        exact hk ((x4 + (1 : Int32)), w13)

def f_X5_findBest (S : Zs) (w : Zw) (a0 : Nat) (a1 : Nat) (a2 : Int64) : Option (Int32 × Zw) :=
  (f_X5_begin S w a0 a1).bind fun r1 => zlet (zput r1.2 a0 4 (0 : Int32)) fun w3 => f_X5_findBest_l13 S a0 a2 ((0 : Int32), w3)
theorem mw_X5_findBest {E : ZE} {S : Zs} (hW : zWF S) (w : Zw) (a0 : Nat) (h0 : zObj S a0 5) (a1 : Nat) (h1 : zObj S a1 1) (a2 : Int64) : zOk (E, i_X5_findBest, 31) 0 0 S w 0 [(0, .ref a0), (1, .ref a1), (2, .long a2)] [] (emW eI S) (f_X5_findBest S w a0 a1 a2) := by
  unfold f_X5_findBest
  refine z_aload_n 0 dX5_findBest_0 rfl (z_aload_n 1 dX5_findBest_1 rfl ?_)
  refine z_bind (fun r1 hb2 => ?_)
  refine z_callV (kc' := 0) (ks' := 0) (v := none) (S1 := S) (w1 := r1.2) (st := []) [.ref a1] (m_X5_begin hW w a0 h0 a1 h1 r1 hb2) zc5 h0 zy_X5_begin gw777 gp11 gw775 (Nat.le_of_ble_eq_true rfl) (Nat.le_of_ble_eq_true rfl) (Nat.le_of_ble_eq_true rfl) (Nat.le_of_ble_eq_true rfl) (zal hW) rfl dX5_findBest_2 (z_at 5 _ [] rfl rfl rfl ?_)
  refine z_aload_n 0 dX5_findBest_5 rfl (z_iconst dX5_findBest_6 zi_0 ?_)
  refine z_putI zc5 4 (by decide) (Or.inl rfl) rfl gw166 h0 dX5_findBest_7 (z_letw (fun w3 => ?_))
  refine z_iconst dX5_findBest_10 zi_0 (z_istore (lv' := [(4, .int (0 : Int32)), (0, .ref a0), (1, .ref a1), (2, .long a2)]) dX5_findBest_11 (Nat.le_of_ble_eq_true rfl) rfl ?_)
  refine z_sub (lv' := [(0, .ref a0), (2, .long a2), (4, .int (0 : Int32))]) [1, 3, 0] rfl ?_
  refine z_pc (pc' := 13) rfl ?_
  exact m_X5_findBest_l13 hW a0 h0 a2 ((0 : Int32), w3)

theorem m_X5_findBest {E : ZE} {S : Zs} (hW : zWF S) (w : Zw) (a0 : Nat) (h0 : zObj S a0 5) (a1 : Nat) (h1 : zObj S a1 1) (a2 : Int64) : ∀ i, f_X5_findBest S w a0 a1 a2 = some i → zMr E yX5_findBest cX5_findBest 5 ((some .boolean)) 31 0 0 [.ref a0, .ref a1, .long a2] S w ((emW eI S) i) :=
  fun i hi => z_enter (by decide +kernel) (Nat.le_of_ble_eq_true rfl) (mw_X5_findBest hW w a0 h0 a1 h1 a2 i hi)
/-! ParkingRobot.checkPossible (Z)V : X, depth 6 -/
abbrev i_X7_checkPossible : Zm := (yX7_checkPossible.cls, cX7_checkPossible, 2, none, [], yX7_checkPossible.name)
def f_X7_checkPossible (w : Zw) (a0 : Nat) (a1 : Int32) : Option ((Unit ⊕ String) × Zw) :=
  if a1 = 0 then some (.inr "java/util/NoSuchElementException", w) else some (.inl (), w)
theorem mw_X7_checkPossible {E : ZE} {S : Zs} (hW : zWF S) (w : Zw) (a0 : Nat) (h0 : zObj S a0 7) (a1 : Int32) : zOk (E, i_X7_checkPossible, 6) 1 6 S w 0 [(0, .ref a0), (1, .int a1)] [] (emX eU S) (f_X7_checkPossible w a0 a1) := by
  unfold f_X7_checkPossible
  refine z_iload_n 1 dX7_checkPossible_0 rfl ?_
  refine z_if_ne 15 dX7_checkPossible_1 rfl (fun q1 => ?_) (fun q1 => ?_)
  · exact z_vret zemX rfl dX7_checkPossible_15
  · exact z_throwWN zx_NSE gw715 zt_RX7_376 (Nat.le_of_ble_eq_true rfl) (Nat.le_of_ble_eq_true rfl) (Nat.le_of_ble_eq_true rfl) rfl (Nat.le_of_ble_eq_true rfl) zemXr dX7_checkPossible_4 dX7_checkPossible_7 dX7_checkPossible_8 dX7_checkPossible_11 dX7_checkPossible_14

theorem m_X7_checkPossible {E : ZE} {S : Zs} (hW : zWF S) (w : Zw) (a0 : Nat) (h0 : zObj S a0 7) (a1 : Int32) : ∀ i, f_X7_checkPossible w a0 a1 = some i → zMx E yX7_checkPossible cX7_checkPossible 2 none 6 1 6 [.ref a0, .int a1] S w ((emX eU S) i) :=
  fun i hi => z_enterX (by decide +kernel) (Nat.le_of_ble_eq_true rfl) (mw_X7_checkPossible hW w a0 h0 a1 i hi)
end ZFN
