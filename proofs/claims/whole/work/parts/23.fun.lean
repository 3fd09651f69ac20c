section ZFN
/-! ParkingRobot$Garage.takeIn (II)I : W, depth 8 -/
abbrev i_X1_takeIn : Zm := (yX1_takeIn.cls, cX1_takeIn, 5, (some .int), [], yX1_takeIn.name)
def f_X1_takeIn (S : Zs) (w : Zw) (a0 : Nat) (a1 : Int32) (a2 : Int32) : Option (Int32 × Zw) :=
  (f_X1_chooseBay S w a0 a1 a2 (-1 : Int32)).bind fun v1 => if v1 = (-1 : Int32) then some ((-1 : Int32), w) else (f_X1_isFull S w a0).bind fun v4 => if v4 = 0 then (zlet (w a0 8) fun z7 => if zin z7 (zlen S (zr S a0 2)) = true then zlet (zput w (zr S a0 2) (zix z7) a1) fun w9 => if zin z7 (zlen S (zr S a0 3)) = true then zlet (zput w9 (zr S a0 3) (zix z7) a2) fun w11 => if zin z7 (zlen S (zr S a0 4)) = true then zlet (zput w11 (zr S a0 4) (zix z7) v1) fun w13 => if zin z7 (zlen S (zr S a0 5)) = true then zlet (zput w13 (zr S a0 5) (zix z7) (1 : Int32)) fun w15 => if zin v1 (zlen S (zr S a0 1)) = true then zlet (zput w15 (zr S a0 1) (zix v1) z7) fun w17 => zlet (zput w17 a0 8 ((w17 a0 8) + (1 : Int32))) fun w18 => zlet (zput w18 a0 9 ((w18 a0 9) + (1 : Int32))) fun w19 => (f_X6_bringIn S w19 (zr S a0 7) z7 v1).bind fun r20 => some (v1, r20.2) else none else none else none else none else none) else some ((-1 : Int32), w)
theorem mw_X1_takeIn {E : ZE} {S : Zs} (hW : zWF S) (w : Zw) (a0 : Nat) (h0 : zObj S a0 1) (a1 : Int32) (a2 : Int32) : zOk (E, i_X1_takeIn, 8) 0 0 S w 0 [(0, .ref a0), (1, .int a1), (2, .int a2)] [] (emW eI S) (f_X1_takeIn S w a0 a1 a2) := by
  unfold f_X1_takeIn
  refine z_aload_n 0 dX1_takeIn_0 rfl (z_iload_n 1 dX1_takeIn_1 rfl (z_iload_n 2 dX1_takeIn_2 rfl (z_iconst dX1_takeIn_3 zi_m1 ?_)))
  refine z_bind (fun v1 hb2 => ?_)
  refine z_callV (kc' := 0) (ks' := 0) (v := (some (.int v1))) (S1 := S) (w1 := w) (st := []) [.int a1, .int a2, .int (-1 : Int32)] (m_X1_chooseBay hW w a0 h0 a1 a2 (-1 : Int32) v1 hb2) zc1 h0 zy_X1_chooseBay gw305 gw306 gw304 (Nat.le_of_ble_eq_true rfl) (Nat.le_of_ble_eq_true rfl) (Nat.le_of_ble_eq_true rfl) (Nat.le_of_ble_eq_true rfl) (zal hW) rfl dX1_takeIn_4 (z_at 7 _ [.int v1] rfl rfl rfl ?_)
  refine z_istore_n (lv' := [(3, .int v1), (0, .ref a0), (1, .int a1), (2, .int a2)]) dX1_takeIn_7 (Nat.le_of_ble_eq_true rfl) rfl (z_iload_n 0 dX1_takeIn_8 rfl (z_iconst dX1_takeIn_9 zi_m1 ?_))
  refine z_icmp_eq 20 dX1_takeIn_10 rfl (fun q3 => ?_) (fun q3 => ?_)
  · refine z_iconst dX1_takeIn_20 zi_m1 ?_
    exact z_iret zemW rfl dX1_takeIn_21
  · refine z_aload_n 1 dX1_takeIn_13 rfl ?_
    refine z_bind (fun v4 hb5 => ?_)
    refine z_callV (kc' := 0) (ks' := 0) (v := (some (.int v4))) (S1 := S) (w1 := w) (st := []) [] (m_X1_isFull hW w a0 h0 v4 hb5) zc1 h0 zy_X1_isFull gw500 gw501 gw523 (Nat.le_of_ble_eq_true rfl) (Nat.le_of_ble_eq_true rfl) (Nat.le_of_ble_eq_true rfl) (Nat.le_of_ble_eq_true rfl) (zal hW) rfl dX1_takeIn_14 (z_at 17 _ [.int v4] rfl rfl rfl ?_)
    refine z_if_eq 22 dX1_takeIn_17 rfl (fun q6 => ?_) (fun q6 => ?_)
    · refine z_aload_n 1 dX1_takeIn_22 rfl (z_getI zc1 8 (by decide) rfl gw109 h0 dX1_takeIn_23 ?_)
      refine z_let (a := (w a0 8)) (fun z7 => [(3, .int v1), (0, .ref a0), (1, .int a1), (2, .int a2)]) (fun z7 => .int z7 :: []) (fun z7 => ?_)
      refine z_istore (lv' := [(4, .int z7), (3, .int v1), (0, .ref a0), (1, .int a1), (2, .int a2)]) dX1_takeIn_26 (Nat.le_of_ble_eq_true rfl) rfl (z_aload_n 2 dX1_takeIn_28 rfl (z_getR zc1 2 (by decide) rfl gw103 h0 (zW_some hW h0 2 rfl) dX1_takeIn_29 (z_iload 0 dX1_takeIn_32 rfl (z_iload_n 3 dX1_takeIn_34 rfl ?_))))
      refine z_chk (fun c8 => ?_)
      refine z_iast (zW_arr hW h0 2 0 rfl) c8 dX1_takeIn_35 (z_letw (fun w9 => ?_))
      refine z_aload_n 2 dX1_takeIn_36 rfl (z_getR zc1 3 (by decide) rfl gw104 h0 (zW_some hW h0 3 rfl) dX1_takeIn_37 (z_iload 0 dX1_takeIn_40 rfl (z_iload_n 4 dX1_takeIn_42 rfl ?_)))
      refine z_chk (fun c10 => ?_)
      refine z_iast (zW_arr hW h0 3 0 rfl) c10 dX1_takeIn_43 (z_letw (fun w11 => ?_))
      refine z_aload_n 2 dX1_takeIn_44 rfl (z_getR zc1 4 (by decide) rfl gw105 h0 (zW_some hW h0 4 rfl) dX1_takeIn_45 (z_iload 0 dX1_takeIn_48 rfl (z_iload_n 1 dX1_takeIn_50 rfl ?_)))
      refine z_chk (fun c12 => ?_)
      refine z_iast (zW_arr hW h0 4 0 rfl) c12 dX1_takeIn_51 (z_letw (fun w13 => ?_))
      refine z_aload_n 2 dX1_takeIn_52 rfl (z_getR zc1 5 (by decide) rfl gw106 h0 (zW_some hW h0 5 rfl) dX1_takeIn_53 (z_iload 0 dX1_takeIn_56 rfl (z_iconst dX1_takeIn_58 zi_1 ?_)))
      refine z_chk (fun c14 => ?_)
      refine z_iast (zW_arr hW h0 5 0 rfl) c14 dX1_takeIn_59 (z_letw (fun w15 => ?_))
      refine z_aload_n 2 dX1_takeIn_60 rfl (z_getR zc1 1 (by decide) rfl gw102 h0 (zW_some hW h0 1 rfl) dX1_takeIn_61 (z_iload_n 1 dX1_takeIn_64 rfl (z_iload 0 dX1_takeIn_65 rfl ?_)))
      refine z_chk (fun c16 => ?_)
      refine z_iast (zW_arr hW h0 1 0 rfl) c16 dX1_takeIn_67 (z_letw (fun w17 => ?_))
      refine z_aload_n 2 dX1_takeIn_68 rfl (z_dup dX1_takeIn_69 rfl (z_getI zc1 8 (by decide) rfl gw109 h0 dX1_takeIn_70 (z_iconst dX1_takeIn_73 zi_1 (z_iadd dX1_takeIn_74 ?_))))
      refine z_putI zc1 8 (by decide) (Or.inl rfl) rfl gw109 h0 dX1_takeIn_75 (z_letw (fun w18 => ?_))
      refine z_aload_n 2 dX1_takeIn_78 rfl (z_dup dX1_takeIn_79 rfl (z_getI zc1 9 (by decide) rfl gw110 h0 dX1_takeIn_80 (z_iconst dX1_takeIn_83 zi_1 (z_iadd dX1_takeIn_84 ?_))))
      refine z_putI zc1 9 (by decide) (Or.inl rfl) rfl gw110 h0 dX1_takeIn_85 (z_letw (fun w19 => ?_))
      refine z_aload_n 2 dX1_takeIn_88 rfl (z_getR zc1 7 (by decide) rfl gw108 h0 (zW_some hW h0 7 rfl) dX1_takeIn_89 (z_iload 0 dX1_takeIn_92 rfl (z_iload_n 1 dX1_takeIn_94 rfl ?_)))
      refine z_bind (fun r20 hb21 => ?_)
      refine z_callV (kc' := 0) (ks' := 0) (v := none) (S1 := S) (w1 := r20.2) (st := []) [.int z7, .int v1] (m_X6_bringIn hW w19 (zr S a0 7) (zW_obj hW h0 7 6 rfl) z7 v1 r20 hb21) zc6 (zW_obj hW h0 7 6 rfl) zy_X6_bringIn gw525 gw526 gw524 (Nat.le_of_ble_eq_true rfl) (Nat.le_of_ble_eq_true rfl) (Nat.le_of_ble_eq_true rfl) (Nat.le_of_ble_eq_true rfl) (zal hW) rfl dX1_takeIn_95 (z_at 98 _ [] rfl rfl rfl ?_)
      refine z_iload_n 1 dX1_takeIn_98 rfl ?_
      exact z_iret zemW rfl dX1_takeIn_99
    · refine z_iconst dX1_takeIn_20 zi_m1 ?_
      exact z_iret zemW rfl dX1_takeIn_21

theorem m_X1_takeIn {E : ZE} {S : Zs} (hW : zWF S) (w : Zw) (a0 : Nat) (h0 : zObj S a0 1) (a1 : Int32) (a2 : Int32) : ∀ i, f_X1_takeIn S w a0 a1 a2 = some i → zMr E yX1_takeIn cX1_takeIn 5 ((some .int)) 8 0 0 [.ref a0, .int a1, .int a2] S w ((emW eI S) i) :=
  fun i hi => z_enter (by decide +kernel) (Nat.le_of_ble_eq_true rfl) (mw_X1_takeIn hW w a0 h0 a1 a2 i hi)
/-! ParkingRobot.fetchOrReport (I)I : W, depth 10 -/
abbrev i_X7_fetchOrReport : Zm := (yX7_fetchOrReport.cls, cX7_fetchOrReport, 3, (some .int), [], yX7_fetchOrReport.name)
def f_X7_fetchOrReport (S : Zs) (w : Zw) (a0 : Nat) (a1 : Int32) : Option (Int32 × Zw) :=
  (f_X1_fetch S w (zr S a0 0) a1).bind fun r1 => if r1.1 = 0 then (if zin (0 : Int32) (zlen S (zr S a0 6)) = true then zlet (zput r1.2 (zr S a0 6) (zix (0 : Int32)) a1) fun w5 => (f_X1_blockerOf S w5 (zr S a0 0) a1).bind fun v6 => if zin (1 : Int32) (zlen S (zr S a0 6)) = true then zlet (zput w5 (zr S a0 6) (zix (1 : Int32)) v6) fun w9 => (f_X1_countOpenWithoutCar S w9 (zr S a0 0) (0 : Int32)).bind fun v10 => if zin (2 : Int32) (zlen S (zr S a0 6)) = true then zlet (zput w9 (zr S a0 6) (zix (2 : Int32)) v10) fun w13 => zlet (zput w13 a0 7 (1 : Int32)) fun w14 => some (r1.1, w14) else none else none else none) else some (r1.1, r1.2)
theorem mw_X7_fetchOrReport {E : ZE} {S : Zs} (hW : zWF S) (w : Zw) (a0 : Nat) (h0 : zObj S a0 7) (a1 : Int32) : zOk (E, i_X7_fetchOrReport, 10) 0 0 S w 0 [(0, .ref a0), (1, .int a1)] [] (emW eI S) (f_X7_fetchOrReport S w a0 a1) := by
  unfold f_X7_fetchOrReport
  refine z_aload_n 0 dX7_fetchOrReport_0 rfl (z_getR zc7 0 (by decide) rfl gw216 h0 (zW_some hW h0 0 rfl) dX7_fetchOrReport_1 (z_iload_n 1 dX7_fetchOrReport_4 rfl ?_))
  refine z_bind (fun r1 hb2 => ?_)
  refine z_callV (kc' := 0) (ks' := 0) (v := (some (.int r1.1))) (S1 := S) (w1 := r1.2) (st := []) [.int a1] (m_X1_fetch hW w (zr S a0 0) (zW_obj hW h0 0 1 rfl) a1 r1 hb2) zc1 (zW_obj hW h0 0 1 rfl) zy_X1_fetch gw598 gw599 gw597 (Nat.le_of_ble_eq_true rfl) (Nat.le_of_ble_eq_true rfl) (Nat.le_of_ble_eq_true rfl) (Nat.le_of_ble_eq_true rfl) (zal hW) rfl dX7_fetchOrReport_5 (z_at 8 _ [.int r1.1] rfl rfl rfl ?_)
  refine z_istore_n (lv' := [(2, .int r1.1), (0, .ref a0), (1, .int a1)]) dX7_fetchOrReport_8 (Nat.le_of_ble_eq_true rfl) rfl (z_iload_n 0 dX7_fetchOrReport_9 rfl ?_)
  refine z_if_ne 53 dX7_fetchOrReport_10 rfl (fun q3 => ?_) (fun q3 => ?_)
  · refine z_iload_n 0 dX7_fetchOrReport_53 rfl ?_
    exact z_iret zemW rfl dX7_fetchOrReport_54
  · refine z_aload_n 1 dX7_fetchOrReport_13 rfl (z_getR zc7 6 (by decide) rfl gw222 h0 (zW_some hW h0 6 rfl) dX7_fetchOrReport_14 (z_iconst dX7_fetchOrReport_17 zi_0 (z_iload_n 2 dX7_fetchOrReport_18 rfl ?_)))
    refine z_chk (fun c4 => ?_)
    refine z_iast (zW_arr hW h0 6 0 rfl) c4 dX7_fetchOrReport_19 (z_letw (fun w5 => ?_))
    refine z_aload_n 1 dX7_fetchOrReport_20 rfl (z_getR zc7 6 (by decide) rfl gw222 h0 (zW_some hW h0 6 rfl) dX7_fetchOrReport_21 (z_iconst dX7_fetchOrReport_24 zi_1 (z_aload_n 1 dX7_fetchOrReport_25 rfl (z_getR zc7 0 (by decide) rfl gw216 h0 (zW_some hW h0 0 rfl) dX7_fetchOrReport_26 (z_iload_n 2 dX7_fetchOrReport_29 rfl ?_)))))
    refine z_bind (fun v6 hb7 => ?_)
    refine z_callV (kc' := 0) (ks' := 0) (v := (some (.int v6))) (S1 := S) (w1 := w5) (st := [.int (1 : Int32), .ref (zr S a0 6)]) [.int a1] (m_X1_blockerOf hW w5 (zr S a0 0) (zW_obj hW h0 0 1 rfl) a1 v6 hb7) zc1 (zW_obj hW h0 0 1 rfl) zy_X1_blockerOf gw278 gw279 gw609 (Nat.le_of_ble_eq_true rfl) (Nat.le_of_ble_eq_true rfl) (Nat.le_of_ble_eq_true rfl) (Nat.le_of_ble_eq_true rfl) (zal hW) rfl dX7_fetchOrReport_30 (z_at 33 _ [.int v6, .int (1 : Int32), .ref (zr S a0 6)] rfl rfl rfl ?_)
    refine z_chk (fun c8 => ?_)
    refine z_iast (zW_arr hW h0 6 0 rfl) c8 dX7_fetchOrReport_33 (z_letw (fun w9 => ?_))
    refine z_aload_n 1 dX7_fetchOrReport_34 rfl (z_getR zc7 6 (by decide) rfl gw222 h0 (zW_some hW h0 6 rfl) dX7_fetchOrReport_35 (z_iconst dX7_fetchOrReport_38 zi_2 (z_aload_n 1 dX7_fetchOrReport_39 rfl (z_getR zc7 0 (by decide) rfl gw216 h0 (zW_some hW h0 0 rfl) dX7_fetchOrReport_40 (z_iconst dX7_fetchOrReport_43 zi_0 ?_)))))
    refine z_bind (fun v10 hb11 => ?_)
    refine z_callV (kc' := 0) (ks' := 0) (v := (some (.int v10))) (S1 := S) (w1 := w9) (st := [.int (2 : Int32), .ref (zr S a0 6)]) [.int (0 : Int32)] (m_X1_countOpenWithoutCar hW w9 (zr S a0 0) (zW_obj hW h0 0 1 rfl) (0 : Int32) v10 hb11) zc1 (zW_obj hW h0 0 1 rfl) zy_X1_countOpenWithoutCar gw611 gw612 gw610 (Nat.le_of_ble_eq_true rfl) (Nat.le_of_ble_eq_true rfl) (Nat.le_of_ble_eq_true rfl) (Nat.le_of_ble_eq_true rfl) (zal hW) rfl dX7_fetchOrReport_44 (z_at 47 _ [.int v10, .int (2 : Int32), .ref (zr S a0 6)] rfl rfl rfl ?_)
    refine z_chk (fun c12 => ?_)
    refine z_iast (zW_arr hW h0 6 0 rfl) c12 dX7_fetchOrReport_47 (z_letw (fun w13 => ?_))
    refine z_aload_n 1 dX7_fetchOrReport_48 rfl (z_iconst dX7_fetchOrReport_49 zi_1 ?_)
    refine z_putI zc7 7 (by decide) (Or.inr ⟨rfl, Or.inr rfl⟩) rfl gw223 h0 dX7_fetchOrReport_50 (z_letw (fun w14 => ?_))
    refine z_iload_n 0 dX7_fetchOrReport_53 rfl ?_
    exact z_iret zemW rfl dX7_fetchOrReport_54

theorem m_X7_fetchOrReport {E : ZE} {S : Zs} (hW : zWF S) (w : Zw) (a0 : Nat) (h0 : zObj S a0 7) (a1 : Int32) : ∀ i, f_X7_fetchOrReport S w a0 a1 = some i → zMr E yX7_fetchOrReport cX7_fetchOrReport 3 ((some .int)) 10 0 0 [.ref a0, .int a1] S w ((emW eI S) i) :=
  fun i hi => z_enter (by decide +kernel) (Nat.le_of_ble_eq_true rfl) (mw_X7_fetchOrReport hW w a0 h0 a1 i hi)
/-! ParkingRobot$Garage.changeClosed (IZ)Z : W, depth 0 -/
abbrev i_X1_changeClosed : Zm := (yX1_changeClosed.cls, cX1_changeClosed, 4, (some .boolean), [], yX1_changeClosed.name)
def f_X1_changeClosed (S : Zs) (w : Zw) (a0 : Nat) (a1 : Int32) (a2 : Int32) : Option (Int32 × Zw) :=
  if zin a1 (zlen S (zr S a0 0)) = true then zlet (w (zr S a0 0) (zix a1)) fun z2 => if zin a1 (zlen S (zr S a0 0)) = true then zlet (zput w (zr S a0 0) (zix a1) (vp_nar .boolean a2)) fun w4 => if zb1 z2 = true then some (z2, w4) else none else none else none
theorem mw_X1_changeClosed {E : ZE} {S : Zs} (hW : zWF S) (w : Zw) (a0 : Nat) (h0 : zObj S a0 1) (a1 : Int32) (a2 : Int32) : zOk (E, i_X1_changeClosed, 0) 0 0 S w 0 [(0, .ref a0), (1, .int a1), (2, .int a2)] [] (emW eI S) (f_X1_changeClosed S w a0 a1 a2) := by
  unfold f_X1_changeClosed
  refine z_aload_n 0 dX1_changeClosed_0 rfl (z_getR zc1 0 (by decide) rfl gw101 h0 (zW_some hW h0 0 rfl) dX1_changeClosed_1 (z_iload_n 1 dX1_changeClosed_4 rfl ?_))
  refine z_chk (fun c1 => ?_)
  refine z_zald (zW_arr hW h0 0 1 rfl) c1 dX1_changeClosed_5 ?_
  refine z_let (a := (w (zr S a0 0) (zix a1))) (fun z2 => [(0, .ref a0), (1, .int a1), (2, .int a2)]) (fun z2 => .int z2 :: []) (fun z2 => ?_)
  refine z_istore_n (lv' := [(3, .int z2), (0, .ref a0), (1, .int a1), (2, .int a2)]) dX1_changeClosed_6 (Nat.le_of_ble_eq_true rfl) rfl (z_aload_n 1 dX1_changeClosed_7 rfl (z_getR zc1 0 (by decide) rfl gw101 h0 (zW_some hW h0 0 rfl) dX1_changeClosed_8 (z_iload_n 2 dX1_changeClosed_11 rfl (z_iload_n 3 dX1_changeClosed_12 rfl ?_))))
  refine z_chk (fun c3 => ?_)
  refine z_zast (zW_arr hW h0 0 1 rfl) c3 dX1_changeClosed_13 (z_letw (fun w4 => ?_))
  refine z_iload_n 0 dX1_changeClosed_14 rfl ?_
  refine z_chk (fun c5 => ?_)
  exact z_zret zemW rfl (zb1_nar c5) dX1_changeClosed_15

theorem m_X1_changeClosed {E : ZE} {S : Zs} (hW : zWF S) (w : Zw) (a0 : Nat) (h0 : zObj S a0 1) (a1 : Int32) (a2 : Int32) : ∀ i, f_X1_changeClosed S w a0 a1 a2 = some i → zMr E yX1_changeClosed cX1_changeClosed 4 ((some .boolean)) 0 0 0 [.ref a0, .int a1, .int a2] S w ((emW eI S) i) :=
  fun i hi => z_enter (by decide +kernel) (Nat.le_of_ble_eq_true rfl) (mw_X1_changeClosed hW w a0 h0 a1 a2 i hi)
/-! ParkingRobot.carryOut (CII)Z : W, depth 11 -/
abbrev i_X7_carryOut : Zm := (yX7_carryOut.cls, cX7_carryOut, 4, (some .boolean), [], yX7_carryOut.name)
def f_X7_carryOut_j121 (S : Zs) (w : Zw) (y0 : Int32) (y1 : Int32) (y2 : Nat) : Option (Int32 × Zw) :=
  (f_X1_changeClosed S w y2 y1 y0).bind fun r8 => some ((1 : Int32), r8.2)
theorem m_X7_carryOut_j121 {E : ZE} {S : Zs} (hW : zWF S) (w : Zw) (y0 : Int32) (y1 : Int32) (y2 : Nat) (hy2 : zObj S y2 1) : zOk (E, i_X7_carryOut, 11) 0 0 S w 121 [] [.int y0, .int y1, .ref y2] (emW eI S) (f_X7_carryOut_j121 S w y0 y1 y2) := by
  unfold f_X7_carryOut_j121
  refine z_bind (fun r8 hb9 => ?_)
  refine z_callV (kc' := 0) (ks' := 0) (v := (some (.int r8.1))) (S1 := S) (w1 := r8.2) (st := []) [.int y1, .int y0] (m_X1_changeClosed hW w y2 hy2 y1 y0 r8 hb9) zc1 hy2 zy_X1_changeClosed gw682 gw683 gw681 (Nat.le_of_ble_eq_true rfl) (Nat.le_of_ble_eq_true rfl) (Nat.le_of_ble_eq_true rfl) (Nat.le_of_ble_eq_true rfl) (zal hW) rfl dX7_carryOut_121 (z_at 124 _ [.int r8.1] rfl rfl rfl ?_)
  refine z_pop dX7_carryOut_124 rfl (z_iconst dX7_carryOut_125 zi_1 ?_)
  exact z_zret zemW rfl rfl dX7_carryOut_126

def f_X7_carryOut (S : Zs) (w : Zw) (a0 : Nat) (a1 : Int32) (a2 : Int32) (a3 : Int32) : Option (Int32 × Zw) :=
  if a1 = (115 : Int32) then (f_X1_isFull S w (zr S a0 0)).bind fun v22 => if v22 = 0 then (f_X1_takeIn S w (zr S a0 0) a2 a3).bind fun r25 => if r25.1 = (-1 : Int32) then some ((0 : Int32), r25.2) else some ((1 : Int32), r25.2) else some ((0 : Int32), w) else if a1 = (114 : Int32) then (f_X1_isStored S w (zr S a0 0) a3).bind fun v16 => if v16 = 0 then some ((0 : Int32), w) else (f_X7_fetchOrReport S w a0 a3).bind fun r19 => if r19.1 = 0 then some ((0 : Int32), r19.2) else some ((1 : Int32), r19.2) else if a1 = (116 : Int32) then (f_X7_isPass a3).bind fun v10 => if v10 = 0 then some ((0 : Int32), w) else (f_X1_letPass S w (zr S a0 0) a3).bind fun r13 => if r13.1 = 0 then some ((0 : Int32), r13.2) else some ((1 : Int32), r13.2) else (f_X7_isBay a3).bind fun v4 => if v4 = 0 then some ((0 : Int32), w) else if a1 = (99 : Int32) then f_X7_carryOut_j121 S w (1 : Int32) a3 ((zr S a0 0))  else f_X7_carryOut_j121 S w (0 : Int32) a3 ((zr S a0 0)) 
theorem mw_X7_carryOut {E : ZE} {S : Zs} (hW : zWF S) (w : Zw) (a0 : Nat) (h0 : zObj S a0 7) (a1 : Int32) (a2 : Int32) (a3 : Int32) : zOk (E, i_X7_carryOut, 11) 0 0 S w 0 [(0, .ref a0), (1, .int a1), (2, .int a2), (3, .int a3)] [] (emW eI S) (f_X7_carryOut S w a0 a1 a2 a3) := by
  unfold f_X7_carryOut
  refine z_iload_n 1 dX7_carryOut_0 rfl (z_bipush dX7_carryOut_1 zb_115 ?_)
  refine z_icmp_ne 35 dX7_carryOut_3 rfl (fun q1 => ?_) (fun q1 => ?_)
  · refine z_iload_n 1 dX7_carryOut_35 rfl (z_bipush dX7_carryOut_36 zb_114 ?_)
    refine z_icmp_ne 66 dX7_carryOut_38 rfl (fun q2 => ?_) (fun q2 => ?_)
    · refine z_iload_n 1 dX7_carryOut_66 rfl (z_bipush dX7_carryOut_67 zb_116 ?_)
      refine z_icmp_ne 96 dX7_carryOut_69 rfl (fun q3 => ?_) (fun q3 => ?_)
      · refine z_iload_n 3 dX7_carryOut_96 rfl ?_
        refine z_bind (fun v4 hb5 => ?_)
        refine z_callS (kc' := 0) (ks' := 0) (v := (some (.int v4))) (S1 := S) (w1 := w) (st := []) [.int a3] (m_X7_isBay hW w a3 v4 hb5) zy_X7_isBay gw678 gw677 (Nat.le_of_ble_eq_true rfl) (Nat.le_of_ble_eq_true rfl) (Nat.le_of_ble_eq_true rfl) (Nat.le_of_ble_eq_true rfl) (zal hW) rfl dX7_carryOut_97 (z_at 100 _ [.int v4] rfl rfl rfl ?_)
        refine z_if_ne 105 dX7_carryOut_100 rfl (fun q6 => ?_) (fun q6 => ?_)
        · refine z_aload_n 0 dX7_carryOut_105 rfl (z_getR zc7 0 (by decide) rfl gw216 h0 (zW_some hW h0 0 rfl) dX7_carryOut_106 (z_iload_n 3 dX7_carryOut_109 rfl (z_iload_n 1 dX7_carryOut_110 rfl (z_bipush dX7_carryOut_111 zb_99 ?_))))
          refine z_icmp_ne 120 dX7_carryOut_113 rfl (fun q7 => ?_) (fun q7 => ?_)
          · refine z_iconst dX7_carryOut_120 zi_0 ?_
            refine z_sub (lv' := []) [] rfl ?_
            refine z_pc (pc' := 121) rfl ?_
            exact m_X7_carryOut_j121 hW w (0 : Int32) a3 ((zr S a0 0)) (zW_obj hW h0 0 1 rfl) 
          · refine z_iconst dX7_carryOut_116 zi_1 (z_goto 121 dX7_carryOut_117 rfl ?_)
            refine z_sub (lv' := []) [] rfl ?_
            refine z_pc (pc' := 121) rfl ?_
            exact m_X7_carryOut_j121 hW w (1 : Int32) a3 ((zr S a0 0)) (zW_obj hW h0 0 1 rfl) 
        · refine z_iconst dX7_carryOut_103 zi_0 ?_
          exact z_zret zemW rfl rfl dX7_carryOut_104
      · refine z_iload_n 3 dX7_carryOut_72 rfl ?_
        refine z_bind (fun v10 hb11 => ?_)
        refine z_callS (kc' := 0) (ks' := 0) (v := (some (.int v10))) (S1 := S) (w1 := w) (st := []) [.int a3] (m_X7_isPass hW w a3 v10 hb11) zy_X7_isPass gw876 gw875 (Nat.le_of_ble_eq_true rfl) (Nat.le_of_ble_eq_true rfl) (Nat.le_of_ble_eq_true rfl) (Nat.le_of_ble_eq_true rfl) (zal hW) rfl dX7_carryOut_73 (z_at 76 _ [.int v10] rfl rfl rfl ?_)
        refine z_if_eq 94 dX7_carryOut_76 rfl (fun q12 => ?_) (fun q12 => ?_)
        · refine z_iconst dX7_carryOut_94 zi_0 ?_
          exact z_zret zemW rfl rfl dX7_carryOut_95
        · refine z_aload_n 0 dX7_carryOut_79 rfl (z_getR zc7 0 (by decide) rfl gw216 h0 (zW_some hW h0 0 rfl) dX7_carryOut_80 (z_iload_n 3 dX7_carryOut_83 rfl ?_))
          refine z_bind (fun r13 hb14 => ?_)
          refine z_callV (kc' := 0) (ks' := 0) (v := (some (.int r13.1))) (S1 := S) (w1 := r13.2) (st := []) [.int a3] (m_X1_letPass hW w (zr S a0 0) (zW_obj hW h0 0 1 rfl) a3 r13 hb14) zc1 (zW_obj hW h0 0 1 rfl) zy_X1_letPass gw880 gw881 gw879 (Nat.le_of_ble_eq_true rfl) (Nat.le_of_ble_eq_true rfl) (Nat.le_of_ble_eq_true rfl) (Nat.le_of_ble_eq_true rfl) (zal hW) rfl dX7_carryOut_84 (z_at 87 _ [.int r13.1] rfl rfl rfl ?_)
          refine z_if_eq 94 dX7_carryOut_87 rfl (fun q15 => ?_) (fun q15 => ?_)
          · refine z_iconst dX7_carryOut_94 zi_0 ?_
            exact z_zret zemW rfl rfl dX7_carryOut_95
          · refine z_iconst dX7_carryOut_90 zi_1 (z_goto 95 dX7_carryOut_91 rfl ?_)
            exact z_zret zemW rfl rfl dX7_carryOut_95
    · refine z_aload_n 0 dX7_carryOut_41 rfl (z_getR zc7 0 (by decide) rfl gw216 h0 (zW_some hW h0 0 rfl) dX7_carryOut_42 (z_iload_n 3 dX7_carryOut_45 rfl ?_))
      refine z_bind (fun v16 hb17 => ?_)
      refine z_callV (kc' := 0) (ks' := 0) (v := (some (.int v16))) (S1 := S) (w1 := w) (st := []) [.int a3] (m_X1_isStored hW w (zr S a0 0) (zW_obj hW h0 0 1 rfl) a3 v16 hb17) zc1 (zW_obj hW h0 0 1 rfl) zy_X1_isStored gw282 gw283 gw579 (Nat.le_of_ble_eq_true rfl) (Nat.le_of_ble_eq_true rfl) (Nat.le_of_ble_eq_true rfl) (Nat.le_of_ble_eq_true rfl) (zal hW) rfl dX7_carryOut_46 (z_at 49 _ [.int v16] rfl rfl rfl ?_)
      refine z_if_eq 64 dX7_carryOut_49 rfl (fun q18 => ?_) (fun q18 => ?_)
      · refine z_iconst dX7_carryOut_64 zi_0 ?_
        exact z_zret zemW rfl rfl dX7_carryOut_65
      · refine z_aload_n 0 dX7_carryOut_52 rfl (z_iload_n 3 dX7_carryOut_53 rfl ?_)
        refine z_bind (fun r19 hb20 => ?_)
        refine z_callV (kc' := 0) (ks' := 0) (v := (some (.int r19.1))) (S1 := S) (w1 := r19.2) (st := []) [.int a3] (m_X7_fetchOrReport hW w a0 h0 a3 r19 hb20) zc7 h0 zy_X7_fetchOrReport gw595 gp6 gw593 (Nat.le_of_ble_eq_true rfl) (Nat.le_of_ble_eq_true rfl) (Nat.le_of_ble_eq_true rfl) (Nat.le_of_ble_eq_true rfl) (zal hW) rfl dX7_carryOut_54 (z_at 57 _ [.int r19.1] rfl rfl rfl ?_)
        refine z_if_eq 64 dX7_carryOut_57 rfl (fun q21 => ?_) (fun q21 => ?_)
        · refine z_iconst dX7_carryOut_64 zi_0 ?_
          exact z_zret zemW rfl rfl dX7_carryOut_65
        · refine z_iconst dX7_carryOut_60 zi_1 (z_goto 65 dX7_carryOut_61 rfl ?_)
          exact z_zret zemW rfl rfl dX7_carryOut_65
  · refine z_aload_n 0 dX7_carryOut_6 rfl (z_getR zc7 0 (by decide) rfl gw216 h0 (zW_some hW h0 0 rfl) dX7_carryOut_7 ?_)
    refine z_bind (fun v22 hb23 => ?_)
    refine z_callV (kc' := 0) (ks' := 0) (v := (some (.int v22))) (S1 := S) (w1 := w) (st := []) [] (m_X1_isFull hW w (zr S a0 0) (zW_obj hW h0 0 1 rfl) v22 hb23) zc1 (zW_obj hW h0 0 1 rfl) zy_X1_isFull gw500 gw501 gw499 (Nat.le_of_ble_eq_true rfl) (Nat.le_of_ble_eq_true rfl) (Nat.le_of_ble_eq_true rfl) (Nat.le_of_ble_eq_true rfl) (zal hW) rfl dX7_carryOut_10 (z_at 13 _ [.int v22] rfl rfl rfl ?_)
    refine z_if_ne 33 dX7_carryOut_13 rfl (fun q24 => ?_) (fun q24 => ?_)
    · refine z_iconst dX7_carryOut_33 zi_0 ?_
      exact z_zret zemW rfl rfl dX7_carryOut_34
    · refine z_aload_n 0 dX7_carryOut_16 rfl (z_getR zc7 0 (by decide) rfl gw216 h0 (zW_some hW h0 0 rfl) dX7_carryOut_17 (z_iload_n 2 dX7_carryOut_20 rfl (z_iload_n 3 dX7_carryOut_21 rfl ?_)))
      refine z_bind (fun r25 hb26 => ?_)
      refine z_callV (kc' := 0) (ks' := 0) (v := (some (.int r25.1))) (S1 := S) (w1 := r25.2) (st := []) [.int a2, .int a3] (m_X1_takeIn hW w (zr S a0 0) (zW_obj hW h0 0 1 rfl) a2 a3 r25 hb26) zc1 (zW_obj hW h0 0 1 rfl) zy_X1_takeIn gw520 gw521 gw519 (Nat.le_of_ble_eq_true rfl) (Nat.le_of_ble_eq_true rfl) (Nat.le_of_ble_eq_true rfl) (Nat.le_of_ble_eq_true rfl) (zal hW) rfl dX7_carryOut_22 (z_at 25 _ [.int r25.1] rfl rfl rfl ?_)
      refine z_iconst dX7_carryOut_25 zi_m1 ?_
      refine z_icmp_eq 33 dX7_carryOut_26 rfl (fun q27 => ?_) (fun q27 => ?_)
      · refine z_iconst dX7_carryOut_33 zi_0 ?_
        exact z_zret zemW rfl rfl dX7_carryOut_34
      · refine z_iconst dX7_carryOut_29 zi_1 (z_goto 34 dX7_carryOut_30 rfl ?_)
        exact z_zret zemW rfl rfl dX7_carryOut_34

theorem m_X7_carryOut {E : ZE} {S : Zs} (hW : zWF S) (w : Zw) (a0 : Nat) (h0 : zObj S a0 7) (a1 : Int32) (a2 : Int32) (a3 : Int32) : ∀ i, f_X7_carryOut S w a0 a1 a2 a3 = some i → zMr E yX7_carryOut cX7_carryOut 4 ((some .boolean)) 11 0 0 [.ref a0, .int a1, .int a2, .int a3] S w ((emW eI S) i) :=
  fun i hi => z_enter (by decide +kernel) (Nat.le_of_ble_eq_true rfl) (mw_X7_carryOut hW w a0 h0 a1 a2 a3 i hi)
/-! ParkingRobot$History.returnToDraft (LParkingRobot$Garage;)V : W, depth 9 -/
abbrev i_X2_returnToDraft : Zm := (yX2_returnToDraft.cls, cX2_returnToDraft, 2, none, [], yX2_returnToDraft.name)
def f_X2_returnToDraft (S : Zs) (w : Zw) (a0 : Nat) (a1 : Nat) : Option (Unit × Zw) :=
  if zin (w a0 1) (zlen S (zr S a0 0)) = true then (f_X1_copyFrom S w a1 (zr S (zr S a0 0) (zix (w a0 1)))).bind fun r2 => some ((), r2.2) else none
theorem mw_X2_returnToDraft {E : ZE} {S : Zs} (hW : zWF S) (w : Zw) (a0 : Nat) (h0 : zObj S a0 2) (a1 : Nat) (h1 : zObj S a1 1) : zOk (E, i_X2_returnToDraft, 9) 0 0 S w 0 [(0, .ref a0), (1, .ref a1)] [] (emW eU S) (f_X2_returnToDraft S w a0 a1) := by
  unfold f_X2_returnToDraft
  refine z_aload_n 1 dX2_returnToDraft_0 rfl (z_aload_n 0 dX2_returnToDraft_1 rfl (z_getR zc2 0 (by decide) rfl gw144 h0 (zW_some hW h0 0 rfl) dX2_returnToDraft_2 (z_aload_n 0 dX2_returnToDraft_5 rfl (z_getI zc2 1 (by decide) rfl gw145 h0 dX2_returnToDraft_6 ?_))))
  refine z_chk (fun c1 => ?_)
  refine z_aald (Or.inr rfl) (zW_arr hW h0 0 6 rfl) c1 (zW_el6 hW (zW_arr hW h0 0 6 rfl) c1).1 dX2_returnToDraft_9 ?_
  refine z_bind (fun r2 hb3 => ?_)
  refine z_callV (kc' := 0) (ks' := 0) (v := none) (S1 := S) (w1 := r2.2) (st := []) [.ref (zr S (zr S a0 0) (zix (w a0 1)))] (m_X1_copyFrom hW w a1 h1 (zr S (zr S a0 0) (zix (w a0 1))) (zW_el6 hW (zW_arr hW h0 0 6 rfl) c1).2 r2 hb3) zc1 h1 zy_X1_copyFrom gw250 gw251 gw249 (Nat.le_of_ble_eq_true rfl) (Nat.le_of_ble_eq_true rfl) (Nat.le_of_ble_eq_true rfl) (Nat.le_of_ble_eq_true rfl) (zal hW) rfl dX2_returnToDraft_10 (z_at 13 _ [] rfl rfl rfl ?_)
  exact z_vret zemW rfl dX2_returnToDraft_13

theorem m_X2_returnToDraft {E : ZE} {S : Zs} (hW : zWF S) (w : Zw) (a0 : Nat) (h0 : zObj S a0 2) (a1 : Nat) (h1 : zObj S a1 1) : ∀ i, f_X2_returnToDraft S w a0 a1 = some i → zMr E yX2_returnToDraft cX2_returnToDraft 2 none 9 0 0 [.ref a0, .ref a1] S w ((emW eU S) i) :=
  fun i hi => z_enter (by decide +kernel) (Nat.le_of_ble_eq_true rfl) (mw_X2_returnToDraft hW w a0 h0 a1 h1 i hi)
/-! ParkingRobot.perform ()I : X, depth 12 -/
abbrev i_X7_perform : Zm := (yX7_perform.cls, cX7_perform, 3, (some .int), [], yX7_perform.name)
def f_X7_perform_b38 (S : Zs) (x0 : Nat) (k : (Int32 × Zw) → Option ((Int32 ⊕ String) × Zw)) (x2 : Int32) (w : Zw) : Option ((Int32 ⊕ String) × Zw) :=
  if (f_X0_commands S w (zr S x0 5)) ≤ x2 then (f_X2_keepDraft S w (zr S x0 3)).bind fun r9 => some (.inl (f_X0_commands S r9.2 (zr S x0 5)), r9.2) else (f_X0_kindOf S w (zr S x0 5) x2).bind fun v11 => (f_X0_sizeOf S w (zr S x0 5) x2).bind fun v13 => (f_X0_numberOf S w (zr S x0 5) x2).bind fun v15 => (f_X7_carryOut S w x0 v11 v13 v15).bind fun r17 => if r17.1 = 0 then (f_X2_returnToDraft S r17.2 (zr S x0 3) (zr S x0 0)).bind fun r20 => some (.inr "java/lang/UnsupportedOperationException", r20.2) else k ((x2 + (1 : Int32)), r17.2)
def f_X7_perform_l38 (S : Zs) (x0 : Nat) (a : Int32 × Zw) : Option ((Int32 ⊕ String) × Zw) :=
  zlp (fun k a => f_X7_perform_b38 S x0 k a.1 a.2) zFU a
theorem m_X7_perform_l38 {E : ZE} {S : Zs} (hW : zWF S) (x0 : Nat) (hx0 : zObj S x0 7) : ∀ a : Int32 × Zw, zOk (E, i_X7_perform, 12) 1 6 S a.2 38 [(0, .ref x0), (2, .int a.1)] [] (emX eI S) (f_X7_perform_l38 S x0 a) := by
  intro a
  refine z_lp (P := fun _ => True) (W9 := fun a : Int32 × Zw => a.2) (L9 := fun a : Int32 × Zw => [(0, .ref x0), (2, .int a.1)]) (T9 := fun _ => []) (fun k hk9 a _ => ?_) zFU a trivial
  have hk : ∀ a : Int32 × Zw, zOk (E, i_X7_perform, 12) 1 6 S a.2 38 [(0, .ref x0), (2, .int a.1)] [] (emX eI S) (k a) := fun a => hk9 a trivial
  clear hk9
  obtain ⟨x2, w⟩ := a
  show zOk (E, i_X7_perform, 12) 1 6 S w 38 [(0, .ref x0), (2, .int x2)] [] (emX eI S) (f_X7_perform_b38 S x0 k x2 w)
  unfold f_X7_perform_b38
  refine z_iload_n 1 dX7_perform_38 rfl (z_aload_n 0 dX7_perform_39 rfl (z_getR zc7 5 (by decide) rfl gw221 hx0 (zW_some hW hx0 5 rfl) dX7_perform_40 ?_))
  refine z_callV (kc' := 1) (ks' := 6) (v := (some (.int (f_X0_commands S w (zr S x0 5))))) (S1 := S) (w1 := w) (st := [.int x2]) [] (m_X0_commands hW w (zr S x0 5) (zW_obj hW hx0 5 0 rfl)) zc0 (zW_obj hW hx0 5 0 rfl) zy_X0_commands gw1045 gw1046 gw1044 (Nat.le_of_ble_eq_true rfl) (Nat.le_of_ble_eq_true rfl) (Nat.le_of_ble_eq_true rfl) (Nat.le_of_ble_eq_true rfl) (zal hW) rfl dX7_perform_43 (z_at 46 _ [.int (f_X0_commands S w (zr S x0 5)), .int x2] rfl rfl rfl ?_)
  refine z_icmp_ge 108 dX7_perform_46 rfl (fun q8 => ?_) (fun q8 => ?_)
  · refine z_aload_n 0 dX7_perform_108 rfl (z_getR zc7 3 (by decide) rfl gw219 hx0 (zW_some hW hx0 3 rfl) dX7_perform_109 ?_)
    refine z_bind (fun r9 hb10 => ?_)
    refine z_callV (kc' := 1) (ks' := 6) (v := none) (S1 := S) (w1 := r9.2) (st := []) [] (m_X2_keepDraft hW w (zr S x0 3) (zW_obj hW hx0 3 2 rfl) r9 hb10) zc2 (zW_obj hW hx0 3 2 rfl) zy_X2_keepDraft gw384 gw385 gw383 (Nat.le_of_ble_eq_true rfl) (Nat.le_of_ble_eq_true rfl) (Nat.le_of_ble_eq_true rfl) (Nat.le_of_ble_eq_true rfl) (zal hW) rfl dX7_perform_112 (z_at 115 _ [] rfl rfl rfl ?_)
    refine z_aload_n 0 dX7_perform_115 rfl (z_getR zc7 5 (by decide) rfl gw221 hx0 (zW_some hW hx0 5 rfl) dX7_perform_116 ?_)
    refine z_callV (kc' := 1) (ks' := 6) (v := (some (.int (f_X0_commands S r9.2 (zr S x0 5))))) (S1 := S) (w1 := r9.2) (st := []) [] (m_X0_commands hW r9.2 (zr S x0 5) (zW_obj hW hx0 5 0 rfl)) zc0 (zW_obj hW hx0 5 0 rfl) zy_X0_commands gw1045 gw1046 gw1044 (Nat.le_of_ble_eq_true rfl) (Nat.le_of_ble_eq_true rfl) (Nat.le_of_ble_eq_true rfl) (Nat.le_of_ble_eq_true rfl) (zal hW) rfl dX7_perform_119 (z_at 122 _ [.int (f_X0_commands S r9.2 (zr S x0 5))] rfl rfl rfl ?_)
    exact z_iret zemX rfl dX7_perform_122
  · refine z_aload_n 0 dX7_perform_49 rfl (z_aload_n 0 dX7_perform_50 rfl (z_getR zc7 5 (by decide) rfl gw221 hx0 (zW_some hW hx0 5 rfl) dX7_perform_51 (z_iload_n 1 dX7_perform_54 rfl ?_)))
    refine z_bind (fun v11 hb12 => ?_)
    refine z_callV (kc' := 1) (ks' := 6) (v := (some (.int v11))) (S1 := S) (w1 := w) (st := [.ref x0]) [.int x2] (m_X0_kindOf hW w (zr S x0 5) (zW_obj hW hx0 5 0 rfl) x2 v11 hb12) zc0 (zW_obj hW hx0 5 0 rfl) zy_X0_kindOf gw1049 gw1050 gw1048 (Nat.le_of_ble_eq_true rfl) (Nat.le_of_ble_eq_true rfl) (Nat.le_of_ble_eq_true rfl) (Nat.le_of_ble_eq_true rfl) (zal hW) rfl dX7_perform_55 (z_at 58 _ [.int v11, .ref x0] rfl rfl rfl ?_)
    refine z_aload_n 0 dX7_perform_58 rfl (z_getR zc7 5 (by decide) rfl gw221 hx0 (zW_some hW hx0 5 rfl) dX7_perform_59 (z_iload_n 1 dX7_perform_62 rfl ?_))
    refine z_bind (fun v13 hb14 => ?_)
    refine z_callV (kc' := 1) (ks' := 6) (v := (some (.int v13))) (S1 := S) (w1 := w) (st := [.int v11, .ref x0]) [.int x2] (m_X0_sizeOf hW w (zr S x0 5) (zW_obj hW hx0 5 0 rfl) x2 v13 hb14) zc0 (zW_obj hW hx0 5 0 rfl) zy_X0_sizeOf gw1053 gw1054 gw1052 (Nat.le_of_ble_eq_true rfl) (Nat.le_of_ble_eq_true rfl) (Nat.le_of_ble_eq_true rfl) (Nat.le_of_ble_eq_true rfl) (zal hW) rfl dX7_perform_63 (z_at 66 _ [.int v13, .int v11, .ref x0] rfl rfl rfl ?_)
    refine z_aload_n 0 dX7_perform_66 rfl (z_getR zc7 5 (by decide) rfl gw221 hx0 (zW_some hW hx0 5 rfl) dX7_perform_67 (z_iload_n 1 dX7_perform_70 rfl ?_))
    refine z_bind (fun v15 hb16 => ?_)
    refine z_callV (kc' := 1) (ks' := 6) (v := (some (.int v15))) (S1 := S) (w1 := w) (st := [.int v13, .int v11, .ref x0]) [.int x2] (m_X0_numberOf hW w (zr S x0 5) (zW_obj hW hx0 5 0 rfl) x2 v15 hb16) zc0 (zW_obj hW hx0 5 0 rfl) zy_X0_numberOf gw1057 gw1058 gw1056 (Nat.le_of_ble_eq_true rfl) (Nat.le_of_ble_eq_true rfl) (Nat.le_of_ble_eq_true rfl) (Nat.le_of_ble_eq_true rfl) (zal hW) rfl dX7_perform_71 (z_at 74 _ [.int v15, .int v13, .int v11, .ref x0] rfl rfl rfl ?_)
    refine z_bind (fun r17 hb18 => ?_)
    refine z_callV (kc' := 1) (ks' := 6) (v := (some (.int r17.1))) (S1 := S) (w1 := r17.2) (st := []) [.int v11, .int v13, .int v15] (m_X7_carryOut hW w x0 hx0 v11 v13 v15 r17 hb18) zc7 hx0 zy_X7_carryOut gw1062 gp24 gw1060 (Nat.le_of_ble_eq_true rfl) (Nat.le_of_ble_eq_true rfl) (Nat.le_of_ble_eq_true rfl) (Nat.le_of_ble_eq_true rfl) (zal hW) rfl dX7_perform_74 (z_at 77 _ [.int r17.1] rfl rfl rfl ?_)
    refine z_if_ne 102 dX7_perform_77 rfl (fun q19 => ?_) (fun q19 => ?_)
    · refine z_iinc (v := (x2 + (1 : Int32))) (lv' := [(2, .int (x2 + (1 : Int32))), (0, .ref x0)]) 1 dX7_perform_102 rfl (zi_inc _ zi_1) (Nat.le_of_ble_eq_true rfl) rfl (z_goto 38 dX7_perform_105 rfl ?_)
      refine z_sub (lv' := [(0, .ref x0), (2, .int (x2 + (1 : Int32)))]) [1, 0] rfl ?_
      refine z_pc (pc' := 38) rfl ?_
      exact hk ((x2 + (1 : Int32)), r17.2)
    · refine z_aload_n 0 dX7_perform_80 rfl (z_getR zc7 3 (by decide) rfl gw219 hx0 (zW_some hW hx0 3 rfl) dX7_perform_81 (z_aload_n 0 dX7_perform_84 rfl (z_getR zc7 0 (by decide) rfl gw216 hx0 (zW_some hW hx0 0 rfl) dX7_perform_85 ?_)))
      refine z_bind (fun r20 hb21 => ?_)
      refine z_callV (kc' := 1) (ks' := 6) (v := none) (S1 := S) (w1 := r20.2) (st := []) [.ref (zr S x0 0)] (m_X2_returnToDraft hW r17.2 (zr S x0 3) (zW_obj hW hx0 3 2 rfl) (zr S x0 0) (zW_obj hW hx0 0 1 rfl) r20 hb21) zc2 (zW_obj hW hx0 3 2 rfl) zy_X2_returnToDraft gw1065 gw1066 gw1064 (Nat.le_of_ble_eq_true rfl) (Nat.le_of_ble_eq_true rfl) (Nat.le_of_ble_eq_true rfl) (Nat.le_of_ble_eq_true rfl) (zal hW) rfl dX7_perform_88 (z_at 91 _ [] rfl rfl rfl ?_)
      exact z_throwW zx_UOE gw528 zt_RX7_330 (Nat.le_of_ble_eq_true rfl) (Nat.le_of_ble_eq_true rfl) (Nat.le_of_ble_eq_true rfl) rfl (Nat.le_of_ble_eq_true rfl) zemXr dX7_perform_91 dX7_perform_94 dX7_perform_95 dX7_perform_98 dX7_perform_101

def f_X7_perform (S : Zs) (w : Zw) (a0 : Nat) : Option ((Int32 ⊕ String) × Zw) :=
  (f_X0_parse S w (zr S a0 5)).bind fun r1 => (f_X0_empty S r1.2 (zr S a0 5)).bind fun r3 => if r1.1 = (-1 : Int32) then (f_X2_draft S r3.2 (zr S a0 3) (zr S a0 0)).bind fun r6 => f_X7_perform_l38 S a0 ((0 : Int32), r6.2) else some (.inl ((-100 : Int32) - r1.1), r3.2)
theorem mw_X7_perform {E : ZE} {S : Zs} (hW : zWF S) (w : Zw) (a0 : Nat) (h0 : zObj S a0 7) : zOk (E, i_X7_perform, 12) 1 6 S w 0 [(0, .ref a0)] [] (emX eI S) (f_X7_perform S w a0) := by
  unfold f_X7_perform
  refine z_aload_n 0 dX7_perform_0 rfl (z_getR zc7 5 (by decide) rfl gw221 h0 (zW_some hW h0 5 rfl) dX7_perform_1 ?_)
  refine z_bind (fun r1 hb2 => ?_)
  refine z_callV (kc' := 1) (ks' := 6) (v := (some (.int r1.1))) (S1 := S) (w1 := r1.2) (st := []) [] (m_X0_parse hW w (zr S a0 5) (zW_obj hW h0 5 0 rfl) r1 hb2) zc0 (zW_obj hW h0 5 0 rfl) zy_X0_parse gw1017 gw1018 gw1016 (Nat.le_of_ble_eq_true rfl) (Nat.le_of_ble_eq_true rfl) (Nat.le_of_ble_eq_true rfl) (Nat.le_of_ble_eq_true rfl) (zal hW) rfl dX7_perform_4 (z_at 7 _ [.int r1.1] rfl rfl rfl ?_)
  refine z_istore_n (lv' := [(1, .int r1.1), (0, .ref a0)]) dX7_perform_7 (Nat.le_of_ble_eq_true rfl) rfl (z_aload_n 1 dX7_perform_8 rfl (z_getR zc7 5 (by decide) rfl gw221 h0 (zW_some hW h0 5 rfl) dX7_perform_9 ?_))
  refine z_bind (fun r3 hb4 => ?_)
  refine z_callV (kc' := 1) (ks' := 6) (v := none) (S1 := S) (w1 := r3.2) (st := []) [] (m_X0_empty hW r1.2 (zr S a0 5) (zW_obj hW h0 5 0 rfl) r3 hb4) zc0 (zW_obj hW h0 5 0 rfl) zy_X0_empty gw1041 gw1042 gw1040 (Nat.le_of_ble_eq_true rfl) (Nat.le_of_ble_eq_true rfl) (Nat.le_of_ble_eq_true rfl) (Nat.le_of_ble_eq_true rfl) (zal hW) rfl dX7_perform_12 (z_at 15 _ [] rfl rfl rfl ?_)
  refine z_iload_n 0 dX7_perform_15 rfl (z_iconst dX7_perform_16 zi_m1 ?_)
  refine z_icmp_eq 25 dX7_perform_17 rfl (fun q5 => ?_) (fun q5 => ?_)
  · refine z_aload_n 1 dX7_perform_25 rfl (z_getR zc7 3 (by decide) rfl gw219 h0 (zW_some hW h0 3 rfl) dX7_perform_26 (z_aload_n 1 dX7_perform_29 rfl (z_getR zc7 0 (by decide) rfl gw216 h0 (zW_some hW h0 0 rfl) dX7_perform_30 ?_)))
    refine z_bind (fun r6 hb7 => ?_)
    refine z_callV (kc' := 1) (ks' := 6) (v := none) (S1 := S) (w1 := r6.2) (st := []) [.ref (zr S a0 0)] (m_X2_draft hW r3.2 (zr S a0 3) (zW_obj hW h0 3 2 rfl) (zr S a0 0) (zW_obj hW h0 0 1 rfl) r6 hb7) zc2 (zW_obj hW h0 3 2 rfl) zy_X2_draft gw246 gw247 gw245 (Nat.le_of_ble_eq_true rfl) (Nat.le_of_ble_eq_true rfl) (Nat.le_of_ble_eq_true rfl) (Nat.le_of_ble_eq_true rfl) (zal hW) rfl dX7_perform_33 (z_at 36 _ [] rfl rfl rfl ?_)
    refine z_iconst dX7_perform_36 zi_0 (z_istore_n (lv' := [(2, .int (0 : Int32)), (1, .int r1.1), (0, .ref a0)]) dX7_perform_37 (Nat.le_of_ble_eq_true rfl) rfl ?_)
    refine z_sub (lv' := [(0, .ref a0), (2, .int (0 : Int32))]) [2, 0] rfl ?_
    refine z_pc (pc' := 38) rfl ?_
    exact m_X7_perform_l38 hW a0 h0 ((0 : Int32), r6.2)
  · refine z_bipush dX7_perform_20 zb_m100 (z_iload_n 0 dX7_perform_22 rfl (z_isub dX7_perform_23 ?_))
    exact z_iret zemX rfl dX7_perform_24

theorem m_X7_perform {E : ZE} {S : Zs} (hW : zWF S) (w : Zw) (a0 : Nat) (h0 : zObj S a0 7) : ∀ i, f_X7_perform S w a0 = some i → zMx E yX7_perform cX7_perform 3 ((some .int)) 12 1 6 [.ref a0] S w ((emX eI S) i) :=
  fun i hi => z_enterX (by decide +kernel) (Nat.le_of_ble_eq_true rfl) (mw_X7_perform hW w a0 h0 i hi)
/-! ParkingRobot$Garage.listByPickup (J[I)I : W, depth 0 -/
abbrev i_X1_listByPickup : Zm := (yX1_listByPickup.cls, cX1_listByPickup, 7, (some .int), [], yX1_listByPickup.name)
def f_X1_listByPickup_j82 (S : Zs) (w : Zw) (x0 : Nat) (x1 : Int64) (x3 : Nat) (x4 : Int32) (x5 : Int32) (x6 : Int32) (k6 : (Int32 × Int32 × Zw) → Option (Int32 × Zw)) : Option (Int32 × Zw) :=
  if zin x6 (zlen S x3) = true then zlet (zput w x3 (zix x6) x5) fun w6 => k6 ((x4 + (1 : Int32)), (x5 + (1 : Int32)), w6) else none
theorem m_X1_listByPickup_j82 {E : ZE} {S : Zs} (hW : zWF S) (w : Zw) (x0 : Nat) (hx0 : zObj S x0 1) (x1 : Int64) (x3 : Nat) (hx3 : zArr S x3 0) (x4 : Int32) (x5 : Int32) (x6 : Int32) (k6 : (Int32 × Int32 × Zw) → Option (Int32 × Zw)) (hk6 : ∀ a : Int32 × Int32 × Zw, zOk (E, i_X1_listByPickup, 0) 0 0 S a.2.2 6 [(0, .ref x0), (1, .long x1), (3, .ref x3), (4, .int a.1), (5, .int a.2.1)] [] (emW eI S) (k6 a)) : zOk (E, i_X1_listByPickup, 0) 0 0 S w 82 [(0, .ref x0), (1, .long x1), (3, .ref x3), (4, .int x4), (5, .int x5), (6, .int x6)] [] (emW eI S) (f_X1_listByPickup_j82 S w x0 x1 x3 x4 x5 x6 k6) := by
  unfold f_X1_listByPickup_j82
  refine z_aload_n 2 dX1_listByPickup_82 rfl (z_iload 5 dX1_listByPickup_83 rfl (z_iload 4 dX1_listByPickup_85 rfl ?_))
  refine z_chk (fun c5 => ?_)
  refine z_iast hx3 c5 dX1_listByPickup_87 (z_letw (fun w6 => ?_))
  refine z_iinc (v := (x4 + (1 : Int32))) (lv' := [(4, .int (x4 + (1 : Int32))), (0, .ref x0), (1, .long x1), (3, .ref x3), (5, .int x5), (6, .int x6)]) 3 dX1_listByPickup_88 rfl (zi_inc _ zi_1) (Nat.le_of_ble_eq_true rfl) rfl (z_iinc (v := (x5 + (1 : Int32))) (lv' := [(5, .int (x5 + (1 : Int32))), (4, .int (x4 + (1 : Int32))), (0, .ref x0), (1, .long x1), (3, .ref x3), (6, .int x6)]) 4 dX1_listByPickup_91 rfl (zi_inc _ zi_1) (Nat.le_of_ble_eq_true rfl) rfl (z_goto 6 dX1_listByPickup_94 rfl ?_))
  refine z_sub (lv' := [(0, .ref x0), (1, .long x1), (3, .ref x3), (4, .int (x4 + (1 : Int32))), (5, .int (x5 + (1 : Int32)))]) [2, 3, 4, 1, 0] rfl ?_
  refine z_pc (pc' := 6) rfl ?_
  exact hk6 ((x4 + (1 : Int32)), (x5 + (1 : Int32)), w6)

def f_X1_listByPickup_b40 (S : Zs) (x0 : Nat) (x1 : Int64) (x3 : Nat) (x4 : Int32) (x5 : Int32) (k6 : (Int32 × Int32 × Zw) → Option (Int32 × Zw)) (k : (Int32 × Zw) → Option (Int32 × Zw)) (x6 : Int32) (w : Zw) : Option (Int32 × Zw) :=
  if x6 ≤ 0 then f_X1_listByPickup_j82 S w x0 x1 x3 x4 x5 x6 k6  else if zin (x6 - (1 : Int32)) (zlen S x3) = true then if zin (w x3 (zix (x6 - (1 : Int32)))) (zlen S (zr S x0 3)) = true then if zin x5 (zlen S (zr S x0 3)) = true then if (w (zr S x0 3) (zix (w x3 (zix (x6 - (1 : Int32)))))) ≤ (w (zr S x0 3) (zix x5)) then f_X1_listByPickup_j82 S w x0 x1 x3 x4 x5 x6 k6  else if zin (x6 - (1 : Int32)) (zlen S x3) = true then if zin x6 (zlen S x3) = true then zlet (zput w x3 (zix x6) (w x3 (zix (x6 - (1 : Int32))))) fun w13 => k ((x6 + (-1 : Int32)), w13) else none else none else none else none else none
def f_X1_listByPickup_l40 (S : Zs) (x0 : Nat) (x1 : Int64) (x3 : Nat) (x4 : Int32) (x5 : Int32) (k6 : (Int32 × Int32 × Zw) → Option (Int32 × Zw)) (a : Int32 × Zw) : Option (Int32 × Zw) :=
  zlp (fun k a => f_X1_listByPickup_b40 S x0 x1 x3 x4 x5 k6 k a.1 a.2) zFU a
theorem m_X1_listByPickup_l40 {E : ZE} {S : Zs} (hW : zWF S) (x0 : Nat) (hx0 : zObj S x0 1) (x1 : Int64) (x3 : Nat) (hx3 : zArr S x3 0) (x4 : Int32) (x5 : Int32) (k6 : (Int32 × Int32 × Zw) → Option (Int32 × Zw)) (hk6 : ∀ a : Int32 × Int32 × Zw, zOk (E, i_X1_listByPickup, 0) 0 0 S a.2.2 6 [(0, .ref x0), (1, .long x1), (3, .ref x3), (4, .int a.1), (5, .int a.2.1)] [] (emW eI S) (k6 a)) : ∀ a : Int32 × Zw, zOk (E, i_X1_listByPickup, 0) 0 0 S a.2 40 [(0, .ref x0), (1, .long x1), (3, .ref x3), (4, .int x4), (5, .int x5), (6, .int a.1)] [] (emW eI S) (f_X1_listByPickup_l40 S x0 x1 x3 x4 x5 k6 a) := by
  intro a
  refine z_lp (P := fun _ => True) (W9 := fun a : Int32 × Zw => a.2) (L9 := fun a : Int32 × Zw => [(0, .ref x0), (1, .long x1), (3, .ref x3), (4, .int x4), (5, .int x5), (6, .int a.1)]) (T9 := fun _ => []) (fun k hk9 a _ => ?_) zFU a trivial
  have hk : ∀ a : Int32 × Zw, zOk (E, i_X1_listByPickup, 0) 0 0 S a.2 40 [(0, .ref x0), (1, .long x1), (3, .ref x3), (4, .int x4), (5, .int x5), (6, .int a.1)] [] (emW eI S) (k a) := fun a => hk9 a trivial
  clear hk9
  obtain ⟨x6, w⟩ := a
  show zOk (E, i_X1_listByPickup, 0) 0 0 S w 40 [(0, .ref x0), (1, .long x1), (3, .ref x3), (4, .int x4), (5, .int x5), (6, .int x6)] [] (emW eI S) (f_X1_listByPickup_b40 S x0 x1 x3 x4 x5 k6 k x6 w)
  unfold f_X1_listByPickup_b40
  refine z_iload 5 dX1_listByPickup_40 rfl ?_
  refine z_if_le 82 dX1_listByPickup_42 rfl (fun q4 => ?_) (fun q4 => ?_)
  · refine z_pc (pc' := 82) rfl ?_
    exact m_X1_listByPickup_j82 hW w x0 hx0 x1 x3 hx3 x4 x5 x6 k6 hk6 
  · refine z_aload_n 0 dX1_listByPickup_45 rfl (z_getR zc1 3 (by decide) rfl gw104 hx0 (zW_some hW hx0 3 rfl) dX1_listByPickup_46 (z_aload_n 2 dX1_listByPickup_49 rfl (z_iload 5 dX1_listByPickup_50 rfl (z_iconst dX1_listByPickup_52 zi_1 (z_isub dX1_listByPickup_53 ?_)))))
    refine z_chk (fun c7 => ?_)
    refine z_iald hx3 c7 dX1_listByPickup_54 ?_
    refine z_chk (fun c8 => ?_)
    refine z_iald (zW_arr hW hx0 3 0 rfl) c8 dX1_listByPickup_55 (z_aload_n 0 dX1_listByPickup_56 rfl (z_getR zc1 3 (by decide) rfl gw104 hx0 (zW_some hW hx0 3 rfl) dX1_listByPickup_57 (z_iload 4 dX1_listByPickup_60 rfl ?_)))
    refine z_chk (fun c9 => ?_)
    refine z_iald (zW_arr hW hx0 3 0 rfl) c9 dX1_listByPickup_62 ?_
    refine z_icmp_le 82 dX1_listByPickup_63 rfl (fun q10 => ?_) (fun q10 => ?_)
    · refine z_pc (pc' := 82) rfl ?_
      exact m_X1_listByPickup_j82 hW w x0 hx0 x1 x3 hx3 x4 x5 x6 k6 hk6 
    · refine z_aload_n 2 dX1_listByPickup_66 rfl (z_iload 5 dX1_listByPickup_67 rfl (z_aload_n 2 dX1_listByPickup_69 rfl (z_iload 5 dX1_listByPickup_70 rfl (z_iconst dX1_listByPickup_72 zi_1 (z_isub dX1_listByPickup_73 ?_)))))
      refine z_chk (fun c11 => ?_)
      refine z_iald hx3 c11 dX1_listByPickup_74 ?_
      refine z_chk (fun c12 => ?_)
      refine z_iast hx3 c12 dX1_listByPickup_75 (z_letw (fun w13 => ?_))
      refine z_iinc (v := (x6 + (-1 : Int32))) (lv' := [(6, .int (x6 + (-1 : Int32))), (0, .ref x0), (1, .long x1), (3, .ref x3), (4, .int x4), (5, .int x5)]) 5 dX1_listByPickup_76 rfl (zi_inc _ zi_m1) (Nat.le_of_ble_eq_true rfl) rfl (z_goto 40 dX1_listByPickup_79 rfl ?_)
      refine z_sub (lv' := [(0, .ref x0), (1, .long x1), (3, .ref x3), (4, .int x4), (5, .int x5), (6, .int (x6 + (-1 : Int32)))]) [1, 2, 3, 4, 5, 0] rfl ?_
      refine z_pc (pc' := 40) rfl ?_
      exact hk ((x6 + (-1 : Int32)), w13)

def f_X1_listByPickup_b6 (S : Zs) (x0 : Nat) (x1 : Int64) (x3 : Nat) (k : (Int32 × Int32 × Zw) → Option (Int32 × Zw)) (x4 : Int32) (x5 : Int32) (w : Zw) : Option (Int32 × Zw) :=
  if (w x0 8) ≤ x5 then some (x4, w) else if (Int32.ofNat (zlen S x3)) ≤ x4 then some (x4, w) else if (lg_cmp ((zlshr x1 x5) &&& (1 : Int64)) (0 : Int64)) = 0 then k (x4, (x5 + (1 : Int32)), w) else f_X1_listByPickup_l40 S x0 x1 x3 x4 x5 k (x4, w)
def f_X1_listByPickup_l6 (S : Zs) (x0 : Nat) (x1 : Int64) (x3 : Nat) (a : Int32 × Int32 × Zw) : Option (Int32 × Zw) :=
  zlp (fun k a => f_X1_listByPickup_b6 S x0 x1 x3 k a.1 a.2.1 a.2.2) zFU a
theorem m_X1_listByPickup_l6 {E : ZE} {S : Zs} (hW : zWF S) (x0 : Nat) (hx0 : zObj S x0 1) (x1 : Int64) (x3 : Nat) (hx3 : zArr S x3 0) : ∀ a : Int32 × Int32 × Zw, zOk (E, i_X1_listByPickup, 0) 0 0 S a.2.2 6 [(0, .ref x0), (1, .long x1), (3, .ref x3), (4, .int a.1), (5, .int a.2.1)] [] (emW eI S) (f_X1_listByPickup_l6 S x0 x1 x3 a) := by
  intro a
  refine z_lp (P := fun _ => True) (W9 := fun a : Int32 × Int32 × Zw => a.2.2) (L9 := fun a : Int32 × Int32 × Zw => [(0, .ref x0), (1, .long x1), (3, .ref x3), (4, .int a.1), (5, .int a.2.1)]) (T9 := fun _ => []) (fun k hk9 a _ => ?_) zFU a trivial
  have hk : ∀ a : Int32 × Int32 × Zw, zOk (E, i_X1_listByPickup, 0) 0 0 S a.2.2 6 [(0, .ref x0), (1, .long x1), (3, .ref x3), (4, .int a.1), (5, .int a.2.1)] [] (emW eI S) (k a) := fun a => hk9 a trivial
  clear hk9
  obtain ⟨x4, x5, w⟩ := a
  show zOk (E, i_X1_listByPickup, 0) 0 0 S w 6 [(0, .ref x0), (1, .long x1), (3, .ref x3), (4, .int x4), (5, .int x5)] [] (emW eI S) (f_X1_listByPickup_b6 S x0 x1 x3 k x4 x5 w)
  unfold f_X1_listByPickup_b6
  refine z_iload 4 dX1_listByPickup_6 rfl (z_aload_n 0 dX1_listByPickup_8 rfl (z_getI zc1 8 (by decide) rfl gw109 hx0 dX1_listByPickup_9 ?_))
  refine z_icmp_ge 97 dX1_listByPickup_12 rfl (fun q1 => ?_) (fun q1 => ?_)
  · refine z_iload 3 dX1_listByPickup_97 rfl ?_
    exact z_iret zemW rfl dX1_listByPickup_99
  · refine z_iload 3 dX1_listByPickup_15 rfl (z_aload_n 2 dX1_listByPickup_17 rfl (z_alen (t := 0) (by decide) hx3 dX1_listByPickup_18 ?_))
    refine z_icmp_ge 97 dX1_listByPickup_19 rfl (fun q2 => ?_) (fun q2 => ?_)
    · refine z_iload 3 dX1_listByPickup_97 rfl ?_
      exact z_iret zemW rfl dX1_listByPickup_99
    · refine z_lload_n 1 dX1_listByPickup_22 rfl (z_iload 4 dX1_listByPickup_23 rfl (z_lshr (v := (zlshr x1 x5)) dX1_listByPickup_25 rfl (z_lconst dX1_listByPickup_26 zl_1 (z_land dX1_listByPickup_27 (z_lconst dX1_listByPickup_28 zl_0 ?_)))))
      refine z_lcmp dX1_listByPickup_29 ?_
      refine z_if_ne 36 dX1_listByPickup_30 rfl (fun q3 => ?_) (fun q3 => ?_)
      · refine z_iload 3 dX1_listByPickup_36 rfl (z_istore (lv' := [(6, .int x4), (0, .ref x0), (1, .long x1), (3, .ref x3), (4, .int x4), (5, .int x5)]) dX1_listByPickup_38 (Nat.le_of_ble_eq_true rfl) rfl ?_)
        refine z_sub (lv' := [(0, .ref x0), (1, .long x1), (3, .ref x3), (4, .int x4), (5, .int x5), (6, .int x4)]) [1, 2, 3, 4, 5, 0] rfl ?_
        refine z_pc (pc' := 40) rfl ?_
        exact m_X1_listByPickup_l40 hW x0 hx0 x1 x3 hx3 x4 x5 k hk (x4, w)
      · refine z_goto 91 dX1_listByPickup_33 rfl (z_iinc (v := (x5 + (1 : Int32))) (lv' := [(5, .int (x5 + (1 : Int32))), (0, .ref x0), (1, .long x1), (3, .ref x3), (4, .int x4)]) 4 dX1_listByPickup_91 rfl (zi_inc _ zi_1) (Nat.le_of_ble_eq_true rfl) rfl (z_goto 6 dX1_listByPickup_94 rfl ?_))
        refine z_sub (lv' := [(0, .ref x0), (1, .long x1), (3, .ref x3), (4, .int x4), (5, .int (x5 + (1 : Int32)))]) [1, 2, 3, 4, 0] rfl ?_
        refine z_pc (pc' := 6) rfl ?_
        exact hk (x4, (x5 + (1 : Int32)), w)

def f_X1_listByPickup (S : Zs) (w : Zw) (a0 : Nat) (a1 : Int64) (a2 : Nat) : Option (Int32 × Zw) :=
  f_X1_listByPickup_l6 S a0 a1 a2 ((0 : Int32), (0 : Int32), w)
theorem mw_X1_listByPickup {E : ZE} {S : Zs} (hW : zWF S) (w : Zw) (a0 : Nat) (h0 : zObj S a0 1) (a1 : Int64) (a2 : Nat) (h2 : zArr S a2 0) : zOk (E, i_X1_listByPickup, 0) 0 0 S w 0 [(0, .ref a0), (1, .long a1), (3, .ref a2)] [] (emW eI S) (f_X1_listByPickup S w a0 a1 a2) := by
  unfold f_X1_listByPickup
  refine z_iconst dX1_listByPickup_0 zi_0 (z_istore (lv' := [(4, .int (0 : Int32)), (0, .ref a0), (1, .long a1), (3, .ref a2)]) dX1_listByPickup_1 (Nat.le_of_ble_eq_true rfl) rfl (z_iconst dX1_listByPickup_3 zi_0 (z_istore (lv' := [(5, .int (0 : Int32)), (4, .int (0 : Int32)), (0, .ref a0), (1, .long a1), (3, .ref a2)]) dX1_listByPickup_4 (Nat.le_of_ble_eq_true rfl) rfl ?_)))
  refine z_sub (lv' := [(0, .ref a0), (1, .long a1), (3, .ref a2), (4, .int (0 : Int32)), (5, .int (0 : Int32))]) [2, 3, 4, 1, 0] rfl ?_
  refine z_pc (pc' := 6) rfl ?_
  exact m_X1_listByPickup_l6 hW a0 h0 a1 a2 h2 ((0 : Int32), (0 : Int32), w)

theorem m_X1_listByPickup {E : ZE} {S : Zs} (hW : zWF S) (w : Zw) (a0 : Nat) (h0 : zObj S a0 1) (a1 : Int64) (a2 : Nat) (h2 : zArr S a2 0) : ∀ i, f_X1_listByPickup S w a0 a1 a2 = some i → zMr E yX1_listByPickup cX1_listByPickup 7 ((some .int)) 0 0 0 [.ref a0, .long a1, .ref a2] S w ((emW eI S) i) :=
  fun i hi => z_enter (by decide +kernel) (Nat.le_of_ble_eq_true rfl) (mw_X1_listByPickup hW w a0 h0 a1 a2 h2 i hi)
/-! ParkingRobot$Orders.movesInPlainOrder (LParkingRobot$Garage;J)I : W, depth 10 -/
abbrev i_X5_movesInPlainOrder : Zm := (yX5_movesInPlainOrder.cls, cX5_movesInPlainOrder, 5, (some .int), [], yX5_movesInPlainOrder.name)
def f_X5_movesInPlainOrder_b21 (S : Zs) (x0 : Nat) (k : (Int32 × Zw) → Option (Int32 × Zw)) (x4 : Int32) (w : Zw) : Option (Int32 × Zw) :=
  if (w x0 4) ≤ x4 then (f_X5_movesAt S w x0 (0 : Int32)).bind fun v7 => some (v7, w) else if zin (0 : Int32) (zlen S (zr S x0 0)) = true then if zin x4 (zlen S (zr S x0 1)) = true then (f_X1_fetch S w (zr S (zr S x0 0) (zix (0 : Int32))) (w (zr S x0 1) (zix x4))).bind fun r11 => if r11.1 = 0 then some ((0 : Int32), r11.2) else k ((x4 + (1 : Int32)), r11.2) else none else none
def f_X5_movesInPlainOrder_l21 (S : Zs) (x0 : Nat) (a : Int32 × Zw) : Option (Int32 × Zw) :=
  zlp (fun k a => f_X5_movesInPlainOrder_b21 S x0 k a.1 a.2) zFU a
theorem m_X5_movesInPlainOrder_l21 {E : ZE} {S : Zs} (hW : zWF S) (x0 : Nat) (hx0 : zObj S x0 5) : ∀ a : Int32 × Zw, zOk (E, i_X5_movesInPlainOrder, 10) 0 0 S a.2 21 [(0, .ref x0), (4, .int a.1)] [] (emW eI S) (f_X5_movesInPlainOrder_l21 S x0 a) := by
  intro a
  refine z_lp (P := fun _ => True) (W9 := fun a : Int32 × Zw => a.2) (L9 := fun a : Int32 × Zw => [(0, .ref x0), (4, .int a.1)]) (T9 := fun _ => []) (fun k hk9 a _ => ?_) zFU a trivial
  have hk : ∀ a : Int32 × Zw, zOk (E, i_X5_movesInPlainOrder, 10) 0 0 S a.2 21 [(0, .ref x0), (4, .int a.1)] [] (emW eI S) (k a) := fun a => hk9 a trivial
  clear hk9
  obtain ⟨x4, w⟩ := a
  show zOk (E, i_X5_movesInPlainOrder, 10) 0 0 S w 21 [(0, .ref x0), (4, .int x4)] [] (emW eI S) (f_X5_movesInPlainOrder_b21 S x0 k x4 w)
  unfold f_X5_movesInPlainOrder_b21
  refine z_iload 1 dX5_movesInPlainOrder_21 rfl (z_aload_n 0 dX5_movesInPlainOrder_23 rfl (z_getI zc5 4 (by decide) rfl gw166 hx0 dX5_movesInPlainOrder_24 ?_))
  refine z_icmp_ge 57 dX5_movesInPlainOrder_27 rfl (fun q6 => ?_) (fun q6 => ?_)
  · refine z_aload_n 0 dX5_movesInPlainOrder_57 rfl (z_iconst dX5_movesInPlainOrder_58 zi_0 ?_)
    refine z_bind (fun v7 hb8 => ?_)
    refine z_callV (kc' := 0) (ks' := 0) (v := (some (.int v7))) (S1 := S) (w1 := w) (st := []) [.int (0 : Int32)] (m_X5_movesAt hW w x0 hx0 (0 : Int32) v7 hb8) zc5 hx0 zy_X5_movesAt gw791 gp13 gw789 (Nat.le_of_ble_eq_true rfl) (Nat.le_of_ble_eq_true rfl) (Nat.le_of_ble_eq_true rfl) (Nat.le_of_ble_eq_true rfl) (zal hW) rfl dX5_movesInPlainOrder_59 (z_at 62 _ [.int v7] rfl rfl rfl ?_)
    exact z_iret zemW rfl dX5_movesInPlainOrder_62
  · refine z_aload_n 0 dX5_movesInPlainOrder_30 rfl (z_getR zc5 0 (by decide) rfl gw162 hx0 (zW_some hW hx0 0 rfl) dX5_movesInPlainOrder_31 (z_iconst dX5_movesInPlainOrder_34 zi_0 ?_))
    refine z_chk (fun c9 => ?_)
    refine z_aald (Or.inr rfl) (zW_arr hW hx0 0 6 rfl) c9 (zW_el6 hW (zW_arr hW hx0 0 6 rfl) c9).1 dX5_movesInPlainOrder_35 (z_aload_n 0 dX5_movesInPlainOrder_36 rfl (z_getR zc5 1 (by decide) rfl gw163 hx0 (zW_some hW hx0 1 rfl) dX5_movesInPlainOrder_37 (z_iload 1 dX5_movesInPlainOrder_40 rfl ?_)))
    refine z_chk (fun c10 => ?_)
    refine z_iald (zW_arr hW hx0 1 0 rfl) c10 dX5_movesInPlainOrder_42 ?_
    refine z_bind (fun r11 hb12 => ?_)
    refine z_callV (kc' := 0) (ks' := 0) (v := (some (.int r11.1))) (S1 := S) (w1 := r11.2) (st := []) [.int (w (zr S x0 1) (zix x4))] (m_X1_fetch hW w (zr S (zr S x0 0) (zix (0 : Int32))) (zW_el6 hW (zW_arr hW hx0 0 6 rfl) c9).2 (w (zr S x0 1) (zix x4)) r11 hb12) zc1 (zW_el6 hW (zW_arr hW hx0 0 6 rfl) c9).2 zy_X1_fetch gw598 gw599 gw812 (Nat.le_of_ble_eq_true rfl) (Nat.le_of_ble_eq_true rfl) (Nat.le_of_ble_eq_true rfl) (Nat.le_of_ble_eq_true rfl) (zal hW) rfl dX5_movesInPlainOrder_43 (z_at 46 _ [.int r11.1] rfl rfl rfl ?_)
    refine z_if_ne 51 dX5_movesInPlainOrder_46 rfl (fun q13 => ?_) (fun q13 => ?_)
    · refine z_iinc (v := (x4 + (1 : Int32))) (lv' := [(4, .int (x4 + (1 : Int32))), (0, .ref x0)]) 1 dX5_movesInPlainOrder_51 rfl (zi_inc _ zi_1) (Nat.le_of_ble_eq_true rfl) rfl (z_goto 21 dX5_movesInPlainOrder_54 rfl ?_)
      refine z_sub (lv' := [(0, .ref x0), (4, .int (x4 + (1 : Int32)))]) [1, 0] rfl ?_
      refine z_pc (pc' := 21) rfl ?_
      exact hk ((x4 + (1 : Int32)), r11.2)
    · refine z_iconst dX5_movesInPlainOrder_49 zi_0 ?_
      exact z_iret zemW rfl dX5_movesInPlainOrder_50

def f_X5_movesInPlainOrder (S : Zs) (w : Zw) (a0 : Nat) (a1 : Nat) (a2 : Int64) : Option (Int32 × Zw) :=
  (f_X5_begin S w a0 a1).bind fun r1 => (f_X1_listByPickup S r1.2 a1 a2 (zr S a0 1)).bind fun r3 => zlet (zput r3.2 a0 4 r3.1) fun w5 => f_X5_movesInPlainOrder_l21 S a0 ((0 : Int32), w5)
theorem mw_X5_movesInPlainOrder {E : ZE} {S : Zs} (hW : zWF S) (w : Zw) (a0 : Nat) (h0 : zObj S a0 5) (a1 : Nat) (h1 : zObj S a1 1) (a2 : Int64) : zOk (E, i_X5_movesInPlainOrder, 10) 0 0 S w 0 [(0, .ref a0), (1, .ref a1), (2, .long a2)] [] (emW eI S) (f_X5_movesInPlainOrder S w a0 a1 a2) := by
  unfold f_X5_movesInPlainOrder
  refine z_aload_n 0 dX5_movesInPlainOrder_0 rfl (z_aload_n 1 dX5_movesInPlainOrder_1 rfl ?_)
  refine z_bind (fun r1 hb2 => ?_)
  refine z_callV (kc' := 0) (ks' := 0) (v := none) (S1 := S) (w1 := r1.2) (st := []) [.ref a1] (m_X5_begin hW w a0 h0 a1 h1 r1 hb2) zc5 h0 zy_X5_begin gw777 gp11 gw775 (Nat.le_of_ble_eq_true rfl) (Nat.le_of_ble_eq_true rfl) (Nat.le_of_ble_eq_true rfl) (Nat.le_of_ble_eq_true rfl) (zal hW) rfl dX5_movesInPlainOrder_2 (z_at 5 _ [] rfl rfl rfl ?_)
  refine z_aload_n 0 dX5_movesInPlainOrder_5 rfl (z_aload_n 1 dX5_movesInPlainOrder_6 rfl (z_lload_n 2 dX5_movesInPlainOrder_7 rfl (z_aload_n 0 dX5_movesInPlainOrder_8 rfl (z_getR zc5 1 (by decide) rfl gw163 h0 (zW_some hW h0 1 rfl) dX5_movesInPlainOrder_9 ?_))))
  refine z_bind (fun r3 hb4 => ?_)
  refine z_callV (kc' := 0) (ks' := 0) (v := (some (.int r3.1))) (S1 := S) (w1 := r3.2) (st := [.ref a0]) [.long a2, .ref (zr S a0 1)] (m_X1_listByPickup hW r1.2 a1 h1 a2 (zr S a0 1) (zW_arr hW h0 1 0 rfl) r3 hb4) zc1 h1 zy_X1_listByPickup gw293 gw294 gw860 (Nat.le_of_ble_eq_true rfl) (Nat.le_of_ble_eq_true rfl) (Nat.le_of_ble_eq_true rfl) (Nat.le_of_ble_eq_true rfl) (zal hW) rfl dX5_movesInPlainOrder_12 (z_at 15 _ [.int r3.1, .ref a0] rfl rfl rfl ?_)
  refine z_putI zc5 4 (by decide) (Or.inl rfl) rfl gw166 h0 dX5_movesInPlainOrder_15 (z_letw (fun w5 => ?_))
  refine z_iconst dX5_movesInPlainOrder_18 zi_0 (z_istore (lv' := [(4, .int (0 : Int32)), (0, .ref a0), (1, .ref a1), (2, .long a2)]) dX5_movesInPlainOrder_19 (Nat.le_of_ble_eq_true rfl) rfl ?_)
  refine z_sub (lv' := [(0, .ref a0), (4, .int (0 : Int32))]) [1, 0] rfl ?_
  refine z_pc (pc' := 21) rfl ?_
  exact m_X5_movesInPlainOrder_l21 hW a0 h0 ((0 : Int32), w5)

theorem m_X5_movesInPlainOrder {E : ZE} {S : Zs} (hW : zWF S) (w : Zw) (a0 : Nat) (h0 : zObj S a0 5) (a1 : Nat) (h1 : zObj S a1 1) (a2 : Int64) : ∀ i, f_X5_movesInPlainOrder S w a0 a1 a2 = some i → zMr E yX5_movesInPlainOrder cX5_movesInPlainOrder 5 ((some .int)) 10 0 0 [.ref a0, .ref a1, .long a2] S w ((emW eI S) i) :=
  fun i hi => z_enter (by decide +kernel) (Nat.le_of_ble_eq_true rfl) (mw_X5_movesInPlainOrder hW w a0 h0 a1 h1 a2 i hi)
/-! ParkingRobot.plainMoves (J)I : X, depth 11 -/
abbrev i_X7_plainMoves : Zm := (yX7_plainMoves.cls, cX7_plainMoves, 4, (some .int), [], yX7_plainMoves.name)
def f_X7_plainMoves_j28 (S : Zs) (w : Zw) (x3 : Int32) (y0 : Int32) (y1 : Nat) : Option ((Int32 ⊕ String) × Zw) :=
  zbx (f_X7_checkPossible w y1 y0) (fun v8 w9 => some (.inl x3, w9)) (fun e w => some (.inr e, w))
theorem m_X7_plainMoves_j28 {E : ZE} {S : Zs} (hW : zWF S) (w : Zw) (x3 : Int32) (y0 : Int32) (y1 : Nat) (hy1 : zObj S y1 7) : zOk (E, i_X7_plainMoves, 11) 1 6 S w 28 [(3, .int x3)] [.int y0, .ref y1] (emX eI S) (f_X7_plainMoves_j28 S w x3 y0 y1) := by
  unfold f_X7_plainMoves_j28
  refine z_bindX (fun j9 hb10 => ?_)
  obtain ⟨v8 | e11, w9⟩ := j9
  case inr => exact z_callVX (kc' := 0) (ks' := 0) (r := (.inr e11, S, w9)) (st := []) [.int y0] (m_X7_checkPossible hW w y1 hy1 y0 _ hb10) zc7 hy1 zy_X7_checkPossible gw819 gp17 gw817 (Nat.le_of_ble_eq_true rfl) (Nat.le_of_ble_eq_true rfl) (Nat.le_of_ble_eq_true rfl) (Nat.le_of_ble_eq_true rfl) (zal hW) rfl dX7_plainMoves_28 rfl (fun _ q9 => nomatch q9) (fun _ _ i9 hi9 => by cases hi9; rfl)
  refine z_callVX (kc' := 0) (ks' := 0) (r := (.inl (eU v8), S, w9)) (st := []) [.int y0] (m_X7_checkPossible hW w y1 hy1 y0 _ hb10) zc7 hy1 zy_X7_checkPossible gw819 gp17 gw817 (Nat.le_of_ble_eq_true rfl) (Nat.le_of_ble_eq_true rfl) (Nat.le_of_ble_eq_true rfl) (Nat.le_of_ble_eq_true rfl) (zal hW) rfl dX7_plainMoves_28 rfl (fun v9 hv9 => ?_) (fun _ q9 => nomatch q9)
  cases hv9
  refine z_at 31 _ [] rfl rfl rfl ?_
  dsimp only [zbx]
  refine z_iload_n 0 dX7_plainMoves_31 rfl ?_
  exact z_iret zemX rfl dX7_plainMoves_32

def f_X7_plainMoves (S : Zs) (w : Zw) (a0 : Nat) (a1 : Int64) : Option ((Int32 ⊕ String) × Zw) :=
  zbx (f_X7_checkSet S w a0 a1) (fun v1 w2 => (f_X5_movesInPlainOrder S w2 (zr S a0 4) (zr S a0 0) a1).bind fun r5 => if r5.1 = 0 then f_X7_plainMoves_j28 S r5.2 r5.1 (0 : Int32) a0  else f_X7_plainMoves_j28 S r5.2 r5.1 (1 : Int32) a0 ) (fun e w => some (.inr e, w))
theorem mw_X7_plainMoves {E : ZE} {S : Zs} (hW : zWF S) (w : Zw) (a0 : Nat) (h0 : zObj S a0 7) (a1 : Int64) : zOk (E, i_X7_plainMoves, 11) 2 12 S w 0 [(0, .ref a0), (1, .long a1)] [] (emX eI S) (f_X7_plainMoves S w a0 a1) := by
  unfold f_X7_plainMoves
  refine z_aload_n 0 dX7_plainMoves_0 rfl (z_lload_n 1 dX7_plainMoves_1 rfl ?_)
  refine z_bindX (fun j9 hb3 => ?_)
  obtain ⟨v1 | e4, w2⟩ := j9
  case inr => exact z_callVX (kc' := 1) (ks' := 6) (r := (.inr e4, S, w2)) (st := []) [.long a1] (m_X7_checkSet hW w a0 h0 a1 _ hb3) zc7 h0 zy_X7_checkSet gw766 gp10 gw764 (Nat.le_of_ble_eq_true rfl) (Nat.le_of_ble_eq_true rfl) (Nat.le_of_ble_eq_true rfl) (Nat.le_of_ble_eq_true rfl) (zal hW) rfl dX7_plainMoves_2 rfl (fun _ q9 => nomatch q9) (fun _ _ i9 hi9 => by cases hi9; rfl)
  refine z_callVX (kc' := 1) (ks' := 6) (r := (.inl (eU v1), S, w2)) (st := []) [.long a1] (m_X7_checkSet hW w a0 h0 a1 _ hb3) zc7 h0 zy_X7_checkSet gw766 gp10 gw764 (Nat.le_of_ble_eq_true rfl) (Nat.le_of_ble_eq_true rfl) (Nat.le_of_ble_eq_true rfl) (Nat.le_of_ble_eq_true rfl) (zal hW) rfl dX7_plainMoves_2 rfl (fun v9 hv9 => ?_) (fun _ q9 => nomatch q9)
  cases hv9
  refine z_at 5 _ [] rfl rfl rfl ?_
  dsimp only [zbx]
  refine z_aload_n 0 dX7_plainMoves_5 rfl (z_getR zc7 4 (by decide) rfl gw220 h0 (zW_some hW h0 4 rfl) dX7_plainMoves_6 (z_aload_n 0 dX7_plainMoves_9 rfl (z_getR zc7 0 (by decide) rfl gw216 h0 (zW_some hW h0 0 rfl) dX7_plainMoves_10 (z_lload_n 1 dX7_plainMoves_13 rfl ?_))))
  refine z_bind (fun r5 hb6 => ?_)
  refine z_callV (kc' := 1) (ks' := 6) (v := (some (.int r5.1))) (S1 := S) (w1 := r5.2) (st := []) [.ref (zr S a0 0), .long a1] (m_X5_movesInPlainOrder hW w2 (zr S a0 4) (zW_obj hW h0 4 5 rfl) (zr S a0 0) (zW_obj hW h0 0 1 rfl) a1 r5 hb6) zc5 (zW_obj hW h0 4 5 rfl) zy_X5_movesInPlainOrder gw857 gw858 gw856 (Nat.le_of_ble_eq_true rfl) (Nat.le_of_ble_eq_true rfl) (Nat.le_of_ble_eq_true rfl) (Nat.le_of_ble_eq_true rfl) (zal hW) rfl dX7_plainMoves_14 (z_at 17 _ [.int r5.1] rfl rfl rfl ?_)
  refine z_istore_n (lv' := [(3, .int r5.1), (0, .ref a0), (1, .long a1)]) dX7_plainMoves_17 (Nat.le_of_ble_eq_true rfl) rfl (z_aload_n 1 dX7_plainMoves_18 rfl (z_iload_n 0 dX7_plainMoves_19 rfl ?_))
  refine z_if_eq 27 dX7_plainMoves_20 rfl (fun q7 => ?_) (fun q7 => ?_)
  · refine z_iconst dX7_plainMoves_27 zi_0 ?_
    refine z_sub (lv' := [(3, .int r5.1)]) [0] rfl ?_
    refine z_pc (pc' := 28) rfl ?_
    exact m_X7_plainMoves_j28 hW r5.2 r5.1 (0 : Int32) a0 h0 
  · refine z_iconst dX7_plainMoves_23 zi_1 (z_goto 28 dX7_plainMoves_24 rfl ?_)
    refine z_sub (lv' := [(3, .int r5.1)]) [0] rfl ?_
    refine z_pc (pc' := 28) rfl ?_
    exact m_X7_plainMoves_j28 hW r5.2 r5.1 (1 : Int32) a0 h0 

theorem m_X7_plainMoves {E : ZE} {S : Zs} (hW : zWF S) (w : Zw) (a0 : Nat) (h0 : zObj S a0 7) (a1 : Int64) : ∀ i, f_X7_plainMoves S w a0 a1 = some i → zMx E yX7_plainMoves cX7_plainMoves 4 ((some .int)) 11 2 12 [.ref a0, .long a1] S w ((emX eI S) i) :=
  fun i hi => z_enterX (by decide +kernel) (Nat.le_of_ble_eq_true rfl) (mw_X7_plainMoves hW w a0 h0 a1 i hi)
/-! ParkingRobot.refuge (I)I : X, depth 9 -/
abbrev i_X7_refuge : Zm := (yX7_refuge.cls, cX7_refuge, 3, (some .int), [], yX7_refuge.name)
def f_X7_refuge (S : Zs) (w : Zw) (a0 : Nat) (a1 : Int32) : Option ((Int32 ⊕ String) × Zw) :=
  zbx (f_X7_checkStored S w a0 a1) (fun v1 w2 => (f_X1_bayToFlee S w2 (zr S a0 0) a1).bind fun v5 => if v5 = (-1 : Int32) then some (.inr "java/util/NoSuchElementException", w2) else some (.inl v5, w2)) (fun e w => some (.inr e, w))
theorem mw_X7_refuge {E : ZE} {S : Zs} (hW : zWF S) (w : Zw) (a0 : Nat) (h0 : zObj S a0 7) (a1 : Int32) : zOk (E, i_X7_refuge, 9) 2 12 S w 0 [(0, .ref a0), (1, .int a1)] [] (emX eI S) (f_X7_refuge S w a0 a1) := by
  unfold f_X7_refuge
  refine z_aload_n 0 dX7_refuge_0 rfl (z_iload_n 1 dX7_refuge_1 rfl ?_)
  refine z_bindX (fun j9 hb3 => ?_)
  obtain ⟨v1 | e4, w2⟩ := j9
  case inr => exact z_callVX (kc' := 1) (ks' := 6) (r := (.inr e4, S, w2)) (st := []) [.int a1] (m_X7_checkStored hW w a0 h0 a1 _ hb3) zc7 h0 zy_X7_checkStored gw577 gp5 gw575 (Nat.le_of_ble_eq_true rfl) (Nat.le_of_ble_eq_true rfl) (Nat.le_of_ble_eq_true rfl) (Nat.le_of_ble_eq_true rfl) (zal hW) rfl dX7_refuge_2 rfl (fun _ q9 => nomatch q9) (fun _ _ i9 hi9 => by cases hi9; rfl)
  refine z_callVX (kc' := 1) (ks' := 6) (r := (.inl (eU v1), S, w2)) (st := []) [.int a1] (m_X7_checkStored hW w a0 h0 a1 _ hb3) zc7 h0 zy_X7_checkStored gw577 gp5 gw575 (Nat.le_of_ble_eq_true rfl) (Nat.le_of_ble_eq_true rfl) (Nat.le_of_ble_eq_true rfl) (Nat.le_of_ble_eq_true rfl) (zal hW) rfl dX7_refuge_2 rfl (fun v9 hv9 => ?_) (fun _ q9 => nomatch q9)
  cases hv9
  refine z_at 5 _ [] rfl rfl rfl ?_
  dsimp only [zbx]
  refine z_aload_n 0 dX7_refuge_5 rfl (z_getR zc7 0 (by decide) rfl gw216 h0 (zW_some hW h0 0 rfl) dX7_refuge_6 (z_iload_n 1 dX7_refuge_9 rfl ?_))
  refine z_bind (fun v5 hb6 => ?_)
  refine z_callV (kc' := 1) (ks' := 6) (v := (some (.int v5))) (S1 := S) (w1 := w2) (st := []) [.int a1] (m_X1_bayToFlee hW w2 (zr S a0 0) (zW_obj hW h0 0 1 rfl) a1 v5 hb6) zc1 (zW_obj hW h0 0 1 rfl) zy_X1_bayToFlee gw301 gw302 gw737 (Nat.le_of_ble_eq_true rfl) (Nat.le_of_ble_eq_true rfl) (Nat.le_of_ble_eq_true rfl) (Nat.le_of_ble_eq_true rfl) (zal hW) rfl dX7_refuge_10 (z_at 13 _ [.int v5] rfl rfl rfl ?_)
  refine z_istore_n (lv' := [(2, .int v5), (0, .ref a0), (1, .int a1)]) dX7_refuge_13 (Nat.le_of_ble_eq_true rfl) rfl (z_iload_n 0 dX7_refuge_14 rfl (z_iconst dX7_refuge_15 zi_m1 ?_))
  refine z_icmp_ne 29 dX7_refuge_16 rfl (fun q7 => ?_) (fun q7 => ?_)
  · refine z_iload_n 0 dX7_refuge_29 rfl ?_
    exact z_iret zemX rfl dX7_refuge_30
  · exact z_throwN zx_NSE gw715 zt_RX7_69 (Nat.le_of_ble_eq_true rfl) (Nat.le_of_ble_eq_true rfl) (Nat.le_of_ble_eq_true rfl) rfl (Nat.le_of_ble_eq_true rfl) zemXr dX7_refuge_19 dX7_refuge_22 dX7_refuge_23 dX7_refuge_25 dX7_refuge_28

theorem m_X7_refuge {E : ZE} {S : Zs} (hW : zWF S) (w : Zw) (a0 : Nat) (h0 : zObj S a0 7) (a1 : Int32) : ∀ i, f_X7_refuge S w a0 a1 = some i → zMx E yX7_refuge cX7_refuge 3 ((some .int)) 9 2 12 [.ref a0, .int a1] S w ((emX eI S) i) :=
  fun i hi => z_enterX (by decide +kernel) (Nat.le_of_ble_eq_true rfl) (mw_X7_refuge hW w a0 h0 a1 i hi)
/-! ParkingRobot.report (II)I : X, depth 6 -/
abbrev i_X7_report : Zm := (yX7_report.cls, cX7_report, 3, (some .int), [], yX7_report.name)
def f_X7_report_j16 (S : Zs) (w : Zw) : Option ((Int32 ⊕ String) × Zw) :=
  some (.inr "java/util/NoSuchElementException", w)
theorem m_X7_report_j16 {E : ZE} {S : Zs} (hW : zWF S) (w : Zw) : zOk (E, i_X7_report, 6) 1 6 S w 16 [] [] (emX eI S) (f_X7_report_j16 S w) := by
  unfold f_X7_report_j16
  exact z_throwWN zx_NSE gw715 zt_RX7_293 (Nat.le_of_ble_eq_true rfl) (Nat.le_of_ble_eq_true rfl) (Nat.le_of_ble_eq_true rfl) rfl (Nat.le_of_ble_eq_true rfl) zemXr dX7_report_16 dX7_report_19 dX7_report_20 dX7_report_23 dX7_report_26

def f_X7_report (S : Zs) (w : Zw) (a0 : Nat) (a1 : Int32) (a2 : Int32) : Option ((Int32 ⊕ String) × Zw) :=
  if (w a0 7) = 0 then f_X7_report_j16 S w  else if a1 < 0 then f_X7_report_j16 S w  else if a1 < (3 : Int32) then (if a2 = (0 : Int32) then (some (.inl (a1 + (1 : Int32)), w)) else if a2 = (1 : Int32) then (if zin a1 (zlen S (zr S a0 6)) = true then some (.inl (w (zr S a0 6) (zix a1)), w) else none) else (some (.inr "java/lang/IllegalArgumentException", w))) else f_X7_report_j16 S w 
theorem mw_X7_report {E : ZE} {S : Zs} (hW : zWF S) (w : Zw) (a0 : Nat) (h0 : zObj S a0 7) (a1 : Int32) (a2 : Int32) : zOk (E, i_X7_report, 6) 1 6 S w 0 [(0, .ref a0), (1, .int a1), (2, .int a2)] [] (emX eI S) (f_X7_report S w a0 a1 a2) := by
  unfold f_X7_report
  refine z_aload_n 0 dX7_report_0 rfl (z_getI zc7 7 (by decide) rfl gw223 h0 dX7_report_1 ?_)
  refine z_if_eq 16 dX7_report_4 rfl (fun q1 => ?_) (fun q1 => ?_)
  · refine z_sub (lv' := []) [] rfl ?_
    refine z_pc (pc' := 16) rfl ?_
    exact m_X7_report_j16 hW w 
  · refine z_iload_n 1 dX7_report_7 rfl ?_
    refine z_if_lt 16 dX7_report_8 rfl (fun q2 => ?_) (fun q2 => ?_)
    · refine z_sub (lv' := []) [] rfl ?_
      refine z_pc (pc' := 16) rfl ?_
      exact m_X7_report_j16 hW w 
    · refine z_iload_n 1 dX7_report_11 rfl (z_iconst dX7_report_12 zi_3 ?_)
      refine z_icmp_lt 27 dX7_report_13 rfl (fun q3 => ?_) (fun q3 => ?_)
      · refine z_iload_n 2 dX7_report_27 rfl ?_
        refine z_ite _ (fun q4 => ?_) (fun q4 => ?_)
        · refine z_look (off := 28) 56 dX7_report_28 (by decide) (by rw [q4]; decide) rfl ?_
          refine z_iload_n 1 dX7_report_56 rfl (z_iconst dX7_report_57 zi_1 (z_iadd dX7_report_58 ?_))
          exact z_iret zemX rfl dX7_report_59
        refine z_ite _ (fun q5 => ?_) (fun q5 => ?_)
        · refine z_look (off := 32) 60 dX7_report_28 (by decide) (by rw [q5]; decide) rfl ?_
          refine z_aload_n 0 dX7_report_60 rfl (z_getR zc7 6 (by decide) rfl gw222 h0 (zW_some hW h0 6 rfl) dX7_report_61 (z_iload_n 1 dX7_report_64 rfl ?_))
          refine z_chk (fun c6 => ?_)
          refine z_iald (zW_arr hW h0 6 0 rfl) c6 dX7_report_65 ?_
          exact z_iret zemX rfl dX7_report_66
        refine z_look (off := 39) 67 dX7_report_28 (by decide) ?_ rfl ?_
        · have n0 := zsw_ne (k := 0) (0 : Int32) (by decide) q4; have n1 := zsw_ne (k := 1) (1 : Int32) (by decide) q5; simp [Op.lookupswitch.offset, n0, Ne.symm n0, n1, Ne.symm n1]
        exact z_throwW zx_IAE gw427 zt_RX7_295 (Nat.le_of_ble_eq_true rfl) (Nat.le_of_ble_eq_true rfl) (Nat.le_of_ble_eq_true rfl) rfl (Nat.le_of_ble_eq_true rfl) zemXr dX7_report_67 dX7_report_70 dX7_report_71 dX7_report_74 dX7_report_77
      · refine z_sub (lv' := []) [] rfl ?_
        refine z_pc (pc' := 16) rfl ?_
        exact m_X7_report_j16 hW w 

theorem m_X7_report {E : ZE} {S : Zs} (hW : zWF S) (w : Zw) (a0 : Nat) (h0 : zObj S a0 7) (a1 : Int32) (a2 : Int32) : ∀ i, f_X7_report S w a0 a1 a2 = some i → zMx E yX7_report cX7_report 3 ((some .int)) 6 1 6 [.ref a0, .int a1, .int a2] S w ((emX eI S) i) :=
  fun i hi => z_enterX (by decide +kernel) (Nat.le_of_ble_eq_true rfl) (mw_X7_report hW w a0 h0 a1 a2 i hi)
/-! ParkingRobot$History.clear ()V : W, depth 0 -/
abbrev i_X2_clear : Zm := (yX2_clear.cls, cX2_clear, 1, none, [], yX2_clear.name)
def f_X2_clear (S : Zs) (w : Zw) (a0 : Nat) : Option (Unit × Zw) :=
  zlet (zput w a0 2 (0 : Int32)) fun w1 => some ((), w1)
theorem mw_X2_clear {E : ZE} {S : Zs} (hW : zWF S) (w : Zw) (a0 : Nat) (h0 : zObj S a0 2) : zOk (E, i_X2_clear, 0) 0 0 S w 0 [(0, .ref a0)] [] (emW eU S) (f_X2_clear S w a0) := by
  unfold f_X2_clear
  refine z_aload_n 0 dX2_clear_0 rfl (z_iconst dX2_clear_1 zi_0 ?_)
  refine z_putI zc2 2 (by decide) (Or.inl rfl) rfl gw146 h0 dX2_clear_2 (z_letw (fun w1 => ?_))
  exact z_vret zemW rfl dX2_clear_5

theorem m_X2_clear {E : ZE} {S : Zs} (hW : zWF S) (w : Zw) (a0 : Nat) (h0 : zObj S a0 2) : ∀ i, f_X2_clear S w a0 = some i → zMr E yX2_clear cX2_clear 1 none 0 0 0 [.ref a0] S w ((emW eU S) i) :=
  fun i hi => z_enter (by decide +kernel) (Nat.le_of_ble_eq_true rfl) (mw_X2_clear hW w a0 h0 i hi)
/-! ParkingRobot.restore ()I : X, depth 9 -/
abbrev i_X7_restore : Zm := (yX7_restore.cls, cX7_restore, 1, (some .int), [], yX7_restore.name)
def f_X7_restore (S : Zs) (w : Zw) (a0 : Nat) : Option ((Int32 ⊕ String) × Zw) :=
  if (w a0 2) = 0 then some (.inr "java/lang/IllegalStateException", w) else (f_X1_copyFrom S w (zr S a0 0) (zr S a0 1)).bind fun r2 => (f_X2_clear S r2.2 (zr S a0 3)).bind fun r4 => some (.inl (f_X1_countStored S r4.2 (zr S a0 0)), r4.2)
theorem mw_X7_restore {E : ZE} {S : Zs} (hW : zWF S) (w : Zw) (a0 : Nat) (h0 : zObj S a0 7) : zOk (E, i_X7_restore, 9) 1 6 S w 0 [(0, .ref a0)] [] (emX eI S) (f_X7_restore S w a0) := by
  unfold f_X7_restore
  refine z_aload_n 0 dX7_restore_0 rfl (z_getI zc7 2 (by decide) rfl gw218 h0 dX7_restore_1 ?_)
  refine z_if_ne 18 dX7_restore_4 rfl (fun q1 => ?_) (fun q1 => ?_)
  · refine z_aload_n 0 dX7_restore_18 rfl (z_getR zc7 0 (by decide) rfl gw216 h0 (zW_some hW h0 0 rfl) dX7_restore_19 (z_aload_n 0 dX7_restore_22 rfl (z_getR zc7 1 (by decide) rfl gw217 h0 (zW_some hW h0 1 rfl) dX7_restore_23 ?_)))
    refine z_bind (fun r2 hb3 => ?_)
    refine z_callV (kc' := 1) (ks' := 6) (v := none) (S1 := S) (w1 := r2.2) (st := []) [.ref (zr S a0 1)] (m_X1_copyFrom hW w (zr S a0 0) (zW_obj hW h0 0 1 rfl) (zr S a0 1) (zW_obj hW h0 1 1 rfl) r2 hb3) zc1 (zW_obj hW h0 0 1 rfl) zy_X1_copyFrom gw250 gw251 gw405 (Nat.le_of_ble_eq_true rfl) (Nat.le_of_ble_eq_true rfl) (Nat.le_of_ble_eq_true rfl) (Nat.le_of_ble_eq_true rfl) (zal hW) rfl dX7_restore_26 (z_at 29 _ [] rfl rfl rfl ?_)
    refine z_aload_n 0 dX7_restore_29 rfl (z_getR zc7 3 (by decide) rfl gw219 h0 (zW_some hW h0 3 rfl) dX7_restore_30 ?_)
    refine z_bind (fun r4 hb5 => ?_)
    refine z_callV (kc' := 1) (ks' := 6) (v := none) (S1 := S) (w1 := r4.2) (st := []) [] (m_X2_clear hW r2.2 (zr S a0 3) (zW_obj hW h0 3 2 rfl) r4 hb5) zc2 (zW_obj hW h0 3 2 rfl) zy_X2_clear gw1094 gw1095 gw1093 (Nat.le_of_ble_eq_true rfl) (Nat.le_of_ble_eq_true rfl) (Nat.le_of_ble_eq_true rfl) (Nat.le_of_ble_eq_true rfl) (zal hW) rfl dX7_restore_33 (z_at 36 _ [] rfl rfl rfl ?_)
    refine z_aload_n 0 dX7_restore_36 rfl (z_getR zc7 0 (by decide) rfl gw216 h0 (zW_some hW h0 0 rfl) dX7_restore_37 ?_)
    refine z_callV (kc' := 1) (ks' := 6) (v := (some (.int (f_X1_countStored S r4.2 (zr S a0 0))))) (S1 := S) (w1 := r4.2) (st := []) [] (m_X1_countStored hW r4.2 (zr S a0 0) (zW_obj hW h0 0 1 rfl)) zc1 (zW_obj hW h0 0 1 rfl) zy_X1_countStored gw407 gw408 gw406 (Nat.le_of_ble_eq_true rfl) (Nat.le_of_ble_eq_true rfl) (Nat.le_of_ble_eq_true rfl) (Nat.le_of_ble_eq_true rfl) (zal hW) rfl dX7_restore_40 (z_at 43 _ [.int (f_X1_countStored S r4.2 (zr S a0 0))] rfl rfl rfl ?_)
    exact z_iret zemX rfl dX7_restore_43
  · exact z_throwW zx_ISE gw503 zt_RX7_346 (Nat.le_of_ble_eq_true rfl) (Nat.le_of_ble_eq_true rfl) (Nat.le_of_ble_eq_true rfl) rfl (Nat.le_of_ble_eq_true rfl) zemXr dX7_restore_7 dX7_restore_10 dX7_restore_11 dX7_restore_14 dX7_restore_17

theorem m_X7_restore {E : ZE} {S : Zs} (hW : zWF S) (w : Zw) (a0 : Nat) (h0 : zObj S a0 7) : ∀ i, f_X7_restore S w a0 = some i → zMx E yX7_restore cX7_restore 1 ((some .int)) 9 1 6 [.ref a0] S w ((emX eI S) i) :=
  fun i hi => z_enterX (by decide +kernel) (Nat.le_of_ble_eq_true rfl) (mw_X7_restore hW w a0 h0 i hi)
/-! ParkingRobot.retrieve (I)I : X, depth 11 -/
abbrev i_X7_retrieve : Zm := (yX7_retrieve.cls, cX7_retrieve, 3, (some .int), [], yX7_retrieve.name)
def f_X7_retrieve (S : Zs) (w : Zw) (a0 : Nat) (a1 : Int32) : Option ((Int32 ⊕ String) × Zw) :=
  zbx (f_X7_checkStored S w a0 a1) (fun v1 w2 => (f_X2_draft S w2 (zr S a0 3) (zr S a0 0)).bind fun r5 => (f_X7_fetchOrReport S r5.2 a0 a1).bind fun r7 => if r7.1 = 0 then some (.inr "java/lang/UnsupportedOperationException", r7.2) else (f_X2_keepDraft S r7.2 (zr S a0 3)).bind fun r10 => some (.inl r7.1, r10.2)) (fun e w => some (.inr e, w))
theorem mw_X7_retrieve {E : ZE} {S : Zs} (hW : zWF S) (w : Zw) (a0 : Nat) (h0 : zObj S a0 7) (a1 : Int32) : zOk (E, i_X7_retrieve, 11) 2 12 S w 0 [(0, .ref a0), (1, .int a1)] [] (emX eI S) (f_X7_retrieve S w a0 a1) := by
  unfold f_X7_retrieve
  refine z_aload_n 0 dX7_retrieve_0 rfl (z_iload_n 1 dX7_retrieve_1 rfl ?_)
  refine z_bindX (fun j9 hb3 => ?_)
  obtain ⟨v1 | e4, w2⟩ := j9
  case inr => exact z_callVX (kc' := 1) (ks' := 6) (r := (.inr e4, S, w2)) (st := []) [.int a1] (m_X7_checkStored hW w a0 h0 a1 _ hb3) zc7 h0 zy_X7_checkStored gw577 gp5 gw575 (Nat.le_of_ble_eq_true rfl) (Nat.le_of_ble_eq_true rfl) (Nat.le_of_ble_eq_true rfl) (Nat.le_of_ble_eq_true rfl) (zal hW) rfl dX7_retrieve_2 rfl (fun _ q9 => nomatch q9) (fun _ _ i9 hi9 => by cases hi9; rfl)
  refine z_callVX (kc' := 1) (ks' := 6) (r := (.inl (eU v1), S, w2)) (st := []) [.int a1] (m_X7_checkStored hW w a0 h0 a1 _ hb3) zc7 h0 zy_X7_checkStored gw577 gp5 gw575 (Nat.le_of_ble_eq_true rfl) (Nat.le_of_ble_eq_true rfl) (Nat.le_of_ble_eq_true rfl) (Nat.le_of_ble_eq_true rfl) (zal hW) rfl dX7_retrieve_2 rfl (fun v9 hv9 => ?_) (fun _ q9 => nomatch q9)
  cases hv9
  refine z_at 5 _ [] rfl rfl rfl ?_
  dsimp only [zbx]
  refine z_aload_n 0 dX7_retrieve_5 rfl (z_getR zc7 3 (by decide) rfl gw219 h0 (zW_some hW h0 3 rfl) dX7_retrieve_6 (z_aload_n 0 dX7_retrieve_9 rfl (z_getR zc7 0 (by decide) rfl gw216 h0 (zW_some hW h0 0 rfl) dX7_retrieve_10 ?_)))
  refine z_bind (fun r5 hb6 => ?_)
  refine z_callV (kc' := 1) (ks' := 6) (v := none) (S1 := S) (w1 := r5.2) (st := []) [.ref (zr S a0 0)] (m_X2_draft hW w2 (zr S a0 3) (zW_obj hW h0 3 2 rfl) (zr S a0 0) (zW_obj hW h0 0 1 rfl) r5 hb6) zc2 (zW_obj hW h0 3 2 rfl) zy_X2_draft gw246 gw247 gw245 (Nat.le_of_ble_eq_true rfl) (Nat.le_of_ble_eq_true rfl) (Nat.le_of_ble_eq_true rfl) (Nat.le_of_ble_eq_true rfl) (zal hW) rfl dX7_retrieve_13 (z_at 16 _ [] rfl rfl rfl ?_)
  refine z_aload_n 0 dX7_retrieve_16 rfl (z_iload_n 1 dX7_retrieve_17 rfl ?_)
  refine z_bind (fun r7 hb8 => ?_)
  refine z_callV (kc' := 1) (ks' := 6) (v := (some (.int r7.1))) (S1 := S) (w1 := r7.2) (st := []) [.int a1] (m_X7_fetchOrReport hW r5.2 a0 h0 a1 r7 hb8) zc7 h0 zy_X7_fetchOrReport gw595 gp6 gw593 (Nat.le_of_ble_eq_true rfl) (Nat.le_of_ble_eq_true rfl) (Nat.le_of_ble_eq_true rfl) (Nat.le_of_ble_eq_true rfl) (zal hW) rfl dX7_retrieve_18 (z_at 21 _ [.int r7.1] rfl rfl rfl ?_)
  refine z_istore_n (lv' := [(2, .int r7.1), (0, .ref a0), (1, .int a1)]) dX7_retrieve_21 (Nat.le_of_ble_eq_true rfl) rfl (z_iload_n 0 dX7_retrieve_22 rfl ?_)
  refine z_if_ne 36 dX7_retrieve_23 rfl (fun q9 => ?_) (fun q9 => ?_)
  · refine z_aload_n 1 dX7_retrieve_36 rfl (z_getR zc7 3 (by decide) rfl gw219 h0 (zW_some hW h0 3 rfl) dX7_retrieve_37 ?_)
    refine z_bind (fun r10 hb11 => ?_)
    refine z_callV (kc' := 1) (ks' := 6) (v := none) (S1 := S) (w1 := r10.2) (st := []) [] (m_X2_keepDraft hW r7.2 (zr S a0 3) (zW_obj hW h0 3 2 rfl) r10 hb11) zc2 (zW_obj hW h0 3 2 rfl) zy_X2_keepDraft gw384 gw385 gw383 (Nat.le_of_ble_eq_true rfl) (Nat.le_of_ble_eq_true rfl) (Nat.le_of_ble_eq_true rfl) (Nat.le_of_ble_eq_true rfl) (zal hW) rfl dX7_retrieve_40 (z_at 43 _ [] rfl rfl rfl ?_)
    refine z_iload_n 0 dX7_retrieve_43 rfl ?_
    exact z_iret zemX rfl dX7_retrieve_44
  · exact z_throw zx_UOE gw528 zt_RX7_83 (Nat.le_of_ble_eq_true rfl) (Nat.le_of_ble_eq_true rfl) (Nat.le_of_ble_eq_true rfl) rfl (Nat.le_of_ble_eq_true rfl) zemXr dX7_retrieve_26 dX7_retrieve_29 dX7_retrieve_30 dX7_retrieve_32 dX7_retrieve_35

theorem m_X7_retrieve {E : ZE} {S : Zs} (hW : zWF S) (w : Zw) (a0 : Nat) (h0 : zObj S a0 7) (a1 : Int32) : ∀ i, f_X7_retrieve S w a0 a1 = some i → zMx E yX7_retrieve cX7_retrieve 3 ((some .int)) 11 2 12 [.ref a0, .int a1] S w ((emX eI S) i) :=
  fun i hi => z_enterX (by decide +kernel) (Nat.le_of_ble_eq_true rfl) (mw_X7_retrieve hW w a0 h0 a1 i hi)
/-! ParkingRobot.retrieveAll (J)I : X, depth 32 -/
abbrev i_X7_retrieveAll : Zm := (yX7_retrieveAll.cls, cX7_retrieveAll, 5, (some .int), [], yX7_retrieveAll.name)
def f_X7_retrieveAll_b40 (S : Zs) (x0 : Nat) (x3 : Int32) (k : (Int32 × Zw) → Option ((Int32 ⊕ String) × Zw)) (x4 : Int32) (w : Zw) : Option ((Int32 ⊕ String) × Zw) :=
  if x3 ≤ x4 then (f_X2_keepDraft S w (zr S x0 3)).bind fun r15 => some (.inl (f_X5_endOfBest S r15.2 (zr S x0 4)), r15.2) else (f_X5_carOfBest S w (zr S x0 4) x4).bind fun v17 => (f_X1_fetch S w (zr S x0 0) v17).bind fun r19 => k ((x4 + (1 : Int32)), r19.2)
def f_X7_retrieveAll_l40 (S : Zs) (x0 : Nat) (x3 : Int32) (a : Int32 × Zw) : Option ((Int32 ⊕ String) × Zw) :=
  zlp (fun k a => f_X7_retrieveAll_b40 S x0 x3 k a.1 a.2) zFU a
theorem m_X7_retrieveAll_l40 {E : ZE} {S : Zs} (hW : zWF S) (x0 : Nat) (hx0 : zObj S x0 7) (x3 : Int32) : ∀ a : Int32 × Zw, zOk (E, i_X7_retrieveAll, 32) 0 0 S a.2 40 [(0, .ref x0), (3, .int x3), (4, .int a.1)] [] (emX eI S) (f_X7_retrieveAll_l40 S x0 x3 a) := by
  intro a
  refine z_lp (P := fun _ => True) (W9 := fun a : Int32 × Zw => a.2) (L9 := fun a : Int32 × Zw => [(0, .ref x0), (3, .int x3), (4, .int a.1)]) (T9 := fun _ => []) (fun k hk9 a _ => ?_) zFU a trivial
  have hk : ∀ a : Int32 × Zw, zOk (E, i_X7_retrieveAll, 32) 0 0 S a.2 40 [(0, .ref x0), (3, .int x3), (4, .int a.1)] [] (emX eI S) (k a) := fun a => hk9 a trivial
  clear hk9
  obtain ⟨x4, w⟩ := a
  show zOk (E, i_X7_retrieveAll, 32) 0 0 S w 40 [(0, .ref x0), (3, .int x3), (4, .int x4)] [] (emX eI S) (f_X7_retrieveAll_b40 S x0 x3 k x4 w)
  unfold f_X7_retrieveAll_b40
  refine z_iload 2 dX7_retrieveAll_40 rfl (z_iload_n 1 dX7_retrieveAll_42 rfl ?_)
  refine z_icmp_ge 69 dX7_retrieveAll_43 rfl (fun q14 => ?_) (fun q14 => ?_)
  · refine z_aload_n 0 dX7_retrieveAll_69 rfl (z_getR zc7 3 (by decide) rfl gw219 hx0 (zW_some hW hx0 3 rfl) dX7_retrieveAll_70 ?_)
    refine z_bind (fun r15 hb16 => ?_)
    refine z_callV (kc' := 0) (ks' := 0) (v := none) (S1 := S) (w1 := r15.2) (st := []) [] (m_X2_keepDraft hW w (zr S x0 3) (zW_obj hW hx0 3 2 rfl) r15 hb16) zc2 (zW_obj hW hx0 3 2 rfl) zy_X2_keepDraft gw384 gw385 gw383 (Nat.le_of_ble_eq_true rfl) (Nat.le_of_ble_eq_true rfl) (Nat.le_of_ble_eq_true rfl) (Nat.le_of_ble_eq_true rfl) (zal hW) rfl dX7_retrieveAll_73 (z_at 76 _ [] rfl rfl rfl ?_)
    refine z_aload_n 0 dX7_retrieveAll_76 rfl (z_getR zc7 4 (by decide) rfl gw220 hx0 (zW_some hW hx0 4 rfl) dX7_retrieveAll_77 ?_)
    refine z_callV (kc' := 0) (ks' := 0) (v := (some (.int (f_X5_endOfBest S r15.2 (zr S x0 4))))) (S1 := S) (w1 := r15.2) (st := []) [] (m_X5_endOfBest hW r15.2 (zr S x0 4) (zW_obj hW hx0 4 5 rfl)) zc5 (zW_obj hW hx0 4 5 rfl) zy_X5_endOfBest gw834 gw835 gw833 (Nat.le_of_ble_eq_true rfl) (Nat.le_of_ble_eq_true rfl) (Nat.le_of_ble_eq_true rfl) (Nat.le_of_ble_eq_true rfl) (zal hW) rfl dX7_retrieveAll_80 (z_at 83 _ [.int (f_X5_endOfBest S r15.2 (zr S x0 4))] rfl rfl rfl ?_)
    exact z_iret zemX rfl dX7_retrieveAll_83
  · refine z_aload_n 0 dX7_retrieveAll_46 rfl (z_getR zc7 0 (by decide) rfl gw216 hx0 (zW_some hW hx0 0 rfl) dX7_retrieveAll_47 (z_aload_n 0 dX7_retrieveAll_50 rfl (z_getR zc7 4 (by decide) rfl gw220 hx0 (zW_some hW hx0 4 rfl) dX7_retrieveAll_51 (z_iload 2 dX7_retrieveAll_54 rfl ?_))))
    refine z_bind (fun v17 hb18 => ?_)
    refine z_callV (kc' := 0) (ks' := 0) (v := (some (.int v17))) (S1 := S) (w1 := w) (st := [.ref (zr S x0 0)]) [.int x4] (m_X5_carOfBest hW w (zr S x0 4) (zW_obj hW hx0 4 5 rfl) x4 v17 hb18) zc5 (zW_obj hW hx0 4 5 rfl) zy_X5_carOfBest gw846 gw847 gw845 (Nat.le_of_ble_eq_true rfl) (Nat.le_of_ble_eq_true rfl) (Nat.le_of_ble_eq_true rfl) (Nat.le_of_ble_eq_true rfl) (zal hW) rfl dX7_retrieveAll_56 (z_at 59 _ [.int v17, .ref (zr S x0 0)] rfl rfl rfl ?_)
    refine z_bind (fun r19 hb20 => ?_)
    refine z_callV (kc' := 0) (ks' := 0) (v := (some (.int r19.1))) (S1 := S) (w1 := r19.2) (st := []) [.int v17] (m_X1_fetch hW w (zr S x0 0) (zW_obj hW hx0 0 1 rfl) v17 r19 hb20) zc1 (zW_obj hW hx0 0 1 rfl) zy_X1_fetch gw598 gw599 gw597 (Nat.le_of_ble_eq_true rfl) (Nat.le_of_ble_eq_true rfl) (Nat.le_of_ble_eq_true rfl) (Nat.le_of_ble_eq_true rfl) (zal hW) rfl dX7_retrieveAll_59 (z_at 62 _ [.int r19.1] rfl rfl rfl ?_)
    refine z_pop dX7_retrieveAll_62 rfl (z_iinc (v := (x4 + (1 : Int32))) (lv' := [(4, .int (x4 + (1 : Int32))), (0, .ref x0), (3, .int x3)]) 2 dX7_retrieveAll_63 rfl (zi_inc _ zi_1) (Nat.le_of_ble_eq_true rfl) rfl (z_goto 40 dX7_retrieveAll_66 rfl ?_))
    refine z_sub (lv' := [(0, .ref x0), (3, .int x3), (4, .int (x4 + (1 : Int32)))]) [1, 2, 0] rfl ?_
    refine z_pc (pc' := 40) rfl ?_
    exact hk ((x4 + (1 : Int32)), r19.2)

def f_X7_retrieveAll (S : Zs) (w : Zw) (a0 : Nat) (a1 : Int64) : Option ((Int32 ⊕ String) × Zw) :=
  zbx (f_X7_checkSet S w a0 a1) (fun v1 w2 => (f_X5_findBest S w2 (zr S a0 4) (zr S a0 0) a1).bind fun r5 => zbx (f_X7_checkPossible r5.2 a0 r5.1) (fun v7 w8 => (f_X2_draft S w8 (zr S a0 3) (zr S a0 0)).bind fun r11 => zlet (f_J13_bitCount_95d88 a1) fun z13 => f_X7_retrieveAll_l40 S a0 z13 ((0 : Int32), r11.2)) (fun e w => some (.inr e, w))) (fun e w => some (.inr e, w))
theorem mw_X7_retrieveAll {E : ZE} {S : Zs} (hW : zWF S) (w : Zw) (a0 : Nat) (h0 : zObj S a0 7) (a1 : Int64) : zOk (E, i_X7_retrieveAll, 32) 2 12 S w 0 [(0, .ref a0), (1, .long a1)] [] (emX eI S) (f_X7_retrieveAll S w a0 a1) := by
  unfold f_X7_retrieveAll
  refine z_aload_n 0 dX7_retrieveAll_0 rfl (z_lload_n 1 dX7_retrieveAll_1 rfl ?_)
  refine z_bindX (fun j9 hb3 => ?_)
  obtain ⟨v1 | e4, w2⟩ := j9
  case inr => exact z_callVX (kc' := 1) (ks' := 6) (r := (.inr e4, S, w2)) (st := []) [.long a1] (m_X7_checkSet hW w a0 h0 a1 _ hb3) zc7 h0 zy_X7_checkSet gw766 gp10 gw764 (Nat.le_of_ble_eq_true rfl) (Nat.le_of_ble_eq_true rfl) (Nat.le_of_ble_eq_true rfl) (Nat.le_of_ble_eq_true rfl) (zal hW) rfl dX7_retrieveAll_2 rfl (fun _ q9 => nomatch q9) (fun _ _ i9 hi9 => by cases hi9; rfl)
  refine z_callVX (kc' := 1) (ks' := 6) (r := (.inl (eU v1), S, w2)) (st := []) [.long a1] (m_X7_checkSet hW w a0 h0 a1 _ hb3) zc7 h0 zy_X7_checkSet gw766 gp10 gw764 (Nat.le_of_ble_eq_true rfl) (Nat.le_of_ble_eq_true rfl) (Nat.le_of_ble_eq_true rfl) (Nat.le_of_ble_eq_true rfl) (zal hW) rfl dX7_retrieveAll_2 rfl (fun v9 hv9 => ?_) (fun _ q9 => nomatch q9)
  cases hv9
  refine z_at 5 _ [] rfl rfl rfl ?_
  dsimp only [zbx]
  refine z_aload_n 0 dX7_retrieveAll_5 rfl (z_aload_n 0 dX7_retrieveAll_6 rfl (z_getR zc7 4 (by decide) rfl gw220 h0 (zW_some hW h0 4 rfl) dX7_retrieveAll_7 (z_aload_n 0 dX7_retrieveAll_10 rfl (z_getR zc7 0 (by decide) rfl gw216 h0 (zW_some hW h0 0 rfl) dX7_retrieveAll_11 (z_lload_n 1 dX7_retrieveAll_14 rfl ?_)))))
  refine z_bind (fun r5 hb6 => ?_)
  refine z_callV (kc' := 1) (ks' := 6) (v := (some (.int r5.1))) (S1 := S) (w1 := r5.2) (st := [.ref a0]) [.ref (zr S a0 0), .long a1] (m_X5_findBest hW w2 (zr S a0 4) (zW_obj hW h0 4 5 rfl) (zr S a0 0) (zW_obj hW h0 0 1 rfl) a1 r5 hb6) zc5 (zW_obj hW h0 4 5 rfl) zy_X5_findBest gw772 gw773 gw771 (Nat.le_of_ble_eq_true rfl) (Nat.le_of_ble_eq_true rfl) (Nat.le_of_ble_eq_true rfl) (Nat.le_of_ble_eq_true rfl) (zal hW) rfl dX7_retrieveAll_15 (z_at 18 _ [.int r5.1, .ref a0] rfl rfl rfl ?_)
  refine z_bindX (fun j9 hb9 => ?_)
  obtain ⟨v7 | e10, w8⟩ := j9
  case inr => exact z_callVX (kc' := 0) (ks' := 0) (r := (.inr e10, S, w8)) (st := []) [.int r5.1] (m_X7_checkPossible hW r5.2 a0 h0 r5.1 _ hb9) zc7 h0 zy_X7_checkPossible gw819 gp17 gw817 (Nat.le_of_ble_eq_true rfl) (Nat.le_of_ble_eq_true rfl) (Nat.le_of_ble_eq_true rfl) (Nat.le_of_ble_eq_true rfl) (zal hW) rfl dX7_retrieveAll_18 rfl (fun _ q9 => nomatch q9) (fun _ _ i9 hi9 => by cases hi9; rfl)
  refine z_callVX (kc' := 0) (ks' := 0) (r := (.inl (eU v7), S, w8)) (st := []) [.int r5.1] (m_X7_checkPossible hW r5.2 a0 h0 r5.1 _ hb9) zc7 h0 zy_X7_checkPossible gw819 gp17 gw817 (Nat.le_of_ble_eq_true rfl) (Nat.le_of_ble_eq_true rfl) (Nat.le_of_ble_eq_true rfl) (Nat.le_of_ble_eq_true rfl) (zal hW) rfl dX7_retrieveAll_18 rfl (fun v9 hv9 => ?_) (fun _ q9 => nomatch q9)
  cases hv9
  refine z_at 21 _ [] rfl rfl rfl ?_
  dsimp only [zbx]
  refine z_aload_n 0 dX7_retrieveAll_21 rfl (z_getR zc7 3 (by decide) rfl gw219 h0 (zW_some hW h0 3 rfl) dX7_retrieveAll_22 (z_aload_n 0 dX7_retrieveAll_25 rfl (z_getR zc7 0 (by decide) rfl gw216 h0 (zW_some hW h0 0 rfl) dX7_retrieveAll_26 ?_)))
  refine z_bind (fun r11 hb12 => ?_)
  refine z_callV (kc' := 0) (ks' := 0) (v := none) (S1 := S) (w1 := r11.2) (st := []) [.ref (zr S a0 0)] (m_X2_draft hW w8 (zr S a0 3) (zW_obj hW h0 3 2 rfl) (zr S a0 0) (zW_obj hW h0 0 1 rfl) r11 hb12) zc2 (zW_obj hW h0 3 2 rfl) zy_X2_draft gw246 gw247 gw245 (Nat.le_of_ble_eq_true rfl) (Nat.le_of_ble_eq_true rfl) (Nat.le_of_ble_eq_true rfl) (Nat.le_of_ble_eq_true rfl) (zal hW) rfl dX7_retrieveAll_29 (z_at 32 _ [] rfl rfl rfl ?_)
  refine z_lload_n 1 dX7_retrieveAll_32 rfl ?_
  refine z_callS (kc' := 0) (ks' := 0) (v := (some (.int (f_J13_bitCount_95d88 a1)))) (S1 := S) (w1 := r11.2) (st := []) [.long a1] (m_J13_bitCount_95d88 hW r11.2 a1) zy_J13_bitCount_95d88 gw751 gw750 (Nat.le_of_ble_eq_true rfl) (Nat.le_of_ble_eq_true rfl) (Nat.le_of_ble_eq_true rfl) (Nat.le_of_ble_eq_true rfl) (zal hW) rfl dX7_retrieveAll_33 (z_at 36 _ [.int (f_J13_bitCount_95d88 a1)] rfl rfl rfl ?_)
  refine z_let (a := (f_J13_bitCount_95d88 a1)) (fun z13 => [(0, .ref a0), (1, .long a1)]) (fun z13 => .int z13 :: []) (fun z13 => ?_)
  refine z_istore_n (lv' := [(3, .int z13), (0, .ref a0), (1, .long a1)]) dX7_retrieveAll_36 (Nat.le_of_ble_eq_true rfl) rfl (z_iconst dX7_retrieveAll_37 zi_0 (z_istore (lv' := [(4, .int (0 : Int32)), (3, .int z13), (0, .ref a0), (1, .long a1)]) dX7_retrieveAll_38 (Nat.le_of_ble_eq_true rfl) rfl ?_))
  refine z_sub (lv' := [(0, .ref a0), (3, .int z13), (4, .int (0 : Int32))]) [2, 1, 0] rfl ?_
  refine z_pc (pc' := 40) rfl ?_
  exact m_X7_retrieveAll_l40 hW a0 h0 z13 ((0 : Int32), r11.2)

theorem m_X7_retrieveAll {E : ZE} {S : Zs} (hW : zWF S) (w : Zw) (a0 : Nat) (h0 : zObj S a0 7) (a1 : Int64) : ∀ i, f_X7_retrieveAll S w a0 a1 = some i → zMx E yX7_retrieveAll cX7_retrieveAll 5 ((some .int)) 32 2 12 [.ref a0, .long a1] S w ((emX eI S) i) :=
  fun i hi => z_enterX (by decide +kernel) (Nat.le_of_ble_eq_true rfl) (mw_X7_retrieveAll hW w a0 h0 a1 i hi)
/-! ParkingRobot.setClosed (IZ)Z : X, depth 10 -/
abbrev i_X7_setClosed : Zm := (yX7_setClosed.cls, cX7_setClosed, 4, (some .boolean), [], yX7_setClosed.name)
def f_X7_setClosed (S : Zs) (w : Zw) (a0 : Nat) (a1 : Int32) (a2 : Int32) : Option ((Int32 ⊕ String) × Zw) :=
  zbx (f_X7_checkBay w a0 a1) (fun v1 w2 => (f_X2_draft S w2 (zr S a0 3) (zr S a0 0)).bind fun r5 => (f_X1_changeClosed S r5.2 (zr S a0 0) a1 a2).bind fun r7 => (f_X2_keepDraft S r7.2 (zr S a0 3)).bind fun r9 => if zb1 r7.1 = true then some (.inl r7.1, r9.2) else none) (fun e w => some (.inr e, w))
theorem mw_X7_setClosed {E : ZE} {S : Zs} (hW : zWF S) (w : Zw) (a0 : Nat) (h0 : zObj S a0 7) (a1 : Int32) (a2 : Int32) : zOk (E, i_X7_setClosed, 10) 1 6 S w 0 [(0, .ref a0), (1, .int a1), (2, .int a2)] [] (emX eI S) (f_X7_setClosed S w a0 a1 a2) := by
  unfold f_X7_setClosed
  refine z_aload_n 0 dX7_setClosed_0 rfl (z_iload_n 1 dX7_setClosed_1 rfl ?_)
  refine z_bindX (fun j9 hb3 => ?_)
  obtain ⟨v1 | e4, w2⟩ := j9
  case inr => exact z_callVX (kc' := 0) (ks' := 0) (r := (.inr e4, S, w2)) (st := []) [.int a1] (m_X7_checkBay hW w a0 h0 a1 _ hb3) zc7 h0 zy_X7_checkBay gw675 gp9 gw673 (Nat.le_of_ble_eq_true rfl) (Nat.le_of_ble_eq_true rfl) (Nat.le_of_ble_eq_true rfl) (Nat.le_of_ble_eq_true rfl) (zal hW) rfl dX7_setClosed_2 rfl (fun _ q9 => nomatch q9) (fun _ _ i9 hi9 => by cases hi9; rfl)
  refine z_callVX (kc' := 0) (ks' := 0) (r := (.inl (eU v1), S, w2)) (st := []) [.int a1] (m_X7_checkBay hW w a0 h0 a1 _ hb3) zc7 h0 zy_X7_checkBay gw675 gp9 gw673 (Nat.le_of_ble_eq_true rfl) (Nat.le_of_ble_eq_true rfl) (Nat.le_of_ble_eq_true rfl) (Nat.le_of_ble_eq_true rfl) (zal hW) rfl dX7_setClosed_2 rfl (fun v9 hv9 => ?_) (fun _ q9 => nomatch q9)
  cases hv9
  refine z_at 5 _ [] rfl rfl rfl ?_
  dsimp only [zbx]
  refine z_aload_n 0 dX7_setClosed_5 rfl (z_getR zc7 3 (by decide) rfl gw219 h0 (zW_some hW h0 3 rfl) dX7_setClosed_6 (z_aload_n 0 dX7_setClosed_9 rfl (z_getR zc7 0 (by decide) rfl gw216 h0 (zW_some hW h0 0 rfl) dX7_setClosed_10 ?_)))
  refine z_bind (fun r5 hb6 => ?_)
  refine z_callV (kc' := 0) (ks' := 0) (v := none) (S1 := S) (w1 := r5.2) (st := []) [.ref (zr S a0 0)] (m_X2_draft hW w2 (zr S a0 3) (zW_obj hW h0 3 2 rfl) (zr S a0 0) (zW_obj hW h0 0 1 rfl) r5 hb6) zc2 (zW_obj hW h0 3 2 rfl) zy_X2_draft gw246 gw247 gw245 (Nat.le_of_ble_eq_true rfl) (Nat.le_of_ble_eq_true rfl) (Nat.le_of_ble_eq_true rfl) (Nat.le_of_ble_eq_true rfl) (zal hW) rfl dX7_setClosed_13 (z_at 16 _ [] rfl rfl rfl ?_)
  refine z_aload_n 0 dX7_setClosed_16 rfl (z_getR zc7 0 (by decide) rfl gw216 h0 (zW_some hW h0 0 rfl) dX7_setClosed_17 (z_iload_n 1 dX7_setClosed_20 rfl (z_iload_n 2 dX7_setClosed_21 rfl ?_)))
  refine z_bind (fun r7 hb8 => ?_)
  refine z_callV (kc' := 0) (ks' := 0) (v := (some (.int r7.1))) (S1 := S) (w1 := r7.2) (st := []) [.int a1, .int a2] (m_X1_changeClosed hW r5.2 (zr S a0 0) (zW_obj hW h0 0 1 rfl) a1 a2 r7 hb8) zc1 (zW_obj hW h0 0 1 rfl) zy_X1_changeClosed gw682 gw683 gw681 (Nat.le_of_ble_eq_true rfl) (Nat.le_of_ble_eq_true rfl) (Nat.le_of_ble_eq_true rfl) (Nat.le_of_ble_eq_true rfl) (zal hW) rfl dX7_setClosed_22 (z_at 25 _ [.int r7.1] rfl rfl rfl ?_)
  refine z_istore_n (lv' := [(3, .int r7.1), (0, .ref a0), (1, .int a1), (2, .int a2)]) dX7_setClosed_25 (Nat.le_of_ble_eq_true rfl) rfl (z_aload_n 1 dX7_setClosed_26 rfl (z_getR zc7 3 (by decide) rfl gw219 h0 (zW_some hW h0 3 rfl) dX7_setClosed_27 ?_))
  refine z_bind (fun r9 hb10 => ?_)
  refine z_callV (kc' := 0) (ks' := 0) (v := none) (S1 := S) (w1 := r9.2) (st := []) [] (m_X2_keepDraft hW r7.2 (zr S a0 3) (zW_obj hW h0 3 2 rfl) r9 hb10) zc2 (zW_obj hW h0 3 2 rfl) zy_X2_keepDraft gw384 gw385 gw383 (Nat.le_of_ble_eq_true rfl) (Nat.le_of_ble_eq_true rfl) (Nat.le_of_ble_eq_true rfl) (Nat.le_of_ble_eq_true rfl) (zal hW) rfl dX7_setClosed_30 (z_at 33 _ [] rfl rfl rfl ?_)
  refine z_iload_n 0 dX7_setClosed_33 rfl ?_
  refine z_chk (fun c11 => ?_)
  exact z_zret zemX rfl (zb1_nar c11) dX7_setClosed_34

theorem m_X7_setClosed {E : ZE} {S : Zs} (hW : zWF S) (w : Zw) (a0 : Nat) (h0 : zObj S a0 7) (a1 : Int32) (a2 : Int32) : ∀ i, f_X7_setClosed S w a0 a1 a2 = some i → zMx E yX7_setClosed cX7_setClosed 4 ((some .boolean)) 10 1 6 [.ref a0, .int a1, .int a2] S w ((emX eI S) i) :=
  fun i hi => z_enterX (by decide +kernel) (Nat.le_of_ble_eq_true rfl) (mw_X7_setClosed hW w a0 h0 a1 a2 i hi)
/-! ParkingRobot.store (II)I : X, depth 10 -/
abbrev i_X7_store : Zm := (yX7_store.cls, cX7_store, 4, (some .int), [], yX7_store.name)
def f_X7_store (S : Zs) (w : Zw) (a0 : Nat) (a1 : Int32) (a2 : Int32) : Option ((Int32 ⊕ String) × Zw) :=
  zbx (f_X7_checkSizeAndPickup w a0 a1 a2) (fun v1 w2 => (f_X1_isFull S w2 (zr S a0 0)).bind fun v5 => if v5 = 0 then (f_X2_draft S w2 (zr S a0 3) (zr S a0 0)).bind fun r8 => (f_X1_takeIn S r8.2 (zr S a0 0) a1 a2).bind fun r10 => if r10.1 = (-1 : Int32) then some (.inr "java/lang/UnsupportedOperationException", r10.2) else (f_X2_keepDraft S r10.2 (zr S a0 3)).bind fun r13 => some (.inl r10.1, r13.2) else some (.inr "java/lang/IllegalStateException", w2)) (fun e w => some (.inr e, w))
theorem mw_X7_store {E : ZE} {S : Zs} (hW : zWF S) (w : Zw) (a0 : Nat) (h0 : zObj S a0 7) (a1 : Int32) (a2 : Int32) : zOk (E, i_X7_store, 10) 2 12 S w 0 [(0, .ref a0), (1, .int a1), (2, .int a2)] [] (emX eI S) (f_X7_store S w a0 a1 a2) := by
  unfold f_X7_store
  refine z_aload_n 0 dX7_store_0 rfl (z_iload_n 1 dX7_store_1 rfl (z_iload_n 2 dX7_store_2 rfl ?_))
  refine z_bindX (fun j9 hb3 => ?_)
  obtain ⟨v1 | e4, w2⟩ := j9
  case inr => exact z_callVX (kc' := 1) (ks' := 6) (r := (.inr e4, S, w2)) (st := []) [.int a1, .int a2] (m_X7_checkSizeAndPickup hW w a0 h0 a1 a2 _ hb3) zc7 h0 zy_X7_checkSizeAndPickup gw422 gp3 gw420 (Nat.le_of_ble_eq_true rfl) (Nat.le_of_ble_eq_true rfl) (Nat.le_of_ble_eq_true rfl) (Nat.le_of_ble_eq_true rfl) (zal hW) rfl dX7_store_3 rfl (fun _ q9 => nomatch q9) (fun _ _ i9 hi9 => by cases hi9; rfl)
  refine z_callVX (kc' := 1) (ks' := 6) (r := (.inl (eU v1), S, w2)) (st := []) [.int a1, .int a2] (m_X7_checkSizeAndPickup hW w a0 h0 a1 a2 _ hb3) zc7 h0 zy_X7_checkSizeAndPickup gw422 gp3 gw420 (Nat.le_of_ble_eq_true rfl) (Nat.le_of_ble_eq_true rfl) (Nat.le_of_ble_eq_true rfl) (Nat.le_of_ble_eq_true rfl) (zal hW) rfl dX7_store_3 rfl (fun v9 hv9 => ?_) (fun _ q9 => nomatch q9)
  cases hv9
  refine z_at 6 _ [] rfl rfl rfl ?_
  dsimp only [zbx]
  refine z_aload_n 0 dX7_store_6 rfl (z_getR zc7 0 (by decide) rfl gw216 h0 (zW_some hW h0 0 rfl) dX7_store_7 ?_)
  refine z_bind (fun v5 hb6 => ?_)
  refine z_callV (kc' := 1) (ks' := 6) (v := (some (.int v5))) (S1 := S) (w1 := w2) (st := []) [] (m_X1_isFull hW w2 (zr S a0 0) (zW_obj hW h0 0 1 rfl) v5 hb6) zc1 (zW_obj hW h0 0 1 rfl) zy_X1_isFull gw500 gw501 gw499 (Nat.le_of_ble_eq_true rfl) (Nat.le_of_ble_eq_true rfl) (Nat.le_of_ble_eq_true rfl) (Nat.le_of_ble_eq_true rfl) (zal hW) rfl dX7_store_10 (z_at 13 _ [.int v5] rfl rfl rfl ?_)
  refine z_if_eq 26 dX7_store_13 rfl (fun q7 => ?_) (fun q7 => ?_)
  · refine z_aload_n 0 dX7_store_26 rfl (z_getR zc7 3 (by decide) rfl gw219 h0 (zW_some hW h0 3 rfl) dX7_store_27 (z_aload_n 0 dX7_store_30 rfl (z_getR zc7 0 (by decide) rfl gw216 h0 (zW_some hW h0 0 rfl) dX7_store_31 ?_)))
    refine z_bind (fun r8 hb9 => ?_)
    refine z_callV (kc' := 1) (ks' := 6) (v := none) (S1 := S) (w1 := r8.2) (st := []) [.ref (zr S a0 0)] (m_X2_draft hW w2 (zr S a0 3) (zW_obj hW h0 3 2 rfl) (zr S a0 0) (zW_obj hW h0 0 1 rfl) r8 hb9) zc2 (zW_obj hW h0 3 2 rfl) zy_X2_draft gw246 gw247 gw245 (Nat.le_of_ble_eq_true rfl) (Nat.le_of_ble_eq_true rfl) (Nat.le_of_ble_eq_true rfl) (Nat.le_of_ble_eq_true rfl) (zal hW) rfl dX7_store_34 (z_at 37 _ [] rfl rfl rfl ?_)
    refine z_aload_n 0 dX7_store_37 rfl (z_getR zc7 0 (by decide) rfl gw216 h0 (zW_some hW h0 0 rfl) dX7_store_38 (z_iload_n 1 dX7_store_41 rfl (z_iload_n 2 dX7_store_42 rfl ?_)))
    refine z_bind (fun r10 hb11 => ?_)
    refine z_callV (kc' := 1) (ks' := 6) (v := (some (.int r10.1))) (S1 := S) (w1 := r10.2) (st := []) [.int a1, .int a2] (m_X1_takeIn hW r8.2 (zr S a0 0) (zW_obj hW h0 0 1 rfl) a1 a2 r10 hb11) zc1 (zW_obj hW h0 0 1 rfl) zy_X1_takeIn gw520 gw521 gw519 (Nat.le_of_ble_eq_true rfl) (Nat.le_of_ble_eq_true rfl) (Nat.le_of_ble_eq_true rfl) (Nat.le_of_ble_eq_true rfl) (zal hW) rfl dX7_store_43 (z_at 46 _ [.int r10.1] rfl rfl rfl ?_)
    refine z_istore_n (lv' := [(3, .int r10.1), (0, .ref a0), (1, .int a1), (2, .int a2)]) dX7_store_46 (Nat.le_of_ble_eq_true rfl) rfl (z_iload_n 0 dX7_store_47 rfl (z_iconst dX7_store_48 zi_m1 ?_))
    refine z_icmp_ne 62 dX7_store_49 rfl (fun q12 => ?_) (fun q12 => ?_)
    · refine z_aload_n 1 dX7_store_62 rfl (z_getR zc7 3 (by decide) rfl gw219 h0 (zW_some hW h0 3 rfl) dX7_store_63 ?_)
      refine z_bind (fun r13 hb14 => ?_)
      refine z_callV (kc' := 1) (ks' := 6) (v := none) (S1 := S) (w1 := r13.2) (st := []) [] (m_X2_keepDraft hW r10.2 (zr S a0 3) (zW_obj hW h0 3 2 rfl) r13 hb14) zc2 (zW_obj hW h0 3 2 rfl) zy_X2_keepDraft gw384 gw385 gw383 (Nat.le_of_ble_eq_true rfl) (Nat.le_of_ble_eq_true rfl) (Nat.le_of_ble_eq_true rfl) (Nat.le_of_ble_eq_true rfl) (zal hW) rfl dX7_store_66 (z_at 69 _ [] rfl rfl rfl ?_)
      refine z_iload_n 0 dX7_store_69 rfl ?_
      exact z_iret zemX rfl dX7_store_70
    · exact z_throw zx_UOE gw528 zt_RX7_69 (Nat.le_of_ble_eq_true rfl) (Nat.le_of_ble_eq_true rfl) (Nat.le_of_ble_eq_true rfl) rfl (Nat.le_of_ble_eq_true rfl) zemXr dX7_store_52 dX7_store_55 dX7_store_56 dX7_store_58 dX7_store_61
  · exact z_throw zx_ISE gw503 zt_RX7_54 (Nat.le_of_ble_eq_true rfl) (Nat.le_of_ble_eq_true rfl) (Nat.le_of_ble_eq_true rfl) rfl (Nat.le_of_ble_eq_true rfl) zemXr dX7_store_16 dX7_store_19 dX7_store_20 dX7_store_22 dX7_store_25

theorem m_X7_store {E : ZE} {S : Zs} (hW : zWF S) (w : Zw) (a0 : Nat) (h0 : zObj S a0 7) (a1 : Int32) (a2 : Int32) : ∀ i, f_X7_store S w a0 a1 a2 = some i → zMx E yX7_store cX7_store 4 ((some .int)) 10 2 12 [.ref a0, .int a1, .int a2] S w ((emX eI S) i) :=
  fun i hi => z_enterX (by decide +kernel) (Nat.le_of_ble_eq_true rfl) (mw_X7_store hW w a0 h0 a1 a2 i hi)
/-! ParkingRobot$History.count ()I : T, depth 0 -/
abbrev i_X2_count : Zm := (yX2_count.cls, cX2_count, 1, (some .int), [], yX2_count.name)
def f_X2_count (S : Zs) (w : Zw) (a0 : Nat) : Int32 :=
  (w a0 2)
theorem mw_X2_count {E : ZE} {S : Zs} (hW : zWF S) (w : Zw) (a0 : Nat) (h0 : zObj S a0 2) : zOk (E, i_X2_count, 0) 0 0 S w 0 [(0, .ref a0)] [] (emP eI S w) (some (f_X2_count S w a0)) := by
  unfold f_X2_count
  refine z_aload_n 0 dX2_count_0 rfl (z_getI zc2 2 (by decide) rfl gw146 h0 dX2_count_1 ?_)
  exact z_iret zemP rfl dX2_count_4

theorem m_X2_count {E : ZE} {S : Zs} (hW : zWF S) (w : Zw) (a0 : Nat) (h0 : zObj S a0 2) : zMr E yX2_count cX2_count 1 ((some .int)) 0 0 0 [.ref a0] S w (.inl (eI (f_X2_count S w a0)), S, w) :=
  z_enter (by decide +kernel) (Nat.le_of_ble_eq_true rfl) (mw_X2_count hW w a0 h0 _ rfl)
/-! ParkingRobot$History.takeBack (LParkingRobot$Garage;)V : W, depth 9 -/
abbrev i_X2_takeBack : Zm := (yX2_takeBack.cls, cX2_takeBack, 2, none, [], yX2_takeBack.name)
def f_X2_takeBack (S : Zs) (w : Zw) (a0 : Nat) (a1 : Nat) : Option (Unit × Zw) :=
  zlet (zput w a0 1 (zrem (((w a0 1) + (7 : Int32)) - (1 : Int32)) (7 : Int32))) fun w1 => zlet (zput w1 a0 2 ((w1 a0 2) - (1 : Int32))) fun w2 => if zin (w2 a0 1) (zlen S (zr S a0 0)) = true then (f_X1_copyFrom S w2 a1 (zr S (zr S a0 0) (zix (w2 a0 1)))).bind fun r4 => some ((), r4.2) else none
theorem mw_X2_takeBack {E : ZE} {S : Zs} (hW : zWF S) (w : Zw) (a0 : Nat) (h0 : zObj S a0 2) (a1 : Nat) (h1 : zObj S a1 1) : zOk (E, i_X2_takeBack, 9) 0 0 S w 0 [(0, .ref a0), (1, .ref a1)] [] (emW eU S) (f_X2_takeBack S w a0 a1) := by
  unfold f_X2_takeBack
  refine z_aload_n 0 dX2_takeBack_0 rfl (z_aload_n 0 dX2_takeBack_1 rfl (z_getI zc2 1 (by decide) rfl gw145 h0 dX2_takeBack_2 (z_bipush dX2_takeBack_5 zb_7 (z_iadd dX2_takeBack_7 (z_iconst dX2_takeBack_8 zi_1 ?_)))))
  refine z_isub dX2_takeBack_9 (z_bipush dX2_takeBack_10 zb_7 (z_rem dX2_takeBack_12 (by decide) ?_))
  refine z_putI zc2 1 (by decide) (Or.inl rfl) rfl gw145 h0 dX2_takeBack_13 (z_letw (fun w1 => ?_))
  refine z_aload_n 0 dX2_takeBack_16 rfl (z_dup dX2_takeBack_17 rfl (z_getI zc2 2 (by decide) rfl gw146 h0 dX2_takeBack_18 (z_iconst dX2_takeBack_21 zi_1 (z_isub dX2_takeBack_22 ?_))))
  refine z_putI zc2 2 (by decide) (Or.inl rfl) rfl gw146 h0 dX2_takeBack_23 (z_letw (fun w2 => ?_))
  refine z_aload_n 1 dX2_takeBack_26 rfl (z_aload_n 0 dX2_takeBack_27 rfl (z_getR zc2 0 (by decide) rfl gw144 h0 (zW_some hW h0 0 rfl) dX2_takeBack_28 (z_aload_n 0 dX2_takeBack_31 rfl (z_getI zc2 1 (by decide) rfl gw145 h0 dX2_takeBack_32 ?_))))
  refine z_chk (fun c3 => ?_)
  refine z_aald (Or.inr rfl) (zW_arr hW h0 0 6 rfl) c3 (zW_el6 hW (zW_arr hW h0 0 6 rfl) c3).1 dX2_takeBack_35 ?_
  refine z_bind (fun r4 hb5 => ?_)
  refine z_callV (kc' := 0) (ks' := 0) (v := none) (S1 := S) (w1 := r4.2) (st := []) [.ref (zr S (zr S a0 0) (zix (w2 a0 1)))] (m_X1_copyFrom hW w2 a1 h1 (zr S (zr S a0 0) (zix (w2 a0 1))) (zW_el6 hW (zW_arr hW h0 0 6 rfl) c3).2 r4 hb5) zc1 h1 zy_X1_copyFrom gw250 gw251 gw249 (Nat.le_of_ble_eq_true rfl) (Nat.le_of_ble_eq_true rfl) (Nat.le_of_ble_eq_true rfl) (Nat.le_of_ble_eq_true rfl) (zal hW) rfl dX2_takeBack_36 (z_at 39 _ [] rfl rfl rfl ?_)
  exact z_vret zemW rfl dX2_takeBack_39

theorem m_X2_takeBack {E : ZE} {S : Zs} (hW : zWF S) (w : Zw) (a0 : Nat) (h0 : zObj S a0 2) (a1 : Nat) (h1 : zObj S a1 1) : ∀ i, f_X2_takeBack S w a0 a1 = some i → zMr E yX2_takeBack cX2_takeBack 2 none 9 0 0 [.ref a0, .ref a1] S w ((emW eU S) i) :=
  fun i hi => z_enter (by decide +kernel) (Nat.le_of_ble_eq_true rfl) (mw_X2_takeBack hW w a0 h0 a1 h1 i hi)
/-! ParkingRobot.undo ()I : X, depth 10 -/
abbrev i_X7_undo : Zm := (yX7_undo.cls, cX7_undo, 1, (some .int), [], yX7_undo.name)
def f_X7_undo (S : Zs) (w : Zw) (a0 : Nat) : Option ((Int32 ⊕ String) × Zw) :=
  if (f_X2_count S w (zr S a0 3)) = 0 then some (.inr "java/lang/IllegalStateException", w) else (f_X2_takeBack S w (zr S a0 3) (zr S a0 0)).bind fun r2 => some (.inl (f_X2_count S r2.2 (zr S a0 3)), r2.2)
theorem mw_X7_undo {E : ZE} {S : Zs} (hW : zWF S) (w : Zw) (a0 : Nat) (h0 : zObj S a0 7) : zOk (E, i_X7_undo, 10) 1 6 S w 0 [(0, .ref a0)] [] (emX eI S) (f_X7_undo S w a0) := by
  unfold f_X7_undo
  refine z_aload_n 0 dX7_undo_0 rfl (z_getR zc7 3 (by decide) rfl gw219 h0 (zW_some hW h0 3 rfl) dX7_undo_1 ?_)
  refine z_callV (kc' := 1) (ks' := 6) (v := (some (.int (f_X2_count S w (zr S a0 3))))) (S1 := S) (w1 := w) (st := []) [] (m_X2_count hW w (zr S a0 3) (zW_obj hW h0 3 2 rfl)) zc2 (zW_obj hW h0 3 2 rfl) zy_X2_count gw1077 gw1078 gw1076 (Nat.le_of_ble_eq_true rfl) (Nat.le_of_ble_eq_true rfl) (Nat.le_of_ble_eq_true rfl) (Nat.le_of_ble_eq_true rfl) (zal hW) rfl dX7_undo_4 (z_at 7 _ [.int (f_X2_count S w (zr S a0 3))] rfl rfl rfl ?_)
  refine z_if_ne 21 dX7_undo_7 rfl (fun q1 => ?_) (fun q1 => ?_)
  · refine z_aload_n 0 dX7_undo_21 rfl (z_getR zc7 3 (by decide) rfl gw219 h0 (zW_some hW h0 3 rfl) dX7_undo_22 (z_aload_n 0 dX7_undo_25 rfl (z_getR zc7 0 (by decide) rfl gw216 h0 (zW_some hW h0 0 rfl) dX7_undo_26 ?_)))
    refine z_bind (fun r2 hb3 => ?_)
    refine z_callV (kc' := 1) (ks' := 6) (v := none) (S1 := S) (w1 := r2.2) (st := []) [.ref (zr S a0 0)] (m_X2_takeBack hW w (zr S a0 3) (zW_obj hW h0 3 2 rfl) (zr S a0 0) (zW_obj hW h0 0 1 rfl) r2 hb3) zc2 (zW_obj hW h0 3 2 rfl) zy_X2_takeBack gw1082 gw1083 gw1081 (Nat.le_of_ble_eq_true rfl) (Nat.le_of_ble_eq_true rfl) (Nat.le_of_ble_eq_true rfl) (Nat.le_of_ble_eq_true rfl) (zal hW) rfl dX7_undo_29 (z_at 32 _ [] rfl rfl rfl ?_)
    refine z_aload_n 0 dX7_undo_32 rfl (z_getR zc7 3 (by decide) rfl gw219 h0 (zW_some hW h0 3 rfl) dX7_undo_33 ?_)
    refine z_callV (kc' := 1) (ks' := 6) (v := (some (.int (f_X2_count S r2.2 (zr S a0 3))))) (S1 := S) (w1 := r2.2) (st := []) [] (m_X2_count hW r2.2 (zr S a0 3) (zW_obj hW h0 3 2 rfl)) zc2 (zW_obj hW h0 3 2 rfl) zy_X2_count gw1077 gw1078 gw1076 (Nat.le_of_ble_eq_true rfl) (Nat.le_of_ble_eq_true rfl) (Nat.le_of_ble_eq_true rfl) (Nat.le_of_ble_eq_true rfl) (zal hW) rfl dX7_undo_36 (z_at 39 _ [.int (f_X2_count S r2.2 (zr S a0 3))] rfl rfl rfl ?_)
    exact z_iret zemX rfl dX7_undo_39
  · exact z_throwW zx_ISE gw503 zt_RX7_335 (Nat.le_of_ble_eq_true rfl) (Nat.le_of_ble_eq_true rfl) (Nat.le_of_ble_eq_true rfl) rfl (Nat.le_of_ble_eq_true rfl) zemXr dX7_undo_10 dX7_undo_13 dX7_undo_14 dX7_undo_17 dX7_undo_20

theorem m_X7_undo {E : ZE} {S : Zs} (hW : zWF S) (w : Zw) (a0 : Nat) (h0 : zObj S a0 7) : ∀ i, f_X7_undo S w a0 = some i → zMx E yX7_undo cX7_undo 1 ((some .int)) 10 1 6 [.ref a0] S w ((emX eI S) i) :=
  fun i hi => z_enterX (by decide +kernel) (Nat.le_of_ble_eq_true rfl) (mw_X7_undo hW w a0 h0 i hi)
/-! ParkingRobot$Garage.freeFromLater (I)V : W, depth 9 -/
abbrev i_X1_freeFromLater : Zm := (yX1_freeFromLater.cls, cX1_freeFromLater, 4, none, [], yX1_freeFromLater.name)
def f_X1_freeFromLater (S : Zs) (w : Zw) (a0 : Nat) (a1 : Int32) : Option (Unit × Zw) :=
  (f_X1_blockerOf S w a0 a1).bind fun v1 => if v1 = (-1 : Int32) then some ((), w) else if zin a1 (zlen S (zr S a0 3)) = true then if zin v1 (zlen S (zr S a0 3)) = true then if (w (zr S a0 3) (zix a1)) < (w (zr S a0 3) (zix v1)) then (f_X1_bayToFlee S w a0 v1).bind fun v7 => if v7 = (-1 : Int32) then some ((), w) else if zin v1 (zlen S (zr S a0 3)) = true then (f_X1_isBad S w a0 v7 (w (zr S a0 3) (zix v1))).bind fun v11 => if v11 = 0 then (f_X1_moveCar S w a0 v1 v7).bind fun r14 => some ((), r14.2) else some ((), w) else none else some ((), w) else none else none
theorem mw_X1_freeFromLater {E : ZE} {S : Zs} (hW : zWF S) (w : Zw) (a0 : Nat) (h0 : zObj S a0 1) (a1 : Int32) : zOk (E, i_X1_freeFromLater, 9) 0 0 S w 0 [(0, .ref a0), (1, .int a1)] [] (emW eU S) (f_X1_freeFromLater S w a0 a1) := by
  unfold f_X1_freeFromLater
  refine z_aload_n 0 dX1_freeFromLater_0 rfl (z_iload_n 1 dX1_freeFromLater_1 rfl ?_)
  refine z_bind (fun v1 hb2 => ?_)
  refine z_callV (kc' := 0) (ks' := 0) (v := (some (.int v1))) (S1 := S) (w1 := w) (st := []) [.int a1] (m_X1_blockerOf hW w a0 h0 a1 v1 hb2) zc1 h0 zy_X1_blockerOf gw278 gw279 gw277 (Nat.le_of_ble_eq_true rfl) (Nat.le_of_ble_eq_true rfl) (Nat.le_of_ble_eq_true rfl) (Nat.le_of_ble_eq_true rfl) (zal hW) rfl dX1_freeFromLater_2 (z_at 5 _ [.int v1] rfl rfl rfl ?_)
  refine z_istore_n (lv' := [(2, .int v1), (0, .ref a0), (1, .int a1)]) dX1_freeFromLater_5 (Nat.le_of_ble_eq_true rfl) rfl (z_iload_n 0 dX1_freeFromLater_6 rfl (z_iconst dX1_freeFromLater_7 zi_m1 ?_))
  refine z_icmp_eq 26 dX1_freeFromLater_8 rfl (fun q3 => ?_) (fun q3 => ?_)
  · exact z_vret zemW rfl dX1_freeFromLater_26
  · refine z_aload_n 1 dX1_freeFromLater_11 rfl (z_getR zc1 3 (by decide) rfl gw104 h0 (zW_some hW h0 3 rfl) dX1_freeFromLater_12 (z_iload_n 2 dX1_freeFromLater_15 rfl ?_))
    refine z_chk (fun c4 => ?_)
    refine z_iald (zW_arr hW h0 3 0 rfl) c4 dX1_freeFromLater_16 (z_aload_n 1 dX1_freeFromLater_17 rfl (z_getR zc1 3 (by decide) rfl gw104 h0 (zW_some hW h0 3 rfl) dX1_freeFromLater_18 (z_iload_n 0 dX1_freeFromLater_21 rfl ?_)))
    refine z_chk (fun c5 => ?_)
    refine z_iald (zW_arr hW h0 3 0 rfl) c5 dX1_freeFromLater_22 ?_
    refine z_icmp_lt 27 dX1_freeFromLater_23 rfl (fun q6 => ?_) (fun q6 => ?_)
    · refine z_aload_n 1 dX1_freeFromLater_27 rfl (z_iload_n 0 dX1_freeFromLater_28 rfl ?_)
      refine z_bind (fun v7 hb8 => ?_)
      refine z_callV (kc' := 0) (ks' := 0) (v := (some (.int v7))) (S1 := S) (w1 := w) (st := []) [.int v1] (m_X1_bayToFlee hW w a0 h0 v1 v7 hb8) zc1 h0 zy_X1_bayToFlee gw301 gw302 gw300 (Nat.le_of_ble_eq_true rfl) (Nat.le_of_ble_eq_true rfl) (Nat.le_of_ble_eq_true rfl) (Nat.le_of_ble_eq_true rfl) (zal hW) rfl dX1_freeFromLater_29 (z_at 32 _ [.int v7] rfl rfl rfl ?_)
      refine z_istore_n (lv' := [(3, .int v7), (2, .int v1), (0, .ref a0), (1, .int a1)]) dX1_freeFromLater_32 (Nat.le_of_ble_eq_true rfl) rfl (z_iload_n 0 dX1_freeFromLater_33 rfl (z_iconst dX1_freeFromLater_34 zi_m1 ?_))
      refine z_icmp_eq 58 dX1_freeFromLater_35 rfl (fun q9 => ?_) (fun q9 => ?_)
      · exact z_vret zemW rfl dX1_freeFromLater_58
      · refine z_aload_n 2 dX1_freeFromLater_38 rfl (z_iload_n 0 dX1_freeFromLater_39 rfl (z_aload_n 2 dX1_freeFromLater_40 rfl (z_getR zc1 3 (by decide) rfl gw104 h0 (zW_some hW h0 3 rfl) dX1_freeFromLater_41 (z_iload_n 1 dX1_freeFromLater_44 rfl ?_))))
        refine z_chk (fun c10 => ?_)
        refine z_iald (zW_arr hW h0 3 0 rfl) c10 dX1_freeFromLater_45 ?_
        refine z_bind (fun v11 hb12 => ?_)
        refine z_callV (kc' := 0) (ks' := 0) (v := (some (.int v11))) (S1 := S) (w1 := w) (st := []) [.int v7, .int (w (zr S a0 3) (zix v1))] (m_X1_isBad hW w a0 h0 v7 (w (zr S a0 3) (zix v1)) v11 hb12) zc1 h0 zy_X1_isBad gw329 gp1 gw327 (Nat.le_of_ble_eq_true rfl) (Nat.le_of_ble_eq_true rfl) (Nat.le_of_ble_eq_true rfl) (Nat.le_of_ble_eq_true rfl) (zal hW) rfl dX1_freeFromLater_46 (z_at 49 _ [.int v11] rfl rfl rfl ?_)
        refine z_if_ne 58 dX1_freeFromLater_49 rfl (fun q13 => ?_) (fun q13 => ?_)
        · exact z_vret zemW rfl dX1_freeFromLater_58
        · refine z_aload_n 2 dX1_freeFromLater_52 rfl (z_iload_n 1 dX1_freeFromLater_53 rfl (z_iload_n 0 dX1_freeFromLater_54 rfl ?_))
          refine z_bind (fun r14 hb15 => ?_)
          refine z_callV (kc' := 0) (ks' := 0) (v := none) (S1 := S) (w1 := r14.2) (st := []) [.int v1, .int v7] (m_X1_moveCar hW w a0 h0 v1 v7 r14 hb15) zc1 h0 zy_X1_moveCar gw333 gp2 gw331 (Nat.le_of_ble_eq_true rfl) (Nat.le_of_ble_eq_true rfl) (Nat.le_of_ble_eq_true rfl) (Nat.le_of_ble_eq_true rfl) (zal hW) rfl dX1_freeFromLater_55 (z_at 58 _ [] rfl rfl rfl ?_)
          exact z_vret zemW rfl dX1_freeFromLater_58
    · exact z_vret zemW rfl dX1_freeFromLater_26

theorem m_X1_freeFromLater {E : ZE} {S : Zs} (hW : zWF S) (w : Zw) (a0 : Nat) (h0 : zObj S a0 1) (a1 : Int32) : ∀ i, f_X1_freeFromLater S w a0 a1 = some i → zMr E yX1_freeFromLater cX1_freeFromLater 4 none 9 0 0 [.ref a0, .int a1] S w ((emW eU S) i) :=
  fun i hi => z_enter (by decide +kernel) (Nat.le_of_ble_eq_true rfl) (mw_X1_freeFromLater hW w a0 h0 a1 i hi)
/-! ParkingRobot$Garage.tidyUp ()I : W, depth 10 -/
abbrev i_X1_tidyUp : Zm := (yX1_tidyUp.cls, cX1_tidyUp, 4, (some .int), [], yX1_tidyUp.name)
def f_X1_tidyUp_b21 (S : Zs) (x0 : Nat) (x1 : Int32) (x2 : Int32) (k : (Int32 × Zw) → Option (Int32 × Zw)) (x3 : Int32) (w : Zw) : Option (Int32 × Zw) :=
  if x2 ≤ x3 then some (((w x0 10) - x1), w) else if zin x3 (zlen S (zr S x0 6)) = true then (f_X1_freeFromLater S w x0 (w (zr S x0 6) (zix x3))).bind fun r8 => k ((x3 + (1 : Int32)), r8.2) else none
def f_X1_tidyUp_l21 (S : Zs) (x0 : Nat) (x1 : Int32) (x2 : Int32) (a : Int32 × Zw) : Option (Int32 × Zw) :=
  zlp (fun k a => f_X1_tidyUp_b21 S x0 x1 x2 k a.1 a.2) zFU a
theorem m_X1_tidyUp_l21 {E : ZE} {S : Zs} (hW : zWF S) (x0 : Nat) (hx0 : zObj S x0 1) (x1 : Int32) (x2 : Int32) : ∀ a : Int32 × Zw, zOk (E, i_X1_tidyUp, 10) 0 0 S a.2 21 [(0, .ref x0), (1, .int x1), (2, .int x2), (3, .int a.1)] [] (emW eI S) (f_X1_tidyUp_l21 S x0 x1 x2 a) := by
  intro a
  refine z_lp (P := fun _ => True) (W9 := fun a : Int32 × Zw => a.2) (L9 := fun a : Int32 × Zw => [(0, .ref x0), (1, .int x1), (2, .int x2), (3, .int a.1)]) (T9 := fun _ => []) (fun k hk9 a _ => ?_) zFU a trivial
  have hk : ∀ a : Int32 × Zw, zOk (E, i_X1_tidyUp, 10) 0 0 S a.2 21 [(0, .ref x0), (1, .int x1), (2, .int x2), (3, .int a.1)] [] (emW eI S) (k a) := fun a => hk9 a trivial
  clear hk9
  obtain ⟨x3, w⟩ := a
  show zOk (E, i_X1_tidyUp, 10) 0 0 S w 21 [(0, .ref x0), (1, .int x1), (2, .int x2), (3, .int x3)] [] (emW eI S) (f_X1_tidyUp_b21 S x0 x1 x2 k x3 w)
  unfold f_X1_tidyUp_b21
  refine z_iload_n 3 dX1_tidyUp_21 rfl (z_iload_n 2 dX1_tidyUp_22 rfl ?_)
  refine z_icmp_ge 42 dX1_tidyUp_23 rfl (fun q6 => ?_) (fun q6 => ?_)
  · refine z_aload_n 0 dX1_tidyUp_42 rfl (z_getI zc1 10 (by decide) rfl gw111 hx0 dX1_tidyUp_43 (z_iload_n 1 dX1_tidyUp_46 rfl (z_isub dX1_tidyUp_47 ?_)))
    exact z_iret zemW rfl dX1_tidyUp_48
  · refine z_aload_n 0 dX1_tidyUp_26 rfl (z_aload_n 0 dX1_tidyUp_27 rfl (z_getR zc1 6 (by decide) rfl gw107 hx0 (zW_some hW hx0 6 rfl) dX1_tidyUp_28 (z_iload_n 3 dX1_tidyUp_31 rfl ?_)))
    refine z_chk (fun c7 => ?_)
    refine z_iald (zW_arr hW hx0 6 0 rfl) c7 dX1_tidyUp_32 ?_
    refine z_bind (fun r8 hb9 => ?_)
    refine z_callV (kc' := 0) (ks' := 0) (v := none) (S1 := S) (w1 := r8.2) (st := []) [.int (w (zr S x0 6) (zix x3))] (m_X1_freeFromLater hW w x0 hx0 (w (zr S x0 6) (zix x3)) r8 hb9) zc1 hx0 zy_X1_freeFromLater gw298 gp0 gw296 (Nat.le_of_ble_eq_true rfl) (Nat.le_of_ble_eq_true rfl) (Nat.le_of_ble_eq_true rfl) (Nat.le_of_ble_eq_true rfl) (zal hW) rfl dX1_tidyUp_33 (z_at 36 _ [] rfl rfl rfl ?_)
    refine z_iinc (v := (x3 + (1 : Int32))) (lv' := [(3, .int (x3 + (1 : Int32))), (0, .ref x0), (1, .int x1), (2, .int x2)]) 3 dX1_tidyUp_36 rfl (zi_inc _ zi_1) (Nat.le_of_ble_eq_true rfl) rfl (z_goto 21 dX1_tidyUp_39 rfl ?_)
    refine z_sub (lv' := [(0, .ref x0), (1, .int x1), (2, .int x2), (3, .int (x3 + (1 : Int32)))]) [1, 2, 3, 0] rfl ?_
    refine z_pc (pc' := 21) rfl ?_
    exact hk ((x3 + (1 : Int32)), r8.2)

def f_X1_tidyUp (S : Zs) (w : Zw) (a0 : Nat) : Option (Int32 × Zw) :=
  zlet (w a0 10) fun z1 => (f_X1_blockedCars S w a0 (1 : Int32)).bind fun v2 => (f_X1_listByPickup S w a0 v2 (zr S a0 6)).bind fun r4 => f_X1_tidyUp_l21 S a0 z1 r4.1 ((0 : Int32), r4.2)
theorem mw_X1_tidyUp {E : ZE} {S : Zs} (hW : zWF S) (w : Zw) (a0 : Nat) (h0 : zObj S a0 1) : zOk (E, i_X1_tidyUp, 10) 0 0 S w 0 [(0, .ref a0)] [] (emW eI S) (f_X1_tidyUp S w a0) := by
  unfold f_X1_tidyUp
  refine z_aload_n 0 dX1_tidyUp_0 rfl (z_getI zc1 10 (by decide) rfl gw111 h0 dX1_tidyUp_1 ?_)
  refine z_let (a := (w a0 10)) (fun z1 => [(0, .ref a0)]) (fun z1 => .int z1 :: []) (fun z1 => ?_)
  refine z_istore_n (lv' := [(1, .int z1), (0, .ref a0)]) dX1_tidyUp_4 (Nat.le_of_ble_eq_true rfl) rfl (z_aload_n 1 dX1_tidyUp_5 rfl (z_aload_n 1 dX1_tidyUp_6 rfl (z_iconst dX1_tidyUp_7 zi_1 ?_)))
  refine z_bind (fun v2 hb3 => ?_)
  refine z_callV (kc' := 0) (ks' := 0) (v := (some (.long v2))) (S1 := S) (w1 := w) (st := [.ref a0]) [.int (1 : Int32)] (m_X1_blockedCars hW w a0 h0 (1 : Int32) v2 hb3) zc1 h0 zy_X1_blockedCars gw274 gw275 gw273 (Nat.le_of_ble_eq_true rfl) (Nat.le_of_ble_eq_true rfl) (Nat.le_of_ble_eq_true rfl) (Nat.le_of_ble_eq_true rfl) (zal hW) rfl dX1_tidyUp_8 (z_at 11 _ [.long v2, .ref a0] rfl rfl rfl ?_)
  refine z_aload_n 1 dX1_tidyUp_11 rfl (z_getR zc1 6 (by decide) rfl gw107 h0 (zW_some hW h0 6 rfl) dX1_tidyUp_12 ?_)
  refine z_bind (fun r4 hb5 => ?_)
  refine z_callV (kc' := 0) (ks' := 0) (v := (some (.int r4.1))) (S1 := S) (w1 := r4.2) (st := []) [.long v2, .ref (zr S a0 6)] (m_X1_listByPickup hW w a0 h0 v2 (zr S a0 6) (zW_arr hW h0 6 0 rfl) r4 hb5) zc1 h0 zy_X1_listByPickup gw293 gw294 gw292 (Nat.le_of_ble_eq_true rfl) (Nat.le_of_ble_eq_true rfl) (Nat.le_of_ble_eq_true rfl) (Nat.le_of_ble_eq_true rfl) (zal hW) rfl dX1_tidyUp_15 (z_at 18 _ [.int r4.1] rfl rfl rfl ?_)
  refine z_istore_n (lv' := [(2, .int r4.1), (1, .int z1), (0, .ref a0)]) dX1_tidyUp_18 (Nat.le_of_ble_eq_true rfl) rfl (z_iconst dX1_tidyUp_19 zi_0 (z_istore_n (lv' := [(3, .int (0 : Int32)), (2, .int r4.1), (1, .int z1), (0, .ref a0)]) dX1_tidyUp_20 (Nat.le_of_ble_eq_true rfl) rfl ?_))
  refine z_sub (lv' := [(0, .ref a0), (1, .int z1), (2, .int r4.1), (3, .int (0 : Int32))]) [3, 2, 1, 0] rfl ?_
  refine z_pc (pc' := 21) rfl ?_
  exact m_X1_tidyUp_l21 hW a0 h0 z1 r4.1 ((0 : Int32), r4.2)

theorem m_X1_tidyUp {E : ZE} {S : Zs} (hW : zWF S) (w : Zw) (a0 : Nat) (h0 : zObj S a0 1) : ∀ i, f_X1_tidyUp S w a0 = some i → zMr E yX1_tidyUp cX1_tidyUp 4 ((some .int)) 10 0 0 [.ref a0] S w ((emW eI S) i) :=
  fun i hi => z_enter (by decide +kernel) (Nat.le_of_ble_eq_true rfl) (mw_X1_tidyUp hW w a0 h0 i hi)
/-! ParkingRobot.jobs ()I : T, depth 7 -/
abbrev i_X7_jobs : Zm := (yX7_jobs.cls, cX7_jobs, 1, (some .int), [], yX7_jobs.name)
def f_X7_jobs (S : Zs) (w : Zw) (a0 : Nat) : Int32 :=
  (f_X3_kept S w (f_X1_log S w (zr S a0 0)))
theorem mw_X7_jobs {E : ZE} {S : Zs} (hW : zWF S) (w : Zw) (a0 : Nat) (h0 : zObj S a0 7) : zOk (E, i_X7_jobs, 7) 0 0 S w 0 [(0, .ref a0)] [] (emP eI S w) (some (f_X7_jobs S w a0)) := by
  unfold f_X7_jobs
  refine z_aload_n 0 dX7_jobs_0 rfl (z_getR zc7 0 (by decide) rfl gw216 h0 (zW_some hW h0 0 rfl) dX7_jobs_1 ?_)
  refine z_callV (kc' := 0) (ks' := 0) (v := (some (.ref (f_X1_log S w (zr S a0 0))))) (S1 := S) (w1 := w) (st := []) [] (m_X1_log hW w (zr S a0 0) (zW_obj hW h0 0 1 rfl)) zc1 (zW_obj hW h0 0 1 rfl) zy_X1_log gw393 gw394 gw392 (Nat.le_of_ble_eq_true rfl) (Nat.le_of_ble_eq_true rfl) (Nat.le_of_ble_eq_true rfl) (Nat.le_of_ble_eq_true rfl) (zal hW) rfl dX7_jobs_4 (z_at 7 _ [.ref (f_X1_log S w (zr S a0 0))] rfl rfl rfl ?_)
  refine z_callV (kc' := 0) (ks' := 0) (v := (some (.int (f_X3_kept S w (f_X1_log S w (zr S a0 0)))))) (S1 := S) (w1 := w) (st := []) [] (m_X3_kept hW w (f_X1_log S w (zr S a0 0)) (mo_X1_log hW w (zr S a0 0) (zW_obj hW h0 0 1 rfl))) zc3 (mo_X1_log hW w (zr S a0 0) (zW_obj hW h0 0 1 rfl)) zy_X3_kept gw397 gw398 gw396 (Nat.le_of_ble_eq_true rfl) (Nat.le_of_ble_eq_true rfl) (Nat.le_of_ble_eq_true rfl) (Nat.le_of_ble_eq_true rfl) (zal hW) rfl dX7_jobs_7 (z_at 10 _ [.int (f_X3_kept S w (f_X1_log S w (zr S a0 0)))] rfl rfl rfl ?_)
  exact z_iret zemP rfl dX7_jobs_10

theorem m_X7_jobs {E : ZE} {S : Zs} (hW : zWF S) (w : Zw) (a0 : Nat) (h0 : zObj S a0 7) : zMr E yX7_jobs cX7_jobs 1 ((some .int)) 7 0 0 [.ref a0] S w (.inl (eI (f_X7_jobs S w a0)), S, w) :=
  z_enter (by decide +kernel) (Nat.le_of_ble_eq_true rfl) (mw_X7_jobs hW w a0 h0 _ rfl)
/-! ParkingRobot.save ()I : W, depth 9 -/
abbrev i_X7_save : Zm := (yX7_save.cls, cX7_save, 1, (some .int), [], yX7_save.name)
def f_X7_save (S : Zs) (w : Zw) (a0 : Nat) : Option (Int32 × Zw) :=
  (f_X1_copyFrom S w (zr S a0 1) (zr S a0 0)).bind fun r1 => zlet (zput r1.2 a0 2 (1 : Int32)) fun w3 => some ((f_X1_countStored S w3 (zr S a0 0)), w3)
theorem mw_X7_save {E : ZE} {S : Zs} (hW : zWF S) (w : Zw) (a0 : Nat) (h0 : zObj S a0 7) : zOk (E, i_X7_save, 9) 0 0 S w 0 [(0, .ref a0)] [] (emW eI S) (f_X7_save S w a0) := by
  unfold f_X7_save
  refine z_aload_n 0 dX7_save_0 rfl (z_getR zc7 1 (by decide) rfl gw217 h0 (zW_some hW h0 1 rfl) dX7_save_1 (z_aload_n 0 dX7_save_4 rfl (z_getR zc7 0 (by decide) rfl gw216 h0 (zW_some hW h0 0 rfl) dX7_save_5 ?_)))
  refine z_bind (fun r1 hb2 => ?_)
  refine z_callV (kc' := 0) (ks' := 0) (v := none) (S1 := S) (w1 := r1.2) (st := []) [.ref (zr S a0 0)] (m_X1_copyFrom hW w (zr S a0 1) (zW_obj hW h0 1 1 rfl) (zr S a0 0) (zW_obj hW h0 0 1 rfl) r1 hb2) zc1 (zW_obj hW h0 1 1 rfl) zy_X1_copyFrom gw250 gw251 gw405 (Nat.le_of_ble_eq_true rfl) (Nat.le_of_ble_eq_true rfl) (Nat.le_of_ble_eq_true rfl) (Nat.le_of_ble_eq_true rfl) (zal hW) rfl dX7_save_8 (z_at 11 _ [] rfl rfl rfl ?_)
  refine z_aload_n 0 dX7_save_11 rfl (z_iconst dX7_save_12 zi_1 ?_)
  refine z_putI zc7 2 (by decide) (Or.inr ⟨rfl, Or.inr rfl⟩) rfl gw218 h0 dX7_save_13 (z_letw (fun w3 => ?_))
  refine z_aload_n 0 dX7_save_16 rfl (z_getR zc7 0 (by decide) rfl gw216 h0 (zW_some hW h0 0 rfl) dX7_save_17 ?_)
  refine z_callV (kc' := 0) (ks' := 0) (v := (some (.int (f_X1_countStored S w3 (zr S a0 0))))) (S1 := S) (w1 := w3) (st := []) [] (m_X1_countStored hW w3 (zr S a0 0) (zW_obj hW h0 0 1 rfl)) zc1 (zW_obj hW h0 0 1 rfl) zy_X1_countStored gw407 gw408 gw406 (Nat.le_of_ble_eq_true rfl) (Nat.le_of_ble_eq_true rfl) (Nat.le_of_ble_eq_true rfl) (Nat.le_of_ble_eq_true rfl) (zal hW) rfl dX7_save_20 (z_at 23 _ [.int (f_X1_countStored S w3 (zr S a0 0))] rfl rfl rfl ?_)
  exact z_iret zemW rfl dX7_save_23

theorem m_X7_save {E : ZE} {S : Zs} (hW : zWF S) (w : Zw) (a0 : Nat) (h0 : zObj S a0 7) : ∀ i, f_X7_save S w a0 = some i → zMr E yX7_save cX7_save 1 ((some .int)) 9 0 0 [.ref a0] S w ((emW eI S) i) :=
  fun i hi => z_enter (by decide +kernel) (Nat.le_of_ble_eq_true rfl) (mw_X7_save hW w a0 h0 i hi)
/-! ParkingRobot.tidy ()I : W, depth 11 -/
abbrev i_X7_tidy : Zm := (yX7_tidy.cls, cX7_tidy, 2, (some .int), [], yX7_tidy.name)
def f_X7_tidy (S : Zs) (w : Zw) (a0 : Nat) : Option (Int32 × Zw) :=
  (f_X2_draft S w (zr S a0 3) (zr S a0 0)).bind fun r1 => (f_X1_tidyUp S r1.2 (zr S a0 0)).bind fun r3 => (f_X2_keepDraft S r3.2 (zr S a0 3)).bind fun r5 => some (r3.1, r5.2)
theorem mw_X7_tidy {E : ZE} {S : Zs} (hW : zWF S) (w : Zw) (a0 : Nat) (h0 : zObj S a0 7) : zOk (E, i_X7_tidy, 11) 0 0 S w 0 [(0, .ref a0)] [] (emW eI S) (f_X7_tidy S w a0) := by
  unfold f_X7_tidy
  refine z_aload_n 0 dX7_tidy_0 rfl (z_getR zc7 3 (by decide) rfl gw219 h0 (zW_some hW h0 3 rfl) dX7_tidy_1 (z_aload_n 0 dX7_tidy_4 rfl (z_getR zc7 0 (by decide) rfl gw216 h0 (zW_some hW h0 0 rfl) dX7_tidy_5 ?_)))
  refine z_bind (fun r1 hb2 => ?_)
  refine z_callV (kc' := 0) (ks' := 0) (v := none) (S1 := S) (w1 := r1.2) (st := []) [.ref (zr S a0 0)] (m_X2_draft hW w (zr S a0 3) (zW_obj hW h0 3 2 rfl) (zr S a0 0) (zW_obj hW h0 0 1 rfl) r1 hb2) zc2 (zW_obj hW h0 3 2 rfl) zy_X2_draft gw246 gw247 gw245 (Nat.le_of_ble_eq_true rfl) (Nat.le_of_ble_eq_true rfl) (Nat.le_of_ble_eq_true rfl) (Nat.le_of_ble_eq_true rfl) (zal hW) rfl dX7_tidy_8 (z_at 11 _ [] rfl rfl rfl ?_)
  refine z_aload_n 0 dX7_tidy_11 rfl (z_getR zc7 0 (by decide) rfl gw216 h0 (zW_some hW h0 0 rfl) dX7_tidy_12 ?_)
  refine z_bind (fun r3 hb4 => ?_)
  refine z_callV (kc' := 0) (ks' := 0) (v := (some (.int r3.1))) (S1 := S) (w1 := r3.2) (st := []) [] (m_X1_tidyUp hW r1.2 (zr S a0 0) (zW_obj hW h0 0 1 rfl) r3 hb4) zc1 (zW_obj hW h0 0 1 rfl) zy_X1_tidyUp gw270 gw271 gw269 (Nat.le_of_ble_eq_true rfl) (Nat.le_of_ble_eq_true rfl) (Nat.le_of_ble_eq_true rfl) (Nat.le_of_ble_eq_true rfl) (zal hW) rfl dX7_tidy_15 (z_at 18 _ [.int r3.1] rfl rfl rfl ?_)
  refine z_istore_n (lv' := [(1, .int r3.1), (0, .ref a0)]) dX7_tidy_18 (Nat.le_of_ble_eq_true rfl) rfl (z_aload_n 1 dX7_tidy_19 rfl (z_getR zc7 3 (by decide) rfl gw219 h0 (zW_some hW h0 3 rfl) dX7_tidy_20 ?_))
  refine z_bind (fun r5 hb6 => ?_)
  refine z_callV (kc' := 0) (ks' := 0) (v := none) (S1 := S) (w1 := r5.2) (st := []) [] (m_X2_keepDraft hW r3.2 (zr S a0 3) (zW_obj hW h0 3 2 rfl) r5 hb6) zc2 (zW_obj hW h0 3 2 rfl) zy_X2_keepDraft gw384 gw385 gw383 (Nat.le_of_ble_eq_true rfl) (Nat.le_of_ble_eq_true rfl) (Nat.le_of_ble_eq_true rfl) (Nat.le_of_ble_eq_true rfl) (zal hW) rfl dX7_tidy_23 (z_at 26 _ [] rfl rfl rfl ?_)
  refine z_iload_n 0 dX7_tidy_26 rfl ?_
  exact z_iret zemW rfl dX7_tidy_27

theorem m_X7_tidy {E : ZE} {S : Zs} (hW : zWF S) (w : Zw) (a0 : Nat) (h0 : zObj S a0 7) : ∀ i, f_X7_tidy S w a0 = some i → zMr E yX7_tidy cX7_tidy 2 ((some .int)) 11 0 0 [.ref a0] S w ((emW eI S) i) :=
  fun i hi => z_enter (by decide +kernel) (Nat.le_of_ble_eq_true rfl) (mw_X7_tidy hW w a0 h0 i hi)
/-! ParkingRobotModel.in (III)Z : P, depth 0 -/
abbrev i_X8_in : Zm := (yX8_in.cls, cX8_in, 3, (some .boolean), [], yX8_in.name)
def f_X8_in (a0 : Int32) (a1 : Int32) (a2 : Int32) : Option (Int32) :=
  if a0 < a1 then some (0 : Int32) else if a2 < a0 then some (0 : Int32) else some (1 : Int32)
theorem mw_X8_in {E : ZE} {S : Zs} (hW : zWF S) (w : Zw) (a0 : Int32) (a1 : Int32) (a2 : Int32) : zOk (E, i_X8_in, 0) 0 0 S w 0 [(0, .int a0), (1, .int a1), (2, .int a2)] [] (emP eI S w) (f_X8_in a0 a1 a2) := by
  unfold f_X8_in
  refine z_iload_n 0 dX8_in_0 rfl (z_iload_n 1 dX8_in_1 rfl ?_)
  refine z_icmp_lt 14 dX8_in_2 rfl (fun q1 => ?_) (fun q1 => ?_)
  · refine z_iconst dX8_in_14 zi_0 ?_
    exact z_zret zemP rfl rfl dX8_in_15
  · refine z_iload_n 0 dX8_in_5 rfl (z_iload_n 2 dX8_in_6 rfl ?_)
    refine z_icmp_gt 14 dX8_in_7 rfl (fun q2 => ?_) (fun q2 => ?_)
    · refine z_iconst dX8_in_14 zi_0 ?_
      exact z_zret zemP rfl rfl dX8_in_15
    · refine z_iconst dX8_in_10 zi_1 (z_goto 15 dX8_in_11 rfl ?_)
      exact z_zret zemP rfl rfl dX8_in_15

theorem m_X8_in {E : ZE} {S : Zs} (hW : zWF S) (w : Zw) (a0 : Int32) (a1 : Int32) (a2 : Int32) : ∀ i, f_X8_in a0 a1 a2 = some i → zMr E yX8_in cX8_in 3 ((some .boolean)) 0 0 0 [.int a0, .int a1, .int a2] S w ((emP eI S w) i) :=
  fun i hi => z_enter (by decide +kernel) (Nat.le_of_ble_eq_true rfl) (mw_X8_in hW w a0 a1 a2 i hi)
/-! ParkingRobotModel.fails (I)I : W, depth 0 -/
abbrev i_X8_fails : Zm := (yX8_fails.cls, cX8_fails, 2, (some .int), [], yX8_fails.name)
def f_X8_fails (S : Zs) (w : Zw) (a0 : Nat) (a1 : Int32) : Option (Int32 × Zw) :=
  zlet (zput w a0 0 a1) fun w1 => some ((0 : Int32), w1)
theorem mw_X8_fails {E : ZE} {S : Zs} (hW : zWF S) (w : Zw) (a0 : Nat) (h0 : zObj S a0 8) (a1 : Int32) : zOk (E, i_X8_fails, 0) 0 0 S w 0 [(0, .ref a0), (1, .int a1)] [] (emW eI S) (f_X8_fails S w a0 a1) := by
  unfold f_X8_fails
  refine z_aload_n 0 dX8_fails_0 rfl (z_iload_n 1 dX8_fails_1 rfl ?_)
  refine z_putI zc8 0 (by decide) (Or.inl rfl) rfl gw1107 h0 dX8_fails_2 (z_letw (fun w1 => ?_))
  refine z_iconst dX8_fails_5 zi_0 ?_
  exact z_iret zemW rfl dX8_fails_6

theorem m_X8_fails {E : ZE} {S : Zs} (hW : zWF S) (w : Zw) (a0 : Nat) (h0 : zObj S a0 8) (a1 : Int32) : ∀ i, f_X8_fails S w a0 a1 = some i → zMr E yX8_fails cX8_fails 2 ((some .int)) 0 0 0 [.ref a0, .int a1] S w ((emW eI S) i) :=
  fun i hi => z_enter (by decide +kernel) (Nat.le_of_ble_eq_true rfl) (mw_X8_fails hW w a0 h0 a1 i hi)
/-! ParkingRobotModel.account (I)I : W, depth 1 -/
abbrev i_X8_account : Zm := (yX8_account.cls, cX8_account, 2, (some .int), [], yX8_account.name)
def f_X8_account (S : Zs) (w : Zw) (a0 : Nat) (a1 : Int32) : Option (Int32 × Zw) :=
  zlet (zput w a0 0 (0 : Int32)) fun w1 => (f_X8_in a1 (0 : Int32) (5 : Int32)).bind fun v2 => if v2 = 0 then (f_X8_fails S w1 a0 (1 : Int32)).bind fun r5 => some (r5.1, r5.2) else if zin ((0 : Int32) + a1) (zlen S (zr S a0 1)) = true then some ((w1 (zr S a0 1) (zix ((0 : Int32) + a1))), w1) else none
theorem mw_X8_account {E : ZE} {S : Zs} (hW : zWF S) (w : Zw) (a0 : Nat) (h0 : zObj S a0 8) (a1 : Int32) : zOk (E, i_X8_account, 1) 0 0 S w 0 [(0, .ref a0), (1, .int a1)] [] (emW eI S) (f_X8_account S w a0 a1) := by
  unfold f_X8_account
  refine z_aload_n 0 dX8_account_0 rfl (z_iconst dX8_account_1 zi_0 ?_)
  refine z_putI zc8 0 (by decide) (Or.inl rfl) rfl gw1107 h0 dX8_account_2 (z_letw (fun w1 => ?_))
  refine z_iload_n 1 dX8_account_5 rfl (z_iconst dX8_account_6 zi_0 (z_iconst dX8_account_7 zi_5 ?_))
  refine z_bind (fun v2 hb3 => ?_)
  refine z_callS (kc' := 0) (ks' := 0) (v := (some (.int v2))) (S1 := S) (w1 := w1) (st := []) [.int a1, .int (0 : Int32), .int (5 : Int32)] (m_X8_in hW w1 a1 (0 : Int32) (5 : Int32) v2 hb3) zy_X8_in gw1208 gw1207 (Nat.le_of_ble_eq_true rfl) (Nat.le_of_ble_eq_true rfl) (Nat.le_of_ble_eq_true rfl) (Nat.le_of_ble_eq_true rfl) (zal hW) rfl dX8_account_8 (z_at 11 _ [.int v2] rfl rfl rfl ?_)
  refine z_if_eq 25 dX8_account_11 rfl (fun q4 => ?_) (fun q4 => ?_)
  · refine z_aload_n 0 dX8_account_25 rfl (z_iconst dX8_account_26 zi_1 ?_)
    refine z_bind (fun r5 hb6 => ?_)
    refine z_callV (kc' := 0) (ks' := 0) (v := (some (.int r5.1))) (S1 := S) (w1 := r5.2) (st := []) [.int (1 : Int32)] (m_X8_fails hW w1 a0 h0 (1 : Int32) r5 hb6) zc8 h0 zy_X8_fails gw1215 gp27 gw1213 (Nat.le_of_ble_eq_true rfl) (Nat.le_of_ble_eq_true rfl) (Nat.le_of_ble_eq_true rfl) (Nat.le_of_ble_eq_true rfl) (zal hW) rfl dX8_account_27 (z_at 30 _ [.int r5.1] rfl rfl rfl ?_)
    exact z_iret zemW rfl dX8_account_30
  · refine z_aload_n 0 dX8_account_14 rfl (z_getR zc8 1 (by decide) rfl gw1108 h0 (zW_some hW h0 1 rfl) dX8_account_15 (z_iconst dX8_account_18 zi_0 (z_iload_n 1 dX8_account_19 rfl (z_iadd dX8_account_20 ?_))))
    refine z_chk (fun c7 => ?_)
    refine z_iald (zW_arr hW h0 1 0 rfl) c7 dX8_account_21 (z_goto 30 dX8_account_22 rfl ?_)
    exact z_iret zemW rfl dX8_account_30

theorem m_X8_account {E : ZE} {S : Zs} (hW : zWF S) (w : Zw) (a0 : Nat) (h0 : zObj S a0 8) (a1 : Int32) : ∀ i, f_X8_account S w a0 a1 = some i → zMr E yX8_account cX8_account 2 ((some .int)) 1 0 0 [.ref a0, .int a1] S w ((emW eI S) i) :=
  fun i hi => z_enter (by decide +kernel) (Nat.le_of_ble_eq_true rfl) (mw_X8_account hW w a0 h0 a1 i hi)
end ZFN
